noncomputable def fX6_cakesIn_L1b (c0 : Nat) (a1 : Int32) (B4 : gV → Int32 → Int32 → Option (Int32 × gV)) (V1 : gV) (x2 : Int32) (x3 : Int32) : Option (Int32 × gV) := if (V1 c0 9) ≤ x3 then (some (x2, V1)) else (gbr (fX6_cakeAt V1 c0 x3) fun (t6 : Nat) (V7 : gV) => if (V7 t6 3) = a1 then (glt (x2 ||| (1 <<< (x3 &&& 31))) fun (x10 : Int32) => B4 V7 x10 ((x3 + 1))) else (B4 V7 x2 ((x3 + 1))))
noncomputable def fX6_cakesIn_L1 (c0 : Nat) (a1 : Int32) : Nat → gV → Int32 → Int32 → Option (Int32 × gV)
  | 0 => fun _ _ _ => none
  | n + 1 => fX6_cakesIn_L1b c0 a1 (fX6_cakesIn_L1 c0 a1 n)
noncomputable def fX6_cakesIn (V : gV) (c0 : Nat) (a1 : Int32) : Option (Int32 × gV) := fX6_cakesIn_L1 c0 a1 gFu V 0 0
set_option maxHeartbeats 4000000 in
set_option maxRecDepth 100000 in
theorem uX6_cakesIn (l : Launch) (G : gG) (hG : gIsX G) (V : gV) (c0 : Nat) (a1 : Int32) (hs0 : G.2.2.1 c0 = kX6 c0) : gMi l G yX6_cakesIn cX6_cakesIn 4 Jvm.ClassFile.FieldType.int (gR 1 21) [.ref (G.1 c0), .int a1] V (fX6_cakesIn V c0 a1) := by
  unfold fX6_cakesIn
  refine gM_i (by decide +kernel) rfl rfl (Nat.le_of_ble_eq_true rfl) (fun X rr VV C E => ?_)
  change gC cX6_cakesIn 4 RX6 G X at C
  change gSm l (gR 1 21) 4 G X _ (rr, VV) V 0 [(0, .ref (G.1 c0)), (1, .int a1)] []
  refine s_iconst (q := 1) (v := 0) C dX6_cakesIn_0 rfl (by decide) ?_
  refine s_istore_n (q := 2) (L' := [(2, .int 0), (0, .ref (G.1 c0)), (1, .int a1)]) C dX6_cakesIn_1 rfl rfl (by decide) rfl ?_
  refine s_iconst (q := 3) (v := 0) C dX6_cakesIn_2 rfl (by decide) ?_
  refine s_istore_n (q := 4) (L' := [(3, .int 0), (2, .int 0), (0, .ref (G.1 c0)), (1, .int a1)]) C dX6_cakesIn_3 rfl rfl (by decide) rfl ?_
  have hL1 : ∀ (n : Nat) (V1 : gV) (x2 : Int32) (x3 : Int32), gSm l (gR 1 21) 4 G X (fX6_cakesIn_L1 c0 a1 n V1 x2 x3) (rr, VV) V1 4 [(0, .ref (G.1 c0)), (1, .int a1), (2, .int x2), (3, .int x3)] [] := by
    intro n
    induction n with
    | zero => exact fun V1 x2 x3 => s_none
    | succ n ih =>
      intro V1 x2 x3
      show gSm l (gR 1 21) 4 G X (fX6_cakesIn_L1b c0 a1 (fX6_cakesIn_L1 c0 a1 n) V1 x2 x3) (rr, VV) V1 4 [(0, .ref (G.1 c0)), (1, .int a1), (2, .int x2), (3, .int x3)] []
      generalize fX6_cakesIn_L1 c0 a1 n = B4 at ih ⊢
      have hB4 := ih
      unfold fX6_cakesIn_L1b
      refine s_iload_n (q := 5) C 3 dX6_cakesIn_4 rfl rfl rfl ?_
      refine s_aload_n (q := 6) C 0 dX6_cakesIn_5 rfl rfl rfl ?_
      refine geX6_9 (q := 9) C hs0 flX6_65 dX6_cakesIn_6 rfl ?_
      refine s_icmp_ge (tgt := 36) (q := 12) C dX6_cakesIn_9 (by decide) rfl (fun c5 => ?_) (fun c5 => ?_)
      · refine s_iload_n (q := 37) C 2 dX6_cakesIn_36 rfl rfl rfl ?_
        exact s_iret C E dX6_cakesIn_37
      · refine s_aload_n (q := 13) C 0 dX6_cakesIn_12 rfl rfl rfl ?_
        refine s_iload_n (q := 14) C 3 dX6_cakesIn_13 rfl rfl rfl ?_
        refine s_Vr (q := 17) (As := [.int x3]) (st := []) C (uX6_cakeAt l G hG V1 c0 x3 hs0) yvX6_cakeAt mlX6_68 hs0 rfl rfl (fun t => G.2.2.1 t = kX0 t) (rX6_cakeAt G hG V1 c0 x3 hs0) rfl rfl rfl rfl (gR_le (by decide) (by decide)) (Nat.le_of_ble_eq_true rfl) dX6_cakesIn_14 rfl (fun t6 V7 h8 => ?_)
        refine geX0_3 (q := 20) C h8 flX6_102 dX6_cakesIn_17 rfl ?_
        refine s_iload_n (q := 21) C 1 dX6_cakesIn_20 rfl rfl rfl ?_
        refine s_icmp_ne (tgt := 30) (q := 24) C dX6_cakesIn_21 (by decide) rfl (fun c9 => ?_) (fun c9 => ?_)
        · refine s_iload_n (q := 25) C 2 dX6_cakesIn_24 rfl rfl rfl ?_
          refine s_iconst (q := 26) (v := 1) C dX6_cakesIn_25 rfl (by decide) ?_
          refine s_iload_n (q := 27) C 3 dX6_cakesIn_26 rfl rfl rfl ?_
          refine s_ishl (q := 28) C dX6_cakesIn_27 rfl ?_
          refine s_ior (q := 29) C dX6_cakesIn_28 rfl ?_
          refine s_lt (fun x10 => ?_)
          refine s_istore_n (q := 30) (L' := [(2, .int x10), (0, .ref (G.1 c0)), (1, .int a1), (3, .int x3)]) C dX6_cakesIn_29 rfl rfl (by decide) rfl ?_
          refine s_iinc (q := 33) (w := 1) (L' := [(3, .int (x3 + 1)), (2, .int x10), (0, .ref (G.1 c0)), (1, .int a1)]) C 3 dX6_cakesIn_30 rfl rfl (by decide) rfl (by decide) rfl ?_
          refine s_goto (q := 4) C dX6_cakesIn_33 (by decide) ?_
          refine s_sub [2, 3, 1, 0] rfl ?_
          exact hB4 V7 x10 ((x3 + 1))
        · refine s_iinc (q := 33) (w := 1) (L' := [(3, .int (x3 + 1)), (0, .ref (G.1 c0)), (1, .int a1), (2, .int x2)]) C 3 dX6_cakesIn_30 rfl rfl (by decide) rfl (by decide) rfl ?_
          refine s_goto (q := 4) C dX6_cakesIn_33 (by decide) ?_
          refine s_sub [1, 2, 3, 0] rfl ?_
          exact hB4 V7 x2 ((x3 + 1))
  refine s_sub [2, 3, 1, 0] rfl ?_
  exact hL1 gFu V 0 0
noncomputable def fX6_cakesShowing_L1b (c0 : Nat) (a1 : Int32) (B4 : gV → Int32 → Int32 → Option (Int32 × gV)) (V1 : gV) (x2 : Int32) (x3 : Int32) : Option (Int32 × gV) := if (V1 c0 9) ≤ x3 then (some (x2, V1)) else (gbr (fX6_cakeAt V1 c0 x3) fun (t6 : Nat) (V7 : gV) => gbi (fX0_shown V7 t6) fun (x9 : Int32) (V10 : gV) => if x9 = a1 then (glt (x2 ||| (1 <<< (x3 &&& 31))) fun (x12 : Int32) => B4 V10 x12 ((x3 + 1))) else (B4 V10 x2 ((x3 + 1))))
noncomputable def fX6_cakesShowing_L1 (c0 : Nat) (a1 : Int32) : Nat → gV → Int32 → Int32 → Option (Int32 × gV)
  | 0 => fun _ _ _ => none
  | n + 1 => fX6_cakesShowing_L1b c0 a1 (fX6_cakesShowing_L1 c0 a1 n)
noncomputable def fX6_cakesShowing (V : gV) (c0 : Nat) (a1 : Int32) : Option (Int32 × gV) := fX6_cakesShowing_L1 c0 a1 gFu V 0 0
set_option maxHeartbeats 4000000 in
set_option maxRecDepth 100000 in
theorem uX6_cakesShowing (l : Launch) (G : gG) (hG : gIsX G) (V : gV) (c0 : Nat) (a1 : Int32) (hs0 : G.2.2.1 c0 = kX6 c0) : gMi l G yX6_cakesShowing cX6_cakesShowing 4 Jvm.ClassFile.FieldType.int (gR 3 63) [.ref (G.1 c0), .int a1] V (fX6_cakesShowing V c0 a1) := by
  unfold fX6_cakesShowing
  refine gM_i (by decide +kernel) rfl rfl (Nat.le_of_ble_eq_true rfl) (fun X rr VV C E => ?_)
  change gC cX6_cakesShowing 4 RX6 G X at C
  change gSm l (gR 3 63) 4 G X _ (rr, VV) V 0 [(0, .ref (G.1 c0)), (1, .int a1)] []
  refine s_iconst (q := 1) (v := 0) C dX6_cakesShowing_0 rfl (by decide) ?_
  refine s_istore_n (q := 2) (L' := [(2, .int 0), (0, .ref (G.1 c0)), (1, .int a1)]) C dX6_cakesShowing_1 rfl rfl (by decide) rfl ?_
  refine s_iconst (q := 3) (v := 0) C dX6_cakesShowing_2 rfl (by decide) ?_
  refine s_istore_n (q := 4) (L' := [(3, .int 0), (2, .int 0), (0, .ref (G.1 c0)), (1, .int a1)]) C dX6_cakesShowing_3 rfl rfl (by decide) rfl ?_
  have hL1 : ∀ (n : Nat) (V1 : gV) (x2 : Int32) (x3 : Int32), gSm l (gR 3 63) 4 G X (fX6_cakesShowing_L1 c0 a1 n V1 x2 x3) (rr, VV) V1 4 [(0, .ref (G.1 c0)), (1, .int a1), (2, .int x2), (3, .int x3)] [] := by
    intro n
    induction n with
    | zero => exact fun V1 x2 x3 => s_none
    | succ n ih =>
      intro V1 x2 x3
      show gSm l (gR 3 63) 4 G X (fX6_cakesShowing_L1b c0 a1 (fX6_cakesShowing_L1 c0 a1 n) V1 x2 x3) (rr, VV) V1 4 [(0, .ref (G.1 c0)), (1, .int a1), (2, .int x2), (3, .int x3)] []
      generalize fX6_cakesShowing_L1 c0 a1 n = B4 at ih ⊢
      have hB4 := ih
      unfold fX6_cakesShowing_L1b
      refine s_iload_n (q := 5) C 3 dX6_cakesShowing_4 rfl rfl rfl ?_
      refine s_aload_n (q := 6) C 0 dX6_cakesShowing_5 rfl rfl rfl ?_
      refine geX6_9 (q := 9) C hs0 flX6_65 dX6_cakesShowing_6 rfl ?_
      refine s_icmp_ge (tgt := 36) (q := 12) C dX6_cakesShowing_9 (by decide) rfl (fun c5 => ?_) (fun c5 => ?_)
      · refine s_iload_n (q := 37) C 2 dX6_cakesShowing_36 rfl rfl rfl ?_
        exact s_iret C E dX6_cakesShowing_37
      · refine s_aload_n (q := 13) C 0 dX6_cakesShowing_12 rfl rfl rfl ?_
        refine s_iload_n (q := 14) C 3 dX6_cakesShowing_13 rfl rfl rfl ?_
        refine s_Vr (q := 17) (As := [.int x3]) (st := []) C (uX6_cakeAt l G hG V1 c0 x3 hs0) yvX6_cakeAt mlX6_68 hs0 rfl rfl (fun t => G.2.2.1 t = kX0 t) (rX6_cakeAt G hG V1 c0 x3 hs0) rfl rfl rfl rfl (gR_le (by decide) (by decide)) (Nat.le_of_ble_eq_true rfl) dX6_cakesShowing_14 rfl (fun t6 V7 h8 => ?_)
        refine s_Vi (q := 20) (As := []) (st := []) C (uX0_shown l G hG V7 t6 h8) yvX0_shown mlX6_150 h8 rfl rfl rfl rfl rfl rfl (gR_le (by decide) (by decide)) (Nat.le_of_ble_eq_true rfl) dX6_cakesShowing_17 rfl (fun x9 V10 => ?_)
        refine s_iload_n (q := 21) C 1 dX6_cakesShowing_20 rfl rfl rfl ?_
        refine s_icmp_ne (tgt := 30) (q := 24) C dX6_cakesShowing_21 (by decide) rfl (fun c11 => ?_) (fun c11 => ?_)
        · refine s_iload_n (q := 25) C 2 dX6_cakesShowing_24 rfl rfl rfl ?_
          refine s_iconst (q := 26) (v := 1) C dX6_cakesShowing_25 rfl (by decide) ?_
          refine s_iload_n (q := 27) C 3 dX6_cakesShowing_26 rfl rfl rfl ?_
          refine s_ishl (q := 28) C dX6_cakesShowing_27 rfl ?_
          refine s_ior (q := 29) C dX6_cakesShowing_28 rfl ?_
          refine s_lt (fun x12 => ?_)
          refine s_istore_n (q := 30) (L' := [(2, .int x12), (0, .ref (G.1 c0)), (1, .int a1), (3, .int x3)]) C dX6_cakesShowing_29 rfl rfl (by decide) rfl ?_
          refine s_iinc (q := 33) (w := 1) (L' := [(3, .int (x3 + 1)), (2, .int x12), (0, .ref (G.1 c0)), (1, .int a1)]) C 3 dX6_cakesShowing_30 rfl rfl (by decide) rfl (by decide) rfl ?_
          refine s_goto (q := 4) C dX6_cakesShowing_33 (by decide) ?_
          refine s_sub [2, 3, 1, 0] rfl ?_
          exact hB4 V10 x12 ((x3 + 1))
        · refine s_iinc (q := 33) (w := 1) (L' := [(3, .int (x3 + 1)), (0, .ref (G.1 c0)), (1, .int a1), (2, .int x2)]) C 3 dX6_cakesShowing_30 rfl rfl (by decide) rfl (by decide) rfl ?_
          refine s_goto (q := 4) C dX6_cakesShowing_33 (by decide) ?_
          refine s_sub [1, 2, 3, 0] rfl ?_
          exact hB4 V10 x2 ((x3 + 1))
  refine s_sub [2, 3, 1, 0] rfl ?_
  exact hL1 gFu V 0 0
noncomputable def fX7_guestBit (V : gV) (a0 : Int32) : Option (Int32 × gV) := if a0 < 0 then (some (0, V)) else (if 10 ≤ a0 then (some (0, V)) else (some ((1 <<< (a0 &&& 31)), V)))
set_option maxHeartbeats 4000000 in
set_option maxRecDepth 100000 in
theorem uX7_guestBit (l : Launch) (G : gG) (hG : gIsX G) (V : gV) (a0 : Int32) : gMi l G yX7_guestBit cX7_guestBit 1 Jvm.ClassFile.FieldType.int (gR 0 0) [.int a0] V (fX7_guestBit V a0) := by
  unfold fX7_guestBit
  refine gM_i (by decide +kernel) rfl rfl (Nat.le_of_ble_eq_true rfl) (fun X rr VV C E => ?_)
  change gC cX7_guestBit 1 RX7 G X at C
  change gSm l (gR 0 0) 1 G X _ (rr, VV) V 0 [(0, .int a0)] []
  refine s_iload_n (q := 1) C 0 dX7_guestBit_0 rfl rfl rfl ?_
  refine s_if_lt (tgt := 16) (q := 4) C dX7_guestBit_1 (by decide) rfl (fun c1 => ?_) (fun c1 => ?_)
  · refine s_iconst (q := 17) (v := 0) C dX7_guestBit_16 rfl (by decide) ?_
    exact s_iret C E dX7_guestBit_17
  · refine s_iload_n (q := 5) C 0 dX7_guestBit_4 rfl rfl rfl ?_
    refine s_bipush (q := 7) (v := 10) C dX7_guestBit_5 rfl (by decide) ?_
    refine s_icmp_ge (tgt := 16) (q := 10) C dX7_guestBit_7 (by decide) rfl (fun c2 => ?_) (fun c2 => ?_)
    · refine s_iconst (q := 17) (v := 0) C dX7_guestBit_16 rfl (by decide) ?_
      exact s_iret C E dX7_guestBit_17
    · refine s_iconst (q := 11) (v := 1) C dX7_guestBit_10 rfl (by decide) ?_
      refine s_iload_n (q := 12) C 0 dX7_guestBit_11 rfl rfl rfl ?_
      refine s_ishl (q := 13) C dX7_guestBit_12 rfl ?_
      refine s_goto (q := 17) C dX7_guestBit_13 (by decide) ?_
      exact s_iret C E dX7_guestBit_17
noncomputable def fX6_guestsIn_L1b (c0 : Nat) (a1 : Int32) (B4 : gV → Int32 → Int32 → Option (Int32 × gV)) (V1 : gV) (x2 : Int32) (x3 : Int32) : Option (Int32 × gV) := if (V1 c0 9) ≤ x3 then (some (x2, V1)) else (gbr (fX6_cakeAt V1 c0 x3) fun (t6 : Nat) (V7 : gV) => if (V7 t6 3) = a1 then (gbi (fX0_shown V7 t6) fun (x10 : Int32) (V11 : gV) => gbi (fX7_guestBit V11 x10) fun (x12 : Int32) (V13 : gV) => glt (x2 ||| x12) fun (x14 : Int32) => B4 V13 x14 ((x3 + 1))) else (B4 V7 x2 ((x3 + 1))))
noncomputable def fX6_guestsIn_L1 (c0 : Nat) (a1 : Int32) : Nat → gV → Int32 → Int32 → Option (Int32 × gV)
  | 0 => fun _ _ _ => none
  | n + 1 => fX6_guestsIn_L1b c0 a1 (fX6_guestsIn_L1 c0 a1 n)
noncomputable def fX6_guestsIn (V : gV) (c0 : Nat) (a1 : Int32) : Option (Int32 × gV) := fX6_guestsIn_L1 c0 a1 gFu V 0 0
set_option maxHeartbeats 4000000 in
set_option maxRecDepth 100000 in
theorem uX6_guestsIn (l : Launch) (G : gG) (hG : gIsX G) (V : gV) (c0 : Nat) (a1 : Int32) (hs0 : G.2.2.1 c0 = kX6 c0) : gMi l G yX6_guestsIn cX6_guestsIn 5 Jvm.ClassFile.FieldType.int (gR 3 63) [.ref (G.1 c0), .int a1] V (fX6_guestsIn V c0 a1) := by
  unfold fX6_guestsIn
  refine gM_i (by decide +kernel) rfl rfl (Nat.le_of_ble_eq_true rfl) (fun X rr VV C E => ?_)
  change gC cX6_guestsIn 5 RX6 G X at C
  change gSm l (gR 3 63) 5 G X _ (rr, VV) V 0 [(0, .ref (G.1 c0)), (1, .int a1)] []
  refine s_iconst (q := 1) (v := 0) C dX6_guestsIn_0 rfl (by decide) ?_
  refine s_istore_n (q := 2) (L' := [(2, .int 0), (0, .ref (G.1 c0)), (1, .int a1)]) C dX6_guestsIn_1 rfl rfl (by decide) rfl ?_
  refine s_iconst (q := 3) (v := 0) C dX6_guestsIn_2 rfl (by decide) ?_
  refine s_istore_n (q := 4) (L' := [(3, .int 0), (2, .int 0), (0, .ref (G.1 c0)), (1, .int a1)]) C dX6_guestsIn_3 rfl rfl (by decide) rfl ?_
  have hL1 : ∀ (n : Nat) (V1 : gV) (x2 : Int32) (x3 : Int32), gSm l (gR 3 63) 5 G X (fX6_guestsIn_L1 c0 a1 n V1 x2 x3) (rr, VV) V1 4 [(0, .ref (G.1 c0)), (1, .int a1), (2, .int x2), (3, .int x3)] [] := by
    intro n
    induction n with
    | zero => exact fun V1 x2 x3 => s_none
    | succ n ih =>
      intro V1 x2 x3
      show gSm l (gR 3 63) 5 G X (fX6_guestsIn_L1b c0 a1 (fX6_guestsIn_L1 c0 a1 n) V1 x2 x3) (rr, VV) V1 4 [(0, .ref (G.1 c0)), (1, .int a1), (2, .int x2), (3, .int x3)] []
      generalize fX6_guestsIn_L1 c0 a1 n = B4 at ih ⊢
      have hB4 := ih
      unfold fX6_guestsIn_L1b
      refine s_iload_n (q := 5) C 3 dX6_guestsIn_4 rfl rfl rfl ?_
      refine s_aload_n (q := 6) C 0 dX6_guestsIn_5 rfl rfl rfl ?_
      refine geX6_9 (q := 9) C hs0 flX6_65 dX6_guestsIn_6 rfl ?_
      refine s_icmp_ge (tgt := 45) (q := 12) C dX6_guestsIn_9 (by decide) rfl (fun c5 => ?_) (fun c5 => ?_)
      · refine s_iload_n (q := 46) C 2 dX6_guestsIn_45 rfl rfl rfl ?_
        exact s_iret C E dX6_guestsIn_46
      · refine s_aload_n (q := 13) C 0 dX6_guestsIn_12 rfl rfl rfl ?_
        refine s_iload_n (q := 14) C 3 dX6_guestsIn_13 rfl rfl rfl ?_
        refine s_Vr (q := 17) (As := [.int x3]) (st := []) C (uX6_cakeAt l G hG V1 c0 x3 hs0) yvX6_cakeAt mlX6_68 hs0 rfl rfl (fun t => G.2.2.1 t = kX0 t) (rX6_cakeAt G hG V1 c0 x3 hs0) rfl rfl rfl rfl (gR_le (by decide) (by decide)) (Nat.le_of_ble_eq_true rfl) dX6_guestsIn_14 rfl (fun t6 V7 h8 => ?_)
        refine s_astore (q := 19) (L' := [(4, .ref (G.1 t6)), (0, .ref (G.1 c0)), (1, .int a1), (2, .int x2), (3, .int x3)]) C dX6_guestsIn_17 rfl (by decide) rfl ?_
        refine s_aload (q := 21) C 0 dX6_guestsIn_19 rfl rfl ?_
        refine geX0_3 (q := 24) C h8 flX6_102 dX6_guestsIn_21 rfl ?_
        refine s_iload_n (q := 25) C 2 dX6_guestsIn_24 rfl rfl rfl ?_
        refine s_icmp_ne (tgt := 39) (q := 28) C dX6_guestsIn_25 (by decide) rfl (fun c9 => ?_) (fun c9 => ?_)
        · refine s_iload_n (q := 29) C 3 dX6_guestsIn_28 rfl rfl rfl ?_
          refine s_aload (q := 31) C 0 dX6_guestsIn_29 rfl rfl ?_
          refine s_Vi (q := 34) (As := []) (st := [.int x2]) C (uX0_shown l G hG V7 t6 h8) yvX0_shown mlX6_150 h8 rfl rfl rfl rfl rfl rfl (gR_le (by decide) (by decide)) (Nat.le_of_ble_eq_true rfl) dX6_guestsIn_31 rfl (fun x10 V11 => ?_)
          refine s_Si (q := 37) (As := [.int x10]) (st := [.int x2]) C (uX7_guestBit l G hG V11 x10) ysX7_guestBit mlX6_153 rfl rfl rfl rfl (gR_le (by decide) (by decide)) (Nat.le_of_ble_eq_true rfl) dX6_guestsIn_34 rfl (fun x12 V13 => ?_)
          refine s_ior (q := 38) C dX6_guestsIn_37 rfl ?_
          refine s_lt (fun x14 => ?_)
          refine s_istore_n (q := 39) (L' := [(2, .int x14), (4, .ref (G.1 t6)), (0, .ref (G.1 c0)), (1, .int a1), (3, .int x3)]) C dX6_guestsIn_38 rfl rfl (by decide) rfl ?_
          refine s_iinc (q := 42) (w := 1) (L' := [(3, .int (x3 + 1)), (2, .int x14), (4, .ref (G.1 t6)), (0, .ref (G.1 c0)), (1, .int a1)]) C 4 dX6_guestsIn_39 rfl rfl (by decide) rfl (by decide) rfl ?_
          refine s_goto (q := 4) C dX6_guestsIn_42 (by decide) ?_
          refine s_sub [3, 4, 1, 0] rfl ?_
          exact hB4 V13 x14 ((x3 + 1))
        · refine s_iinc (q := 42) (w := 1) (L' := [(3, .int (x3 + 1)), (4, .ref (G.1 t6)), (0, .ref (G.1 c0)), (1, .int a1), (2, .int x2)]) C 4 dX6_guestsIn_39 rfl rfl (by decide) rfl (by decide) rfl ?_
          refine s_goto (q := 4) C dX6_guestsIn_42 (by decide) ?_
          refine s_sub [2, 3, 4, 0] rfl ?_
          exact hB4 V7 x2 ((x3 + 1))
  refine s_sub [2, 3, 1, 0] rfl ?_
  exact hL1 gFu V 0 0
noncomputable def fX6_isIn (V : gV) (c0 : Nat) (a1 : Int32) (a2 : Int32) : Option (Int32 × gV) := gbi (fX6_guestsIn V c0 a2) fun (x1 : Int32) (V2 : gV) => gbi (fX7_guestBit V2 a1) fun (x3 : Int32) (V4 : gV) => if (x1 &&& x3) = 0 then (some (0, V4)) else (some (1, V4))
set_option maxHeartbeats 4000000 in
set_option maxRecDepth 100000 in
theorem uX6_isIn (l : Launch) (G : gG) (hG : gIsX G) (V : gV) (c0 : Nat) (a1 : Int32) (a2 : Int32) (hs0 : G.2.2.1 c0 = kX6 c0) : gMi l G yX6_isIn cX6_isIn 3 Jvm.ClassFile.FieldType.boolean (gR 4 87) [.ref (G.1 c0), .int a1, .int a2] V (fX6_isIn V c0 a1 a2) := by
  unfold fX6_isIn
  refine gM_i (by decide +kernel) rfl rfl (Nat.le_of_ble_eq_true rfl) (fun X rr VV C E => ?_)
  change gC cX6_isIn 3 RX6 G X at C
  change gSm l (gR 4 87) 3 G X _ (rr, VV) V 0 [(0, .ref (G.1 c0)), (1, .int a1), (2, .int a2)] []
  refine s_aload_n (q := 1) C 0 dX6_isIn_0 rfl rfl rfl ?_
  refine s_iload_n (q := 2) C 2 dX6_isIn_1 rfl rfl rfl ?_
  refine s_Vi (q := 5) (As := [.int a2]) (st := []) C (uX6_guestsIn l G hG V c0 a2 hs0) yvX6_guestsIn mlX6_157 hs0 rfl rfl rfl rfl rfl rfl (gR_le (by decide) (by decide)) (Nat.le_of_ble_eq_true rfl) dX6_isIn_2 rfl (fun x1 V2 => ?_)
  refine s_iload_n (q := 6) C 1 dX6_isIn_5 rfl rfl rfl ?_
  refine s_Si (q := 9) (As := [.int a1]) (st := [.int x1]) C (uX7_guestBit l G hG V2 a1) ysX7_guestBit mlX6_153 rfl rfl rfl rfl (gR_le (by decide) (by decide)) (Nat.le_of_ble_eq_true rfl) dX6_isIn_6 rfl (fun x3 V4 => ?_)
  refine s_iand (q := 10) C dX6_isIn_9 rfl ?_
  refine s_if_eq (tgt := 17) (q := 13) C dX6_isIn_10 (by decide) rfl (fun c5 => ?_) (fun c5 => ?_)
  · refine s_iconst (q := 18) (v := 0) C dX6_isIn_17 rfl (by decide) ?_
    exact s_zret C E rfl dX6_isIn_18
  · refine s_iconst (q := 14) (v := 1) C dX6_isIn_13 rfl (by decide) ?_
    refine s_goto (q := 18) C dX6_isIn_14 (by decide) ?_
    exact s_zret C E rfl dX6_isIn_18
noncomputable def fX6_housesOf_L1b (c0 : Nat) (a1 : Int32) (B4 : gV → Int32 → Int32 → Option (Int32 × gV)) (V1 : gV) (x2 : Int32) (x3 : Int32) : Option (Int32 × gV) := if (V1 c0 8) ≤ x3 then (some (x2, V1)) else (gbi (fX6_isIn V1 c0 a1 x3) fun (x6 : Int32) (V7 : gV) => if x6 = 0 then (B4 V7 x2 ((x3 + 1))) else (glt (x2 ||| (1 <<< (x3 &&& 31))) fun (x9 : Int32) => B4 V7 x9 ((x3 + 1))))
noncomputable def fX6_housesOf_L1 (c0 : Nat) (a1 : Int32) : Nat → gV → Int32 → Int32 → Option (Int32 × gV)
  | 0 => fun _ _ _ => none
  | n + 1 => fX6_housesOf_L1b c0 a1 (fX6_housesOf_L1 c0 a1 n)
noncomputable def fX6_housesOf (V : gV) (c0 : Nat) (a1 : Int32) : Option (Int32 × gV) := fX6_housesOf_L1 c0 a1 gFu V 0 0
set_option maxHeartbeats 4000000 in
set_option maxRecDepth 100000 in
theorem uX6_housesOf (l : Launch) (G : gG) (hG : gIsX G) (V : gV) (c0 : Nat) (a1 : Int32) (hs0 : G.2.2.1 c0 = kX6 c0) : gMi l G yX6_housesOf cX6_housesOf 4 Jvm.ClassFile.FieldType.int (gR 5 109) [.ref (G.1 c0), .int a1] V (fX6_housesOf V c0 a1) := by
  unfold fX6_housesOf
  refine gM_i (by decide +kernel) rfl rfl (Nat.le_of_ble_eq_true rfl) (fun X rr VV C E => ?_)
  change gC cX6_housesOf 4 RX6 G X at C
  change gSm l (gR 5 109) 4 G X _ (rr, VV) V 0 [(0, .ref (G.1 c0)), (1, .int a1)] []
  refine s_iconst (q := 1) (v := 0) C dX6_housesOf_0 rfl (by decide) ?_
  refine s_istore_n (q := 2) (L' := [(2, .int 0), (0, .ref (G.1 c0)), (1, .int a1)]) C dX6_housesOf_1 rfl rfl (by decide) rfl ?_
  refine s_iconst (q := 3) (v := 0) C dX6_housesOf_2 rfl (by decide) ?_
  refine s_istore_n (q := 4) (L' := [(3, .int 0), (2, .int 0), (0, .ref (G.1 c0)), (1, .int a1)]) C dX6_housesOf_3 rfl rfl (by decide) rfl ?_
  have hL1 : ∀ (n : Nat) (V1 : gV) (x2 : Int32) (x3 : Int32), gSm l (gR 5 109) 4 G X (fX6_housesOf_L1 c0 a1 n V1 x2 x3) (rr, VV) V1 4 [(0, .ref (G.1 c0)), (1, .int a1), (2, .int x2), (3, .int x3)] [] := by
    intro n
    induction n with
    | zero => exact fun V1 x2 x3 => s_none
    | succ n ih =>
      intro V1 x2 x3
      show gSm l (gR 5 109) 4 G X (fX6_housesOf_L1b c0 a1 (fX6_housesOf_L1 c0 a1 n) V1 x2 x3) (rr, VV) V1 4 [(0, .ref (G.1 c0)), (1, .int a1), (2, .int x2), (3, .int x3)] []
      generalize fX6_housesOf_L1 c0 a1 n = B4 at ih ⊢
      have hB4 := ih
      unfold fX6_housesOf_L1b
      refine s_iload_n (q := 5) C 3 dX6_housesOf_4 rfl rfl rfl ?_
      refine s_aload_n (q := 6) C 0 dX6_housesOf_5 rfl rfl rfl ?_
      refine geX6_8 (q := 9) C hs0 flX6_54 dX6_housesOf_6 rfl ?_
      refine s_icmp_ge (tgt := 33) (q := 12) C dX6_housesOf_9 (by decide) rfl (fun c5 => ?_) (fun c5 => ?_)
      · refine s_iload_n (q := 34) C 2 dX6_housesOf_33 rfl rfl rfl ?_
        exact s_iret C E dX6_housesOf_34
      · refine s_aload_n (q := 13) C 0 dX6_housesOf_12 rfl rfl rfl ?_
        refine s_iload_n (q := 14) C 1 dX6_housesOf_13 rfl rfl rfl ?_
        refine s_iload_n (q := 15) C 3 dX6_housesOf_14 rfl rfl rfl ?_
        refine s_Vi (q := 18) (As := [.int a1, .int x3]) (st := []) C (uX6_isIn l G hG V1 c0 a1 x3 hs0) yvX6_isIn mlX6_160 hs0 rfl rfl rfl rfl rfl rfl (gR_le (by decide) (by decide)) (Nat.le_of_ble_eq_true rfl) dX6_housesOf_15 rfl (fun x6 V7 => ?_)
        refine s_if_eq (tgt := 27) (q := 21) C dX6_housesOf_18 (by decide) rfl (fun c8 => ?_) (fun c8 => ?_)
        · refine s_iinc (q := 30) (w := 1) (L' := [(3, .int (x3 + 1)), (0, .ref (G.1 c0)), (1, .int a1), (2, .int x2)]) C 3 dX6_housesOf_27 rfl rfl (by decide) rfl (by decide) rfl ?_
          refine s_goto (q := 4) C dX6_housesOf_30 (by decide) ?_
          refine s_sub [1, 2, 3, 0] rfl ?_
          exact hB4 V7 x2 ((x3 + 1))
        · refine s_iload_n (q := 22) C 2 dX6_housesOf_21 rfl rfl rfl ?_
          refine s_iconst (q := 23) (v := 1) C dX6_housesOf_22 rfl (by decide) ?_
          refine s_iload_n (q := 24) C 3 dX6_housesOf_23 rfl rfl rfl ?_
          refine s_ishl (q := 25) C dX6_housesOf_24 rfl ?_
          refine s_ior (q := 26) C dX6_housesOf_25 rfl ?_
          refine s_lt (fun x9 => ?_)
          refine s_istore_n (q := 27) (L' := [(2, .int x9), (0, .ref (G.1 c0)), (1, .int a1), (3, .int x3)]) C dX6_housesOf_26 rfl rfl (by decide) rfl ?_
          refine s_iinc (q := 30) (w := 1) (L' := [(3, .int (x3 + 1)), (2, .int x9), (0, .ref (G.1 c0)), (1, .int a1)]) C 3 dX6_housesOf_27 rfl rfl (by decide) rfl (by decide) rfl ?_
          refine s_goto (q := 4) C dX6_housesOf_30 (by decide) ?_
          refine s_sub [2, 3, 1, 0] rfl ?_
          exact hB4 V7 x9 ((x3 + 1))
  refine s_sub [2, 3, 1, 0] rfl ?_
  exact hL1 gFu V 0 0
noncomputable def fX6_dueTwice_L1b (c0 : Nat) (B5 : gV → Int32 → Int32 → Int32 → Option (Int32 × gV)) (V1 : gV) (x2 : Int32) (x3 : Int32) (x4 : Int32) : Option (Int32 × gV) := if (V1 c0 8) ≤ x4 then (some (x3, V1)) else (gbi (fX6_guestsIn V1 c0 x4) fun (x7 : Int32) (V8 : gV) => glt (x3 ||| (x2 &&& x7)) fun (x9 : Int32) => glt (x2 ||| x7) fun (x10 : Int32) => B5 V8 x10 x9 ((x4 + 1)))
noncomputable def fX6_dueTwice_L1 (c0 : Nat) : Nat → gV → Int32 → Int32 → Int32 → Option (Int32 × gV)
  | 0 => fun _ _ _ _ => none
  | n + 1 => fX6_dueTwice_L1b c0 (fX6_dueTwice_L1 c0 n)
noncomputable def fX6_dueTwice (V : gV) (c0 : Nat) : Option (Int32 × gV) := fX6_dueTwice_L1 c0 gFu V 0 0 0
set_option maxHeartbeats 4000000 in
set_option maxRecDepth 100000 in
theorem uX6_dueTwice (l : Launch) (G : gG) (hG : gIsX G) (V : gV) (c0 : Nat) (hs0 : G.2.2.1 c0 = kX6 c0) : gMi l G yX6_dueTwice cX6_dueTwice 5 Jvm.ClassFile.FieldType.int (gR 4 87) [.ref (G.1 c0)] V (fX6_dueTwice V c0) := by
  unfold fX6_dueTwice
  refine gM_i (by decide +kernel) rfl rfl (Nat.le_of_ble_eq_true rfl) (fun X rr VV C E => ?_)
  change gC cX6_dueTwice 5 RX6 G X at C
  change gSm l (gR 4 87) 5 G X _ (rr, VV) V 0 [(0, .ref (G.1 c0))] []
  refine s_iconst (q := 1) (v := 0) C dX6_dueTwice_0 rfl (by decide) ?_
  refine s_istore_n (q := 2) (L' := [(1, .int 0), (0, .ref (G.1 c0))]) C dX6_dueTwice_1 rfl rfl (by decide) rfl ?_
  refine s_iconst (q := 3) (v := 0) C dX6_dueTwice_2 rfl (by decide) ?_
  refine s_istore_n (q := 4) (L' := [(2, .int 0), (1, .int 0), (0, .ref (G.1 c0))]) C dX6_dueTwice_3 rfl rfl (by decide) rfl ?_
  refine s_iconst (q := 5) (v := 0) C dX6_dueTwice_4 rfl (by decide) ?_
  refine s_istore_n (q := 6) (L' := [(3, .int 0), (2, .int 0), (1, .int 0), (0, .ref (G.1 c0))]) C dX6_dueTwice_5 rfl rfl (by decide) rfl ?_
  have hL1 : ∀ (n : Nat) (V1 : gV) (x2 : Int32) (x3 : Int32) (x4 : Int32), gSm l (gR 4 87) 5 G X (fX6_dueTwice_L1 c0 n V1 x2 x3 x4) (rr, VV) V1 6 [(0, .ref (G.1 c0)), (1, .int x2), (2, .int x3), (3, .int x4)] [] := by
    intro n
    induction n with
    | zero => exact fun V1 x2 x3 x4 => s_none
    | succ n ih =>
      intro V1 x2 x3 x4
      show gSm l (gR 4 87) 5 G X (fX6_dueTwice_L1b c0 (fX6_dueTwice_L1 c0 n) V1 x2 x3 x4) (rr, VV) V1 6 [(0, .ref (G.1 c0)), (1, .int x2), (2, .int x3), (3, .int x4)] []
      generalize fX6_dueTwice_L1 c0 n = B5 at ih ⊢
      have hB5 := ih
      unfold fX6_dueTwice_L1b
      refine s_iload_n (q := 7) C 3 dX6_dueTwice_6 rfl rfl rfl ?_
      refine s_aload_n (q := 8) C 0 dX6_dueTwice_7 rfl rfl rfl ?_
      refine geX6_8 (q := 11) C hs0 flX6_54 dX6_dueTwice_8 rfl ?_
      refine s_icmp_ge (tgt := 39) (q := 14) C dX6_dueTwice_11 (by decide) rfl (fun c6 => ?_) (fun c6 => ?_)
      · refine s_iload_n (q := 40) C 2 dX6_dueTwice_39 rfl rfl rfl ?_
        exact s_iret C E dX6_dueTwice_40
      · refine s_aload_n (q := 15) C 0 dX6_dueTwice_14 rfl rfl rfl ?_
        refine s_iload_n (q := 16) C 3 dX6_dueTwice_15 rfl rfl rfl ?_
        refine s_Vi (q := 19) (As := [.int x4]) (st := []) C (uX6_guestsIn l G hG V1 c0 x4 hs0) yvX6_guestsIn mlX6_157 hs0 rfl rfl rfl rfl rfl rfl (gR_le (by decide) (by decide)) (Nat.le_of_ble_eq_true rfl) dX6_dueTwice_16 rfl (fun x7 V8 => ?_)
        refine s_istore (q := 21) (L' := [(4, .int x7), (0, .ref (G.1 c0)), (1, .int x2), (2, .int x3), (3, .int x4)]) C dX6_dueTwice_19 rfl (by decide) rfl ?_
        refine s_iload_n (q := 22) C 3 dX6_dueTwice_21 rfl rfl rfl ?_
        refine s_iload_n (q := 23) C 2 dX6_dueTwice_22 rfl rfl rfl ?_
        refine s_iload (q := 25) C 0 dX6_dueTwice_23 rfl rfl ?_
        refine s_iand (q := 26) C dX6_dueTwice_25 rfl ?_
        refine s_ior (q := 27) C dX6_dueTwice_26 rfl ?_
        refine s_lt (fun x9 => ?_)
        refine s_istore_n (q := 28) (L' := [(2, .int x9), (4, .int x7), (0, .ref (G.1 c0)), (1, .int x2), (3, .int x4)]) C dX6_dueTwice_27 rfl rfl (by decide) rfl ?_
        refine s_iload_n (q := 29) C 3 dX6_dueTwice_28 rfl rfl rfl ?_
        refine s_iload (q := 31) C 1 dX6_dueTwice_29 rfl rfl ?_
        refine s_ior (q := 32) C dX6_dueTwice_31 rfl ?_
        refine s_lt (fun x10 => ?_)
        refine s_istore_n (q := 33) (L' := [(1, .int x10), (2, .int x9), (4, .int x7), (0, .ref (G.1 c0)), (3, .int x4)]) C dX6_dueTwice_32 rfl rfl (by decide) rfl ?_
        refine s_iinc (q := 36) (w := 1) (L' := [(3, .int (x4 + 1)), (1, .int x10), (2, .int x9), (4, .int x7), (0, .ref (G.1 c0))]) C 4 dX6_dueTwice_33 rfl rfl (by decide) rfl (by decide) rfl ?_
        refine s_goto (q := 6) C dX6_dueTwice_36 (by decide) ?_
        refine s_sub [4, 1, 2, 0] rfl ?_
        exact hB5 V8 x10 x9 ((x4 + 1))
  refine s_sub [3, 2, 1, 0] rfl ?_
  exact hL1 gFu V 0 0 0
noncomputable def fX6_firstDayIn_L1b (c0 : Nat) (a1 : Int32) (a2 : Int32) (a3 : Int32) (B3 : gV → Int32 → Option (Int32 × gV)) (V1 : gV) (x2 : Int32) : Option (Int32 × gV) := if a3 ≤ x2 then (some ((-1), V1)) else (gbi (fX6_isIn V1 c0 a1 a2) fun (x5 : Int32) (V6 : gV) => if x5 = 0 then (gbv (fX6_passDay V6 c0) fun (V8 : gV) => B3 V8 ((x2 + 1))) else (some (x2, V6)))
noncomputable def fX6_firstDayIn_L1 (c0 : Nat) (a1 : Int32) (a2 : Int32) (a3 : Int32) : Nat → gV → Int32 → Option (Int32 × gV)
  | 0 => fun _ _ => none
  | n + 1 => fX6_firstDayIn_L1b c0 a1 a2 a3 (fX6_firstDayIn_L1 c0 a1 a2 a3 n)
noncomputable def fX6_firstDayIn (V : gV) (c0 : Nat) (a1 : Int32) (a2 : Int32) (a3 : Int32) : Option (Int32 × gV) := fX6_firstDayIn_L1 c0 a1 a2 a3 gFu V 0
set_option maxHeartbeats 4000000 in
set_option maxRecDepth 100000 in
theorem uX6_firstDayIn (l : Launch) (G : gG) (hG : gIsX G) (V : gV) (c0 : Nat) (a1 : Int32) (a2 : Int32) (a3 : Int32) (hs0 : G.2.2.1 c0 = kX6 c0) : gMi l G yX6_firstDayIn cX6_firstDayIn 5 Jvm.ClassFile.FieldType.int (gR 5 120) [.ref (G.1 c0), .int a1, .int a2, .int a3] V (fX6_firstDayIn V c0 a1 a2 a3) := by
  unfold fX6_firstDayIn
  refine gM_i (by decide +kernel) rfl rfl (Nat.le_of_ble_eq_true rfl) (fun X rr VV C E => ?_)
  change gC cX6_firstDayIn 5 RX6 G X at C
  change gSm l (gR 5 120) 5 G X _ (rr, VV) V 0 [(0, .ref (G.1 c0)), (1, .int a1), (2, .int a2), (3, .int a3)] []
  refine s_iconst (q := 1) (v := 0) C dX6_firstDayIn_0 rfl (by decide) ?_
  refine s_istore (q := 3) (L' := [(4, .int 0), (0, .ref (G.1 c0)), (1, .int a1), (2, .int a2), (3, .int a3)]) C dX6_firstDayIn_1 rfl (by decide) rfl ?_
  have hL1 : ∀ (n : Nat) (V1 : gV) (x2 : Int32), gSm l (gR 5 120) 5 G X (fX6_firstDayIn_L1 c0 a1 a2 a3 n V1 x2) (rr, VV) V1 3 [(0, .ref (G.1 c0)), (1, .int a1), (2, .int a2), (3, .int a3), (4, .int x2)] [] := by
    intro n
    induction n with
    | zero => exact fun V1 x2 => s_none
    | succ n ih =>
      intro V1 x2
      show gSm l (gR 5 120) 5 G X (fX6_firstDayIn_L1b c0 a1 a2 a3 (fX6_firstDayIn_L1 c0 a1 a2 a3 n) V1 x2) (rr, VV) V1 3 [(0, .ref (G.1 c0)), (1, .int a1), (2, .int a2), (3, .int a3), (4, .int x2)] []
      generalize fX6_firstDayIn_L1 c0 a1 a2 a3 n = B3 at ih ⊢
      have hB3 := ih
      unfold fX6_firstDayIn_L1b
      refine s_iload (q := 5) C 4 dX6_firstDayIn_3 rfl rfl ?_
      refine s_iload_n (q := 6) C 3 dX6_firstDayIn_5 rfl rfl rfl ?_
      refine s_icmp_ge (tgt := 31) (q := 9) C dX6_firstDayIn_6 (by decide) rfl (fun c4 => ?_) (fun c4 => ?_)
      · refine s_iconst (q := 32) (v := (-1)) C dX6_firstDayIn_31 rfl (by decide) ?_
        exact s_iret C E dX6_firstDayIn_32
      · refine s_aload_n (q := 10) C 0 dX6_firstDayIn_9 rfl rfl rfl ?_
        refine s_iload_n (q := 11) C 1 dX6_firstDayIn_10 rfl rfl rfl ?_
        refine s_iload_n (q := 12) C 2 dX6_firstDayIn_11 rfl rfl rfl ?_
        refine s_Vi (q := 15) (As := [.int a1, .int a2]) (st := []) C (uX6_isIn l G hG V1 c0 a1 a2 hs0) yvX6_isIn mlX6_160 hs0 rfl rfl rfl rfl rfl rfl (gR_le (by decide) (by decide)) (Nat.le_of_ble_eq_true rfl) dX6_firstDayIn_12 rfl (fun x5 V6 => ?_)
        refine s_if_eq (tgt := 21) (q := 18) C dX6_firstDayIn_15 (by decide) rfl (fun c7 => ?_) (fun c7 => ?_)
        · refine s_aload_n (q := 22) C 0 dX6_firstDayIn_21 rfl rfl rfl ?_
          refine s_Vv (q := 25) (As := []) (st := []) C (uX6_passDay l G hG V6 c0 hs0) yvX6_passDay mlX6_142 hs0 rfl rfl rfl rfl rfl rfl (gR_le (by decide) (by decide)) (Nat.le_of_ble_eq_true rfl) dX6_firstDayIn_22 rfl (fun V8 => ?_)
          refine s_iinc (q := 28) (w := 1) (L' := [(4, .int (x2 + 1)), (0, .ref (G.1 c0)), (1, .int a1), (2, .int a2), (3, .int a3)]) C 4 dX6_firstDayIn_25 rfl rfl (by decide) rfl (by decide) rfl ?_
          refine s_goto (q := 3) C dX6_firstDayIn_28 (by decide) ?_
          refine s_sub [1, 2, 3, 4, 0] rfl ?_
          exact hB3 V8 ((x2 + 1))
        · refine s_iload (q := 20) C 4 dX6_firstDayIn_18 rfl rfl ?_
          exact s_iret C E dX6_firstDayIn_20
  refine s_sub [1, 2, 3, 4, 0] rfl ?_
  exact hL1 gFu V 0
noncomputable def fX6_goneCakes_L1b (c0 : Nat) (B4 : gV → Int32 → Int32 → Option (Int32 × gV)) (V1 : gV) (x2 : Int32) (x3 : Int32) : Option (Int32 × gV) := if (V1 c0 9) ≤ x3 then (some (x2, V1)) else (gbr (fX6_cakeAt V1 c0 x3) fun (t6 : Nat) (V7 : gV) => gbi (fX0_isGone V7 t6) fun (x9 : Int32) (V10 : gV) => if x9 = 0 then (glt (x2 + 0) fun (x12 : Int32) => B4 V10 x12 ((x3 + 1))) else (glt (x2 + 1) fun (x13 : Int32) => B4 V10 x13 ((x3 + 1))))
noncomputable def fX6_goneCakes_L1 (c0 : Nat) : Nat → gV → Int32 → Int32 → Option (Int32 × gV)
  | 0 => fun _ _ _ => none
  | n + 1 => fX6_goneCakes_L1b c0 (fX6_goneCakes_L1 c0 n)
noncomputable def fX6_goneCakes (V : gV) (c0 : Nat) : Option (Int32 × gV) := fX6_goneCakes_L1 c0 gFu V 0 0
set_option maxHeartbeats 4000000 in
set_option maxRecDepth 100000 in
theorem uX6_goneCakes (l : Launch) (G : gG) (hG : gIsX G) (V : gV) (c0 : Nat) (hs0 : G.2.2.1 c0 = kX6 c0) : gMi l G yX6_goneCakes cX6_goneCakes 3 Jvm.ClassFile.FieldType.int (gR 2 40) [.ref (G.1 c0)] V (fX6_goneCakes V c0) := by
  unfold fX6_goneCakes
  refine gM_i (by decide +kernel) rfl rfl (Nat.le_of_ble_eq_true rfl) (fun X rr VV C E => ?_)
  change gC cX6_goneCakes 3 RX6 G X at C
  change gSm l (gR 2 40) 3 G X _ (rr, VV) V 0 [(0, .ref (G.1 c0))] []
  refine s_iconst (q := 1) (v := 0) C dX6_goneCakes_0 rfl (by decide) ?_
  refine s_istore_n (q := 2) (L' := [(1, .int 0), (0, .ref (G.1 c0))]) C dX6_goneCakes_1 rfl rfl (by decide) rfl ?_
  refine s_iconst (q := 3) (v := 0) C dX6_goneCakes_2 rfl (by decide) ?_
  refine s_istore_n (q := 4) (L' := [(2, .int 0), (1, .int 0), (0, .ref (G.1 c0))]) C dX6_goneCakes_3 rfl rfl (by decide) rfl ?_
  have hL1 : ∀ (n : Nat) (V1 : gV) (x2 : Int32) (x3 : Int32), gSm l (gR 2 40) 3 G X (fX6_goneCakes_L1 c0 n V1 x2 x3) (rr, VV) V1 4 [(0, .ref (G.1 c0)), (1, .int x2), (2, .int x3)] [] := by
    intro n
    induction n with
    | zero => exact fun V1 x2 x3 => s_none
    | succ n ih =>
      intro V1 x2 x3
      show gSm l (gR 2 40) 3 G X (fX6_goneCakes_L1b c0 (fX6_goneCakes_L1 c0 n) V1 x2 x3) (rr, VV) V1 4 [(0, .ref (G.1 c0)), (1, .int x2), (2, .int x3)] []
      generalize fX6_goneCakes_L1 c0 n = B4 at ih ⊢
      have hB4 := ih
      unfold fX6_goneCakes_L1b
      refine s_iload_n (q := 5) C 2 dX6_goneCakes_4 rfl rfl rfl ?_
      refine s_aload_n (q := 6) C 0 dX6_goneCakes_5 rfl rfl rfl ?_
      refine geX6_9 (q := 9) C hs0 flX6_65 dX6_goneCakes_6 rfl ?_
      refine s_icmp_ge (tgt := 37) (q := 12) C dX6_goneCakes_9 (by decide) rfl (fun c5 => ?_) (fun c5 => ?_)
      · refine s_iload_n (q := 38) C 1 dX6_goneCakes_37 rfl rfl rfl ?_
        exact s_iret C E dX6_goneCakes_38
      · refine s_iload_n (q := 13) C 1 dX6_goneCakes_12 rfl rfl rfl ?_
        refine s_aload_n (q := 14) C 0 dX6_goneCakes_13 rfl rfl rfl ?_
        refine s_iload_n (q := 15) C 2 dX6_goneCakes_14 rfl rfl rfl ?_
        refine s_Vr (q := 18) (As := [.int x3]) (st := [.int x2]) C (uX6_cakeAt l G hG V1 c0 x3 hs0) yvX6_cakeAt mlX6_68 hs0 rfl rfl (fun t => G.2.2.1 t = kX0 t) (rX6_cakeAt G hG V1 c0 x3 hs0) rfl rfl rfl rfl (gR_le (by decide) (by decide)) (Nat.le_of_ble_eq_true rfl) dX6_goneCakes_15 rfl (fun t6 V7 h8 => ?_)
        refine s_Vi (q := 21) (As := []) (st := [.int x2]) C (uX0_isGone l G hG V7 t6 h8) yvX0_isGone mlX6_132 h8 rfl rfl rfl rfl rfl rfl (gR_le (by decide) (by decide)) (Nat.le_of_ble_eq_true rfl) dX6_goneCakes_18 rfl (fun x9 V10 => ?_)
        refine s_if_eq (tgt := 28) (q := 24) C dX6_goneCakes_21 (by decide) rfl (fun c11 => ?_) (fun c11 => ?_)
        · refine s_iconst (q := 29) (v := 0) C dX6_goneCakes_28 rfl (by decide) ?_
          refine s_iadd (q := 30) C dX6_goneCakes_29 rfl ?_
          refine s_lt (fun x12 => ?_)
          refine s_istore_n (q := 31) (L' := [(1, .int x12), (0, .ref (G.1 c0)), (2, .int x3)]) C dX6_goneCakes_30 rfl rfl (by decide) rfl ?_
          refine s_iinc (q := 34) (w := 1) (L' := [(2, .int (x3 + 1)), (1, .int x12), (0, .ref (G.1 c0))]) C 2 dX6_goneCakes_31 rfl rfl (by decide) rfl (by decide) rfl ?_
          refine s_goto (q := 4) C dX6_goneCakes_34 (by decide) ?_
          refine s_sub [2, 1, 0] rfl ?_
          exact hB4 V10 x12 ((x3 + 1))
        · refine s_iconst (q := 25) (v := 1) C dX6_goneCakes_24 rfl (by decide) ?_
          refine s_goto (q := 29) C dX6_goneCakes_25 (by decide) ?_
          refine s_iadd (q := 30) C dX6_goneCakes_29 rfl ?_
          refine s_lt (fun x13 => ?_)
          refine s_istore_n (q := 31) (L' := [(1, .int x13), (0, .ref (G.1 c0)), (2, .int x3)]) C dX6_goneCakes_30 rfl rfl (by decide) rfl ?_
          refine s_iinc (q := 34) (w := 1) (L' := [(2, .int (x3 + 1)), (1, .int x13), (0, .ref (G.1 c0))]) C 2 dX6_goneCakes_31 rfl rfl (by decide) rfl (by decide) rfl ?_
          refine s_goto (q := 4) C dX6_goneCakes_34 (by decide) ?_
          refine s_sub [2, 1, 0] rfl ?_
          exact hB4 V10 x13 ((x3 + 1))
  refine s_sub [2, 1, 0] rfl ?_
  exact hL1 gFu V 0 0
noncomputable def fX6_allHands_L1b (c0 : Nat) (B4 : gV → Int32 → Int32 → Option (Int32 × gV)) (V1 : gV) (x2 : Int32) (x3 : Int32) : Option (Int32 × gV) := if (V1 c0 8) ≤ x3 then (some (x2, V1)) else (gbr (fX6_houseAt V1 c0 x3) fun (t6 : Nat) (V7 : gV) => glt (x2 + (V7 t6 0)) fun (x9 : Int32) => B4 V7 x9 ((x3 + 1)))
noncomputable def fX6_allHands_L1 (c0 : Nat) : Nat → gV → Int32 → Int32 → Option (Int32 × gV)
  | 0 => fun _ _ _ => none
  | n + 1 => fX6_allHands_L1b c0 (fX6_allHands_L1 c0 n)
noncomputable def fX6_allHands (V : gV) (c0 : Nat) : Option (Int32 × gV) := fX6_allHands_L1 c0 gFu V 0 0
set_option maxHeartbeats 4000000 in
set_option maxRecDepth 100000 in
theorem uX6_allHands (l : Launch) (G : gG) (hG : gIsX G) (V : gV) (c0 : Nat) (hs0 : G.2.2.1 c0 = kX6 c0) : gMi l G yX6_allHands cX6_allHands 3 Jvm.ClassFile.FieldType.int (gR 1 21) [.ref (G.1 c0)] V (fX6_allHands V c0) := by
  unfold fX6_allHands
  refine gM_i (by decide +kernel) rfl rfl (Nat.le_of_ble_eq_true rfl) (fun X rr VV C E => ?_)
  change gC cX6_allHands 3 RX6 G X at C
  change gSm l (gR 1 21) 3 G X _ (rr, VV) V 0 [(0, .ref (G.1 c0))] []
  refine s_iconst (q := 1) (v := 0) C dX6_allHands_0 rfl (by decide) ?_
  refine s_istore_n (q := 2) (L' := [(1, .int 0), (0, .ref (G.1 c0))]) C dX6_allHands_1 rfl rfl (by decide) rfl ?_
  refine s_iconst (q := 3) (v := 0) C dX6_allHands_2 rfl (by decide) ?_
  refine s_istore_n (q := 4) (L' := [(2, .int 0), (1, .int 0), (0, .ref (G.1 c0))]) C dX6_allHands_3 rfl rfl (by decide) rfl ?_
  have hL1 : ∀ (n : Nat) (V1 : gV) (x2 : Int32) (x3 : Int32), gSm l (gR 1 21) 3 G X (fX6_allHands_L1 c0 n V1 x2 x3) (rr, VV) V1 4 [(0, .ref (G.1 c0)), (1, .int x2), (2, .int x3)] [] := by
    intro n
    induction n with
    | zero => exact fun V1 x2 x3 => s_none
    | succ n ih =>
      intro V1 x2 x3
      show gSm l (gR 1 21) 3 G X (fX6_allHands_L1b c0 (fX6_allHands_L1 c0 n) V1 x2 x3) (rr, VV) V1 4 [(0, .ref (G.1 c0)), (1, .int x2), (2, .int x3)] []
      generalize fX6_allHands_L1 c0 n = B4 at ih ⊢
      have hB4 := ih
      unfold fX6_allHands_L1b
      refine s_iload_n (q := 5) C 2 dX6_allHands_4 rfl rfl rfl ?_
      refine s_aload_n (q := 6) C 0 dX6_allHands_5 rfl rfl rfl ?_
      refine geX6_8 (q := 9) C hs0 flX6_54 dX6_allHands_6 rfl ?_
      refine s_icmp_ge (tgt := 29) (q := 12) C dX6_allHands_9 (by decide) rfl (fun c5 => ?_) (fun c5 => ?_)
      · refine s_iload_n (q := 30) C 1 dX6_allHands_29 rfl rfl rfl ?_
        exact s_iret C E dX6_allHands_30
      · refine s_iload_n (q := 13) C 1 dX6_allHands_12 rfl rfl rfl ?_
        refine s_aload_n (q := 14) C 0 dX6_allHands_13 rfl rfl rfl ?_
        refine s_iload_n (q := 15) C 2 dX6_allHands_14 rfl rfl rfl ?_
        refine s_Vr (q := 18) (As := [.int x3]) (st := [.int x2]) C (uX6_houseAt l G hG V1 c0 x3 hs0) yvX6_houseAt mlX6_57 hs0 rfl rfl (fun t => G.2.2.1 t = kX1 t) (rX6_houseAt G hG V1 c0 x3 hs0) rfl rfl rfl rfl (gR_le (by decide) (by decide)) (Nat.le_of_ble_eq_true rfl) dX6_allHands_15 rfl (fun t6 V7 h8 => ?_)
        refine geX1_0 (q := 21) C h8 flX6_105 dX6_allHands_18 rfl ?_
        refine s_iadd (q := 22) C dX6_allHands_21 rfl ?_
        refine s_lt (fun x9 => ?_)
        refine s_istore_n (q := 23) (L' := [(1, .int x9), (0, .ref (G.1 c0)), (2, .int x3)]) C dX6_allHands_22 rfl rfl (by decide) rfl ?_
        refine s_iinc (q := 26) (w := 1) (L' := [(2, .int (x3 + 1)), (1, .int x9), (0, .ref (G.1 c0))]) C 2 dX6_allHands_23 rfl rfl (by decide) rfl (by decide) rfl ?_
        refine s_goto (q := 4) C dX6_allHands_26 (by decide) ?_
        refine s_sub [2, 1, 0] rfl ?_
        exact hB4 V7 x9 ((x3 + 1))
  refine s_sub [2, 1, 0] rfl ?_
  exact hL1 gFu V 0 0
noncomputable def fX6_allWorn_L1b (c0 : Nat) (B4 : gV → Int32 → Int32 → Option (Int32 × gV)) (V1 : gV) (x2 : Int32) (x3 : Int32) : Option (Int32 × gV) := if (V1 c0 9) ≤ x3 then (some (x2, V1)) else (gbr (fX6_cakeAt V1 c0 x3) fun (t6 : Nat) (V7 : gV) => glt (x2 + (V7 t6 5)) fun (x9 : Int32) => B4 V7 x9 ((x3 + 1)))
noncomputable def fX6_allWorn_L1 (c0 : Nat) : Nat → gV → Int32 → Int32 → Option (Int32 × gV)
  | 0 => fun _ _ _ => none
  | n + 1 => fX6_allWorn_L1b c0 (fX6_allWorn_L1 c0 n)
noncomputable def fX6_allWorn (V : gV) (c0 : Nat) : Option (Int32 × gV) := fX6_allWorn_L1 c0 gFu V 0 0
set_option maxHeartbeats 4000000 in
set_option maxRecDepth 100000 in
theorem uX6_allWorn (l : Launch) (G : gG) (hG : gIsX G) (V : gV) (c0 : Nat) (hs0 : G.2.2.1 c0 = kX6 c0) : gMi l G yX6_allWorn cX6_allWorn 3 Jvm.ClassFile.FieldType.int (gR 1 21) [.ref (G.1 c0)] V (fX6_allWorn V c0) := by
  unfold fX6_allWorn
  refine gM_i (by decide +kernel) rfl rfl (Nat.le_of_ble_eq_true rfl) (fun X rr VV C E => ?_)
  change gC cX6_allWorn 3 RX6 G X at C
  change gSm l (gR 1 21) 3 G X _ (rr, VV) V 0 [(0, .ref (G.1 c0))] []
  refine s_iconst (q := 1) (v := 0) C dX6_allWorn_0 rfl (by decide) ?_
  refine s_istore_n (q := 2) (L' := [(1, .int 0), (0, .ref (G.1 c0))]) C dX6_allWorn_1 rfl rfl (by decide) rfl ?_
  refine s_iconst (q := 3) (v := 0) C dX6_allWorn_2 rfl (by decide) ?_
  refine s_istore_n (q := 4) (L' := [(2, .int 0), (1, .int 0), (0, .ref (G.1 c0))]) C dX6_allWorn_3 rfl rfl (by decide) rfl ?_
  have hL1 : ∀ (n : Nat) (V1 : gV) (x2 : Int32) (x3 : Int32), gSm l (gR 1 21) 3 G X (fX6_allWorn_L1 c0 n V1 x2 x3) (rr, VV) V1 4 [(0, .ref (G.1 c0)), (1, .int x2), (2, .int x3)] [] := by
    intro n
    induction n with
    | zero => exact fun V1 x2 x3 => s_none
    | succ n ih =>
      intro V1 x2 x3
      show gSm l (gR 1 21) 3 G X (fX6_allWorn_L1b c0 (fX6_allWorn_L1 c0 n) V1 x2 x3) (rr, VV) V1 4 [(0, .ref (G.1 c0)), (1, .int x2), (2, .int x3)] []
      generalize fX6_allWorn_L1 c0 n = B4 at ih ⊢
      have hB4 := ih
      unfold fX6_allWorn_L1b
      refine s_iload_n (q := 5) C 2 dX6_allWorn_4 rfl rfl rfl ?_
      refine s_aload_n (q := 6) C 0 dX6_allWorn_5 rfl rfl rfl ?_
      refine geX6_9 (q := 9) C hs0 flX6_65 dX6_allWorn_6 rfl ?_
      refine s_icmp_ge (tgt := 29) (q := 12) C dX6_allWorn_9 (by decide) rfl (fun c5 => ?_) (fun c5 => ?_)
      · refine s_iload_n (q := 30) C 1 dX6_allWorn_29 rfl rfl rfl ?_
        exact s_iret C E dX6_allWorn_30
      · refine s_iload_n (q := 13) C 1 dX6_allWorn_12 rfl rfl rfl ?_
        refine s_aload_n (q := 14) C 0 dX6_allWorn_13 rfl rfl rfl ?_
        refine s_iload_n (q := 15) C 2 dX6_allWorn_14 rfl rfl rfl ?_
        refine s_Vr (q := 18) (As := [.int x3]) (st := [.int x2]) C (uX6_cakeAt l G hG V1 c0 x3 hs0) yvX6_cakeAt mlX6_68 hs0 rfl rfl (fun t => G.2.2.1 t = kX0 t) (rX6_cakeAt G hG V1 c0 x3 hs0) rfl rfl rfl rfl (gR_le (by decide) (by decide)) (Nat.le_of_ble_eq_true rfl) dX6_allWorn_15 rfl (fun t6 V7 h8 => ?_)
        refine geX0_5 (q := 21) C h8 flX6_164 dX6_allWorn_18 rfl ?_
        refine s_iadd (q := 22) C dX6_allWorn_21 rfl ?_
        refine s_lt (fun x9 => ?_)
        refine s_istore_n (q := 23) (L' := [(1, .int x9), (0, .ref (G.1 c0)), (2, .int x3)]) C dX6_allWorn_22 rfl rfl (by decide) rfl ?_
        refine s_iinc (q := 26) (w := 1) (L' := [(2, .int (x3 + 1)), (1, .int x9), (0, .ref (G.1 c0))]) C 2 dX6_allWorn_23 rfl rfl (by decide) rfl (by decide) rfl ?_
        refine s_goto (q := 4) C dX6_allWorn_26 (by decide) ?_
        refine s_sub [2, 1, 0] rfl ?_
        exact hB4 V7 x9 ((x3 + 1))
  refine s_sub [2, 1, 0] rfl ?_
  exact hL1 gFu V 0 0
noncomputable def fX7_error (V : gV) (a1 : Int32) : Option (Int32 × gV) := gbi (fX7_at V (0 + 103) 6 a1) fun (x1 : Int32) (V2 : gV) => gbv (fX7_setAt V2 (0 + 103) 6 a1 (x1 + 1)) fun (V3 : gV) => some (((-1000000000) - a1), V3)
set_option maxHeartbeats 4000000 in
set_option maxRecDepth 100000 in
theorem uX7_error (l : Launch) (G : gG) (hG : gIsX G) (V : gV) (a1 : Int32) : gMi l G yX7_error cX7_error 2 Jvm.ClassFile.FieldType.int (gR 1 22) [.ref (G.1 0), .int a1] V (fX7_error V a1) := by
  unfold fX7_error
  refine gM_i (by decide +kernel) rfl rfl (Nat.le_of_ble_eq_true rfl) (fun X rr VV C E => ?_)
  change gC cX7_error 2 RX7 G X at C
  change gSm l (gR 1 22) 2 G X _ (rr, VV) V 0 [(0, .ref (G.1 0)), (1, .int a1)] []
  refine s_aload_n (q := 1) C 0 dX7_error_0 rfl rfl rfl ?_
  refine geX7_8 (q := 4) C (s70 hG) flX7_51 dX7_error_1 rfl ?_
  refine s_iload_n (q := 5) C 1 dX7_error_4 rfl rfl rfl ?_
  refine s_aload_n (q := 6) C 0 dX7_error_5 rfl rfl rfl ?_
  refine geX7_8 (q := 9) C (s70 hG) flX7_51 dX7_error_6 rfl ?_
  refine s_iload_n (q := 10) C 1 dX7_error_9 rfl rfl rfl ?_
  refine s_Si (q := 13) (As := [.ref (G.1 (0 + 103)), .int a1]) (st := [.int a1, .ref (G.1 (0 + 103))]) C (uX7_at l G hG V (0 + 103) 6 a1 (qX7_8 hG (s70 hG))) ysX7_at mlX7_266 rfl rfl rfl rfl (gR_le (by decide) (by decide)) (Nat.le_of_ble_eq_true rfl) dX7_error_10 rfl (fun x1 V2 => ?_)
  refine s_iconst (q := 14) (v := 1) C dX7_error_13 rfl (by decide) ?_
  refine s_iadd (q := 15) C dX7_error_14 rfl ?_
  refine s_Sv (q := 18) (As := [.ref (G.1 (0 + 103)), .int a1, .int (x1 + 1)]) (st := []) C (uX7_setAt l G hG V2 (0 + 103) 6 a1 (x1 + 1) (qX7_8 hG (s70 hG)) (mX7_8 hG (s70 hG))) ysX7_setAt mlX7_162 rfl rfl rfl rfl (gR_le (by decide) (by decide)) (Nat.le_of_ble_eq_true rfl) dX7_error_15 rfl (fun V3 => ?_)
  refine s_ldc_w (q := 21) (v := (-1000000000)) C dX7_error_18 rfl kX7_329 ?_
  refine s_iload_n (q := 22) C 1 dX7_error_21 rfl rfl rfl ?_
  refine s_isub (q := 23) C dX7_error_22 rfl ?_
  exact s_iret C E dX7_error_23
noncomputable def fX7_house (V : gV) (a1 : Int32) : Option (Int32 × gV) := gbi (fX7_within V a1 0 9) fun (x1 : Int32) (V2 : gV) => if x1 = 0 then (gbi (fX7_error V2 1) fun (x13 : Int32) (V14 : gV) => some (x13, V14)) else (if (V2 (0 + 1) 8) < 4 then (gbr (fX6_houseAt V2 (0 + 1) (V2 (0 + 1) 8)) fun (t5 : Nat) (V6 : gV) => gpu V6 t5 0 1 fun (V8 : gV) => gpu V8 t5 1 a1 fun (V9 : gV) => gpu V9 (0 + 1) 8 ((V9 (0 + 1) 8) + 1) fun (V10 : gV) => some (((V10 (0 + 1) 8) - 1), V10)) else (gbi (fX7_error V2 4) fun (x11 : Int32) (V12 : gV) => some (x11, V12)))
set_option maxHeartbeats 4000000 in
set_option maxRecDepth 100000 in
theorem uX7_house (l : Launch) (G : gG) (hG : gIsX G) (V : gV) (a1 : Int32) : gMi l G yX7_house cX7_house 3 Jvm.ClassFile.FieldType.int (gR 2 43) [.ref (G.1 0), .int a1] V (fX7_house V a1) := by
  unfold fX7_house
  refine gM_i (by decide +kernel) rfl rfl (Nat.le_of_ble_eq_true rfl) (fun X rr VV C E => ?_)
  change gC cX7_house 3 RX7 G X at C
  change gSm l (gR 2 43) 3 G X _ (rr, VV) V 0 [(0, .ref (G.1 0)), (1, .int a1)] []
  refine s_iload_n (q := 1) C 1 dX7_house_0 rfl rfl rfl ?_
  refine s_iconst (q := 2) (v := 0) C dX7_house_1 rfl (by decide) ?_
  refine s_bipush (q := 4) (v := 9) C dX7_house_2 rfl (by decide) ?_
  refine s_Si (q := 7) (As := [.int a1, .int 0, .int 9]) (st := []) C (uX7_within l G hG V a1 0 9) ysX7_within mlX7_54 rfl rfl rfl rfl (gR_le (by decide) (by decide)) (Nat.le_of_ble_eq_true rfl) dX7_house_4 rfl (fun x1 V2 => ?_)
  refine s_if_ne (tgt := 16) (q := 10) C dX7_house_7 (by decide) rfl (fun c3 => ?_) (fun c3 => ?_)
  · refine s_aload_n (q := 11) C 0 dX7_house_10 rfl rfl rfl ?_
    refine s_iconst (q := 12) (v := 1) C dX7_house_11 rfl (by decide) ?_
    refine s_Vi (q := 15) (As := [.int 1]) (st := []) C (uX7_error l G hG V2 1) yvX7_error mlX7_58 (s70 hG) rfl rfl rfl rfl rfl rfl (gR_le (by decide) (by decide)) (Nat.le_of_ble_eq_true rfl) dX7_house_12 rfl (fun x13 V14 => ?_)
    exact s_iret C E dX7_house_15
  · refine s_aload_n (q := 17) C 0 dX7_house_16 rfl rfl rfl ?_
    refine geX7_0 (q := 20) C (s70 hG) flX7_10 dX7_house_17 rfl ?_
    refine geX6_8 (q := 23) C (qX7_0 hG (s70 hG)) flX7_62 dX7_house_20 rfl ?_
    refine s_iconst (q := 24) (v := 4) C dX7_house_23 rfl (by decide) ?_
    refine s_icmp_lt (tgt := 33) (q := 27) C dX7_house_24 (by decide) rfl (fun c4 => ?_) (fun c4 => ?_)
    · refine s_aload_n (q := 34) C 0 dX7_house_33 rfl rfl rfl ?_
      refine geX7_0 (q := 37) C (s70 hG) flX7_10 dX7_house_34 rfl ?_
      refine s_aload_n (q := 38) C 0 dX7_house_37 rfl rfl rfl ?_
      refine geX7_0 (q := 41) C (s70 hG) flX7_10 dX7_house_38 rfl ?_
      refine geX6_8 (q := 44) C (qX7_0 hG (s70 hG)) flX7_62 dX7_house_41 rfl ?_
      refine s_Vr (q := 47) (As := [.int (V2 (0 + 1) 8)]) (st := []) C (uX6_houseAt l G hG V2 (0 + 1) (V2 (0 + 1) 8) (qX7_0 hG (s70 hG))) yvX6_houseAt mlX7_66 (qX7_0 hG (s70 hG)) rfl rfl (fun t => G.2.2.1 t = kX1 t) (rX6_houseAt G hG V2 (0 + 1) (V2 (0 + 1) 8) (qX7_0 hG (s70 hG))) rfl rfl rfl rfl (gR_le (by decide) (by decide)) (Nat.le_of_ble_eq_true rfl) dX7_house_44 rfl (fun t5 V6 h7 => ?_)
      refine s_astore_n (q := 48) (L' := [(2, .ref (G.1 t5)), (0, .ref (G.1 0)), (1, .int a1)]) C dX7_house_47 rfl rfl (by decide) rfl ?_
      refine s_aload_n (q := 49) C 0 dX7_house_48 rfl rfl rfl ?_
      refine s_iconst (q := 50) (v := 1) C dX7_house_49 rfl (by decide) ?_
      refine peX1_0 (q := 53) C h7 flX7_70 dX7_house_50 rfl (fun V8 => ?_)
      refine s_aload_n (q := 54) C 0 dX7_house_53 rfl rfl rfl ?_
      refine s_iload_n (q := 55) C 2 dX7_house_54 rfl rfl rfl ?_
      refine peX1_1 (q := 58) C h7 flX7_75 dX7_house_55 rfl (fun V9 => ?_)
      refine s_aload_n (q := 59) C 1 dX7_house_58 rfl rfl rfl ?_
      refine geX7_0 (q := 62) C (s70 hG) flX7_10 dX7_house_59 rfl ?_
      refine s_dup (q := 63) C dX7_house_62 rfl rfl ?_
      refine geX6_8 (q := 66) C (qX7_0 hG (s70 hG)) flX7_62 dX7_house_63 rfl ?_
      refine s_iconst (q := 67) (v := 1) C dX7_house_66 rfl (by decide) ?_
      refine s_iadd (q := 68) C dX7_house_67 rfl ?_
      refine peX6_8 (q := 71) C (qX7_0 hG (s70 hG)) flX7_62 dX7_house_68 rfl (fun V10 => ?_)
      refine s_aload_n (q := 72) C 1 dX7_house_71 rfl rfl rfl ?_
      refine geX7_0 (q := 75) C (s70 hG) flX7_10 dX7_house_72 rfl ?_
      refine geX6_8 (q := 78) C (qX7_0 hG (s70 hG)) flX7_62 dX7_house_75 rfl ?_
      refine s_iconst (q := 79) (v := 1) C dX7_house_78 rfl (by decide) ?_
      refine s_isub (q := 80) C dX7_house_79 rfl ?_
      exact s_iret C E dX7_house_80
    · refine s_aload_n (q := 28) C 0 dX7_house_27 rfl rfl rfl ?_
      refine s_iconst (q := 29) (v := 4) C dX7_house_28 rfl (by decide) ?_
      refine s_Vi (q := 32) (As := [.int 4]) (st := []) C (uX7_error l G hG V2 4) yvX7_error mlX7_58 (s70 hG) rfl rfl rfl rfl rfl rfl (gR_le (by decide) (by decide)) (Nat.le_of_ble_eq_true rfl) dX7_house_29 rfl (fun x11 V12 => ?_)
      exact s_iret C E dX7_house_32
noncomputable def fX7_isHouse (V : gV) (a1 : Int32) : Option (Int32 × gV) := gbi (fX7_within V a1 0 ((V (0 + 1) 8) - 1)) fun (x1 : Int32) (V2 : gV) => gzb x1 (some (x1, V2))
set_option maxHeartbeats 4000000 in
set_option maxRecDepth 100000 in
theorem uX7_isHouse (l : Launch) (G : gG) (hG : gIsX G) (V : gV) (a1 : Int32) : gMi l G yX7_isHouse cX7_isHouse 2 Jvm.ClassFile.FieldType.boolean (gR 1 22) [.ref (G.1 0), .int a1] V (fX7_isHouse V a1) := by
  unfold fX7_isHouse
  refine gM_i (by decide +kernel) rfl rfl (Nat.le_of_ble_eq_true rfl) (fun X rr VV C E => ?_)
  change gC cX7_isHouse 2 RX7 G X at C
  change gSm l (gR 1 22) 2 G X _ (rr, VV) V 0 [(0, .ref (G.1 0)), (1, .int a1)] []
  refine s_iload_n (q := 1) C 1 dX7_isHouse_0 rfl rfl rfl ?_
  refine s_iconst (q := 2) (v := 0) C dX7_isHouse_1 rfl (by decide) ?_
  refine s_aload_n (q := 3) C 0 dX7_isHouse_2 rfl rfl rfl ?_
  refine geX7_0 (q := 6) C (s70 hG) flX7_10 dX7_isHouse_3 rfl ?_
  refine geX6_8 (q := 9) C (qX7_0 hG (s70 hG)) flX7_62 dX7_isHouse_6 rfl ?_
  refine s_iconst (q := 10) (v := 1) C dX7_isHouse_9 rfl (by decide) ?_
  refine s_isub (q := 11) C dX7_isHouse_10 rfl ?_
  refine s_Si (q := 14) (As := [.int a1, .int 0, .int ((V (0 + 1) 8) - 1)]) (st := []) C (uX7_within l G hG V a1 0 ((V (0 + 1) 8) - 1)) ysX7_within mlX7_54 rfl rfl rfl rfl (gR_le (by decide) (by decide)) (Nat.le_of_ble_eq_true rfl) dX7_isHouse_11 rfl (fun x1 V2 => ?_)
  exact s_zret2 C E dX7_isHouse_14
noncomputable def fX7_ofHouse (V : gV) (a1 : Int32) (a2 : Int32) : Option (Int32 × gV) := gbi (fX7_isHouse V a1) fun (x1 : Int32) (V2 : gV) => if x1 = 0 then (gbi (fX7_error V2 1) fun (x20 : Int32) (V21 : gV) => some (x20, V21)) else (if a2 = 0 then (gbr (fX6_houseAt V2 (0 + 1) a1) fun (t5 : Nat) (V6 : gV) => some ((V6 t5 0), V6)) else (if a2 = 1 then (gbr (fX6_houseAt V2 (0 + 1) a1) fun (t9 : Nat) (V10 : gV) => some ((V10 t9 1), V10)) else (if a2 = 2 then (gbi (fX6_cakesIn V2 (0 + 1) a1) fun (x13 : Int32) (V14 : gV) => some (x13, V14)) else (if a2 = 3 then (gbi (fX6_guestsIn V2 (0 + 1) a1) fun (x16 : Int32) (V17 : gV) => some (x16, V17)) else (gbi (fX7_error V2 1) fun (x18 : Int32) (V19 : gV) => some (x18, V19))))))
set_option maxHeartbeats 4000000 in
set_option maxRecDepth 100000 in
theorem uX7_ofHouse (l : Launch) (G : gG) (hG : gIsX G) (V : gV) (a1 : Int32) (a2 : Int32) : gMi l G yX7_ofHouse cX7_ofHouse 3 Jvm.ClassFile.FieldType.int (gR 4 87) [.ref (G.1 0), .int a1, .int a2] V (fX7_ofHouse V a1 a2) := by
  unfold fX7_ofHouse
  refine gM_i (by decide +kernel) rfl rfl (Nat.le_of_ble_eq_true rfl) (fun X rr VV C E => ?_)
  change gC cX7_ofHouse 3 RX7 G X at C
  change gSm l (gR 4 87) 3 G X _ (rr, VV) V 0 [(0, .ref (G.1 0)), (1, .int a1), (2, .int a2)] []
  refine s_aload_n (q := 1) C 0 dX7_ofHouse_0 rfl rfl rfl ?_
  refine s_iload_n (q := 2) C 1 dX7_ofHouse_1 rfl rfl rfl ?_
  refine s_Vi (q := 5) (As := [.int a1]) (st := []) C (uX7_isHouse l G hG V a1) yvX7_isHouse mlX7_78 (s70 hG) rfl rfl rfl rfl rfl rfl (gR_le (by decide) (by decide)) (Nat.le_of_ble_eq_true rfl) dX7_ofHouse_2 rfl (fun x1 V2 => ?_)
  refine s_if_ne (tgt := 14) (q := 8) C dX7_ofHouse_5 (by decide) rfl (fun c3 => ?_) (fun c3 => ?_)
  · refine s_aload_n (q := 9) C 0 dX7_ofHouse_8 rfl rfl rfl ?_
    refine s_iconst (q := 10) (v := 1) C dX7_ofHouse_9 rfl (by decide) ?_
    refine s_Vi (q := 13) (As := [.int 1]) (st := []) C (uX7_error l G hG V2 1) yvX7_error mlX7_58 (s70 hG) rfl rfl rfl rfl rfl rfl (gR_le (by decide) (by decide)) (Nat.le_of_ble_eq_true rfl) dX7_ofHouse_10 rfl (fun x20 V21 => ?_)
    exact s_iret C E dX7_ofHouse_13
  · refine s_iload_n (q := 15) C 2 dX7_ofHouse_14 rfl rfl rfl ?_
    refine s_case (fun c4 => ?_) (fun c4 => ?_)
    · refine s_tin (q := 44) (off := 29) (c := 0) C c4 dX7_ofHouse_15 (by decide) (by decide) (by decide) (by decide) ?_
      refine s_aload_n (q := 45) C 0 dX7_ofHouse_44 rfl rfl rfl ?_
      refine geX7_0 (q := 48) C (s70 hG) flX7_10 dX7_ofHouse_45 rfl ?_
      refine s_iload_n (q := 49) C 1 dX7_ofHouse_48 rfl rfl rfl ?_
      refine s_Vr (q := 52) (As := [.int a1]) (st := []) C (uX6_houseAt l G hG V2 (0 + 1) a1 (qX7_0 hG (s70 hG))) yvX6_houseAt mlX7_66 (qX7_0 hG (s70 hG)) rfl rfl (fun t => G.2.2.1 t = kX1 t) (rX6_houseAt G hG V2 (0 + 1) a1 (qX7_0 hG (s70 hG))) rfl rfl rfl rfl (gR_le (by decide) (by decide)) (Nat.le_of_ble_eq_true rfl) dX7_ofHouse_49 rfl (fun t5 V6 h7 => ?_)
      refine geX1_0 (q := 55) C h7 flX7_70 dX7_ofHouse_52 rfl ?_
      exact s_iret C E dX7_ofHouse_55
    · refine s_case (fun c8 => ?_) (fun c8 => ?_)
      · refine s_tin (q := 56) (off := 41) (c := 1) C c8 dX7_ofHouse_15 (by decide) (by decide) (by decide) (by decide) ?_
        refine s_aload_n (q := 57) C 0 dX7_ofHouse_56 rfl rfl rfl ?_
        refine geX7_0 (q := 60) C (s70 hG) flX7_10 dX7_ofHouse_57 rfl ?_
        refine s_iload_n (q := 61) C 1 dX7_ofHouse_60 rfl rfl rfl ?_
        refine s_Vr (q := 64) (As := [.int a1]) (st := []) C (uX6_houseAt l G hG V2 (0 + 1) a1 (qX7_0 hG (s70 hG))) yvX6_houseAt mlX7_66 (qX7_0 hG (s70 hG)) rfl rfl (fun t => G.2.2.1 t = kX1 t) (rX6_houseAt G hG V2 (0 + 1) a1 (qX7_0 hG (s70 hG))) rfl rfl rfl rfl (gR_le (by decide) (by decide)) (Nat.le_of_ble_eq_true rfl) dX7_ofHouse_61 rfl (fun t9 V10 h11 => ?_)
        refine geX1_1 (q := 67) C h11 flX7_75 dX7_ofHouse_64 rfl ?_
        exact s_iret C E dX7_ofHouse_67
      · refine s_case (fun c12 => ?_) (fun c12 => ?_)
        · refine s_tin (q := 68) (off := 53) (c := 2) C c12 dX7_ofHouse_15 (by decide) (by decide) (by decide) (by decide) ?_
          refine s_aload_n (q := 69) C 0 dX7_ofHouse_68 rfl rfl rfl ?_
          refine geX7_0 (q := 72) C (s70 hG) flX7_10 dX7_ofHouse_69 rfl ?_
          refine s_iload_n (q := 73) C 1 dX7_ofHouse_72 rfl rfl rfl ?_
          refine s_Vi (q := 76) (As := [.int a1]) (st := []) C (uX6_cakesIn l G hG V2 (0 + 1) a1 (qX7_0 hG (s70 hG))) yvX6_cakesIn mlX7_82 (qX7_0 hG (s70 hG)) rfl rfl rfl rfl rfl rfl (gR_le (by decide) (by decide)) (Nat.le_of_ble_eq_true rfl) dX7_ofHouse_73 rfl (fun x13 V14 => ?_)
          exact s_iret C E dX7_ofHouse_76
        · refine s_case (fun c15 => ?_) (fun c15 => ?_)
          · refine s_tin (q := 77) (off := 62) (c := 3) C c15 dX7_ofHouse_15 (by decide) (by decide) (by decide) (by decide) ?_
            refine s_aload_n (q := 78) C 0 dX7_ofHouse_77 rfl rfl rfl ?_
            refine geX7_0 (q := 81) C (s70 hG) flX7_10 dX7_ofHouse_78 rfl ?_
            refine s_iload_n (q := 82) C 1 dX7_ofHouse_81 rfl rfl rfl ?_
            refine s_Vi (q := 85) (As := [.int a1]) (st := []) C (uX6_guestsIn l G hG V2 (0 + 1) a1 (qX7_0 hG (s70 hG))) yvX6_guestsIn mlX7_85 (qX7_0 hG (s70 hG)) rfl rfl rfl rfl rfl rfl (gR_le (by decide) (by decide)) (Nat.le_of_ble_eq_true rfl) dX7_ofHouse_82 rfl (fun x16 V17 => ?_)
            exact s_iret C E dX7_ofHouse_85
          · refine s_tout (q := 86) C dX7_ofHouse_15 (by have zc4 := lv_neT (k := 0) (a := 0) c4 (by decide); have zc8 := lv_neT (k := 1) (a := 1) c8 (by decide); have zc12 := lv_neT (k := 2) (a := 2) c12 (by decide); have zc15 := lv_neT (k := 3) (a := 3) c15 (by decide); omega) (by decide) ?_
            refine s_aload_n (q := 87) C 0 dX7_ofHouse_86 rfl rfl rfl ?_
            refine s_iconst (q := 88) (v := 1) C dX7_ofHouse_87 rfl (by decide) ?_
            refine s_Vi (q := 91) (As := [.int 1]) (st := []) C (uX7_error l G hG V2 1) yvX7_error mlX7_58 (s70 hG) rfl rfl rfl rfl rfl rfl (gR_le (by decide) (by decide)) (Nat.le_of_ble_eq_true rfl) dX7_ofHouse_88 rfl (fun x18 V19 => ?_)
            exact s_iret C E dX7_ofHouse_91
noncomputable def fX7_change (V : gV) (a1 : Int32) (a2 : Int32) (a3 : Int32) : Option (Int32 × gV) := gbi (fX7_isHouse V a1) fun (x1 : Int32) (V2 : gV) => if x1 = 0 then (gbi (fX7_error V2 1) fun (x4 : Int32) (V5 : gV) => some (x4, V5)) else (gbi (fX7_within V2 a2 0 1) fun (x6 : Int32) (V7 : gV) => if x6 = 0 then (gbi (fX7_error V7 1) fun (x9 : Int32) (V10 : gV) => some (x9, V10)) else (gbi (fX7_within V7 a3 0 9) fun (x11 : Int32) (V12 : gV) => if x11 = 0 then (gbi (fX7_error V12 1) fun (x24 : Int32) (V25 : gV) => some (x24, V25)) else (gbr (fX6_houseAt V12 (0 + 1) a1) fun (t14 : Nat) (V15 : gV) => gjn (fun (x18 : Int32) => if a2 = 0 then (gpu V15 t14 0 a3 fun (V22 : gV) => some (x18, V22)) else (gpu V15 t14 1 a3 fun (V21 : gV) => some (x18, V21))) fun J19 => if a2 = 0 then (J19 (V15 t14 0)) else (J19 (V15 t14 1)))))
set_option maxHeartbeats 4000000 in
set_option maxRecDepth 100000 in
theorem uX7_change (l : Launch) (G : gG) (hG : gIsX G) (V : gV) (a1 : Int32) (a2 : Int32) (a3 : Int32) : gMi l G yX7_change cX7_change 6 Jvm.ClassFile.FieldType.int (gR 2 43) [.ref (G.1 0), .int a1, .int a2, .int a3] V (fX7_change V a1 a2 a3) := by
  unfold fX7_change
  refine gM_i (by decide +kernel) rfl rfl (Nat.le_of_ble_eq_true rfl) (fun X rr VV C E => ?_)
  change gC cX7_change 6 RX7 G X at C
  change gSm l (gR 2 43) 6 G X _ (rr, VV) V 0 [(0, .ref (G.1 0)), (1, .int a1), (2, .int a2), (3, .int a3)] []
  refine s_aload_n (q := 1) C 0 dX7_change_0 rfl rfl rfl ?_
  refine s_iload_n (q := 2) C 1 dX7_change_1 rfl rfl rfl ?_
  refine s_Vi (q := 5) (As := [.int a1]) (st := []) C (uX7_isHouse l G hG V a1) yvX7_isHouse mlX7_78 (s70 hG) rfl rfl rfl rfl rfl rfl (gR_le (by decide) (by decide)) (Nat.le_of_ble_eq_true rfl) dX7_change_2 rfl (fun x1 V2 => ?_)
  refine s_if_eq (tgt := 27) (q := 8) C dX7_change_5 (by decide) rfl (fun c3 => ?_) (fun c3 => ?_)
  · refine s_aload_n (q := 28) C 0 dX7_change_27 rfl rfl rfl ?_
    refine s_iconst (q := 29) (v := 1) C dX7_change_28 rfl (by decide) ?_
    refine s_Vi (q := 32) (As := [.int 1]) (st := []) C (uX7_error l G hG V2 1) yvX7_error mlX7_58 (s70 hG) rfl rfl rfl rfl rfl rfl (gR_le (by decide) (by decide)) (Nat.le_of_ble_eq_true rfl) dX7_change_29 rfl (fun x4 V5 => ?_)
    exact s_iret C E dX7_change_32
  · refine s_iload_n (q := 9) C 2 dX7_change_8 rfl rfl rfl ?_
    refine s_iconst (q := 10) (v := 0) C dX7_change_9 rfl (by decide) ?_
    refine s_iconst (q := 11) (v := 1) C dX7_change_10 rfl (by decide) ?_
    refine s_Si (q := 14) (As := [.int a2, .int 0, .int 1]) (st := []) C (uX7_within l G hG V2 a2 0 1) ysX7_within mlX7_54 rfl rfl rfl rfl (gR_le (by decide) (by decide)) (Nat.le_of_ble_eq_true rfl) dX7_change_11 rfl (fun x6 V7 => ?_)
    refine s_if_eq (tgt := 27) (q := 17) C dX7_change_14 (by decide) rfl (fun c8 => ?_) (fun c8 => ?_)
    · refine s_aload_n (q := 28) C 0 dX7_change_27 rfl rfl rfl ?_
      refine s_iconst (q := 29) (v := 1) C dX7_change_28 rfl (by decide) ?_
      refine s_Vi (q := 32) (As := [.int 1]) (st := []) C (uX7_error l G hG V7 1) yvX7_error mlX7_58 (s70 hG) rfl rfl rfl rfl rfl rfl (gR_le (by decide) (by decide)) (Nat.le_of_ble_eq_true rfl) dX7_change_29 rfl (fun x9 V10 => ?_)
      exact s_iret C E dX7_change_32
    · refine s_iload_n (q := 18) C 3 dX7_change_17 rfl rfl rfl ?_
      refine s_iconst (q := 19) (v := 0) C dX7_change_18 rfl (by decide) ?_
      refine s_bipush (q := 21) (v := 9) C dX7_change_19 rfl (by decide) ?_
      refine s_Si (q := 24) (As := [.int a3, .int 0, .int 9]) (st := []) C (uX7_within l G hG V7 a3 0 9) ysX7_within mlX7_54 rfl rfl rfl rfl (gR_le (by decide) (by decide)) (Nat.le_of_ble_eq_true rfl) dX7_change_21 rfl (fun x11 V12 => ?_)
      refine s_if_ne (tgt := 33) (q := 27) C dX7_change_24 (by decide) rfl (fun c13 => ?_) (fun c13 => ?_)
      · refine s_aload_n (q := 28) C 0 dX7_change_27 rfl rfl rfl ?_
        refine s_iconst (q := 29) (v := 1) C dX7_change_28 rfl (by decide) ?_
        refine s_Vi (q := 32) (As := [.int 1]) (st := []) C (uX7_error l G hG V12 1) yvX7_error mlX7_58 (s70 hG) rfl rfl rfl rfl rfl rfl (gR_le (by decide) (by decide)) (Nat.le_of_ble_eq_true rfl) dX7_change_29 rfl (fun x24 V25 => ?_)
        exact s_iret C E dX7_change_32
      · refine s_aload_n (q := 34) C 0 dX7_change_33 rfl rfl rfl ?_
        refine geX7_0 (q := 37) C (s70 hG) flX7_10 dX7_change_34 rfl ?_
        refine s_iload_n (q := 38) C 1 dX7_change_37 rfl rfl rfl ?_
        refine s_Vr (q := 41) (As := [.int a1]) (st := []) C (uX6_houseAt l G hG V12 (0 + 1) a1 (qX7_0 hG (s70 hG))) yvX6_houseAt mlX7_66 (qX7_0 hG (s70 hG)) rfl rfl (fun t => G.2.2.1 t = kX1 t) (rX6_houseAt G hG V12 (0 + 1) a1 (qX7_0 hG (s70 hG))) rfl rfl rfl rfl (gR_le (by decide) (by decide)) (Nat.le_of_ble_eq_true rfl) dX7_change_38 rfl (fun t14 V15 h16 => ?_)
        refine s_astore (q := 43) (L' := [(4, .ref (G.1 t14)), (0, .ref (G.1 0)), (1, .int a1), (2, .int a2), (3, .int a3)]) C dX7_change_41 rfl (by decide) rfl ?_
        refine s_iload_n (q := 44) C 3 dX7_change_43 rfl rfl rfl ?_
        refine s_jn (fun J19 => ∀ (x18 : Int32), gSm l (gR 2 43) 6 G X (J19 x18) (rr, VV) V15 60 [(2, .int a2), (3, .int a3), (4, .ref (G.1 t14))] [.int x18]) ?_ (fun J19 hJ19 => ?_)
        · intro x18
          refine s_istore (q := 62) (L' := [(5, .int x18), (2, .int a2), (3, .int a3), (4, .ref (G.1 t14))]) C dX7_change_60 rfl (by decide) rfl ?_
          refine s_iload_n (q := 63) C 1 dX7_change_62 rfl rfl rfl ?_
          refine s_if_ne (tgt := 75) (q := 66) C dX7_change_63 (by decide) rfl (fun c20 => ?_) (fun c20 => ?_)
          · refine s_aload (q := 68) C 3 dX7_change_66 rfl rfl ?_
            refine s_iload_n (q := 69) C 2 dX7_change_68 rfl rfl rfl ?_
            refine peX1_0 (q := 72) C h16 flX7_70 dX7_change_69 rfl (fun V22 => ?_)
            refine s_goto (q := 81) C dX7_change_72 (by decide) ?_
            refine s_iload (q := 83) C 0 dX7_change_81 rfl rfl ?_
            exact s_iret C E dX7_change_83
          · refine s_aload (q := 77) C 3 dX7_change_75 rfl rfl ?_
            refine s_iload_n (q := 78) C 2 dX7_change_77 rfl rfl rfl ?_
            refine peX1_1 (q := 81) C h16 flX7_75 dX7_change_78 rfl (fun V21 => ?_)
            refine s_iload (q := 83) C 0 dX7_change_81 rfl rfl ?_
            exact s_iret C E dX7_change_83
        · refine s_if_ne (tgt := 55) (q := 47) C dX7_change_44 (by decide) rfl (fun c23 => ?_) (fun c23 => ?_)
          · refine s_aload (q := 49) C 0 dX7_change_47 rfl rfl ?_
            refine geX1_0 (q := 52) C h16 flX7_70 dX7_change_49 rfl ?_
            refine s_goto (q := 60) C dX7_change_52 (by decide) ?_
            refine s_sub [3, 4, 0] rfl ?_
            exact hJ19 (V15 t14 0)
          · refine s_aload (q := 57) C 0 dX7_change_55 rfl rfl ?_
            refine geX1_1 (q := 60) C h16 flX7_75 dX7_change_57 rfl ?_
            refine s_sub [3, 4, 0] rfl ?_
            exact hJ19 (V15 t14 1)
noncomputable def fX7_isKindAndNumber (V : gV) (a0 : Int32) : Option (Int32 × gV) := gbi (fX7_within V a0 0 69) fun (x1 : Int32) (V2 : gV) => gzb x1 (some (x1, V2))
set_option maxHeartbeats 4000000 in
set_option maxRecDepth 100000 in
theorem uX7_isKindAndNumber (l : Launch) (G : gG) (hG : gIsX G) (V : gV) (a0 : Int32) : gMi l G yX7_isKindAndNumber cX7_isKindAndNumber 1 Jvm.ClassFile.FieldType.boolean (gR 1 22) [.int a0] V (fX7_isKindAndNumber V a0) := by
  unfold fX7_isKindAndNumber
  refine gM_i (by decide +kernel) rfl rfl (Nat.le_of_ble_eq_true rfl) (fun X rr VV C E => ?_)
  change gC cX7_isKindAndNumber 1 RX7 G X at C
  change gSm l (gR 1 22) 1 G X _ (rr, VV) V 0 [(0, .int a0)] []
  refine s_iload_n (q := 1) C 0 dX7_isKindAndNumber_0 rfl rfl rfl ?_
  refine s_iconst (q := 2) (v := 0) C dX7_isKindAndNumber_1 rfl (by decide) ?_
  refine s_bipush (q := 4) (v := 69) C dX7_isKindAndNumber_2 rfl (by decide) ?_
  refine s_Si (q := 7) (As := [.int a0, .int 0, .int 69]) (st := []) C (uX7_within l G hG V a0 0 69) ysX7_within mlX7_54 rfl rfl rfl rfl (gR_le (by decide) (by decide)) (Nat.le_of_ble_eq_true rfl) dX7_isKindAndNumber_4 rfl (fun x1 V2 => ?_)
  exact s_zret2 C E dX7_isKindAndNumber_7
noncomputable def fX7_cake (V : gV) (a1 : Int32) (a2 : Int32) : Option (Int32 × gV) := gbi (fX7_isKindAndNumber V a1) fun (x1 : Int32) (V2 : gV) => if x1 = 0 then (gbi (fX7_error V2 1) fun (x4 : Int32) (V5 : gV) => some (x4, V5)) else (gbi (fX7_isHouse V2 a2) fun (x6 : Int32) (V7 : gV) => if x6 = 0 then (gbi (fX7_error V7 1) fun (x18 : Int32) (V19 : gV) => some (x18, V19)) else (if (V7 (0 + 1) 9) < 6 then (gbr (fX6_cakeAt V7 (0 + 1) (V7 (0 + 1) 9)) fun (t10 : Nat) (V11 : gV) => gdv 10 <| gdv 10 <| gbv (fX0_makeNew V11 t10 (a1 / 10) (grm a1 10) a2) fun (V13 : gV) => gpu V13 (0 + 1) 9 ((V13 (0 + 1) 9) + 1) fun (V14 : gV) => gbv (fX6_measureCakes V14 (0 + 1)) fun (V15 : gV) => some (((V15 (0 + 1) 9) - 1), V15)) else (gbi (fX7_error V7 4) fun (x16 : Int32) (V17 : gV) => some (x16, V17))))
set_option maxHeartbeats 4000000 in
set_option maxRecDepth 100000 in
theorem uX7_cake (l : Launch) (G : gG) (hG : gIsX G) (V : gV) (a1 : Int32) (a2 : Int32) : gMi l G yX7_cake cX7_cake 4 Jvm.ClassFile.FieldType.int (gR 4 98) [.ref (G.1 0), .int a1, .int a2] V (fX7_cake V a1 a2) := by
  unfold fX7_cake
  refine gM_i (by decide +kernel) rfl rfl (Nat.le_of_ble_eq_true rfl) (fun X rr VV C E => ?_)
  change gC cX7_cake 4 RX7 G X at C
  change gSm l (gR 4 98) 4 G X _ (rr, VV) V 0 [(0, .ref (G.1 0)), (1, .int a1), (2, .int a2)] []
  refine s_iload_n (q := 1) C 1 dX7_cake_0 rfl rfl rfl ?_
  refine s_Si (q := 4) (As := [.int a1]) (st := []) C (uX7_isKindAndNumber l G hG V a1) ysX7_isKindAndNumber mlX7_88 rfl rfl rfl rfl (gR_le (by decide) (by decide)) (Nat.le_of_ble_eq_true rfl) dX7_cake_1 rfl (fun x1 V2 => ?_)
  refine s_if_eq (tgt := 15) (q := 7) C dX7_cake_4 (by decide) rfl (fun c3 => ?_) (fun c3 => ?_)
  · refine s_aload_n (q := 16) C 0 dX7_cake_15 rfl rfl rfl ?_
    refine s_iconst (q := 17) (v := 1) C dX7_cake_16 rfl (by decide) ?_
    refine s_Vi (q := 20) (As := [.int 1]) (st := []) C (uX7_error l G hG V2 1) yvX7_error mlX7_58 (s70 hG) rfl rfl rfl rfl rfl rfl (gR_le (by decide) (by decide)) (Nat.le_of_ble_eq_true rfl) dX7_cake_17 rfl (fun x4 V5 => ?_)
    exact s_iret C E dX7_cake_20
  · refine s_aload_n (q := 8) C 0 dX7_cake_7 rfl rfl rfl ?_
    refine s_iload_n (q := 9) C 2 dX7_cake_8 rfl rfl rfl ?_
    refine s_Vi (q := 12) (As := [.int a2]) (st := []) C (uX7_isHouse l G hG V2 a2) yvX7_isHouse mlX7_78 (s70 hG) rfl rfl rfl rfl rfl rfl (gR_le (by decide) (by decide)) (Nat.le_of_ble_eq_true rfl) dX7_cake_9 rfl (fun x6 V7 => ?_)
    refine s_if_ne (tgt := 21) (q := 15) C dX7_cake_12 (by decide) rfl (fun c8 => ?_) (fun c8 => ?_)
    · refine s_aload_n (q := 16) C 0 dX7_cake_15 rfl rfl rfl ?_
      refine s_iconst (q := 17) (v := 1) C dX7_cake_16 rfl (by decide) ?_
      refine s_Vi (q := 20) (As := [.int 1]) (st := []) C (uX7_error l G hG V7 1) yvX7_error mlX7_58 (s70 hG) rfl rfl rfl rfl rfl rfl (gR_le (by decide) (by decide)) (Nat.le_of_ble_eq_true rfl) dX7_cake_17 rfl (fun x18 V19 => ?_)
      exact s_iret C E dX7_cake_20
    · refine s_aload_n (q := 22) C 0 dX7_cake_21 rfl rfl rfl ?_
      refine geX7_0 (q := 25) C (s70 hG) flX7_10 dX7_cake_22 rfl ?_
      refine geX6_9 (q := 28) C (qX7_0 hG (s70 hG)) flX7_91 dX7_cake_25 rfl ?_
      refine s_bipush (q := 30) (v := 6) C dX7_cake_28 rfl (by decide) ?_
      refine s_icmp_lt (tgt := 39) (q := 33) C dX7_cake_30 (by decide) rfl (fun c9 => ?_) (fun c9 => ?_)
      · refine s_aload_n (q := 40) C 0 dX7_cake_39 rfl rfl rfl ?_
        refine geX7_0 (q := 43) C (s70 hG) flX7_10 dX7_cake_40 rfl ?_
        refine s_aload_n (q := 44) C 0 dX7_cake_43 rfl rfl rfl ?_
        refine geX7_0 (q := 47) C (s70 hG) flX7_10 dX7_cake_44 rfl ?_
        refine geX6_9 (q := 50) C (qX7_0 hG (s70 hG)) flX7_91 dX7_cake_47 rfl ?_
        refine s_Vr (q := 53) (As := [.int (V7 (0 + 1) 9)]) (st := []) C (uX6_cakeAt l G hG V7 (0 + 1) (V7 (0 + 1) 9) (qX7_0 hG (s70 hG))) yvX6_cakeAt mlX7_94 (qX7_0 hG (s70 hG)) rfl rfl (fun t => G.2.2.1 t = kX0 t) (rX6_cakeAt G hG V7 (0 + 1) (V7 (0 + 1) 9) (qX7_0 hG (s70 hG))) rfl rfl rfl rfl (gR_le (by decide) (by decide)) (Nat.le_of_ble_eq_true rfl) dX7_cake_50 rfl (fun t10 V11 h12 => ?_)
        refine s_astore_n (q := 54) (L' := [(3, .ref (G.1 t10)), (0, .ref (G.1 0)), (1, .int a1), (2, .int a2)]) C dX7_cake_53 rfl rfl (by decide) rfl ?_
        refine s_aload_n (q := 55) C 0 dX7_cake_54 rfl rfl rfl ?_
        refine s_iload_n (q := 56) C 2 dX7_cake_55 rfl rfl rfl ?_
        refine s_bipush (q := 58) (v := 10) C dX7_cake_56 rfl (by decide) ?_
        refine s_idiv (q := 59) C dX7_cake_58 rfl ?_
        refine s_iload_n (q := 60) C 2 dX7_cake_59 rfl rfl rfl ?_
        refine s_bipush (q := 62) (v := 10) C dX7_cake_60 rfl (by decide) ?_
        refine s_irem (q := 63) C dX7_cake_62 rfl ?_
        refine s_iload_n (q := 64) C 3 dX7_cake_63 rfl rfl rfl ?_
        refine s_Vv (q := 67) (As := [.int (a1 / 10), .int (grm a1 10), .int a2]) (st := []) C (uX0_makeNew l G hG V11 t10 (a1 / 10) (grm a1 10) a2 h12) yvX0_makeNew mlX7_98 h12 rfl rfl rfl rfl rfl rfl (gR_le (by decide) (by decide)) (Nat.le_of_ble_eq_true rfl) dX7_cake_64 rfl (fun V13 => ?_)
        refine s_aload_n (q := 68) C 1 dX7_cake_67 rfl rfl rfl ?_
        refine geX7_0 (q := 71) C (s70 hG) flX7_10 dX7_cake_68 rfl ?_
        refine s_dup (q := 72) C dX7_cake_71 rfl rfl ?_
        refine geX6_9 (q := 75) C (qX7_0 hG (s70 hG)) flX7_91 dX7_cake_72 rfl ?_
        refine s_iconst (q := 76) (v := 1) C dX7_cake_75 rfl (by decide) ?_
        refine s_iadd (q := 77) C dX7_cake_76 rfl ?_
        refine peX6_9 (q := 80) C (qX7_0 hG (s70 hG)) flX7_91 dX7_cake_77 rfl (fun V14 => ?_)
        refine s_aload_n (q := 81) C 1 dX7_cake_80 rfl rfl rfl ?_
        refine geX7_0 (q := 84) C (s70 hG) flX7_10 dX7_cake_81 rfl ?_
        refine s_Vv (q := 87) (As := []) (st := []) C (uX6_measureCakes l G hG V14 (0 + 1) (qX7_0 hG (s70 hG))) yvX6_measureCakes mlX7_104 (qX7_0 hG (s70 hG)) rfl rfl rfl rfl rfl rfl (gR_le (by decide) (by decide)) (Nat.le_of_ble_eq_true rfl) dX7_cake_84 rfl (fun V15 => ?_)
        refine s_aload_n (q := 88) C 1 dX7_cake_87 rfl rfl rfl ?_
        refine geX7_0 (q := 91) C (s70 hG) flX7_10 dX7_cake_88 rfl ?_
        refine geX6_9 (q := 94) C (qX7_0 hG (s70 hG)) flX7_91 dX7_cake_91 rfl ?_
        refine s_iconst (q := 95) (v := 1) C dX7_cake_94 rfl (by decide) ?_
        refine s_isub (q := 96) C dX7_cake_95 rfl ?_
        exact s_iret C E dX7_cake_96
      · refine s_aload_n (q := 34) C 0 dX7_cake_33 rfl rfl rfl ?_
        refine s_iconst (q := 35) (v := 4) C dX7_cake_34 rfl (by decide) ?_
        refine s_Vi (q := 38) (As := [.int 4]) (st := []) C (uX7_error l G hG V7 4) yvX7_error mlX7_58 (s70 hG) rfl rfl rfl rfl rfl rfl (gR_le (by decide) (by decide)) (Nat.le_of_ble_eq_true rfl) dX7_cake_35 rfl (fun x16 V17 => ?_)
        exact s_iret C E dX7_cake_38
noncomputable def fX7_isCake (V : gV) (a1 : Int32) : Option (Int32 × gV) := gbi (fX7_within V a1 0 ((V (0 + 1) 9) - 1)) fun (x1 : Int32) (V2 : gV) => gzb x1 (some (x1, V2))
set_option maxHeartbeats 4000000 in
set_option maxRecDepth 100000 in
theorem uX7_isCake (l : Launch) (G : gG) (hG : gIsX G) (V : gV) (a1 : Int32) : gMi l G yX7_isCake cX7_isCake 2 Jvm.ClassFile.FieldType.boolean (gR 1 22) [.ref (G.1 0), .int a1] V (fX7_isCake V a1) := by
  unfold fX7_isCake
  refine gM_i (by decide +kernel) rfl rfl (Nat.le_of_ble_eq_true rfl) (fun X rr VV C E => ?_)
  change gC cX7_isCake 2 RX7 G X at C
  change gSm l (gR 1 22) 2 G X _ (rr, VV) V 0 [(0, .ref (G.1 0)), (1, .int a1)] []
  refine s_iload_n (q := 1) C 1 dX7_isCake_0 rfl rfl rfl ?_
  refine s_iconst (q := 2) (v := 0) C dX7_isCake_1 rfl (by decide) ?_
  refine s_aload_n (q := 3) C 0 dX7_isCake_2 rfl rfl rfl ?_
  refine geX7_0 (q := 6) C (s70 hG) flX7_10 dX7_isCake_3 rfl ?_
  refine geX6_9 (q := 9) C (qX7_0 hG (s70 hG)) flX7_91 dX7_isCake_6 rfl ?_
  refine s_iconst (q := 10) (v := 1) C dX7_isCake_9 rfl (by decide) ?_
  refine s_isub (q := 11) C dX7_isCake_10 rfl ?_
  refine s_Si (q := 14) (As := [.int a1, .int 0, .int ((V (0 + 1) 9) - 1)]) (st := []) C (uX7_within l G hG V a1 0 ((V (0 + 1) 9) - 1)) ysX7_within mlX7_54 rfl rfl rfl rfl (gR_le (by decide) (by decide)) (Nat.le_of_ble_eq_true rfl) dX7_isCake_11 rfl (fun x1 V2 => ?_)
  exact s_zret2 C E dX7_isCake_14
noncomputable def fX7_ofCake (V : gV) (a1 : Int32) (a2 : Int32) : Option (Int32 × gV) := gbi (fX7_isCake V a1) fun (x1 : Int32) (V2 : gV) => if x1 = 0 then (gbi (fX7_error V2 1) fun (x28 : Int32) (V29 : gV) => some (x28, V29)) else (gbr (fX6_cakeAt V2 (0 + 1) a1) fun (t4 : Nat) (V5 : gV) => if a2 = 0 then (some ((V5 t4 1), V5)) else (if a2 = 1 then (some ((V5 t4 2), V5)) else (if a2 = 2 then (some ((V5 t4 3), V5)) else (if a2 = 3 then (some ((V5 t4 4), V5)) else (if a2 = 4 then (some ((V5 t4 5), V5)) else (if a2 = 5 then (some ((V5 t4 6), V5)) else (if a2 = 6 then (gbi (fX0_shown V5 t4) fun (x14 : Int32) (V15 : gV) => some (x14, V15)) else (if a2 = 7 then (gbi (fX0_isGone V5 t4) fun (x17 : Int32) (V18 : gV) => if x17 = 0 then (some (0, V18)) else (some (1, V18))) else (if a2 = 8 then (gbi (fX0_isGone V5 t4) fun (x21 : Int32) (V22 : gV) => if x21 = 0 then (gbi (fX6_wearOf V22 (0 + 1) t4) fun (x24 : Int32) (V25 : gV) => some (x24, V25)) else (some (0, V22))) else (gbi (fX7_error V5 1) fun (x26 : Int32) (V27 : gV) => some (x26, V27)))))))))))
set_option maxHeartbeats 4000000 in
set_option maxRecDepth 100000 in
theorem uX7_ofCake (l : Launch) (G : gG) (hG : gIsX G) (V : gV) (a1 : Int32) (a2 : Int32) : gMi l G yX7_ofCake cX7_ofCake 4 Jvm.ClassFile.FieldType.int (gR 4 98) [.ref (G.1 0), .int a1, .int a2] V (fX7_ofCake V a1 a2) := by
  unfold fX7_ofCake
  refine gM_i (by decide +kernel) rfl rfl (Nat.le_of_ble_eq_true rfl) (fun X rr VV C E => ?_)
  change gC cX7_ofCake 4 RX7 G X at C
  change gSm l (gR 4 98) 4 G X _ (rr, VV) V 0 [(0, .ref (G.1 0)), (1, .int a1), (2, .int a2)] []
  refine s_aload_n (q := 1) C 0 dX7_ofCake_0 rfl rfl rfl ?_
  refine s_iload_n (q := 2) C 1 dX7_ofCake_1 rfl rfl rfl ?_
  refine s_Vi (q := 5) (As := [.int a1]) (st := []) C (uX7_isCake l G hG V a1) yvX7_isCake mlX7_107 (s70 hG) rfl rfl rfl rfl rfl rfl (gR_le (by decide) (by decide)) (Nat.le_of_ble_eq_true rfl) dX7_ofCake_2 rfl (fun x1 V2 => ?_)
  refine s_if_ne (tgt := 14) (q := 8) C dX7_ofCake_5 (by decide) rfl (fun c3 => ?_) (fun c3 => ?_)
  · refine s_aload_n (q := 9) C 0 dX7_ofCake_8 rfl rfl rfl ?_
    refine s_iconst (q := 10) (v := 1) C dX7_ofCake_9 rfl (by decide) ?_
    refine s_Vi (q := 13) (As := [.int 1]) (st := []) C (uX7_error l G hG V2 1) yvX7_error mlX7_58 (s70 hG) rfl rfl rfl rfl rfl rfl (gR_le (by decide) (by decide)) (Nat.le_of_ble_eq_true rfl) dX7_ofCake_10 rfl (fun x28 V29 => ?_)
    exact s_iret C E dX7_ofCake_13
  · refine s_aload_n (q := 15) C 0 dX7_ofCake_14 rfl rfl rfl ?_
    refine geX7_0 (q := 18) C (s70 hG) flX7_10 dX7_ofCake_15 rfl ?_
    refine s_iload_n (q := 19) C 1 dX7_ofCake_18 rfl rfl rfl ?_
    refine s_Vr (q := 22) (As := [.int a1]) (st := []) C (uX6_cakeAt l G hG V2 (0 + 1) a1 (qX7_0 hG (s70 hG))) yvX6_cakeAt mlX7_94 (qX7_0 hG (s70 hG)) rfl rfl (fun t => G.2.2.1 t = kX0 t) (rX6_cakeAt G hG V2 (0 + 1) a1 (qX7_0 hG (s70 hG))) rfl rfl rfl rfl (gR_le (by decide) (by decide)) (Nat.le_of_ble_eq_true rfl) dX7_ofCake_19 rfl (fun t4 V5 h6 => ?_)
    refine s_astore_n (q := 23) (L' := [(3, .ref (G.1 t4)), (0, .ref (G.1 0)), (1, .int a1), (2, .int a2)]) C dX7_ofCake_22 rfl rfl (by decide) rfl ?_
    refine s_iload_n (q := 24) C 3 dX7_ofCake_23 rfl rfl rfl ?_
    refine s_case (fun c7 => ?_) (fun c7 => ?_)
    · refine s_tin (q := 76) (off := 52) (c := 0) C c7 dX7_ofCake_24 (by decide) (by decide) (by decide) (by decide) ?_
      refine s_aload_n (q := 77) C 0 dX7_ofCake_76 rfl rfl rfl ?_
      refine geX0_1 (q := 80) C h6 flX7_110 dX7_ofCake_77 rfl ?_
      exact s_iret C E dX7_ofCake_80
    · refine s_case (fun c8 => ?_) (fun c8 => ?_)
      · refine s_tin (q := 81) (off := 57) (c := 1) C c8 dX7_ofCake_24 (by decide) (by decide) (by decide) (by decide) ?_
        refine s_aload_n (q := 82) C 0 dX7_ofCake_81 rfl rfl rfl ?_
        refine geX0_2 (q := 85) C h6 flX7_113 dX7_ofCake_82 rfl ?_
        exact s_iret C E dX7_ofCake_85
      · refine s_case (fun c9 => ?_) (fun c9 => ?_)
        · refine s_tin (q := 86) (off := 62) (c := 2) C c9 dX7_ofCake_24 (by decide) (by decide) (by decide) (by decide) ?_
          refine s_aload_n (q := 87) C 0 dX7_ofCake_86 rfl rfl rfl ?_
          refine geX0_3 (q := 90) C h6 flX7_116 dX7_ofCake_87 rfl ?_
          exact s_iret C E dX7_ofCake_90
        · refine s_case (fun c10 => ?_) (fun c10 => ?_)
          · refine s_tin (q := 91) (off := 67) (c := 3) C c10 dX7_ofCake_24 (by decide) (by decide) (by decide) (by decide) ?_
            refine s_aload_n (q := 92) C 0 dX7_ofCake_91 rfl rfl rfl ?_
            refine geX0_4 (q := 95) C h6 flX7_119 dX7_ofCake_92 rfl ?_
            exact s_iret C E dX7_ofCake_95
          · refine s_case (fun c11 => ?_) (fun c11 => ?_)
            · refine s_tin (q := 96) (off := 72) (c := 4) C c11 dX7_ofCake_24 (by decide) (by decide) (by decide) (by decide) ?_
              refine s_aload_n (q := 97) C 0 dX7_ofCake_96 rfl rfl rfl ?_
              refine geX0_5 (q := 100) C h6 flX7_122 dX7_ofCake_97 rfl ?_
              exact s_iret C E dX7_ofCake_100
            · refine s_case (fun c12 => ?_) (fun c12 => ?_)
              · refine s_tin (q := 101) (off := 77) (c := 5) C c12 dX7_ofCake_24 (by decide) (by decide) (by decide) (by decide) ?_
                refine s_aload_n (q := 102) C 0 dX7_ofCake_101 rfl rfl rfl ?_
                refine geX0_6 (q := 105) C h6 flX7_125 dX7_ofCake_102 rfl ?_
                exact s_iret C E dX7_ofCake_105
              · refine s_case (fun c13 => ?_) (fun c13 => ?_)
                · refine s_tin (q := 106) (off := 82) (c := 6) C c13 dX7_ofCake_24 (by decide) (by decide) (by decide) (by decide) ?_
                  refine s_aload_n (q := 107) C 0 dX7_ofCake_106 rfl rfl rfl ?_
                  refine s_Vi (q := 110) (As := []) (st := []) C (uX0_shown l G hG V5 t4 h6) yvX0_shown mlX7_128 h6 rfl rfl rfl rfl rfl rfl (gR_le (by decide) (by decide)) (Nat.le_of_ble_eq_true rfl) dX7_ofCake_107 rfl (fun x14 V15 => ?_)
                  exact s_iret C E dX7_ofCake_110
                · refine s_case (fun c16 => ?_) (fun c16 => ?_)
                  · refine s_tin (q := 111) (off := 87) (c := 7) C c16 dX7_ofCake_24 (by decide) (by decide) (by decide) (by decide) ?_
                    refine s_aload_n (q := 112) C 0 dX7_ofCake_111 rfl rfl rfl ?_
                    refine s_Vi (q := 115) (As := []) (st := []) C (uX0_isGone l G hG V5 t4 h6) yvX0_isGone mlX7_132 h6 rfl rfl rfl rfl rfl rfl (gR_le (by decide) (by decide)) (Nat.le_of_ble_eq_true rfl) dX7_ofCake_112 rfl (fun x17 V18 => ?_)
                    refine s_if_eq (tgt := 122) (q := 118) C dX7_ofCake_115 (by decide) rfl (fun c19 => ?_) (fun c19 => ?_)
                    · refine s_iconst (q := 123) (v := 0) C dX7_ofCake_122 rfl (by decide) ?_
                      exact s_iret C E dX7_ofCake_123
                    · refine s_iconst (q := 119) (v := 1) C dX7_ofCake_118 rfl (by decide) ?_
                      refine s_goto (q := 123) C dX7_ofCake_119 (by decide) ?_
                      exact s_iret C E dX7_ofCake_123
                  · refine s_case (fun c20 => ?_) (fun c20 => ?_)
                    · refine s_tin (q := 124) (off := 100) (c := 8) C c20 dX7_ofCake_24 (by decide) (by decide) (by decide) (by decide) ?_
                      refine s_aload_n (q := 125) C 0 dX7_ofCake_124 rfl rfl rfl ?_
                      refine s_Vi (q := 128) (As := []) (st := []) C (uX0_isGone l G hG V5 t4 h6) yvX0_isGone mlX7_132 h6 rfl rfl rfl rfl rfl rfl (gR_le (by decide) (by decide)) (Nat.le_of_ble_eq_true rfl) dX7_ofCake_125 rfl (fun x21 V22 => ?_)
                      refine s_if_eq (tgt := 135) (q := 131) C dX7_ofCake_128 (by decide) rfl (fun c23 => ?_) (fun c23 => ?_)
                      · refine s_aload_n (q := 136) C 1 dX7_ofCake_135 rfl rfl rfl ?_
                        refine geX7_0 (q := 139) C (s70 hG) flX7_10 dX7_ofCake_136 rfl ?_
                        refine s_aload_n (q := 140) C 0 dX7_ofCake_139 rfl rfl rfl ?_
                        refine s_Vi (q := 143) (As := [.ref (G.1 t4)]) (st := []) C (uX6_wearOf l G hG V22 (0 + 1) t4 (qX7_0 hG (s70 hG)) h6) yvX6_wearOf mlX7_136 (qX7_0 hG (s70 hG)) rfl rfl rfl rfl rfl rfl (gR_le (by decide) (by decide)) (Nat.le_of_ble_eq_true rfl) dX7_ofCake_140 rfl (fun x24 V25 => ?_)
                        exact s_iret C E dX7_ofCake_143
                      · refine s_iconst (q := 132) (v := 0) C dX7_ofCake_131 rfl (by decide) ?_
                        refine s_goto (q := 143) C dX7_ofCake_132 (by decide) ?_
                        exact s_iret C E dX7_ofCake_143
                    · refine s_tout (q := 144) C dX7_ofCake_24 (by have zc7 := lv_neT (k := 0) (a := 0) c7 (by decide); have zc8 := lv_neT (k := 1) (a := 1) c8 (by decide); have zc9 := lv_neT (k := 2) (a := 2) c9 (by decide); have zc10 := lv_neT (k := 3) (a := 3) c10 (by decide); have zc11 := lv_neT (k := 4) (a := 4) c11 (by decide); have zc12 := lv_neT (k := 5) (a := 5) c12 (by decide); have zc13 := lv_neT (k := 6) (a := 6) c13 (by decide); have zc16 := lv_neT (k := 7) (a := 7) c16 (by decide); have zc20 := lv_neT (k := 8) (a := 8) c20 (by decide); omega) (by decide) ?_
                      refine s_aload_n (q := 145) C 1 dX7_ofCake_144 rfl rfl rfl ?_
                      refine s_iconst (q := 146) (v := 1) C dX7_ofCake_145 rfl (by decide) ?_
                      refine s_Vi (q := 149) (As := [.int 1]) (st := []) C (uX7_error l G hG V5 1) yvX7_error mlX7_58 (s70 hG) rfl rfl rfl rfl rfl rfl (gR_le (by decide) (by decide)) (Nat.le_of_ble_eq_true rfl) dX7_ofCake_146 rfl (fun x26 V27 => ?_)
                      exact s_iret C E dX7_ofCake_149
noncomputable def fX7_isGuestOrNobody (V : gV) (a0 : Int32) : Option (Int32 × gV) := gbi (fX7_within V a0 (-1) 9) fun (x1 : Int32) (V2 : gV) => gzb x1 (some (x1, V2))
set_option maxHeartbeats 4000000 in
set_option maxRecDepth 100000 in
theorem uX7_isGuestOrNobody (l : Launch) (G : gG) (hG : gIsX G) (V : gV) (a0 : Int32) : gMi l G yX7_isGuestOrNobody cX7_isGuestOrNobody 1 Jvm.ClassFile.FieldType.boolean (gR 1 22) [.int a0] V (fX7_isGuestOrNobody V a0) := by
  unfold fX7_isGuestOrNobody
  refine gM_i (by decide +kernel) rfl rfl (Nat.le_of_ble_eq_true rfl) (fun X rr VV C E => ?_)
  change gC cX7_isGuestOrNobody 1 RX7 G X at C
  change gSm l (gR 1 22) 1 G X _ (rr, VV) V 0 [(0, .int a0)] []
  refine s_iload_n (q := 1) C 0 dX7_isGuestOrNobody_0 rfl rfl rfl ?_
  refine s_iconst (q := 2) (v := (-1)) C dX7_isGuestOrNobody_1 rfl (by decide) ?_
  refine s_bipush (q := 4) (v := 9) C dX7_isGuestOrNobody_2 rfl (by decide) ?_
  refine s_Si (q := 7) (As := [.int a0, .int (-1), .int 9]) (st := []) C (uX7_within l G hG V a0 (-1) 9) ysX7_within mlX7_54 rfl rfl rfl rfl (gR_le (by decide) (by decide)) (Nat.le_of_ble_eq_true rfl) dX7_isGuestOrNobody_4 rfl (fun x1 V2 => ?_)
  exact s_zret2 C E dX7_isGuestOrNobody_7
noncomputable def fX7_layer (V : gV) (a1 : Int32) (a2 : Int32) : Option (Int32 × gV) := gbi (fX7_isCake V a1) fun (x1 : Int32) (V2 : gV) => if x1 = 0 then (gbi (fX7_error V2 1) fun (x4 : Int32) (V5 : gV) => some (x4, V5)) else (gbi (fX7_isGuestOrNobody V2 a2) fun (x6 : Int32) (V7 : gV) => if x6 = 0 then (gbi (fX7_error V7 1) fun (x17 : Int32) (V18 : gV) => some (x17, V18)) else (gbr (fX6_cakeAt V7 (0 + 1) a1) fun (t9 : Nat) (V10 : gV) => if (V10 t9 4) < 8 then (gbv (fX0_addLayer V10 t9 a2) fun (V13 : gV) => gbv (fX6_measureCakes V13 (0 + 1)) fun (V14 : gV) => some ((V14 t9 4), V14)) else (gbi (fX7_error V10 4) fun (x15 : Int32) (V16 : gV) => some (x15, V16))))
set_option maxHeartbeats 4000000 in
set_option maxRecDepth 100000 in
theorem uX7_layer (l : Launch) (G : gG) (hG : gIsX G) (V : gV) (a1 : Int32) (a2 : Int32) : gMi l G yX7_layer cX7_layer 4 Jvm.ClassFile.FieldType.int (gR 4 98) [.ref (G.1 0), .int a1, .int a2] V (fX7_layer V a1 a2) := by
  unfold fX7_layer
  refine gM_i (by decide +kernel) rfl rfl (Nat.le_of_ble_eq_true rfl) (fun X rr VV C E => ?_)
  change gC cX7_layer 4 RX7 G X at C
  change gSm l (gR 4 98) 4 G X _ (rr, VV) V 0 [(0, .ref (G.1 0)), (1, .int a1), (2, .int a2)] []
  refine s_aload_n (q := 1) C 0 dX7_layer_0 rfl rfl rfl ?_
  refine s_iload_n (q := 2) C 1 dX7_layer_1 rfl rfl rfl ?_
  refine s_Vi (q := 5) (As := [.int a1]) (st := []) C (uX7_isCake l G hG V a1) yvX7_isCake mlX7_107 (s70 hG) rfl rfl rfl rfl rfl rfl (gR_le (by decide) (by decide)) (Nat.le_of_ble_eq_true rfl) dX7_layer_2 rfl (fun x1 V2 => ?_)
  refine s_if_eq (tgt := 15) (q := 8) C dX7_layer_5 (by decide) rfl (fun c3 => ?_) (fun c3 => ?_)
  · refine s_aload_n (q := 16) C 0 dX7_layer_15 rfl rfl rfl ?_
    refine s_iconst (q := 17) (v := 1) C dX7_layer_16 rfl (by decide) ?_
    refine s_Vi (q := 20) (As := [.int 1]) (st := []) C (uX7_error l G hG V2 1) yvX7_error mlX7_58 (s70 hG) rfl rfl rfl rfl rfl rfl (gR_le (by decide) (by decide)) (Nat.le_of_ble_eq_true rfl) dX7_layer_17 rfl (fun x4 V5 => ?_)
    exact s_iret C E dX7_layer_20
  · refine s_iload_n (q := 9) C 2 dX7_layer_8 rfl rfl rfl ?_
    refine s_Si (q := 12) (As := [.int a2]) (st := []) C (uX7_isGuestOrNobody l G hG V2 a2) ysX7_isGuestOrNobody mlX7_140 rfl rfl rfl rfl (gR_le (by decide) (by decide)) (Nat.le_of_ble_eq_true rfl) dX7_layer_9 rfl (fun x6 V7 => ?_)
    refine s_if_ne (tgt := 21) (q := 15) C dX7_layer_12 (by decide) rfl (fun c8 => ?_) (fun c8 => ?_)
    · refine s_aload_n (q := 16) C 0 dX7_layer_15 rfl rfl rfl ?_
      refine s_iconst (q := 17) (v := 1) C dX7_layer_16 rfl (by decide) ?_
      refine s_Vi (q := 20) (As := [.int 1]) (st := []) C (uX7_error l G hG V7 1) yvX7_error mlX7_58 (s70 hG) rfl rfl rfl rfl rfl rfl (gR_le (by decide) (by decide)) (Nat.le_of_ble_eq_true rfl) dX7_layer_17 rfl (fun x17 V18 => ?_)
      exact s_iret C E dX7_layer_20
    · refine s_aload_n (q := 22) C 0 dX7_layer_21 rfl rfl rfl ?_
      refine geX7_0 (q := 25) C (s70 hG) flX7_10 dX7_layer_22 rfl ?_
      refine s_iload_n (q := 26) C 1 dX7_layer_25 rfl rfl rfl ?_
      refine s_Vr (q := 29) (As := [.int a1]) (st := []) C (uX6_cakeAt l G hG V7 (0 + 1) a1 (qX7_0 hG (s70 hG))) yvX6_cakeAt mlX7_94 (qX7_0 hG (s70 hG)) rfl rfl (fun t => G.2.2.1 t = kX0 t) (rX6_cakeAt G hG V7 (0 + 1) a1 (qX7_0 hG (s70 hG))) rfl rfl rfl rfl (gR_le (by decide) (by decide)) (Nat.le_of_ble_eq_true rfl) dX7_layer_26 rfl (fun t9 V10 h11 => ?_)
      refine s_astore_n (q := 30) (L' := [(3, .ref (G.1 t9)), (0, .ref (G.1 0)), (1, .int a1), (2, .int a2)]) C dX7_layer_29 rfl rfl (by decide) rfl ?_
      refine s_aload_n (q := 31) C 0 dX7_layer_30 rfl rfl rfl ?_
      refine geX0_4 (q := 34) C h11 flX7_119 dX7_layer_31 rfl ?_
      refine s_bipush (q := 36) (v := 8) C dX7_layer_34 rfl (by decide) ?_
      refine s_icmp_lt (tgt := 45) (q := 39) C dX7_layer_36 (by decide) rfl (fun c12 => ?_) (fun c12 => ?_)
      · refine s_aload_n (q := 46) C 0 dX7_layer_45 rfl rfl rfl ?_
        refine s_iload_n (q := 47) C 3 dX7_layer_46 rfl rfl rfl ?_
        refine s_Vv (q := 50) (As := [.int a2]) (st := []) C (uX0_addLayer l G hG V10 t9 a2 h11) yvX0_addLayer mlX7_143 h11 rfl rfl rfl rfl rfl rfl (gR_le (by decide) (by decide)) (Nat.le_of_ble_eq_true rfl) dX7_layer_47 rfl (fun V13 => ?_)
        refine s_aload_n (q := 51) C 1 dX7_layer_50 rfl rfl rfl ?_
        refine geX7_0 (q := 54) C (s70 hG) flX7_10 dX7_layer_51 rfl ?_
        refine s_Vv (q := 57) (As := []) (st := []) C (uX6_measureCakes l G hG V13 (0 + 1) (qX7_0 hG (s70 hG))) yvX6_measureCakes mlX7_104 (qX7_0 hG (s70 hG)) rfl rfl rfl rfl rfl rfl (gR_le (by decide) (by decide)) (Nat.le_of_ble_eq_true rfl) dX7_layer_54 rfl (fun V14 => ?_)
        refine s_aload_n (q := 58) C 0 dX7_layer_57 rfl rfl rfl ?_
        refine geX0_4 (q := 61) C h11 flX7_119 dX7_layer_58 rfl ?_
        exact s_iret C E dX7_layer_61
      · refine s_aload_n (q := 40) C 1 dX7_layer_39 rfl rfl rfl ?_
        refine s_iconst (q := 41) (v := 4) C dX7_layer_40 rfl (by decide) ?_
        refine s_Vi (q := 44) (As := [.int 4]) (st := []) C (uX7_error l G hG V10 4) yvX7_error mlX7_58 (s70 hG) rfl rfl rfl rfl rfl rfl (gR_le (by decide) (by decide)) (Nat.le_of_ble_eq_true rfl) dX7_layer_41 rfl (fun x15 V16 => ?_)
        exact s_iret C E dX7_layer_44
noncomputable def fX7_named (V : gV) (a1 : Int32) (a2 : Int32) : Option (Int32 × gV) := gbi (fX7_isCake V a1) fun (x1 : Int32) (V2 : gV) => if x1 = 0 then (gbi (fX7_error V2 1) fun (x4 : Int32) (V5 : gV) => some (x4, V5)) else (gbr (fX6_cakeAt V2 (0 + 1) a1) fun (t6 : Nat) (V7 : gV) => gbi (fX7_within V7 a2 0 ((V7 t6 4) - 1)) fun (x9 : Int32) (V10 : gV) => if x9 = 0 then (gbi (fX7_error V10 1) fun (x17 : Int32) (V18 : gV) => some (x17, V18)) else (gbr (fX6_cakeAt V10 (0 + 1) a1) fun (t12 : Nat) (V13 : gV) => gbi (fX0_nameOf V13 t12 a2) fun (x15 : Int32) (V16 : gV) => some (x15, V16)))
set_option maxHeartbeats 4000000 in
set_option maxRecDepth 100000 in
theorem uX7_named (l : Launch) (G : gG) (hG : gIsX G) (V : gV) (a1 : Int32) (a2 : Int32) : gMi l G yX7_named cX7_named 3 Jvm.ClassFile.FieldType.int (gR 2 43) [.ref (G.1 0), .int a1, .int a2] V (fX7_named V a1 a2) := by
  unfold fX7_named
  refine gM_i (by decide +kernel) rfl rfl (Nat.le_of_ble_eq_true rfl) (fun X rr VV C E => ?_)
  change gC cX7_named 3 RX7 G X at C
  change gSm l (gR 2 43) 3 G X _ (rr, VV) V 0 [(0, .ref (G.1 0)), (1, .int a1), (2, .int a2)] []
  refine s_aload_n (q := 1) C 0 dX7_named_0 rfl rfl rfl ?_
  refine s_iload_n (q := 2) C 1 dX7_named_1 rfl rfl rfl ?_
  refine s_Vi (q := 5) (As := [.int a1]) (st := []) C (uX7_isCake l G hG V a1) yvX7_isCake mlX7_107 (s70 hG) rfl rfl rfl rfl rfl rfl (gR_le (by decide) (by decide)) (Nat.le_of_ble_eq_true rfl) dX7_named_2 rfl (fun x1 V2 => ?_)
  refine s_if_eq (tgt := 29) (q := 8) C dX7_named_5 (by decide) rfl (fun c3 => ?_) (fun c3 => ?_)
  · refine s_aload_n (q := 30) C 0 dX7_named_29 rfl rfl rfl ?_
    refine s_iconst (q := 31) (v := 1) C dX7_named_30 rfl (by decide) ?_
    refine s_Vi (q := 34) (As := [.int 1]) (st := []) C (uX7_error l G hG V2 1) yvX7_error mlX7_58 (s70 hG) rfl rfl rfl rfl rfl rfl (gR_le (by decide) (by decide)) (Nat.le_of_ble_eq_true rfl) dX7_named_31 rfl (fun x4 V5 => ?_)
    exact s_iret C E dX7_named_34
  · refine s_iload_n (q := 9) C 2 dX7_named_8 rfl rfl rfl ?_
    refine s_iconst (q := 10) (v := 0) C dX7_named_9 rfl (by decide) ?_
    refine s_aload_n (q := 11) C 0 dX7_named_10 rfl rfl rfl ?_
    refine geX7_0 (q := 14) C (s70 hG) flX7_10 dX7_named_11 rfl ?_
    refine s_iload_n (q := 15) C 1 dX7_named_14 rfl rfl rfl ?_
    refine s_Vr (q := 18) (As := [.int a1]) (st := [.int 0, .int a2]) C (uX6_cakeAt l G hG V2 (0 + 1) a1 (qX7_0 hG (s70 hG))) yvX6_cakeAt mlX7_94 (qX7_0 hG (s70 hG)) rfl rfl (fun t => G.2.2.1 t = kX0 t) (rX6_cakeAt G hG V2 (0 + 1) a1 (qX7_0 hG (s70 hG))) rfl rfl rfl rfl (gR_le (by decide) (by decide)) (Nat.le_of_ble_eq_true rfl) dX7_named_15 rfl (fun t6 V7 h8 => ?_)
    refine geX0_4 (q := 21) C h8 flX7_119 dX7_named_18 rfl ?_
    refine s_iconst (q := 22) (v := 1) C dX7_named_21 rfl (by decide) ?_
    refine s_isub (q := 23) C dX7_named_22 rfl ?_
    refine s_Si (q := 26) (As := [.int a2, .int 0, .int ((V7 t6 4) - 1)]) (st := []) C (uX7_within l G hG V7 a2 0 ((V7 t6 4) - 1)) ysX7_within mlX7_54 rfl rfl rfl rfl (gR_le (by decide) (by decide)) (Nat.le_of_ble_eq_true rfl) dX7_named_23 rfl (fun x9 V10 => ?_)
    refine s_if_ne (tgt := 35) (q := 29) C dX7_named_26 (by decide) rfl (fun c11 => ?_) (fun c11 => ?_)
    · refine s_aload_n (q := 30) C 0 dX7_named_29 rfl rfl rfl ?_
      refine s_iconst (q := 31) (v := 1) C dX7_named_30 rfl (by decide) ?_
      refine s_Vi (q := 34) (As := [.int 1]) (st := []) C (uX7_error l G hG V10 1) yvX7_error mlX7_58 (s70 hG) rfl rfl rfl rfl rfl rfl (gR_le (by decide) (by decide)) (Nat.le_of_ble_eq_true rfl) dX7_named_31 rfl (fun x17 V18 => ?_)
      exact s_iret C E dX7_named_34
    · refine s_aload_n (q := 36) C 0 dX7_named_35 rfl rfl rfl ?_
      refine geX7_0 (q := 39) C (s70 hG) flX7_10 dX7_named_36 rfl ?_
      refine s_iload_n (q := 40) C 1 dX7_named_39 rfl rfl rfl ?_
      refine s_Vr (q := 43) (As := [.int a1]) (st := []) C (uX6_cakeAt l G hG V10 (0 + 1) a1 (qX7_0 hG (s70 hG))) yvX6_cakeAt mlX7_94 (qX7_0 hG (s70 hG)) rfl rfl (fun t => G.2.2.1 t = kX0 t) (rX6_cakeAt G hG V10 (0 + 1) a1 (qX7_0 hG (s70 hG))) rfl rfl rfl rfl (gR_le (by decide) (by decide)) (Nat.le_of_ble_eq_true rfl) dX7_named_40 rfl (fun t12 V13 h14 => ?_)
      refine s_iload_n (q := 44) C 2 dX7_named_43 rfl rfl rfl ?_
      refine s_Vi (q := 47) (As := [.int a2]) (st := []) C (uX0_nameOf l G hG V13 t12 a2 h14) yvX0_nameOf mlX7_147 h14 rfl rfl rfl rfl rfl rfl (gR_le (by decide) (by decide)) (Nat.le_of_ble_eq_true rfl) dX7_named_44 rfl (fun x15 V16 => ?_)
      exact s_iret C E dX7_named_47
noncomputable def fX7_shift (V : gV) (a1 : Int32) (a2 : Int32) (a3 : Int32) : Option (Int32 × gV) := gbi (fX7_isCake V a1) fun (x1 : Int32) (V2 : gV) => if x1 = 0 then (gbi (fX7_error V2 1) fun (x4 : Int32) (V5 : gV) => some (x4, V5)) else (gbi (fX7_within V2 a2 0 1) fun (x6 : Int32) (V7 : gV) => if x6 = 0 then (gbi (fX7_error V7 1) fun (x43 : Int32) (V44 : gV) => some (x43, V44)) else (gjn (fun (V20 : gV) => gbr (fX6_cakeAt V20 (0 + 1) a1) fun (t22 : Nat) (V23 : gV) => gjn (fun (x26 : Int32) => if a2 = 0 then (gpu V23 t22 3 a3 fun (V30 : gV) => some (x26, V30)) else (gpu V23 t22 5 a3 fun (V29 : gV) => some (x26, V29))) fun J27 => if a2 = 0 then (J27 (V23 t22 3)) else (J27 (V23 t22 5))) fun J21 => if a2 = 0 then (gbi (fX7_isHouse V7 a3) fun (x38 : Int32) (V39 : gV) => if x38 = 0 then (gbi (fX7_error V39 1) fun (x41 : Int32) (V42 : gV) => some (x41, V42)) else (J21 V39)) else (gbi (fX7_within V7 a3 0 9999) fun (x33 : Int32) (V34 : gV) => if x33 = 0 then (gbi (fX7_error V34 1) fun (x36 : Int32) (V37 : gV) => some (x36, V37)) else (J21 V34))))
set_option maxHeartbeats 4000000 in
set_option maxRecDepth 100000 in
theorem uX7_shift (l : Launch) (G : gG) (hG : gIsX G) (V : gV) (a1 : Int32) (a2 : Int32) (a3 : Int32) : gMi l G yX7_shift cX7_shift 6 Jvm.ClassFile.FieldType.int (gR 2 43) [.ref (G.1 0), .int a1, .int a2, .int a3] V (fX7_shift V a1 a2 a3) := by
  unfold fX7_shift
  refine gM_i (by decide +kernel) rfl rfl (Nat.le_of_ble_eq_true rfl) (fun X rr VV C E => ?_)
  change gC cX7_shift 6 RX7 G X at C
  change gSm l (gR 2 43) 6 G X _ (rr, VV) V 0 [(0, .ref (G.1 0)), (1, .int a1), (2, .int a2), (3, .int a3)] []
  refine s_aload_n (q := 1) C 0 dX7_shift_0 rfl rfl rfl ?_
  refine s_iload_n (q := 2) C 1 dX7_shift_1 rfl rfl rfl ?_
  refine s_Vi (q := 5) (As := [.int a1]) (st := []) C (uX7_isCake l G hG V a1) yvX7_isCake mlX7_107 (s70 hG) rfl rfl rfl rfl rfl rfl (gR_le (by decide) (by decide)) (Nat.le_of_ble_eq_true rfl) dX7_shift_2 rfl (fun x1 V2 => ?_)
  refine s_if_eq (tgt := 17) (q := 8) C dX7_shift_5 (by decide) rfl (fun c3 => ?_) (fun c3 => ?_)
  · refine s_aload_n (q := 18) C 0 dX7_shift_17 rfl rfl rfl ?_
    refine s_iconst (q := 19) (v := 1) C dX7_shift_18 rfl (by decide) ?_
    refine s_Vi (q := 22) (As := [.int 1]) (st := []) C (uX7_error l G hG V2 1) yvX7_error mlX7_58 (s70 hG) rfl rfl rfl rfl rfl rfl (gR_le (by decide) (by decide)) (Nat.le_of_ble_eq_true rfl) dX7_shift_19 rfl (fun x4 V5 => ?_)
    exact s_iret C E dX7_shift_22
  · refine s_iload_n (q := 9) C 2 dX7_shift_8 rfl rfl rfl ?_
    refine s_iconst (q := 10) (v := 0) C dX7_shift_9 rfl (by decide) ?_
    refine s_iconst (q := 11) (v := 1) C dX7_shift_10 rfl (by decide) ?_
    refine s_Si (q := 14) (As := [.int a2, .int 0, .int 1]) (st := []) C (uX7_within l G hG V2 a2 0 1) ysX7_within mlX7_54 rfl rfl rfl rfl (gR_le (by decide) (by decide)) (Nat.le_of_ble_eq_true rfl) dX7_shift_11 rfl (fun x6 V7 => ?_)
    refine s_if_ne (tgt := 23) (q := 17) C dX7_shift_14 (by decide) rfl (fun c8 => ?_) (fun c8 => ?_)
    · refine s_aload_n (q := 18) C 0 dX7_shift_17 rfl rfl rfl ?_
      refine s_iconst (q := 19) (v := 1) C dX7_shift_18 rfl (by decide) ?_
      refine s_Vi (q := 22) (As := [.int 1]) (st := []) C (uX7_error l G hG V7 1) yvX7_error mlX7_58 (s70 hG) rfl rfl rfl rfl rfl rfl (gR_le (by decide) (by decide)) (Nat.le_of_ble_eq_true rfl) dX7_shift_19 rfl (fun x43 V44 => ?_)
      exact s_iret C E dX7_shift_22
    · refine s_iload_n (q := 24) C 2 dX7_shift_23 rfl rfl rfl ?_
      refine s_jn (fun J21 => ∀ (V20 : gV), gSm l (gR 2 43) 6 G X (J21 V20) (rr, VV) V20 55 [(0, .ref (G.1 0)), (1, .int a1), (2, .int a2), (3, .int a3)] []) ?_ (fun J21 hJ21 => ?_)
      · intro V20
        refine s_aload_n (q := 56) C 0 dX7_shift_55 rfl rfl rfl ?_
        refine geX7_0 (q := 59) C (s70 hG) flX7_10 dX7_shift_56 rfl ?_
        refine s_iload_n (q := 60) C 1 dX7_shift_59 rfl rfl rfl ?_
        refine s_Vr (q := 63) (As := [.int a1]) (st := []) C (uX6_cakeAt l G hG V20 (0 + 1) a1 (qX7_0 hG (s70 hG))) yvX6_cakeAt mlX7_94 (qX7_0 hG (s70 hG)) rfl rfl (fun t => G.2.2.1 t = kX0 t) (rX6_cakeAt G hG V20 (0 + 1) a1 (qX7_0 hG (s70 hG))) rfl rfl rfl rfl (gR_le (by decide) (by decide)) (Nat.le_of_ble_eq_true rfl) dX7_shift_60 rfl (fun t22 V23 h24 => ?_)
        refine s_astore (q := 65) (L' := [(4, .ref (G.1 t22)), (0, .ref (G.1 0)), (1, .int a1), (2, .int a2), (3, .int a3)]) C dX7_shift_63 rfl (by decide) rfl ?_
        refine s_iload_n (q := 66) C 3 dX7_shift_65 rfl rfl rfl ?_
        refine s_jn (fun J27 => ∀ (x26 : Int32), gSm l (gR 2 43) 6 G X (J27 x26) (rr, VV) V23 82 [(2, .int a2), (3, .int a3), (4, .ref (G.1 t22))] [.int x26]) ?_ (fun J27 hJ27 => ?_)
        · intro x26
          refine s_istore (q := 84) (L' := [(5, .int x26), (2, .int a2), (3, .int a3), (4, .ref (G.1 t22))]) C dX7_shift_82 rfl (by decide) rfl ?_
          refine s_iload_n (q := 85) C 1 dX7_shift_84 rfl rfl rfl ?_
          refine s_if_ne (tgt := 97) (q := 88) C dX7_shift_85 (by decide) rfl (fun c28 => ?_) (fun c28 => ?_)
          · refine s_aload (q := 90) C 3 dX7_shift_88 rfl rfl ?_
            refine s_iload_n (q := 91) C 2 dX7_shift_90 rfl rfl rfl ?_
            refine peX0_3 (q := 94) C h24 flX7_116 dX7_shift_91 rfl (fun V30 => ?_)
            refine s_goto (q := 103) C dX7_shift_94 (by decide) ?_
            refine s_iload (q := 105) C 0 dX7_shift_103 rfl rfl ?_
            exact s_iret C E dX7_shift_105
          · refine s_aload (q := 99) C 3 dX7_shift_97 rfl rfl ?_
            refine s_iload_n (q := 100) C 2 dX7_shift_99 rfl rfl rfl ?_
            refine peX0_5 (q := 103) C h24 flX7_122 dX7_shift_100 rfl (fun V29 => ?_)
            refine s_iload (q := 105) C 0 dX7_shift_103 rfl rfl ?_
            exact s_iret C E dX7_shift_105
        · refine s_if_ne (tgt := 77) (q := 69) C dX7_shift_66 (by decide) rfl (fun c31 => ?_) (fun c31 => ?_)
          · refine s_aload (q := 71) C 0 dX7_shift_69 rfl rfl ?_
            refine geX0_3 (q := 74) C h24 flX7_116 dX7_shift_71 rfl ?_
            refine s_goto (q := 82) C dX7_shift_74 (by decide) ?_
            refine s_sub [3, 4, 0] rfl ?_
            exact hJ27 (V23 t22 3)
          · refine s_aload (q := 79) C 0 dX7_shift_77 rfl rfl ?_
            refine geX0_5 (q := 82) C h24 flX7_122 dX7_shift_79 rfl ?_
            refine s_sub [3, 4, 0] rfl ?_
            exact hJ27 (V23 t22 5)
      · refine s_if_ne (tgt := 38) (q := 27) C dX7_shift_24 (by decide) rfl (fun c32 => ?_) (fun c32 => ?_)
        · refine s_aload_n (q := 28) C 0 dX7_shift_27 rfl rfl rfl ?_
          refine s_iload_n (q := 29) C 3 dX7_shift_28 rfl rfl rfl ?_
          refine s_Vi (q := 32) (As := [.int a3]) (st := []) C (uX7_isHouse l G hG V7 a3) yvX7_isHouse mlX7_78 (s70 hG) rfl rfl rfl rfl rfl rfl (gR_le (by decide) (by decide)) (Nat.le_of_ble_eq_true rfl) dX7_shift_29 rfl (fun x38 V39 => ?_)
          refine s_if_ne (tgt := 55) (q := 35) C dX7_shift_32 (by decide) rfl (fun c40 => ?_) (fun c40 => ?_)
          · refine s_goto (q := 49) C dX7_shift_35 (by decide) ?_
            refine s_aload_n (q := 50) C 0 dX7_shift_49 rfl rfl rfl ?_
            refine s_iconst (q := 51) (v := 1) C dX7_shift_50 rfl (by decide) ?_
            refine s_Vi (q := 54) (As := [.int 1]) (st := []) C (uX7_error l G hG V39 1) yvX7_error mlX7_58 (s70 hG) rfl rfl rfl rfl rfl rfl (gR_le (by decide) (by decide)) (Nat.le_of_ble_eq_true rfl) dX7_shift_51 rfl (fun x41 V42 => ?_)
            exact s_iret C E dX7_shift_54
          · refine s_sub [0, 1, 2, 3] rfl ?_
            exact hJ21 V39
        · refine s_iload_n (q := 39) C 3 dX7_shift_38 rfl rfl rfl ?_
          refine s_iconst (q := 40) (v := 0) C dX7_shift_39 rfl (by decide) ?_
          refine s_sipush (q := 43) (v := 9999) C dX7_shift_40 rfl (by decide) ?_
          refine s_Si (q := 46) (As := [.int a3, .int 0, .int 9999]) (st := []) C (uX7_within l G hG V7 a3 0 9999) ysX7_within mlX7_54 rfl rfl rfl rfl (gR_le (by decide) (by decide)) (Nat.le_of_ble_eq_true rfl) dX7_shift_43 rfl (fun x33 V34 => ?_)
          refine s_if_ne (tgt := 55) (q := 49) C dX7_shift_46 (by decide) rfl (fun c35 => ?_) (fun c35 => ?_)
          · refine s_aload_n (q := 50) C 0 dX7_shift_49 rfl rfl rfl ?_
            refine s_iconst (q := 51) (v := 1) C dX7_shift_50 rfl (by decide) ?_
            refine s_Vi (q := 54) (As := [.int 1]) (st := []) C (uX7_error l G hG V34 1) yvX7_error mlX7_58 (s70 hG) rfl rfl rfl rfl rfl rfl (gR_le (by decide) (by decide)) (Nat.le_of_ble_eq_true rfl) dX7_shift_51 rfl (fun x36 V37 => ?_)
            exact s_iret C E dX7_shift_54
          · refine s_sub [0, 1, 2, 3] rfl ?_
            exact hJ21 V34
noncomputable def fX7_press (V : gV) (a1 : Int32) (a2 : Int32) : Option (Int32 × gV) := gbi (fX7_isCake V a1) fun (x1 : Int32) (V2 : gV) => if x1 = 0 then (gbi (fX7_error V2 1) fun (x4 : Int32) (V5 : gV) => some (x4, V5)) else (gbi (fX7_isCake V2 a2) fun (x6 : Int32) (V7 : gV) => if x6 = 0 then (gbi (fX7_error V7 1) fun (x9 : Int32) (V10 : gV) => some (x9, V10)) else (if a1 = a2 then (gbi (fX7_error V7 1) fun (x26 : Int32) (V27 : gV) => some (x26, V27)) else (gbr (fX6_cakeAt V7 (0 + 1) a1) fun (t12 : Nat) (V13 : gV) => gbi (fX0_isGone V13 t12) fun (x15 : Int32) (V16 : gV) => if x15 = 0 then (gbr (fX6_cakeAt V16 (0 + 1) a2) fun (t18 : Nat) (V19 : gV) => gbi (fX0_pressOnto V19 t12 t18) fun (x21 : Int32) (V22 : gV) => gbv (fX6_measureCakes V22 (0 + 1)) fun (V23 : gV) => some (x21, V23)) else (gbi (fX7_error V16 3) fun (x24 : Int32) (V25 : gV) => some (x24, V25)))))
set_option maxHeartbeats 4000000 in
set_option maxRecDepth 100000 in
theorem uX7_press (l : Launch) (G : gG) (hG : gIsX G) (V : gV) (a1 : Int32) (a2 : Int32) : gMi l G yX7_press cX7_press 5 Jvm.ClassFile.FieldType.int (gR 4 98) [.ref (G.1 0), .int a1, .int a2] V (fX7_press V a1 a2) := by
  unfold fX7_press
  refine gM_i (by decide +kernel) rfl rfl (Nat.le_of_ble_eq_true rfl) (fun X rr VV C E => ?_)
  change gC cX7_press 5 RX7 G X at C
  change gSm l (gR 4 98) 5 G X _ (rr, VV) V 0 [(0, .ref (G.1 0)), (1, .int a1), (2, .int a2)] []
  refine s_aload_n (q := 1) C 0 dX7_press_0 rfl rfl rfl ?_
  refine s_iload_n (q := 2) C 1 dX7_press_1 rfl rfl rfl ?_
  refine s_Vi (q := 5) (As := [.int a1]) (st := []) C (uX7_isCake l G hG V a1) yvX7_isCake mlX7_107 (s70 hG) rfl rfl rfl rfl rfl rfl (gR_le (by decide) (by decide)) (Nat.le_of_ble_eq_true rfl) dX7_press_2 rfl (fun x1 V2 => ?_)
  refine s_if_eq (tgt := 21) (q := 8) C dX7_press_5 (by decide) rfl (fun c3 => ?_) (fun c3 => ?_)
  · refine s_aload_n (q := 22) C 0 dX7_press_21 rfl rfl rfl ?_
    refine s_iconst (q := 23) (v := 1) C dX7_press_22 rfl (by decide) ?_
    refine s_Vi (q := 26) (As := [.int 1]) (st := []) C (uX7_error l G hG V2 1) yvX7_error mlX7_58 (s70 hG) rfl rfl rfl rfl rfl rfl (gR_le (by decide) (by decide)) (Nat.le_of_ble_eq_true rfl) dX7_press_23 rfl (fun x4 V5 => ?_)
    exact s_iret C E dX7_press_26
  · refine s_aload_n (q := 9) C 0 dX7_press_8 rfl rfl rfl ?_
    refine s_iload_n (q := 10) C 2 dX7_press_9 rfl rfl rfl ?_
    refine s_Vi (q := 13) (As := [.int a2]) (st := []) C (uX7_isCake l G hG V2 a2) yvX7_isCake mlX7_107 (s70 hG) rfl rfl rfl rfl rfl rfl (gR_le (by decide) (by decide)) (Nat.le_of_ble_eq_true rfl) dX7_press_10 rfl (fun x6 V7 => ?_)
    refine s_if_eq (tgt := 21) (q := 16) C dX7_press_13 (by decide) rfl (fun c8 => ?_) (fun c8 => ?_)
    · refine s_aload_n (q := 22) C 0 dX7_press_21 rfl rfl rfl ?_
      refine s_iconst (q := 23) (v := 1) C dX7_press_22 rfl (by decide) ?_
      refine s_Vi (q := 26) (As := [.int 1]) (st := []) C (uX7_error l G hG V7 1) yvX7_error mlX7_58 (s70 hG) rfl rfl rfl rfl rfl rfl (gR_le (by decide) (by decide)) (Nat.le_of_ble_eq_true rfl) dX7_press_23 rfl (fun x9 V10 => ?_)
      exact s_iret C E dX7_press_26
    · refine s_iload_n (q := 17) C 1 dX7_press_16 rfl rfl rfl ?_
      refine s_iload_n (q := 18) C 2 dX7_press_17 rfl rfl rfl ?_
      refine s_icmp_ne (tgt := 27) (q := 21) C dX7_press_18 (by decide) rfl (fun c11 => ?_) (fun c11 => ?_)
      · refine s_aload_n (q := 22) C 0 dX7_press_21 rfl rfl rfl ?_
        refine s_iconst (q := 23) (v := 1) C dX7_press_22 rfl (by decide) ?_
        refine s_Vi (q := 26) (As := [.int 1]) (st := []) C (uX7_error l G hG V7 1) yvX7_error mlX7_58 (s70 hG) rfl rfl rfl rfl rfl rfl (gR_le (by decide) (by decide)) (Nat.le_of_ble_eq_true rfl) dX7_press_23 rfl (fun x26 V27 => ?_)
        exact s_iret C E dX7_press_26
      · refine s_aload_n (q := 28) C 0 dX7_press_27 rfl rfl rfl ?_
        refine geX7_0 (q := 31) C (s70 hG) flX7_10 dX7_press_28 rfl ?_
        refine s_iload_n (q := 32) C 1 dX7_press_31 rfl rfl rfl ?_
        refine s_Vr (q := 35) (As := [.int a1]) (st := []) C (uX6_cakeAt l G hG V7 (0 + 1) a1 (qX7_0 hG (s70 hG))) yvX6_cakeAt mlX7_94 (qX7_0 hG (s70 hG)) rfl rfl (fun t => G.2.2.1 t = kX0 t) (rX6_cakeAt G hG V7 (0 + 1) a1 (qX7_0 hG (s70 hG))) rfl rfl rfl rfl (gR_le (by decide) (by decide)) (Nat.le_of_ble_eq_true rfl) dX7_press_32 rfl (fun t12 V13 h14 => ?_)
        refine s_astore_n (q := 36) (L' := [(3, .ref (G.1 t12)), (0, .ref (G.1 0)), (1, .int a1), (2, .int a2)]) C dX7_press_35 rfl rfl (by decide) rfl ?_
        refine s_aload_n (q := 37) C 0 dX7_press_36 rfl rfl rfl ?_
        refine s_Vi (q := 40) (As := []) (st := []) C (uX0_isGone l G hG V13 t12 h14) yvX0_isGone mlX7_132 h14 rfl rfl rfl rfl rfl rfl (gR_le (by decide) (by decide)) (Nat.le_of_ble_eq_true rfl) dX7_press_37 rfl (fun x15 V16 => ?_)
        refine s_if_eq (tgt := 49) (q := 43) C dX7_press_40 (by decide) rfl (fun c17 => ?_) (fun c17 => ?_)
        · refine s_aload_n (q := 50) C 0 dX7_press_49 rfl rfl rfl ?_
          refine s_aload_n (q := 51) C 1 dX7_press_50 rfl rfl rfl ?_
          refine geX7_0 (q := 54) C (s70 hG) flX7_10 dX7_press_51 rfl ?_
          refine s_iload_n (q := 55) C 3 dX7_press_54 rfl rfl rfl ?_
          refine s_Vr (q := 58) (As := [.int a2]) (st := [.ref (G.1 t12)]) C (uX6_cakeAt l G hG V16 (0 + 1) a2 (qX7_0 hG (s70 hG))) yvX6_cakeAt mlX7_94 (qX7_0 hG (s70 hG)) rfl rfl (fun t => G.2.2.1 t = kX0 t) (rX6_cakeAt G hG V16 (0 + 1) a2 (qX7_0 hG (s70 hG))) rfl rfl rfl rfl (gR_le (by decide) (by decide)) (Nat.le_of_ble_eq_true rfl) dX7_press_55 rfl (fun t18 V19 h20 => ?_)
          refine s_Vi (q := 61) (As := [.ref (G.1 t18)]) (st := []) C (uX0_pressOnto l G hG V19 t12 t18 h14 h20) yvX0_pressOnto mlX7_150 h14 rfl rfl rfl rfl rfl rfl (gR_le (by decide) (by decide)) (Nat.le_of_ble_eq_true rfl) dX7_press_58 rfl (fun x21 V22 => ?_)
          refine s_istore (q := 63) (L' := [(4, .int x21), (3, .ref (G.1 t12)), (0, .ref (G.1 0)), (1, .int a1), (2, .int a2)]) C dX7_press_61 rfl (by decide) rfl ?_
          refine s_aload_n (q := 64) C 2 dX7_press_63 rfl rfl rfl ?_
          refine geX7_0 (q := 67) C (s70 hG) flX7_10 dX7_press_64 rfl ?_
          refine s_Vv (q := 70) (As := []) (st := []) C (uX6_measureCakes l G hG V22 (0 + 1) (qX7_0 hG (s70 hG))) yvX6_measureCakes mlX7_104 (qX7_0 hG (s70 hG)) rfl rfl rfl rfl rfl rfl (gR_le (by decide) (by decide)) (Nat.le_of_ble_eq_true rfl) dX7_press_67 rfl (fun V23 => ?_)
          refine s_iload (q := 72) C 0 dX7_press_70 rfl rfl ?_
          exact s_iret C E dX7_press_72
        · refine s_aload_n (q := 44) C 1 dX7_press_43 rfl rfl rfl ?_
          refine s_iconst (q := 45) (v := 3) C dX7_press_44 rfl (by decide) ?_
          refine s_Vi (q := 48) (As := [.int 3]) (st := []) C (uX7_error l G hG V16 3) yvX7_error mlX7_58 (s70 hG) rfl rfl rfl rfl rfl rfl (gR_le (by decide) (by decide)) (Nat.le_of_ble_eq_true rfl) dX7_press_45 rfl (fun x24 V25 => ?_)
          exact s_iret C E dX7_press_48
noncomputable def fX7_become (V : gV) (a1 : Int32) (a2 : Int32) : Option (Int32 × gV) := gbi (fX7_isCake V a1) fun (x1 : Int32) (V2 : gV) => if x1 = 0 then (gbi (fX7_error V2 1) fun (x4 : Int32) (V5 : gV) => some (x4, V5)) else (gbi (fX7_isKindAndNumber V2 a2) fun (x6 : Int32) (V7 : gV) => if x6 = 0 then (gbi (fX7_error V7 1) fun (x15 : Int32) (V16 : gV) => some (x15, V16)) else (gbr (fX6_cakeAt V7 (0 + 1) a1) fun (t9 : Nat) (V10 : gV) => gdv 10 <| gpu V10 t9 1 (a2 / 10) fun (V12 : gV) => gdv 10 <| gpu V12 t9 2 (grm a2 10) fun (V13 : gV) => gbv (fX6_measureCakes V13 (0 + 1)) fun (V14 : gV) => some ((V10 t9 1), V14)))
set_option maxHeartbeats 4000000 in
set_option maxRecDepth 100000 in
theorem uX7_become (l : Launch) (G : gG) (hG : gIsX G) (V : gV) (a1 : Int32) (a2 : Int32) : gMi l G yX7_become cX7_become 5 Jvm.ClassFile.FieldType.int (gR 4 98) [.ref (G.1 0), .int a1, .int a2] V (fX7_become V a1 a2) := by
  unfold fX7_become
  refine gM_i (by decide +kernel) rfl rfl (Nat.le_of_ble_eq_true rfl) (fun X rr VV C E => ?_)
  change gC cX7_become 5 RX7 G X at C
  change gSm l (gR 4 98) 5 G X _ (rr, VV) V 0 [(0, .ref (G.1 0)), (1, .int a1), (2, .int a2)] []
  refine s_aload_n (q := 1) C 0 dX7_become_0 rfl rfl rfl ?_
  refine s_iload_n (q := 2) C 1 dX7_become_1 rfl rfl rfl ?_
  refine s_Vi (q := 5) (As := [.int a1]) (st := []) C (uX7_isCake l G hG V a1) yvX7_isCake mlX7_107 (s70 hG) rfl rfl rfl rfl rfl rfl (gR_le (by decide) (by decide)) (Nat.le_of_ble_eq_true rfl) dX7_become_2 rfl (fun x1 V2 => ?_)
  refine s_if_eq (tgt := 15) (q := 8) C dX7_become_5 (by decide) rfl (fun c3 => ?_) (fun c3 => ?_)
  · refine s_aload_n (q := 16) C 0 dX7_become_15 rfl rfl rfl ?_
    refine s_iconst (q := 17) (v := 1) C dX7_become_16 rfl (by decide) ?_
    refine s_Vi (q := 20) (As := [.int 1]) (st := []) C (uX7_error l G hG V2 1) yvX7_error mlX7_58 (s70 hG) rfl rfl rfl rfl rfl rfl (gR_le (by decide) (by decide)) (Nat.le_of_ble_eq_true rfl) dX7_become_17 rfl (fun x4 V5 => ?_)
    exact s_iret C E dX7_become_20
  · refine s_iload_n (q := 9) C 2 dX7_become_8 rfl rfl rfl ?_
    refine s_Si (q := 12) (As := [.int a2]) (st := []) C (uX7_isKindAndNumber l G hG V2 a2) ysX7_isKindAndNumber mlX7_88 rfl rfl rfl rfl (gR_le (by decide) (by decide)) (Nat.le_of_ble_eq_true rfl) dX7_become_9 rfl (fun x6 V7 => ?_)
    refine s_if_ne (tgt := 21) (q := 15) C dX7_become_12 (by decide) rfl (fun c8 => ?_) (fun c8 => ?_)
    · refine s_aload_n (q := 16) C 0 dX7_become_15 rfl rfl rfl ?_
      refine s_iconst (q := 17) (v := 1) C dX7_become_16 rfl (by decide) ?_
      refine s_Vi (q := 20) (As := [.int 1]) (st := []) C (uX7_error l G hG V7 1) yvX7_error mlX7_58 (s70 hG) rfl rfl rfl rfl rfl rfl (gR_le (by decide) (by decide)) (Nat.le_of_ble_eq_true rfl) dX7_become_17 rfl (fun x15 V16 => ?_)
      exact s_iret C E dX7_become_20
    · refine s_aload_n (q := 22) C 0 dX7_become_21 rfl rfl rfl ?_
      refine geX7_0 (q := 25) C (s70 hG) flX7_10 dX7_become_22 rfl ?_
      refine s_iload_n (q := 26) C 1 dX7_become_25 rfl rfl rfl ?_
      refine s_Vr (q := 29) (As := [.int a1]) (st := []) C (uX6_cakeAt l G hG V7 (0 + 1) a1 (qX7_0 hG (s70 hG))) yvX6_cakeAt mlX7_94 (qX7_0 hG (s70 hG)) rfl rfl (fun t => G.2.2.1 t = kX0 t) (rX6_cakeAt G hG V7 (0 + 1) a1 (qX7_0 hG (s70 hG))) rfl rfl rfl rfl (gR_le (by decide) (by decide)) (Nat.le_of_ble_eq_true rfl) dX7_become_26 rfl (fun t9 V10 h11 => ?_)
      refine s_astore_n (q := 30) (L' := [(3, .ref (G.1 t9)), (0, .ref (G.1 0)), (1, .int a1), (2, .int a2)]) C dX7_become_29 rfl rfl (by decide) rfl ?_
      refine s_aload_n (q := 31) C 0 dX7_become_30 rfl rfl rfl ?_
      refine geX0_1 (q := 34) C h11 flX7_110 dX7_become_31 rfl ?_
      refine s_istore (q := 36) (L' := [(4, .int (V10 t9 1)), (3, .ref (G.1 t9)), (0, .ref (G.1 0)), (1, .int a1), (2, .int a2)]) C dX7_become_34 rfl (by decide) rfl ?_
      refine s_aload_n (q := 37) C 1 dX7_become_36 rfl rfl rfl ?_
      refine s_iload_n (q := 38) C 4 dX7_become_37 rfl rfl rfl ?_
      refine s_bipush (q := 40) (v := 10) C dX7_become_38 rfl (by decide) ?_
      refine s_idiv (q := 41) C dX7_become_40 rfl ?_
      refine peX0_1 (q := 44) C h11 flX7_110 dX7_become_41 rfl (fun V12 => ?_)
      refine s_aload_n (q := 45) C 1 dX7_become_44 rfl rfl rfl ?_
      refine s_iload_n (q := 46) C 4 dX7_become_45 rfl rfl rfl ?_
      refine s_bipush (q := 48) (v := 10) C dX7_become_46 rfl (by decide) ?_
      refine s_irem (q := 49) C dX7_become_48 rfl ?_
      refine peX0_2 (q := 52) C h11 flX7_113 dX7_become_49 rfl (fun V13 => ?_)
      refine s_aload_n (q := 53) C 2 dX7_become_52 rfl rfl rfl ?_
      refine geX7_0 (q := 56) C (s70 hG) flX7_10 dX7_become_53 rfl ?_
      refine s_Vv (q := 59) (As := []) (st := []) C (uX6_measureCakes l G hG V13 (0 + 1) (qX7_0 hG (s70 hG))) yvX6_measureCakes mlX7_104 (qX7_0 hG (s70 hG)) rfl rfl rfl rfl rfl rfl (gR_le (by decide) (by decide)) (Nat.le_of_ble_eq_true rfl) dX7_become_56 rfl (fun V14 => ?_)
      refine s_iload (q := 61) C 0 dX7_become_59 rfl rfl ?_
      exact s_iret C E dX7_become_61
noncomputable def fX7_as (V : gV) (a1 : Int32) (a2 : Int32) : Option (Int32 × gV) := gbi (fX7_isCake V a1) fun (x1 : Int32) (V2 : gV) => if x1 = 0 then (gbi (fX7_error V2 1) fun (x4 : Int32) (V5 : gV) => some (x4, V5)) else (gbi (fX7_within V2 a2 0 6) fun (x6 : Int32) (V7 : gV) => if x6 = 0 then (gbi (fX7_error V7 1) fun (x17 : Int32) (V18 : gV) => some (x17, V18)) else (gbr (fX6_cakeAt V7 (0 + 1) a1) fun (t9 : Nat) (V10 : gV) => gbi (fX0_isOfKind V10 t9 a2) fun (x12 : Int32) (V13 : gV) => if x12 = 0 then (gbi (fX7_error V13 5) fun (x15 : Int32) (V16 : gV) => some (x15, V16)) else (some ((V13 t9 2), V13))))
set_option maxHeartbeats 4000000 in
set_option maxRecDepth 100000 in
theorem uX7_as (l : Launch) (G : gG) (hG : gIsX G) (V : gV) (a1 : Int32) (a2 : Int32) : gMi l G yX7_as cX7_as 4 Jvm.ClassFile.FieldType.int (gR 2 44) [.ref (G.1 0), .int a1, .int a2] V (fX7_as V a1 a2) := by
  unfold fX7_as
  refine gM_i (by decide +kernel) rfl rfl (Nat.le_of_ble_eq_true rfl) (fun X rr VV C E => ?_)
  change gC cX7_as 4 RX7 G X at C
  change gSm l (gR 2 44) 4 G X _ (rr, VV) V 0 [(0, .ref (G.1 0)), (1, .int a1), (2, .int a2)] []
  refine s_aload_n (q := 1) C 0 dX7_as_0 rfl rfl rfl ?_
  refine s_iload_n (q := 2) C 1 dX7_as_1 rfl rfl rfl ?_
  refine s_Vi (q := 5) (As := [.int a1]) (st := []) C (uX7_isCake l G hG V a1) yvX7_isCake mlX7_107 (s70 hG) rfl rfl rfl rfl rfl rfl (gR_le (by decide) (by decide)) (Nat.le_of_ble_eq_true rfl) dX7_as_2 rfl (fun x1 V2 => ?_)
  refine s_if_eq (tgt := 18) (q := 8) C dX7_as_5 (by decide) rfl (fun c3 => ?_) (fun c3 => ?_)
  · refine s_aload_n (q := 19) C 0 dX7_as_18 rfl rfl rfl ?_
    refine s_iconst (q := 20) (v := 1) C dX7_as_19 rfl (by decide) ?_
    refine s_Vi (q := 23) (As := [.int 1]) (st := []) C (uX7_error l G hG V2 1) yvX7_error mlX7_58 (s70 hG) rfl rfl rfl rfl rfl rfl (gR_le (by decide) (by decide)) (Nat.le_of_ble_eq_true rfl) dX7_as_20 rfl (fun x4 V5 => ?_)
    exact s_iret C E dX7_as_23
  · refine s_iload_n (q := 9) C 2 dX7_as_8 rfl rfl rfl ?_
    refine s_iconst (q := 10) (v := 0) C dX7_as_9 rfl (by decide) ?_
    refine s_bipush (q := 12) (v := 6) C dX7_as_10 rfl (by decide) ?_
    refine s_Si (q := 15) (As := [.int a2, .int 0, .int 6]) (st := []) C (uX7_within l G hG V2 a2 0 6) ysX7_within mlX7_54 rfl rfl rfl rfl (gR_le (by decide) (by decide)) (Nat.le_of_ble_eq_true rfl) dX7_as_12 rfl (fun x6 V7 => ?_)
    refine s_if_ne (tgt := 24) (q := 18) C dX7_as_15 (by decide) rfl (fun c8 => ?_) (fun c8 => ?_)
    · refine s_aload_n (q := 19) C 0 dX7_as_18 rfl rfl rfl ?_
      refine s_iconst (q := 20) (v := 1) C dX7_as_19 rfl (by decide) ?_
      refine s_Vi (q := 23) (As := [.int 1]) (st := []) C (uX7_error l G hG V7 1) yvX7_error mlX7_58 (s70 hG) rfl rfl rfl rfl rfl rfl (gR_le (by decide) (by decide)) (Nat.le_of_ble_eq_true rfl) dX7_as_20 rfl (fun x17 V18 => ?_)
      exact s_iret C E dX7_as_23
    · refine s_aload_n (q := 25) C 0 dX7_as_24 rfl rfl rfl ?_
      refine geX7_0 (q := 28) C (s70 hG) flX7_10 dX7_as_25 rfl ?_
      refine s_iload_n (q := 29) C 1 dX7_as_28 rfl rfl rfl ?_
      refine s_Vr (q := 32) (As := [.int a1]) (st := []) C (uX6_cakeAt l G hG V7 (0 + 1) a1 (qX7_0 hG (s70 hG))) yvX6_cakeAt mlX7_94 (qX7_0 hG (s70 hG)) rfl rfl (fun t => G.2.2.1 t = kX0 t) (rX6_cakeAt G hG V7 (0 + 1) a1 (qX7_0 hG (s70 hG))) rfl rfl rfl rfl (gR_le (by decide) (by decide)) (Nat.le_of_ble_eq_true rfl) dX7_as_29 rfl (fun t9 V10 h11 => ?_)
      refine s_astore_n (q := 33) (L' := [(3, .ref (G.1 t9)), (0, .ref (G.1 0)), (1, .int a1), (2, .int a2)]) C dX7_as_32 rfl rfl (by decide) rfl ?_
      refine s_aload_n (q := 34) C 0 dX7_as_33 rfl rfl rfl ?_
      refine s_iload_n (q := 35) C 3 dX7_as_34 rfl rfl rfl ?_
      refine s_Vi (q := 38) (As := [.int a2]) (st := []) C (uX0_isOfKind l G hG V10 t9 a2 h11) yvX0_isOfKind mlX7_153 h11 rfl rfl rfl rfl rfl rfl (gR_le (by decide) (by decide)) (Nat.le_of_ble_eq_true rfl) dX7_as_35 rfl (fun x12 V13 => ?_)
      refine s_if_eq (tgt := 48) (q := 41) C dX7_as_38 (by decide) rfl (fun c14 => ?_) (fun c14 => ?_)
      · refine s_aload_n (q := 49) C 1 dX7_as_48 rfl rfl rfl ?_
        refine s_iconst (q := 50) (v := 5) C dX7_as_49 rfl (by decide) ?_
        refine s_Vi (q := 53) (As := [.int 5]) (st := []) C (uX7_error l G hG V13 5) yvX7_error mlX7_58 (s70 hG) rfl rfl rfl rfl rfl rfl (gR_le (by decide) (by decide)) (Nat.le_of_ble_eq_true rfl) dX7_as_50 rfl (fun x15 V16 => ?_)
        exact s_iret C E dX7_as_53
      · refine s_aload_n (q := 42) C 0 dX7_as_41 rfl rfl rfl ?_
        refine geX0_2 (q := 45) C h11 flX7_113 dX7_as_42 rfl ?_
        refine s_goto (q := 53) C dX7_as_45 (by decide) ?_
        exact s_iret C E dX7_as_53
noncomputable def fX7_feed_L1b (a1 : Int64) (a3 : Int32) (B7 : gV → Int32 → Option (Int32 × gV)) (V5 : gV) (x6 : Int32) : Option (Int32 × gV) := if a3 ≤ x6 then (gpu V5 (0 + 1) 10 ((V5 (0 + 1) 10) + a3) fun (V9 : gV) => some ((V9 (0 + 1) 10), V9)) else (gbv (fX7_setAt V5 ((0 + 1) + 12) 50 ((V5 (0 + 1) 10) + x6) ((((a1).toUInt64 >>> (((8 * x6)).toInt64.toUInt64 &&& Int64.toUInt64 63)).toInt64).toInt32 &&& 255)) fun (V10 : gV) => B7 V10 ((x6 + 1)))
noncomputable def fX7_feed_L1 (a1 : Int64) (a3 : Int32) : Nat → gV → Int32 → Option (Int32 × gV)
  | 0 => fun _ _ => none
  | n + 1 => fX7_feed_L1b a1 a3 (fX7_feed_L1 a1 a3 n)
noncomputable def fX7_feed (V : gV) (a1 : Int64) (a3 : Int32) : Option (Int32 × gV) := gbi (fX7_within V a3 1 8) fun (x1 : Int32) (V2 : gV) => if x1 = 0 then (gbi (fX7_error V2 1) fun (x13 : Int32) (V14 : gV) => some (x13, V14)) else (if (V2 (0 + 1) 10) ≤ (50 - a3) then (fX7_feed_L1 a1 a3 gFu V2 0) else (gbi (fX7_error V2 4) fun (x11 : Int32) (V12 : gV) => some (x11, V12)))
set_option maxHeartbeats 4000000 in
set_option maxRecDepth 100000 in
theorem uX7_feed (l : Launch) (G : gG) (hG : gIsX G) (V : gV) (a1 : Int64) (a3 : Int32) : gMi l G yX7_feed cX7_feed 5 Jvm.ClassFile.FieldType.int (gR 2 43) [.ref (G.1 0), .long a1, .int a3] V (fX7_feed V a1 a3) := by
  unfold fX7_feed
  refine gM_i (by decide +kernel) rfl rfl (Nat.le_of_ble_eq_true rfl) (fun X rr VV C E => ?_)
  change gC cX7_feed 5 RX7 G X at C
  change gSm l (gR 2 43) 5 G X _ (rr, VV) V 0 [(0, .ref (G.1 0)), (1, .long a1), (3, .int a3)] []
  refine s_iload_n (q := 1) C 2 dX7_feed_0 rfl rfl rfl ?_
  refine s_iconst (q := 2) (v := 1) C dX7_feed_1 rfl (by decide) ?_
  refine s_bipush (q := 4) (v := 8) C dX7_feed_2 rfl (by decide) ?_
  refine s_Si (q := 7) (As := [.int a3, .int 1, .int 8]) (st := []) C (uX7_within l G hG V a3 1 8) ysX7_within mlX7_54 rfl rfl rfl rfl (gR_le (by decide) (by decide)) (Nat.le_of_ble_eq_true rfl) dX7_feed_4 rfl (fun x1 V2 => ?_)
  refine s_if_ne (tgt := 16) (q := 10) C dX7_feed_7 (by decide) rfl (fun c3 => ?_) (fun c3 => ?_)
  · refine s_aload_n (q := 11) C 0 dX7_feed_10 rfl rfl rfl ?_
    refine s_iconst (q := 12) (v := 1) C dX7_feed_11 rfl (by decide) ?_
    refine s_Vi (q := 15) (As := [.int 1]) (st := []) C (uX7_error l G hG V2 1) yvX7_error mlX7_58 (s70 hG) rfl rfl rfl rfl rfl rfl (gR_le (by decide) (by decide)) (Nat.le_of_ble_eq_true rfl) dX7_feed_12 rfl (fun x13 V14 => ?_)
    exact s_iret C E dX7_feed_15
  · refine s_aload_n (q := 17) C 0 dX7_feed_16 rfl rfl rfl ?_
    refine geX7_0 (q := 20) C (s70 hG) flX7_10 dX7_feed_17 rfl ?_
    refine geX6_10 (q := 23) C (qX7_0 hG (s70 hG)) flX7_156 dX7_feed_20 rfl ?_
    refine s_bipush (q := 25) (v := 50) C dX7_feed_23 rfl (by decide) ?_
    refine s_iload_n (q := 26) C 2 dX7_feed_25 rfl rfl rfl ?_
    refine s_isub (q := 27) C dX7_feed_26 rfl ?_
    refine s_icmp_le (tgt := 36) (q := 30) C dX7_feed_27 (by decide) rfl (fun c4 => ?_) (fun c4 => ?_)
    · refine s_iconst (q := 37) (v := 0) C dX7_feed_36 rfl (by decide) ?_
      refine s_istore (q := 39) (L' := [(4, .int 0), (0, .ref (G.1 0)), (1, .long a1), (3, .int a3)]) C dX7_feed_37 rfl (by decide) rfl ?_
      have hL1 : ∀ (n : Nat) (V5 : gV) (x6 : Int32), gSm l (gR 2 43) 5 G X (fX7_feed_L1 a1 a3 n V5 x6) (rr, VV) V5 39 [(0, .ref (G.1 0)), (1, .long a1), (3, .int a3), (4, .int x6)] [] := by
        intro n
        induction n with
        | zero => exact fun V5 x6 => s_none
        | succ n ih =>
          intro V5 x6
          show gSm l (gR 2 43) 5 G X (fX7_feed_L1b a1 a3 (fX7_feed_L1 a1 a3 n) V5 x6) (rr, VV) V5 39 [(0, .ref (G.1 0)), (1, .long a1), (3, .int a3), (4, .int x6)] []
          generalize fX7_feed_L1 a1 a3 n = B7 at ih ⊢
          have hB7 := ih
          unfold fX7_feed_L1b
          refine s_iload (q := 41) C 3 dX7_feed_39 rfl rfl ?_
          refine s_iload_n (q := 42) C 2 dX7_feed_41 rfl rfl rfl ?_
          refine s_icmp_ge (tgt := 83) (q := 45) C dX7_feed_42 (by decide) rfl (fun c8 => ?_) (fun c8 => ?_)
          · refine s_aload_n (q := 84) C 0 dX7_feed_83 rfl rfl rfl ?_
            refine geX7_0 (q := 87) C (s70 hG) flX7_10 dX7_feed_84 rfl ?_
            refine s_dup (q := 88) C dX7_feed_87 rfl rfl ?_
            refine geX6_10 (q := 91) C (qX7_0 hG (s70 hG)) flX7_156 dX7_feed_88 rfl ?_
            refine s_iload_n (q := 92) C 2 dX7_feed_91 rfl rfl rfl ?_
            refine s_iadd (q := 93) C dX7_feed_92 rfl ?_
            refine peX6_10 (q := 96) C (qX7_0 hG (s70 hG)) flX7_156 dX7_feed_93 rfl (fun V9 => ?_)
            refine s_aload_n (q := 97) C 0 dX7_feed_96 rfl rfl rfl ?_
            refine geX7_0 (q := 100) C (s70 hG) flX7_10 dX7_feed_97 rfl ?_
            refine geX6_10 (q := 103) C (qX7_0 hG (s70 hG)) flX7_156 dX7_feed_100 rfl ?_
            exact s_iret C E dX7_feed_103
          · refine s_aload_n (q := 46) C 0 dX7_feed_45 rfl rfl rfl ?_
            refine geX7_0 (q := 49) C (s70 hG) flX7_10 dX7_feed_46 rfl ?_
            refine geX6_6 (q := 52) C (qX7_0 hG (s70 hG)) flX7_159 dX7_feed_49 rfl ?_
            refine s_aload_n (q := 53) C 0 dX7_feed_52 rfl rfl rfl ?_
            refine geX7_0 (q := 56) C (s70 hG) flX7_10 dX7_feed_53 rfl ?_
            refine geX6_10 (q := 59) C (qX7_0 hG (s70 hG)) flX7_156 dX7_feed_56 rfl ?_
            refine s_iload (q := 61) C 3 dX7_feed_59 rfl rfl ?_
            refine s_iadd (q := 62) C dX7_feed_61 rfl ?_
            refine s_lload_n (q := 63) C 1 dX7_feed_62 rfl rfl rfl ?_
            refine s_bipush (q := 65) (v := 8) C dX7_feed_63 rfl (by decide) ?_
            refine s_iload (q := 67) C 3 dX7_feed_65 rfl rfl ?_
            refine s_imul (q := 68) C dX7_feed_67 rfl ?_
            refine s_lushr (q := 69) C dX7_feed_68 rfl ?_
            refine s_l2i (q := 70) C dX7_feed_69 rfl ?_
            refine s_sipush (q := 73) (v := 255) C dX7_feed_70 rfl (by decide) ?_
            refine s_iand (q := 74) C dX7_feed_73 rfl ?_
            refine s_Sv (q := 77) (As := [.ref (G.1 ((0 + 1) + 12)), .int ((V5 (0 + 1) 10) + x6), .int ((((a1).toUInt64 >>> (((8 * x6)).toInt64.toUInt64 &&& Int64.toUInt64 63)).toInt64).toInt32 &&& 255)]) (st := []) C (uX7_setAt l G hG V5 ((0 + 1) + 12) 50 ((V5 (0 + 1) 10) + x6) ((((a1).toUInt64 >>> (((8 * x6)).toInt64.toUInt64 &&& Int64.toUInt64 63)).toInt64).toInt32 &&& 255) (qX6_6 hG (qX7_0 hG (s70 hG))) (mX6_6 hG (qX7_0 hG (s70 hG)))) ysX7_setAt mlX7_162 rfl rfl rfl rfl (gR_le (by decide) (by decide)) (Nat.le_of_ble_eq_true rfl) dX7_feed_74 rfl (fun V10 => ?_)
            refine s_iinc (q := 80) (w := 1) (L' := [(4, .int (x6 + 1)), (0, .ref (G.1 0)), (1, .long a1), (3, .int a3)]) C 3 dX7_feed_77 rfl rfl (by decide) rfl (by decide) rfl ?_
            refine s_goto (q := 39) C dX7_feed_80 (by decide) ?_
            refine s_sub [1, 2, 3, 0] rfl ?_
            exact hB7 V10 ((x6 + 1))
      refine s_sub [1, 2, 3, 0] rfl ?_
      exact hL1 gFu V2 0
    · refine s_aload_n (q := 31) C 0 dX7_feed_30 rfl rfl rfl ?_
      refine s_iconst (q := 32) (v := 4) C dX7_feed_31 rfl (by decide) ?_
      refine s_Vi (q := 35) (As := [.int 4]) (st := []) C (uX7_error l G hG V2 4) yvX7_error mlX7_58 (s70 hG) rfl rfl rfl rfl rfl rfl (gR_le (by decide) (by decide)) (Nat.le_of_ble_eq_true rfl) dX7_feed_32 rfl (fun x11 V12 => ?_)
      exact s_iret C E dX7_feed_35

noncomputable def fX8_in (V : gV) (a0 : Int32) (a1 : Int32) (a2 : Int32) : Option (Int32 × gV) := if a0 < a1 then (some (0, V)) else (if a2 < a0 then (some (0, V)) else (some (1, V)))
set_option maxHeartbeats 4000000 in
set_option maxRecDepth 100000 in
theorem uX8_in (l : Launch) (G : gG) (hG : gIsM G) (V : gV) (a0 : Int32) (a1 : Int32) (a2 : Int32) : gMi l G yX8_in cX8_in 3 Jvm.ClassFile.FieldType.boolean (gR 0 0) [.int a0, .int a1, .int a2] V (fX8_in V a0 a1 a2) := by
  unfold fX8_in
  refine gM_i (by decide +kernel) rfl rfl (Nat.le_of_ble_eq_true rfl) (fun X rr VV C E => ?_)
  change gC cX8_in 3 RX8 G X at C
  change gSm l (gR 0 0) 3 G X _ (rr, VV) V 0 [(0, .int a0), (1, .int a1), (2, .int a2)] []
  refine s_iload_n (q := 1) C 0 dX8_in_0 rfl rfl rfl ?_
  refine s_iload_n (q := 2) C 1 dX8_in_1 rfl rfl rfl ?_
  refine s_icmp_lt (tgt := 14) (q := 5) C dX8_in_2 (by decide) rfl (fun c1 => ?_) (fun c1 => ?_)
  · refine s_iconst (q := 15) (v := 0) C dX8_in_14 rfl (by decide) ?_
    exact s_zret C E rfl dX8_in_15
  · refine s_iload_n (q := 6) C 0 dX8_in_5 rfl rfl rfl ?_
    refine s_iload_n (q := 7) C 2 dX8_in_6 rfl rfl rfl ?_
    refine s_icmp_gt (tgt := 14) (q := 10) C dX8_in_7 (by decide) rfl (fun c2 => ?_) (fun c2 => ?_)
    · refine s_iconst (q := 15) (v := 0) C dX8_in_14 rfl (by decide) ?_
      exact s_zret C E rfl dX8_in_15
    · refine s_iconst (q := 11) (v := 1) C dX8_in_10 rfl (by decide) ?_
      refine s_goto (q := 15) C dX8_in_11 (by decide) ?_
      exact s_zret C E rfl dX8_in_15
noncomputable def fX8_errs (V : gV) (a1 : Int32) : Option (Int32 × gV) := gal V (0 + 5) ((-1000000000) - a1) 6 fun (x1 : Int32) => gas V (0 + 5) ((-1000000000) - a1) 6 (x1 + 1) fun (V2 : gV) => some (a1, V2)
set_option maxHeartbeats 4000000 in
set_option maxRecDepth 100000 in
theorem uX8_errs (l : Launch) (G : gG) (hG : gIsM G) (V : gV) (a1 : Int32) : gMi l G yX8_errs cX8_errs 2 Jvm.ClassFile.FieldType.int (gR 0 0) [.ref (G.1 0), .int a1] V (fX8_errs V a1) := by
  unfold fX8_errs
  refine gM_i (by decide +kernel) rfl rfl (Nat.le_of_ble_eq_true rfl) (fun X rr VV C E => ?_)
  change gC cX8_errs 2 RX8 G X at C
  change gSm l (gR 0 0) 2 G X _ (rr, VV) V 0 [(0, .ref (G.1 0)), (1, .int a1)] []
  refine s_aload_n (q := 1) C 0 dX8_errs_0 rfl rfl rfl ?_
  refine geX8_6 (q := 4) C (s80 hG) flX8_22 dX8_errs_1 rfl ?_
  refine s_ldc (q := 6) (v := (-1000000000)) C dX8_errs_4 rfl kX8_43 ?_
  refine s_iload_n (q := 7) C 1 dX8_errs_6 rfl rfl rfl ?_
  refine s_isub (q := 8) C dX8_errs_7 rfl ?_
  refine s_dup2_11 (q := 9) C dX8_errs_8 rfl rfl rfl ?_
  refine s_iald (q := 10) C (qX8_6 hG) dX8_errs_9 rfl (fun x1 => ?_)
  refine s_iconst (q := 11) (v := 1) C dX8_errs_10 rfl (by decide) ?_
  refine s_iadd (q := 12) C dX8_errs_11 rfl ?_
  refine s_iast (q := 13) C (qX8_6 hG) (mX8_6 hG) dX8_errs_12 rfl (fun V2 => ?_)
  refine s_iload_n (q := 14) C 1 dX8_errs_13 rfl rfl rfl ?_
  exact s_iret C E dX8_errs_14
noncomputable def fX8_held (V : gV) (a0 : Int32) (a1 : Int32) (a2 : Int32) : Option (Int32 × gV) := if a1 ≤ a0 then (if a0 ≤ a2 then (some (a0, V)) else (some (a2, V))) else (some (a1, V))
set_option maxHeartbeats 4000000 in
set_option maxRecDepth 100000 in
theorem uX8_held (l : Launch) (G : gG) (hG : gIsM G) (V : gV) (a0 : Int32) (a1 : Int32) (a2 : Int32) : gMi l G yX8_held cX8_held 3 Jvm.ClassFile.FieldType.int (gR 0 0) [.int a0, .int a1, .int a2] V (fX8_held V a0 a1 a2) := by
  unfold fX8_held
  refine gM_i (by decide +kernel) rfl rfl (Nat.le_of_ble_eq_true rfl) (fun X rr VV C E => ?_)
  change gC cX8_held 3 RX8 G X at C
  change gSm l (gR 0 0) 3 G X _ (rr, VV) V 0 [(0, .int a0), (1, .int a1), (2, .int a2)] []
  refine s_iload_n (q := 1) C 0 dX8_held_0 rfl rfl rfl ?_
  refine s_iload_n (q := 2) C 1 dX8_held_1 rfl rfl rfl ?_
  refine s_icmp_ge (tgt := 9) (q := 5) C dX8_held_2 (by decide) rfl (fun c1 => ?_) (fun c1 => ?_)
  · refine s_iload_n (q := 10) C 0 dX8_held_9 rfl rfl rfl ?_
    refine s_iload_n (q := 11) C 2 dX8_held_10 rfl rfl rfl ?_
    refine s_icmp_le (tgt := 18) (q := 14) C dX8_held_11 (by decide) rfl (fun c2 => ?_) (fun c2 => ?_)
    · refine s_iload_n (q := 19) C 0 dX8_held_18 rfl rfl rfl ?_
      exact s_iret C E dX8_held_19
    · refine s_iload_n (q := 15) C 2 dX8_held_14 rfl rfl rfl ?_
      refine s_goto (q := 19) C dX8_held_15 (by decide) ?_
      exact s_iret C E dX8_held_19
  · refine s_iload_n (q := 6) C 1 dX8_held_5 rfl rfl rfl ?_
    refine s_goto (q := 19) C dX8_held_6 (by decide) ?_
    exact s_iret C E dX8_held_19
noncomputable def fX8_moveAll_L1b (c1 : Nat) (n1 : Nat) (c2 : Nat) (n2 : Nat) (B3 : gV → Int32 → Option gV) (V1 : gV) (x2 : Int32) : Option gV := if 264 ≤ x2 then (some V1) else (gal V1 c1 x2 n1 fun (x5 : Int32) => gas V1 c2 x2 n2 x5 fun (V6 : gV) => B3 V6 ((x2 + 1)))
noncomputable def fX8_moveAll_L1 (c1 : Nat) (n1 : Nat) (c2 : Nat) (n2 : Nat) : Nat → gV → Int32 → Option gV
  | 0 => fun _ _ => none
  | n + 1 => fX8_moveAll_L1b c1 n1 c2 n2 (fX8_moveAll_L1 c1 n1 c2 n2 n)
noncomputable def fX8_moveAll (V : gV) (c1 n1 : Nat) (c2 n2 : Nat) : Option gV := fX8_moveAll_L1 c1 n1 c2 n2 gFu V 0
set_option maxHeartbeats 4000000 in
set_option maxRecDepth 100000 in
theorem uX8_moveAll (l : Launch) (G : gG) (hG : gIsM G) (V : gV) (c1 n1 : Nat) (c2 n2 : Nat) (hs1 : G.2.2.1 c1 = (some (.inl n1) : gK)) (hs2 : G.2.2.1 c2 = (some (.inl n2) : gK)) (hm2 : c2 < G.2.2.2.1) : gMv l G yX8_moveAll cX8_moveAll 4 (gR 0 0) [.ref (G.1 0), .ref (G.1 c1), .ref (G.1 c2)] V (fX8_moveAll V c1 n1 c2 n2) := by
  unfold fX8_moveAll
  refine gM_v (by decide +kernel) rfl rfl (Nat.le_of_ble_eq_true rfl) (fun X VV C E => ?_)
  change gC cX8_moveAll 4 RX8 G X at C
  change gSm l (gR 0 0) 4 G X _ VV V 0 [(0, .ref (G.1 0)), (1, .ref (G.1 c1)), (2, .ref (G.1 c2))] []
  refine s_iconst (q := 1) (v := 0) C dX8_moveAll_0 rfl (by decide) ?_
  refine s_istore_n (q := 2) (L' := [(3, .int 0), (0, .ref (G.1 0)), (1, .ref (G.1 c1)), (2, .ref (G.1 c2))]) C dX8_moveAll_1 rfl rfl (by decide) rfl ?_
  have hL1 : ∀ (n : Nat) (V1 : gV) (x2 : Int32), gSm l (gR 0 0) 4 G X (fX8_moveAll_L1 c1 n1 c2 n2 n V1 x2) VV V1 2 [(1, .ref (G.1 c1)), (2, .ref (G.1 c2)), (3, .int x2)] [] := by
    intro n
    induction n with
    | zero => exact fun V1 x2 => s_none
    | succ n ih =>
      intro V1 x2
      show gSm l (gR 0 0) 4 G X (fX8_moveAll_L1b c1 n1 c2 n2 (fX8_moveAll_L1 c1 n1 c2 n2 n) V1 x2) VV V1 2 [(1, .ref (G.1 c1)), (2, .ref (G.1 c2)), (3, .int x2)] []
      generalize fX8_moveAll_L1 c1 n1 c2 n2 n = B3 at ih ⊢
      have hB3 := ih
      unfold fX8_moveAll_L1b
      refine s_iload_n (q := 3) C 2 dX8_moveAll_2 rfl rfl rfl ?_
      refine s_sipush (q := 6) (v := 264) C dX8_moveAll_3 rfl (by decide) ?_
      refine s_icmp_ge (tgt := 21) (q := 9) C dX8_moveAll_6 (by decide) rfl (fun c4 => ?_) (fun c4 => ?_)
      · exact s_vret C E dX8_moveAll_21
      · refine s_aload_n (q := 10) C 1 dX8_moveAll_9 rfl rfl rfl ?_
        refine s_iload_n (q := 11) C 2 dX8_moveAll_10 rfl rfl rfl ?_
        refine s_aload_n (q := 12) C 0 dX8_moveAll_11 rfl rfl rfl ?_
        refine s_iload_n (q := 13) C 2 dX8_moveAll_12 rfl rfl rfl ?_
        refine s_iald (q := 14) C hs1 dX8_moveAll_13 rfl (fun x5 => ?_)
        refine s_iast (q := 15) C hs2 hm2 dX8_moveAll_14 rfl (fun V6 => ?_)
        refine s_iinc (q := 18) (w := 1) (L' := [(3, .int (x2 + 1)), (1, .ref (G.1 c1)), (2, .ref (G.1 c2))]) C 2 dX8_moveAll_15 rfl rfl (by decide) rfl (by decide) rfl ?_
        refine s_goto (q := 2) C dX8_moveAll_18 (by decide) ?_
        refine s_sub [1, 2, 0] rfl ?_
        exact hB3 V6 ((x2 + 1))
  refine s_sub [2, 3, 0] rfl ?_
  exact hL1 gFu V 0
noncomputable def fX8_bits_L1b (V : gV) (B3 : Int32 → Int32 → Option (Int32 × gV)) (x1 : Int32) (x2 : Int32) : Option (Int32 × gV) := if x2 = 0 then (some (x1, V)) else (glt (x2 &&& (x2 - 1)) fun (x5 : Int32) => B3 ((x1 + 1)) x5)
noncomputable def fX8_bits_L1 (V : gV) : Nat → Int32 → Int32 → Option (Int32 × gV)
  | 0 => fun _ _ => none
  | n + 1 => fX8_bits_L1b V (fX8_bits_L1 V n)
noncomputable def fX8_bits (V : gV) (a0 : Int32) : Option (Int32 × gV) := fX8_bits_L1 V gFu 0 a0
set_option maxHeartbeats 4000000 in
set_option maxRecDepth 100000 in
theorem uX8_bits (l : Launch) (G : gG) (hG : gIsM G) (V : gV) (a0 : Int32) : gMi l G yX8_bits cX8_bits 3 Jvm.ClassFile.FieldType.int (gR 0 0) [.int a0] V (fX8_bits V a0) := by
  unfold fX8_bits
  refine gM_i (by decide +kernel) rfl rfl (Nat.le_of_ble_eq_true rfl) (fun X rr VV C E => ?_)
  change gC cX8_bits 3 RX8 G X at C
  change gSm l (gR 0 0) 3 G X _ (rr, VV) V 0 [(0, .int a0)] []
  refine s_iconst (q := 1) (v := 0) C dX8_bits_0 rfl (by decide) ?_
  refine s_istore_n (q := 2) (L' := [(1, .int 0), (0, .int a0)]) C dX8_bits_1 rfl rfl (by decide) rfl ?_
  refine s_iload_n (q := 3) C 1 dX8_bits_2 rfl rfl rfl ?_
  refine s_istore_n (q := 4) (L' := [(2, .int a0), (1, .int 0), (0, .int a0)]) C dX8_bits_3 rfl rfl (by decide) rfl ?_
  have hL1 : ∀ (n : Nat) (x1 : Int32) (x2 : Int32), gSm l (gR 0 0) 3 G X (fX8_bits_L1 V n x1 x2) (rr, VV) V 4 [(1, .int x1), (2, .int x2)] [] := by
    intro n
    induction n with
    | zero => exact fun x1 x2 => s_none
    | succ n ih =>
      intro x1 x2
      show gSm l (gR 0 0) 3 G X (fX8_bits_L1b V (fX8_bits_L1 V n) x1 x2) (rr, VV) V 4 [(1, .int x1), (2, .int x2)] []
      generalize fX8_bits_L1 V n = B3 at ih ⊢
      have hB3 := ih
      unfold fX8_bits_L1b
      refine s_iload_n (q := 5) C 1 dX8_bits_4 rfl rfl rfl ?_
      refine s_if_eq (tgt := 20) (q := 8) C dX8_bits_5 (by decide) rfl (fun c4 => ?_) (fun c4 => ?_)
      · refine s_iload_n (q := 21) C 0 dX8_bits_20 rfl rfl rfl ?_
        exact s_iret C E dX8_bits_21
      · refine s_iinc (q := 11) (w := 1) (L' := [(1, .int (x1 + 1)), (2, .int x2)]) C 0 dX8_bits_8 rfl rfl (by decide) rfl (by decide) rfl ?_
        refine s_iload_n (q := 12) C 1 dX8_bits_11 rfl rfl rfl ?_
        refine s_iload_n (q := 13) C 1 dX8_bits_12 rfl rfl rfl ?_
        refine s_iconst (q := 14) (v := 1) C dX8_bits_13 rfl (by decide) ?_
        refine s_isub (q := 15) C dX8_bits_14 rfl ?_
        refine s_iand (q := 16) C dX8_bits_15 rfl ?_
        refine s_lt (fun x5 => ?_)
        refine s_istore_n (q := 17) (L' := [(2, .int x5), (1, .int (x1 + 1))]) C dX8_bits_16 rfl rfl (by decide) rfl ?_
        refine s_goto (q := 4) C dX8_bits_17 (by decide) ?_
        refine s_sub [1, 0] rfl ?_
        exact hB3 ((x1 + 1)) x5
  refine s_sub [1, 0] rfl ?_
  exact hL1 gFu 0 a0
noncomputable def fX8_has (V : gV) (a0 : Int32) (a1 : Int32) : Option (Int32 × gV) := if ((a0 >>> (a1 &&& 31)) &&& 1) = 1 then (some (1, V)) else (some (0, V))
set_option maxHeartbeats 4000000 in
set_option maxRecDepth 100000 in
theorem uX8_has (l : Launch) (G : gG) (hG : gIsM G) (V : gV) (a0 : Int32) (a1 : Int32) : gMi l G yX8_has cX8_has 2 Jvm.ClassFile.FieldType.boolean (gR 0 0) [.int a0, .int a1] V (fX8_has V a0 a1) := by
  unfold fX8_has
  refine gM_i (by decide +kernel) rfl rfl (Nat.le_of_ble_eq_true rfl) (fun X rr VV C E => ?_)
  change gC cX8_has 2 RX8 G X at C
  change gSm l (gR 0 0) 2 G X _ (rr, VV) V 0 [(0, .int a0), (1, .int a1)] []
  refine s_iload_n (q := 1) C 0 dX8_has_0 rfl rfl rfl ?_
  refine s_iload_n (q := 2) C 1 dX8_has_1 rfl rfl rfl ?_
  refine s_ishr (q := 3) C dX8_has_2 rfl ?_
  refine s_iconst (q := 4) (v := 1) C dX8_has_3 rfl (by decide) ?_
  refine s_iand (q := 5) C dX8_has_4 rfl ?_
  refine s_iconst (q := 6) (v := 1) C dX8_has_5 rfl (by decide) ?_
  refine s_icmp_ne (tgt := 13) (q := 9) C dX8_has_6 (by decide) rfl (fun c1 => ?_) (fun c1 => ?_)
  · refine s_iconst (q := 10) (v := 1) C dX8_has_9 rfl (by decide) ?_
    refine s_goto (q := 14) C dX8_has_10 (by decide) ?_
    exact s_zret C E rfl dX8_has_14
  · refine s_iconst (q := 14) (v := 0) C dX8_has_13 rfl (by decide) ?_
    exact s_zret C E rfl dX8_has_14
noncomputable def fX8_its (V : gV) (a1 : Int32) (a2 : Int32) : Option (Int32 × gV) := gal V (0 + 1) ((16 + (13 * a1)) + a2) 264 fun (x1 : Int32) => some (x1, V)
set_option maxHeartbeats 4000000 in
set_option maxRecDepth 100000 in
theorem uX8_its (l : Launch) (G : gG) (hG : gIsM G) (V : gV) (a1 : Int32) (a2 : Int32) : gMi l G yX8_its cX8_its 3 Jvm.ClassFile.FieldType.int (gR 0 0) [.ref (G.1 0), .int a1, .int a2] V (fX8_its V a1 a2) := by
  unfold fX8_its
  refine gM_i (by decide +kernel) rfl rfl (Nat.le_of_ble_eq_true rfl) (fun X rr VV C E => ?_)
  change gC cX8_its 3 RX8 G X at C
  change gSm l (gR 0 0) 3 G X _ (rr, VV) V 0 [(0, .ref (G.1 0)), (1, .int a1), (2, .int a2)] []
  refine s_aload_n (q := 1) C 0 dX8_its_0 rfl rfl rfl ?_
  refine geX8_0 (q := 4) C (s80 hG) flX8_7 dX8_its_1 rfl ?_
  refine s_bipush (q := 6) (v := 16) C dX8_its_4 rfl (by decide) ?_
  refine s_bipush (q := 8) (v := 13) C dX8_its_6 rfl (by decide) ?_
  refine s_iload_n (q := 9) C 1 dX8_its_8 rfl rfl rfl ?_
  refine s_imul (q := 10) C dX8_its_9 rfl ?_
  refine s_iadd (q := 11) C dX8_its_10 rfl ?_
  refine s_iload_n (q := 12) C 2 dX8_its_11 rfl rfl rfl ?_
  refine s_iadd (q := 13) C dX8_its_12 rfl ?_
  refine s_iald (q := 14) C (qX8_0 hG) dX8_its_13 rfl (fun x1 => ?_)
  exact s_iret C E dX8_its_14
noncomputable def fX8_gets (V : gV) (a1 : Int32) (a2 : Int32) (a3 : Int32) : Option gV := gas V (0 + 1) ((16 + (13 * a1)) + a2) 264 a3 fun (V1 : gV) => some V1
set_option maxHeartbeats 4000000 in
set_option maxRecDepth 100000 in
theorem uX8_gets (l : Launch) (G : gG) (hG : gIsM G) (V : gV) (a1 : Int32) (a2 : Int32) (a3 : Int32) : gMv l G yX8_gets cX8_gets 4 (gR 0 0) [.ref (G.1 0), .int a1, .int a2, .int a3] V (fX8_gets V a1 a2 a3) := by
  unfold fX8_gets
  refine gM_v (by decide +kernel) rfl rfl (Nat.le_of_ble_eq_true rfl) (fun X VV C E => ?_)
  change gC cX8_gets 4 RX8 G X at C
  change gSm l (gR 0 0) 4 G X _ VV V 0 [(0, .ref (G.1 0)), (1, .int a1), (2, .int a2), (3, .int a3)] []
  refine s_aload_n (q := 1) C 0 dX8_gets_0 rfl rfl rfl ?_
  refine geX8_0 (q := 4) C (s80 hG) flX8_7 dX8_gets_1 rfl ?_
  refine s_bipush (q := 6) (v := 16) C dX8_gets_4 rfl (by decide) ?_
  refine s_bipush (q := 8) (v := 13) C dX8_gets_6 rfl (by decide) ?_
  refine s_iload_n (q := 9) C 1 dX8_gets_8 rfl rfl rfl ?_
  refine s_imul (q := 10) C dX8_gets_9 rfl ?_
  refine s_iadd (q := 11) C dX8_gets_10 rfl ?_
  refine s_iload_n (q := 12) C 2 dX8_gets_11 rfl rfl rfl ?_
  refine s_iadd (q := 13) C dX8_gets_12 rfl ?_
  refine s_iload_n (q := 14) C 3 dX8_gets_13 rfl rfl rfl ?_
  refine s_iast (q := 15) C (qX8_0 hG) (mX8_0 hG) dX8_gets_14 rfl (fun V1 => ?_)
  exact s_vret C E dX8_gets_15
noncomputable def fX8_isHouse (V : gV) (a1 : Int32) : Option (Int32 × gV) := gal V (0 + 1) 2 264 fun (x1 : Int32) => gbi (fX8_in V a1 0 (x1 - 1)) fun (x2 : Int32) (V3 : gV) => gzb x2 (some (x2, V3))
set_option maxHeartbeats 4000000 in
set_option maxRecDepth 100000 in
theorem uX8_isHouse (l : Launch) (G : gG) (hG : gIsM G) (V : gV) (a1 : Int32) : gMi l G yX8_isHouse cX8_isHouse 2 Jvm.ClassFile.FieldType.boolean (gR 1 22) [.ref (G.1 0), .int a1] V (fX8_isHouse V a1) := by
  unfold fX8_isHouse
  refine gM_i (by decide +kernel) rfl rfl (Nat.le_of_ble_eq_true rfl) (fun X rr VV C E => ?_)
  change gC cX8_isHouse 2 RX8 G X at C
  change gSm l (gR 1 22) 2 G X _ (rr, VV) V 0 [(0, .ref (G.1 0)), (1, .int a1)] []
  refine s_iload_n (q := 1) C 1 dX8_isHouse_0 rfl rfl rfl ?_
  refine s_iconst (q := 2) (v := 0) C dX8_isHouse_1 rfl (by decide) ?_
  refine s_aload_n (q := 3) C 0 dX8_isHouse_2 rfl rfl rfl ?_
  refine geX8_0 (q := 6) C (s80 hG) flX8_7 dX8_isHouse_3 rfl ?_
  refine s_iconst (q := 7) (v := 2) C dX8_isHouse_6 rfl (by decide) ?_
  refine s_iald (q := 8) C (qX8_0 hG) dX8_isHouse_7 rfl (fun x1 => ?_)
  refine s_iconst (q := 9) (v := 1) C dX8_isHouse_8 rfl (by decide) ?_
  refine s_isub (q := 10) C dX8_isHouse_9 rfl ?_
  refine s_Si (q := 13) (As := [.int a1, .int 0, .int (x1 - 1)]) (st := []) C (uX8_in l G hG V a1 0 (x1 - 1)) ysX8_in mlX8_44 rfl rfl rfl rfl (gR_le (by decide) (by decide)) (Nat.le_of_ble_eq_true rfl) dX8_isHouse_10 rfl (fun x2 V3 => ?_)
  exact s_zret2 C E dX8_isHouse_13
noncomputable def fX8_isCake (V : gV) (a1 : Int32) : Option (Int32 × gV) := gal V (0 + 1) 3 264 fun (x1 : Int32) => gbi (fX8_in V a1 0 (x1 - 1)) fun (x2 : Int32) (V3 : gV) => gzb x2 (some (x2, V3))
set_option maxHeartbeats 4000000 in
set_option maxRecDepth 100000 in
theorem uX8_isCake (l : Launch) (G : gG) (hG : gIsM G) (V : gV) (a1 : Int32) : gMi l G yX8_isCake cX8_isCake 2 Jvm.ClassFile.FieldType.boolean (gR 1 22) [.ref (G.1 0), .int a1] V (fX8_isCake V a1) := by
  unfold fX8_isCake
  refine gM_i (by decide +kernel) rfl rfl (Nat.le_of_ble_eq_true rfl) (fun X rr VV C E => ?_)
  change gC cX8_isCake 2 RX8 G X at C
  change gSm l (gR 1 22) 2 G X _ (rr, VV) V 0 [(0, .ref (G.1 0)), (1, .int a1)] []
  refine s_iload_n (q := 1) C 1 dX8_isCake_0 rfl rfl rfl ?_
  refine s_iconst (q := 2) (v := 0) C dX8_isCake_1 rfl (by decide) ?_
  refine s_aload_n (q := 3) C 0 dX8_isCake_2 rfl rfl rfl ?_
  refine geX8_0 (q := 6) C (s80 hG) flX8_7 dX8_isCake_3 rfl ?_
  refine s_iconst (q := 7) (v := 3) C dX8_isCake_6 rfl (by decide) ?_
  refine s_iald (q := 8) C (qX8_0 hG) dX8_isCake_7 rfl (fun x1 => ?_)
  refine s_iconst (q := 9) (v := 1) C dX8_isCake_8 rfl (by decide) ?_
  refine s_isub (q := 10) C dX8_isCake_9 rfl ?_
  refine s_Si (q := 13) (As := [.int a1, .int 0, .int (x1 - 1)]) (st := []) C (uX8_in l G hG V a1 0 (x1 - 1)) ysX8_in mlX8_44 rfl rfl rfl rfl (gR_le (by decide) (by decide)) (Nat.le_of_ble_eq_true rfl) dX8_isCake_10 rfl (fun x2 V3 => ?_)
  exact s_zret2 C E dX8_isCake_13
noncomputable def fX8_isGuest (V : gV) (a0 : Int32) : Option (Int32 × gV) := gbi (fX8_in V a0 0 9) fun (x1 : Int32) (V2 : gV) => gzb x1 (some (x1, V2))
set_option maxHeartbeats 4000000 in
set_option maxRecDepth 100000 in
theorem uX8_isGuest (l : Launch) (G : gG) (hG : gIsM G) (V : gV) (a0 : Int32) : gMi l G yX8_isGuest cX8_isGuest 1 Jvm.ClassFile.FieldType.boolean (gR 1 22) [.int a0] V (fX8_isGuest V a0) := by
  unfold fX8_isGuest
  refine gM_i (by decide +kernel) rfl rfl (Nat.le_of_ble_eq_true rfl) (fun X rr VV C E => ?_)
  change gC cX8_isGuest 1 RX8 G X at C
  change gSm l (gR 1 22) 1 G X _ (rr, VV) V 0 [(0, .int a0)] []
  refine s_iload_n (q := 1) C 0 dX8_isGuest_0 rfl rfl rfl ?_
  refine s_iconst (q := 2) (v := 0) C dX8_isGuest_1 rfl (by decide) ?_
  refine s_bipush (q := 4) (v := 9) C dX8_isGuest_2 rfl (by decide) ?_
  refine s_Si (q := 7) (As := [.int a0, .int 0, .int 9]) (st := []) C (uX8_in l G hG V a0 0 9) ysX8_in mlX8_44 rfl rfl rfl rfl (gR_le (by decide) (by decide)) (Nat.le_of_ble_eq_true rfl) dX8_isGuest_4 rfl (fun x1 V2 => ?_)
  exact s_zret2 C E dX8_isGuest_7
noncomputable def fX8_becomes (V : gV) (a1 : Int32) (a2 : Int32) : Option (Int32 × gV) := gal V (0 + 1) a1 264 fun (x1 : Int32) => gas V (0 + 1) a1 264 a2 fun (V2 : gV) => some (x1, V2)
set_option maxHeartbeats 4000000 in
set_option maxRecDepth 100000 in
theorem uX8_becomes (l : Launch) (G : gG) (hG : gIsM G) (V : gV) (a1 : Int32) (a2 : Int32) : gMi l G yX8_becomes cX8_becomes 4 Jvm.ClassFile.FieldType.int (gR 0 0) [.ref (G.1 0), .int a1, .int a2] V (fX8_becomes V a1 a2) := by
  unfold fX8_becomes
  refine gM_i (by decide +kernel) rfl rfl (Nat.le_of_ble_eq_true rfl) (fun X rr VV C E => ?_)
  change gC cX8_becomes 4 RX8 G X at C
  change gSm l (gR 0 0) 4 G X _ (rr, VV) V 0 [(0, .ref (G.1 0)), (1, .int a1), (2, .int a2)] []
  refine s_aload_n (q := 1) C 0 dX8_becomes_0 rfl rfl rfl ?_
  refine geX8_0 (q := 4) C (s80 hG) flX8_7 dX8_becomes_1 rfl ?_
  refine s_iload_n (q := 5) C 1 dX8_becomes_4 rfl rfl rfl ?_
  refine s_iald (q := 6) C (qX8_0 hG) dX8_becomes_5 rfl (fun x1 => ?_)
  refine s_istore_n (q := 7) (L' := [(3, .int x1), (0, .ref (G.1 0)), (1, .int a1), (2, .int a2)]) C dX8_becomes_6 rfl rfl (by decide) rfl ?_
  refine s_aload_n (q := 8) C 1 dX8_becomes_7 rfl rfl rfl ?_
  refine geX8_0 (q := 11) C (s80 hG) flX8_7 dX8_becomes_8 rfl ?_
  refine s_iload_n (q := 12) C 2 dX8_becomes_11 rfl rfl rfl ?_
  refine s_iload_n (q := 13) C 3 dX8_becomes_12 rfl rfl rfl ?_
  refine s_iast (q := 14) C (qX8_0 hG) (mX8_0 hG) dX8_becomes_13 rfl (fun V2 => ?_)
  refine s_iload_n (q := 15) C 0 dX8_becomes_14 rfl rfl rfl ?_
  exact s_iret C E dX8_becomes_15
noncomputable def fX8_house (V : gV) (a1 : Int32) : Option (Int32 × gV) := gbi (fX8_in V a1 0 9) fun (x1 : Int32) (V2 : gV) => if x1 = 0 then (gbi (fX8_errs V2 (-1000000001)) fun (x15 : Int32) (V16 : gV) => some (x15, V16)) else (gal V2 (0 + 1) 2 264 fun (x4 : Int32) => if x4 = 4 then (gbi (fX8_errs V2 (-1000000004)) fun (x13 : Int32) (V14 : gV) => some (x13, V14)) else (gal V2 (0 + 1) 2 264 fun (x6 : Int32) => glt (8 + (2 * x6)) fun (x7 : Int32) => gas V2 (0 + 1) x7 264 1 fun (V8 : gV) => gas V8 (0 + 1) (x7 + 1) 264 a1 fun (V9 : gV) => gal V9 (0 + 1) 2 264 fun (x10 : Int32) => gas V9 (0 + 1) 2 264 (x10 + 1) fun (V11 : gV) => gal V11 (0 + 1) 2 264 fun (x12 : Int32) => some ((x12 - 1), V11)))
set_option maxHeartbeats 4000000 in
set_option maxRecDepth 100000 in
theorem uX8_house (l : Launch) (G : gG) (hG : gIsM G) (V : gV) (a1 : Int32) : gMi l G yX8_house cX8_house 3 Jvm.ClassFile.FieldType.int (gR 1 22) [.ref (G.1 0), .int a1] V (fX8_house V a1) := by
  unfold fX8_house
  refine gM_i (by decide +kernel) rfl rfl (Nat.le_of_ble_eq_true rfl) (fun X rr VV C E => ?_)
  change gC cX8_house 3 RX8 G X at C
  change gSm l (gR 1 22) 3 G X _ (rr, VV) V 0 [(0, .ref (G.1 0)), (1, .int a1)] []
  refine s_iload_n (q := 1) C 1 dX8_house_0 rfl rfl rfl ?_
  refine s_iconst (q := 2) (v := 0) C dX8_house_1 rfl (by decide) ?_
  refine s_bipush (q := 4) (v := 9) C dX8_house_2 rfl (by decide) ?_
  refine s_Si (q := 7) (As := [.int a1, .int 0, .int 9]) (st := []) C (uX8_in l G hG V a1 0 9) ysX8_in mlX8_44 rfl rfl rfl rfl (gR_le (by decide) (by decide)) (Nat.le_of_ble_eq_true rfl) dX8_house_4 rfl (fun x1 V2 => ?_)
  refine s_if_ne (tgt := 17) (q := 10) C dX8_house_7 (by decide) rfl (fun c3 => ?_) (fun c3 => ?_)
  · refine s_aload_n (q := 11) C 0 dX8_house_10 rfl rfl rfl ?_
    refine s_ldc (q := 13) (v := (-1000000001)) C dX8_house_11 rfl kX8_48 ?_
    refine s_Vi (q := 16) (As := [.int (-1000000001)]) (st := []) C (uX8_errs l G hG V2 (-1000000001)) yvX8_errs mlX8_49 (s80 hG) rfl rfl rfl rfl rfl rfl (gR_le (by decide) (by decide)) (Nat.le_of_ble_eq_true rfl) dX8_house_13 rfl (fun x15 V16 => ?_)
    exact s_iret C E dX8_house_16
  · refine s_aload_n (q := 18) C 0 dX8_house_17 rfl rfl rfl ?_
    refine geX8_0 (q := 21) C (s80 hG) flX8_7 dX8_house_18 rfl ?_
    refine s_iconst (q := 22) (v := 2) C dX8_house_21 rfl (by decide) ?_
    refine s_iald (q := 23) C (qX8_0 hG) dX8_house_22 rfl (fun x4 => ?_)
    refine s_iconst (q := 24) (v := 4) C dX8_house_23 rfl (by decide) ?_
    refine s_icmp_ne (tgt := 34) (q := 27) C dX8_house_24 (by decide) rfl (fun c5 => ?_) (fun c5 => ?_)
    · refine s_aload_n (q := 28) C 0 dX8_house_27 rfl rfl rfl ?_
      refine s_ldc (q := 30) (v := (-1000000004)) C dX8_house_28 rfl kX8_53 ?_
      refine s_Vi (q := 33) (As := [.int (-1000000004)]) (st := []) C (uX8_errs l G hG V2 (-1000000004)) yvX8_errs mlX8_49 (s80 hG) rfl rfl rfl rfl rfl rfl (gR_le (by decide) (by decide)) (Nat.le_of_ble_eq_true rfl) dX8_house_30 rfl (fun x13 V14 => ?_)
      exact s_iret C E dX8_house_33
    · refine s_bipush (q := 36) (v := 8) C dX8_house_34 rfl (by decide) ?_
      refine s_iconst (q := 37) (v := 2) C dX8_house_36 rfl (by decide) ?_
      refine s_aload_n (q := 38) C 0 dX8_house_37 rfl rfl rfl ?_
      refine geX8_0 (q := 41) C (s80 hG) flX8_7 dX8_house_38 rfl ?_
      refine s_iconst (q := 42) (v := 2) C dX8_house_41 rfl (by decide) ?_
      refine s_iald (q := 43) C (qX8_0 hG) dX8_house_42 rfl (fun x6 => ?_)
      refine s_imul (q := 44) C dX8_house_43 rfl ?_
      refine s_iadd (q := 45) C dX8_house_44 rfl ?_
      refine s_lt (fun x7 => ?_)
      refine s_istore_n (q := 46) (L' := [(2, .int x7), (0, .ref (G.1 0)), (1, .int a1)]) C dX8_house_45 rfl rfl (by decide) rfl ?_
      refine s_aload_n (q := 47) C 1 dX8_house_46 rfl rfl rfl ?_
      refine geX8_0 (q := 50) C (s80 hG) flX8_7 dX8_house_47 rfl ?_
      refine s_iload_n (q := 51) C 0 dX8_house_50 rfl rfl rfl ?_
      refine s_iconst (q := 52) (v := 1) C dX8_house_51 rfl (by decide) ?_
      refine s_iast (q := 53) C (qX8_0 hG) (mX8_0 hG) dX8_house_52 rfl (fun V8 => ?_)
      refine s_aload_n (q := 54) C 1 dX8_house_53 rfl rfl rfl ?_
      refine geX8_0 (q := 57) C (s80 hG) flX8_7 dX8_house_54 rfl ?_
      refine s_iload_n (q := 58) C 0 dX8_house_57 rfl rfl rfl ?_
      refine s_iconst (q := 59) (v := 1) C dX8_house_58 rfl (by decide) ?_
      refine s_iadd (q := 60) C dX8_house_59 rfl ?_
      refine s_iload_n (q := 61) C 2 dX8_house_60 rfl rfl rfl ?_
      refine s_iast (q := 62) C (qX8_0 hG) (mX8_0 hG) dX8_house_61 rfl (fun V9 => ?_)
      refine s_aload_n (q := 63) C 1 dX8_house_62 rfl rfl rfl ?_
      refine geX8_0 (q := 66) C (s80 hG) flX8_7 dX8_house_63 rfl ?_
      refine s_iconst (q := 67) (v := 2) C dX8_house_66 rfl (by decide) ?_
      refine s_dup2_11 (q := 68) C dX8_house_67 rfl rfl rfl ?_
      refine s_iald (q := 69) C (qX8_0 hG) dX8_house_68 rfl (fun x10 => ?_)
      refine s_iconst (q := 70) (v := 1) C dX8_house_69 rfl (by decide) ?_
      refine s_iadd (q := 71) C dX8_house_70 rfl ?_
      refine s_iast (q := 72) C (qX8_0 hG) (mX8_0 hG) dX8_house_71 rfl (fun V11 => ?_)
      refine s_aload_n (q := 73) C 1 dX8_house_72 rfl rfl rfl ?_
      refine geX8_0 (q := 76) C (s80 hG) flX8_7 dX8_house_73 rfl ?_
      refine s_iconst (q := 77) (v := 2) C dX8_house_76 rfl (by decide) ?_
      refine s_iald (q := 78) C (qX8_0 hG) dX8_house_77 rfl (fun x12 => ?_)
      refine s_iconst (q := 79) (v := 1) C dX8_house_78 rfl (by decide) ?_
      refine s_isub (q := 80) C dX8_house_79 rfl ?_
      exact s_iret C E dX8_house_80
noncomputable def fX8_cakesIn_L1b (a1 : Int32) (B4 : gV → Int32 → Int32 → Option (Int32 × gV)) (V1 : gV) (x2 : Int32) (x3 : Int32) : Option (Int32 × gV) := gal V1 (0 + 1) 3 264 fun (x5 : Int32) => if x5 ≤ x3 then (some (x2, V1)) else (gbi (fX8_its V1 x3 2) fun (x7 : Int32) (V8 : gV) => if x7 = a1 then (glt (x2 ||| (1 <<< (x3 &&& 31))) fun (x11 : Int32) => B4 V8 x11 ((x3 + 1))) else (glt (x2 ||| 0) fun (x10 : Int32) => B4 V8 x10 ((x3 + 1))))
noncomputable def fX8_cakesIn_L1 (a1 : Int32) : Nat → gV → Int32 → Int32 → Option (Int32 × gV)
  | 0 => fun _ _ _ => none
  | n + 1 => fX8_cakesIn_L1b a1 (fX8_cakesIn_L1 a1 n)
noncomputable def fX8_cakesIn (V : gV) (a1 : Int32) : Option (Int32 × gV) := fX8_cakesIn_L1 a1 gFu V 0 0
set_option maxHeartbeats 4000000 in
set_option maxRecDepth 100000 in
theorem uX8_cakesIn (l : Launch) (G : gG) (hG : gIsM G) (V : gV) (a1 : Int32) : gMi l G yX8_cakesIn cX8_cakesIn 4 Jvm.ClassFile.FieldType.int (gR 1 22) [.ref (G.1 0), .int a1] V (fX8_cakesIn V a1) := by
  unfold fX8_cakesIn
  refine gM_i (by decide +kernel) rfl rfl (Nat.le_of_ble_eq_true rfl) (fun X rr VV C E => ?_)
  change gC cX8_cakesIn 4 RX8 G X at C
  change gSm l (gR 1 22) 4 G X _ (rr, VV) V 0 [(0, .ref (G.1 0)), (1, .int a1)] []
  refine s_iconst (q := 1) (v := 0) C dX8_cakesIn_0 rfl (by decide) ?_
  refine s_istore_n (q := 2) (L' := [(2, .int 0), (0, .ref (G.1 0)), (1, .int a1)]) C dX8_cakesIn_1 rfl rfl (by decide) rfl ?_
  refine s_iconst (q := 3) (v := 0) C dX8_cakesIn_2 rfl (by decide) ?_
  refine s_istore_n (q := 4) (L' := [(3, .int 0), (2, .int 0), (0, .ref (G.1 0)), (1, .int a1)]) C dX8_cakesIn_3 rfl rfl (by decide) rfl ?_
  have hL1 : ∀ (n : Nat) (V1 : gV) (x2 : Int32) (x3 : Int32), gSm l (gR 1 22) 4 G X (fX8_cakesIn_L1 a1 n V1 x2 x3) (rr, VV) V1 4 [(0, .ref (G.1 0)), (1, .int a1), (2, .int x2), (3, .int x3)] [] := by
    intro n
    induction n with
    | zero => exact fun V1 x2 x3 => s_none
    | succ n ih =>
      intro V1 x2 x3
      show gSm l (gR 1 22) 4 G X (fX8_cakesIn_L1b a1 (fX8_cakesIn_L1 a1 n) V1 x2 x3) (rr, VV) V1 4 [(0, .ref (G.1 0)), (1, .int a1), (2, .int x2), (3, .int x3)] []
      generalize fX8_cakesIn_L1 a1 n = B4 at ih ⊢
      have hB4 := ih
      unfold fX8_cakesIn_L1b
      refine s_iload_n (q := 5) C 3 dX8_cakesIn_4 rfl rfl rfl ?_
      refine s_aload_n (q := 6) C 0 dX8_cakesIn_5 rfl rfl rfl ?_
      refine geX8_0 (q := 9) C (s80 hG) flX8_7 dX8_cakesIn_6 rfl ?_
      refine s_iconst (q := 10) (v := 3) C dX8_cakesIn_9 rfl (by decide) ?_
      refine s_iald (q := 11) C (qX8_0 hG) dX8_cakesIn_10 rfl (fun x5 => ?_)
      refine s_icmp_ge (tgt := 40) (q := 14) C dX8_cakesIn_11 (by decide) rfl (fun c6 => ?_) (fun c6 => ?_)
      · refine s_iload_n (q := 41) C 2 dX8_cakesIn_40 rfl rfl rfl ?_
        exact s_iret C E dX8_cakesIn_41
      · refine s_iload_n (q := 15) C 2 dX8_cakesIn_14 rfl rfl rfl ?_
        refine s_aload_n (q := 16) C 0 dX8_cakesIn_15 rfl rfl rfl ?_
        refine s_iload_n (q := 17) C 3 dX8_cakesIn_16 rfl rfl rfl ?_
        refine s_iconst (q := 18) (v := 2) C dX8_cakesIn_17 rfl (by decide) ?_
        refine s_Vi (q := 21) (As := [.int x3, .int 2]) (st := [.int x2]) C (uX8_its l G hG V1 x3 2) yvX8_its mlX8_54 (s80 hG) rfl rfl rfl rfl rfl rfl (gR_le (by decide) (by decide)) (Nat.le_of_ble_eq_true rfl) dX8_cakesIn_18 rfl (fun x7 V8 => ?_)
        refine s_iload_n (q := 22) C 1 dX8_cakesIn_21 rfl rfl rfl ?_
        refine s_icmp_ne (tgt := 31) (q := 25) C dX8_cakesIn_22 (by decide) rfl (fun c9 => ?_) (fun c9 => ?_)
        · refine s_iconst (q := 26) (v := 1) C dX8_cakesIn_25 rfl (by decide) ?_
          refine s_iload_n (q := 27) C 3 dX8_cakesIn_26 rfl rfl rfl ?_
          refine s_ishl (q := 28) C dX8_cakesIn_27 rfl ?_
          refine s_goto (q := 32) C dX8_cakesIn_28 (by decide) ?_
          refine s_ior (q := 33) C dX8_cakesIn_32 rfl ?_
          refine s_lt (fun x11 => ?_)
          refine s_istore_n (q := 34) (L' := [(2, .int x11), (0, .ref (G.1 0)), (1, .int a1), (3, .int x3)]) C dX8_cakesIn_33 rfl rfl (by decide) rfl ?_
          refine s_iinc (q := 37) (w := 1) (L' := [(3, .int (x3 + 1)), (2, .int x11), (0, .ref (G.1 0)), (1, .int a1)]) C 3 dX8_cakesIn_34 rfl rfl (by decide) rfl (by decide) rfl ?_
          refine s_goto (q := 4) C dX8_cakesIn_37 (by decide) ?_
          refine s_sub [2, 3, 1, 0] rfl ?_
          exact hB4 V8 x11 ((x3 + 1))
        · refine s_iconst (q := 32) (v := 0) C dX8_cakesIn_31 rfl (by decide) ?_
          refine s_ior (q := 33) C dX8_cakesIn_32 rfl ?_
          refine s_lt (fun x10 => ?_)
          refine s_istore_n (q := 34) (L' := [(2, .int x10), (0, .ref (G.1 0)), (1, .int a1), (3, .int x3)]) C dX8_cakesIn_33 rfl rfl (by decide) rfl ?_
          refine s_iinc (q := 37) (w := 1) (L' := [(3, .int (x3 + 1)), (2, .int x10), (0, .ref (G.1 0)), (1, .int a1)]) C 3 dX8_cakesIn_34 rfl rfl (by decide) rfl (by decide) rfl ?_
          refine s_goto (q := 4) C dX8_cakesIn_37 (by decide) ?_
          refine s_sub [2, 3, 1, 0] rfl ?_
          exact hB4 V8 x10 ((x3 + 1))
  refine s_sub [2, 3, 1, 0] rfl ?_
  exact hL1 gFu V 0 0
noncomputable def fX8_byteAt (V : gV) (a1 : Int32) : Option (Int32 × gV) := if (V 0 9) ≤ a1 then (some ((-1), V)) else (gal V (0 + 1) ((164 + (50 * (V 0 7))) + a1) 264 fun (x2 : Int32) => some (x2, V))
set_option maxHeartbeats 4000000 in
set_option maxRecDepth 100000 in
theorem uX8_byteAt (l : Launch) (G : gG) (hG : gIsM G) (V : gV) (a1 : Int32) : gMi l G yX8_byteAt cX8_byteAt 2 Jvm.ClassFile.FieldType.int (gR 0 0) [.ref (G.1 0), .int a1] V (fX8_byteAt V a1) := by
  unfold fX8_byteAt
  refine gM_i (by decide +kernel) rfl rfl (Nat.le_of_ble_eq_true rfl) (fun X rr VV C E => ?_)
  change gC cX8_byteAt 2 RX8 G X at C
  change gSm l (gR 0 0) 2 G X _ (rr, VV) V 0 [(0, .ref (G.1 0)), (1, .int a1)] []
  refine s_iload_n (q := 1) C 1 dX8_byteAt_0 rfl rfl rfl ?_
  refine s_aload_n (q := 2) C 0 dX8_byteAt_1 rfl rfl rfl ?_
  refine geX8_9 (q := 5) C (s80 hG) flX8_98 dX8_byteAt_2 rfl ?_
  refine s_icmp_ge (tgt := 29) (q := 8) C dX8_byteAt_5 (by decide) rfl (fun c1 => ?_) (fun c1 => ?_)
  · refine s_iconst (q := 30) (v := (-1)) C dX8_byteAt_29 rfl (by decide) ?_
    exact s_iret C E dX8_byteAt_30
  · refine s_aload_n (q := 9) C 0 dX8_byteAt_8 rfl rfl rfl ?_
    refine geX8_0 (q := 12) C (s80 hG) flX8_7 dX8_byteAt_9 rfl ?_
    refine s_sipush (q := 15) (v := 164) C dX8_byteAt_12 rfl (by decide) ?_
    refine s_bipush (q := 17) (v := 50) C dX8_byteAt_15 rfl (by decide) ?_
    refine s_aload_n (q := 18) C 0 dX8_byteAt_17 rfl rfl rfl ?_
    refine geX8_7 (q := 21) C (s80 hG) flX8_102 dX8_byteAt_18 rfl ?_
    refine s_imul (q := 22) C dX8_byteAt_21 rfl ?_
    refine s_iadd (q := 23) C dX8_byteAt_22 rfl ?_
    refine s_iload_n (q := 24) C 1 dX8_byteAt_23 rfl rfl rfl ?_
    refine s_iadd (q := 25) C dX8_byteAt_24 rfl ?_
    refine s_iald (q := 26) C (qX8_0 hG) dX8_byteAt_25 rfl (fun x2 => ?_)
    refine s_goto (q := 30) C dX8_byteAt_26 (by decide) ?_
    exact s_iret C E dX8_byteAt_30
noncomputable def fX8_fails (V : gV)  : Option (Int32 × gV) := gpu V 0 14 0 fun (V1 : gV) => some (0, V1)
set_option maxHeartbeats 4000000 in
set_option maxRecDepth 100000 in
theorem uX8_fails (l : Launch) (G : gG) (hG : gIsM G) (V : gV)  : gMi l G yX8_fails cX8_fails 1 Jvm.ClassFile.FieldType.int (gR 0 0) [.ref (G.1 0)] V (fX8_fails V) := by
  unfold fX8_fails
  refine gM_i (by decide +kernel) rfl rfl (Nat.le_of_ble_eq_true rfl) (fun X rr VV C E => ?_)
  change gC cX8_fails 1 RX8 G X at C
  change gSm l (gR 0 0) 1 G X _ (rr, VV) V 0 [(0, .ref (G.1 0))] []
  refine s_aload_n (q := 1) C 0 dX8_fails_0 rfl rfl rfl ?_
  refine s_iconst (q := 2) (v := 0) C dX8_fails_1 rfl (by decide) ?_
  refine peX8_14 (q := 5) C (s80 hG) flX8_105 (Or.inl rfl) dX8_fails_2 rfl (fun V1 => ?_)
  refine s_iconst (q := 6) (v := 0) C dX8_fails_5 rfl (by decide) ?_
  exact s_iret C E dX8_fails_6
noncomputable def fX8_isDigit (V : gV) (a0 : Int32) : Option (Int32 × gV) := gbi (fX8_in V a0 48 57) fun (x1 : Int32) (V2 : gV) => gzb x1 (some (x1, V2))
set_option maxHeartbeats 4000000 in
set_option maxRecDepth 100000 in
theorem uX8_isDigit (l : Launch) (G : gG) (hG : gIsM G) (V : gV) (a0 : Int32) : gMi l G yX8_isDigit cX8_isDigit 1 Jvm.ClassFile.FieldType.boolean (gR 1 22) [.int a0] V (fX8_isDigit V a0) := by
  unfold fX8_isDigit
  refine gM_i (by decide +kernel) rfl rfl (Nat.le_of_ble_eq_true rfl) (fun X rr VV C E => ?_)
  change gC cX8_isDigit 1 RX8 G X at C
  change gSm l (gR 1 22) 1 G X _ (rr, VV) V 0 [(0, .int a0)] []
  refine s_iload_n (q := 1) C 0 dX8_isDigit_0 rfl rfl rfl ?_
  refine s_bipush (q := 3) (v := 48) C dX8_isDigit_1 rfl (by decide) ?_
  refine s_bipush (q := 5) (v := 57) C dX8_isDigit_3 rfl (by decide) ?_
  refine s_Si (q := 8) (As := [.int a0, .int 48, .int 57]) (st := []) C (uX8_in l G hG V a0 48 57) ysX8_in mlX8_44 rfl rfl rfl rfl (gR_le (by decide) (by decide)) (Nat.le_of_ble_eq_true rfl) dX8_isDigit_5 rfl (fun x1 V2 => ?_)
  exact s_zret2 C E dX8_isDigit_8
noncomputable def fX8_named_ (V : gV) (a1 : Int32) : Option (Int32 × gV) := gjn (fun (x2 : Int32) => gjn (fun (x5 : Int32) => gjn (fun (x8 : Int32) => gjn (fun (x11 : Int32) => gjn (fun (x14 : Int32) => gjn (fun (x17 : Int32) => gjn (gpu V 0 8 ((V 0 8) + 1) fun (V25 : gV) => if x5 = 0 then (if x11 = 0 then (some ((V25 0 13), V25)) else (some ((V25 0 12), V25))) else (some ((V25 0 11), V25))) fun J24 => if x5 = 0 then (if x11 = 0 then (if x17 = 0 then (gbi (fX8_fails V) fun (x31 : Int32) (V32 : gV) => some (x31, V32)) else (J24)) else (J24)) else (J24)) fun J18 => if a1 = x14 then (J18 1) else (J18 0)) fun J15 => if (V 0 7) = 0 then (J15 110) else (J15 100)) fun J12 => if a1 = x8 then (J12 1) else (J12 0)) fun J9 => if (V 0 7) = 0 then (J9 107) else (J9 109)) fun J6 => if a1 = x2 then (J6 1) else (J6 0)) fun J3 => if (V 0 7) = 0 then (J3 109) else (J3 119)
set_option maxHeartbeats 4000000 in
set_option maxRecDepth 100000 in
theorem uX8_named_ (l : Launch) (G : gG) (hG : gIsM G) (V : gV) (a1 : Int32) : gMi l G yX8_named_ cX8_named_ 5 Jvm.ClassFile.FieldType.int (gR 1 20) [.ref (G.1 0), .int a1] V (fX8_named_ V a1) := by
  unfold fX8_named_
  refine gM_i (by decide +kernel) rfl rfl (Nat.le_of_ble_eq_true rfl) (fun X rr VV C E => ?_)
  change gC cX8_named_ 5 RX8 G X at C
  change gSm l (gR 1 20) 5 G X _ (rr, VV) V 0 [(0, .ref (G.1 0)), (1, .int a1)] []
  refine s_iload_n (q := 1) C 1 dX8_named__0 rfl rfl rfl ?_
  refine s_aload_n (q := 2) C 0 dX8_named__1 rfl rfl rfl ?_
  refine geX8_7 (q := 5) C (s80 hG) flX8_102 dX8_named__2 rfl ?_
  refine s_jn (fun J3 => ∀ (x2 : Int32), gSm l (gR 1 20) 5 G X (J3 x2) (rr, VV) V 15 [(0, .ref (G.1 0)), (1, .int a1)] [.int x2, .int a1]) ?_ (fun J3 hJ3 => ?_)
  · intro x2
    refine s_jn (fun J6 => ∀ (x5 : Int32), gSm l (gR 1 20) 5 G X (J6 x5) (rr, VV) V 23 [(0, .ref (G.1 0)), (1, .int a1)] [.int x5]) ?_ (fun J6 hJ6 => ?_)
    · intro x5
      refine s_istore_n (q := 24) (L' := [(2, .int x5), (0, .ref (G.1 0)), (1, .int a1)]) C dX8_named__23 rfl rfl (by decide) rfl ?_
      refine s_iload_n (q := 25) C 2 dX8_named__24 rfl rfl rfl ?_
      refine s_aload_n (q := 26) C 1 dX8_named__25 rfl rfl rfl ?_
      refine geX8_7 (q := 29) C (s80 hG) flX8_102 dX8_named__26 rfl ?_
      refine s_jn (fun J9 => ∀ (x8 : Int32), gSm l (gR 1 20) 5 G X (J9 x8) (rr, VV) V 39 [(0, .ref (G.1 0)), (1, .int a1), (2, .int x5)] [.int x8, .int a1]) ?_ (fun J9 hJ9 => ?_)
      · intro x8
        refine s_jn (fun J12 => ∀ (x11 : Int32), gSm l (gR 1 20) 5 G X (J12 x11) (rr, VV) V 47 [(0, .ref (G.1 0)), (1, .int a1), (2, .int x5)] [.int x11]) ?_ (fun J12 hJ12 => ?_)
        · intro x11
          refine s_istore_n (q := 48) (L' := [(3, .int x11), (0, .ref (G.1 0)), (1, .int a1), (2, .int x5)]) C dX8_named__47 rfl rfl (by decide) rfl ?_
          refine s_iload_n (q := 49) C 2 dX8_named__48 rfl rfl rfl ?_
          refine s_aload_n (q := 50) C 1 dX8_named__49 rfl rfl rfl ?_
          refine geX8_7 (q := 53) C (s80 hG) flX8_102 dX8_named__50 rfl ?_
          refine s_jn (fun J15 => ∀ (x14 : Int32), gSm l (gR 1 20) 5 G X (J15 x14) (rr, VV) V 63 [(0, .ref (G.1 0)), (2, .int x5), (3, .int x11)] [.int x14, .int a1]) ?_ (fun J15 hJ15 => ?_)
          · intro x14
            refine s_jn (fun J18 => ∀ (x17 : Int32), gSm l (gR 1 20) 5 G X (J18 x17) (rr, VV) V 71 [(0, .ref (G.1 0)), (2, .int x5), (3, .int x11)] [.int x17]) ?_ (fun J18 hJ18 => ?_)
            · intro x17
              refine s_istore (q := 73) (L' := [(4, .int x17), (0, .ref (G.1 0)), (2, .int x5), (3, .int x11)]) C dX8_named__71 rfl (by decide) rfl ?_
              refine s_iload_n (q := 74) C 2 dX8_named__73 rfl rfl rfl ?_
              refine s_jn (fun J24 => gSm l (gR 1 20) 5 G X (J24) (rr, VV) V 91 [(0, .ref (G.1 0)), (2, .int x5), (3, .int x11)] []) ?_ (fun J24 hJ24 => ?_)
              · refine s_aload_n (q := 92) C 0 dX8_named__91 rfl rfl rfl ?_
                refine s_dup (q := 93) C dX8_named__92 rfl rfl ?_
                refine geX8_8 (q := 96) C (s80 hG) flX8_109 dX8_named__93 rfl ?_
                refine s_iconst (q := 97) (v := 1) C dX8_named__96 rfl (by decide) ?_
                refine s_iadd (q := 98) C dX8_named__97 rfl ?_
                refine peX8_8 (q := 101) C (s80 hG) flX8_109 dX8_named__98 rfl (fun V25 => ?_)
                refine s_iload_n (q := 102) C 1 dX8_named__101 rfl rfl rfl ?_
                refine s_if_eq (tgt := 112) (q := 105) C dX8_named__102 (by decide) rfl (fun c26 => ?_) (fun c26 => ?_)
                · refine s_iload_n (q := 113) C 2 dX8_named__112 rfl rfl rfl ?_
                  refine s_if_eq (tgt := 123) (q := 116) C dX8_named__113 (by decide) rfl (fun c27 => ?_) (fun c27 => ?_)
                  · refine s_aload_n (q := 124) C 0 dX8_named__123 rfl rfl rfl ?_
                    refine geX8_13 (q := 127) C (s80 hG) flX8_128 dX8_named__124 rfl ?_
                    exact s_iret C E dX8_named__127
                  · refine s_aload_n (q := 117) C 0 dX8_named__116 rfl rfl rfl ?_
                    refine geX8_12 (q := 120) C (s80 hG) flX8_125 dX8_named__117 rfl ?_
                    refine s_goto (q := 127) C dX8_named__120 (by decide) ?_
                    exact s_iret C E dX8_named__127
                · refine s_aload_n (q := 106) C 0 dX8_named__105 rfl rfl rfl ?_
                  refine geX8_11 (q := 109) C (s80 hG) flX8_122 dX8_named__106 rfl ?_
                  refine s_goto (q := 127) C dX8_named__109 (by decide) ?_
                  exact s_iret C E dX8_named__127
              · refine s_if_ne (tgt := 91) (q := 77) C dX8_named__74 (by decide) rfl (fun c28 => ?_) (fun c28 => ?_)
                · refine s_iload_n (q := 78) C 3 dX8_named__77 rfl rfl rfl ?_
                  refine s_if_ne (tgt := 91) (q := 81) C dX8_named__78 (by decide) rfl (fun c29 => ?_) (fun c29 => ?_)
                  · refine s_iload (q := 83) C 0 dX8_named__81 rfl rfl ?_
                    refine s_if_ne (tgt := 91) (q := 86) C dX8_named__83 (by decide) rfl (fun c30 => ?_) (fun c30 => ?_)
                    · refine s_aload_n (q := 87) C 1 dX8_named__86 rfl rfl rfl ?_
                      refine s_Vi (q := 90) (As := []) (st := []) C (uX8_fails l G hG V) yvX8_fails mlX8_118 (s80 hG) rfl rfl rfl rfl rfl rfl (gR_le (by decide) (by decide)) (Nat.le_of_ble_eq_true rfl) dX8_named__87 rfl (fun x31 V32 => ?_)
                      exact s_iret C E dX8_named__90
                    · refine s_sub [1, 2, 3] rfl ?_
                      exact hJ24
                  · refine s_sub [1, 2, 3] rfl ?_
                    exact hJ24
                · refine s_sub [1, 2, 3] rfl ?_
                  exact hJ24
            · refine s_icmp_ne (tgt := 70) (q := 66) C dX8_named__63 (by decide) rfl (fun c33 => ?_) (fun c33 => ?_)
              · refine s_iconst (q := 67) (v := 1) C dX8_named__66 rfl (by decide) ?_
                refine s_goto (q := 71) C dX8_named__67 (by decide) ?_
                refine s_sub [0, 1, 2] rfl ?_
                exact hJ18 1
              · refine s_iconst (q := 71) (v := 0) C dX8_named__70 rfl (by decide) ?_
                refine s_sub [0, 1, 2] rfl ?_
                exact hJ18 0
          · refine s_if_ne (tgt := 61) (q := 56) C dX8_named__53 (by decide) rfl (fun c34 => ?_) (fun c34 => ?_)
            · refine s_bipush (q := 58) (v := 110) C dX8_named__56 rfl (by decide) ?_
              refine s_goto (q := 63) C dX8_named__58 (by decide) ?_
              refine s_sub [1, 3, 0] rfl ?_
              exact hJ15 110
            · refine s_bipush (q := 63) (v := 100) C dX8_named__61 rfl (by decide) ?_
              refine s_sub [1, 3, 0] rfl ?_
              exact hJ15 100
        · refine s_icmp_ne (tgt := 46) (q := 42) C dX8_named__39 (by decide) rfl (fun c35 => ?_) (fun c35 => ?_)
          · refine s_iconst (q := 43) (v := 1) C dX8_named__42 rfl (by decide) ?_
            refine s_goto (q := 47) C dX8_named__43 (by decide) ?_
            refine s_sub [0, 1, 2] rfl ?_
            exact hJ12 1
          · refine s_iconst (q := 47) (v := 0) C dX8_named__46 rfl (by decide) ?_
            refine s_sub [0, 1, 2] rfl ?_
            exact hJ12 0
      · refine s_if_ne (tgt := 37) (q := 32) C dX8_named__29 (by decide) rfl (fun c36 => ?_) (fun c36 => ?_)
        · refine s_bipush (q := 34) (v := 107) C dX8_named__32 rfl (by decide) ?_
          refine s_goto (q := 39) C dX8_named__34 (by decide) ?_
          refine s_sub [1, 2, 0] rfl ?_
          exact hJ9 107
        · refine s_bipush (q := 39) (v := 109) C dX8_named__37 rfl (by decide) ?_
          refine s_sub [1, 2, 0] rfl ?_
          exact hJ9 109
    · refine s_icmp_ne (tgt := 22) (q := 18) C dX8_named__15 (by decide) rfl (fun c37 => ?_) (fun c37 => ?_)
      · refine s_iconst (q := 19) (v := 1) C dX8_named__18 rfl (by decide) ?_
        refine s_goto (q := 23) C dX8_named__19 (by decide) ?_
        refine s_sub [0, 1] rfl ?_
        exact hJ6 1
      · refine s_iconst (q := 23) (v := 0) C dX8_named__22 rfl (by decide) ?_
        refine s_sub [0, 1] rfl ?_
        exact hJ6 0
  · refine s_if_ne (tgt := 13) (q := 8) C dX8_named__5 (by decide) rfl (fun c38 => ?_) (fun c38 => ?_)
    · refine s_bipush (q := 10) (v := 109) C dX8_named__8 rfl (by decide) ?_
      refine s_goto (q := 15) C dX8_named__10 (by decide) ?_
      refine s_sub [0, 1] rfl ?_
      exact hJ3 109
    · refine s_bipush (q := 15) (v := 119) C dX8_named__13 rfl (by decide) ?_
      refine s_sub [0, 1] rfl ?_
      exact hJ3 119
noncomputable def fX8_number_L1b (B4 : gV → Int32 → Int32 → Option (Int32 × gV)) (V1 : gV) (x2 : Int32) (x3 : Int32) : Option (Int32 × gV) := if 4 ≤ x3 then (some (x2, V1)) else (gbi (fX8_byteAt V1 (V1 0 8)) fun (x6 : Int32) (V7 : gV) => gbi (fX8_isDigit V7 x6) fun (x8 : Int32) (V9 : gV) => if x8 = 0 then (some (x2, V9)) else (gbi (fX8_byteAt V9 (V9 0 8)) fun (x11 : Int32) (V12 : gV) => glt (((10 * x2) + x11) - 48) fun (x13 : Int32) => gpu V12 0 8 ((V12 0 8) + 1) fun (V14 : gV) => B4 V14 x13 ((x3 + 1))))
noncomputable def fX8_number_L1 : Nat → gV → Int32 → Int32 → Option (Int32 × gV)
  | 0 => fun _ _ _ => none
  | n + 1 => fX8_number_L1b (fX8_number_L1 n)
noncomputable def fX8_number (V : gV)  : Option (Int32 × gV) := fX8_number_L1 gFu V 0 0
set_option maxHeartbeats 4000000 in
set_option maxRecDepth 100000 in
theorem uX8_number (l : Launch) (G : gG) (hG : gIsM G) (V : gV)  : gMi l G yX8_number cX8_number 3 Jvm.ClassFile.FieldType.int (gR 2 42) [.ref (G.1 0)] V (fX8_number V) := by
  unfold fX8_number
  refine gM_i (by decide +kernel) rfl rfl (Nat.le_of_ble_eq_true rfl) (fun X rr VV C E => ?_)
  change gC cX8_number 3 RX8 G X at C
  change gSm l (gR 2 42) 3 G X _ (rr, VV) V 0 [(0, .ref (G.1 0))] []
  refine s_iconst (q := 1) (v := 0) C dX8_number_0 rfl (by decide) ?_
  refine s_istore_n (q := 2) (L' := [(1, .int 0), (0, .ref (G.1 0))]) C dX8_number_1 rfl rfl (by decide) rfl ?_
  refine s_iconst (q := 3) (v := 0) C dX8_number_2 rfl (by decide) ?_
  refine s_istore_n (q := 4) (L' := [(2, .int 0), (1, .int 0), (0, .ref (G.1 0))]) C dX8_number_3 rfl rfl (by decide) rfl ?_
  have hL1 : ∀ (n : Nat) (V1 : gV) (x2 : Int32) (x3 : Int32), gSm l (gR 2 42) 3 G X (fX8_number_L1 n V1 x2 x3) (rr, VV) V1 4 [(0, .ref (G.1 0)), (1, .int x2), (2, .int x3)] [] := by
    intro n
    induction n with
    | zero => exact fun V1 x2 x3 => s_none
    | succ n ih =>
      intro V1 x2 x3
      show gSm l (gR 2 42) 3 G X (fX8_number_L1b (fX8_number_L1 n) V1 x2 x3) (rr, VV) V1 4 [(0, .ref (G.1 0)), (1, .int x2), (2, .int x3)] []
      generalize fX8_number_L1 n = B4 at ih ⊢
      have hB4 := ih
      unfold fX8_number_L1b
      refine s_iload_n (q := 5) C 2 dX8_number_4 rfl rfl rfl ?_
      refine s_iconst (q := 6) (v := 4) C dX8_number_5 rfl (by decide) ?_
      refine s_icmp_ge (tgt := 56) (q := 9) C dX8_number_6 (by decide) rfl (fun c5 => ?_) (fun c5 => ?_)
      · refine s_iload_n (q := 57) C 1 dX8_number_56 rfl rfl rfl ?_
        exact s_iret C E dX8_number_57
      · refine s_aload_n (q := 10) C 0 dX8_number_9 rfl rfl rfl ?_
        refine s_aload_n (q := 11) C 0 dX8_number_10 rfl rfl rfl ?_
        refine geX8_8 (q := 14) C (s80 hG) flX8_109 dX8_number_11 rfl ?_
        refine s_Vi (q := 17) (As := [.int (V1 0 8)]) (st := []) C (uX8_byteAt l G hG V1 (V1 0 8)) yvX8_byteAt mlX8_112 (s80 hG) rfl rfl rfl rfl rfl rfl (gR_le (by decide) (by decide)) (Nat.le_of_ble_eq_true rfl) dX8_number_14 rfl (fun x6 V7 => ?_)
        refine s_Si (q := 20) (As := [.int x6]) (st := []) C (uX8_isDigit l G hG V7 x6) ysX8_isDigit mlX8_115 rfl rfl rfl rfl (gR_le (by decide) (by decide)) (Nat.le_of_ble_eq_true rfl) dX8_number_17 rfl (fun x8 V9 => ?_)
        refine s_if_eq (tgt := 56) (q := 23) C dX8_number_20 (by decide) rfl (fun c10 => ?_) (fun c10 => ?_)
        · refine s_iload_n (q := 57) C 1 dX8_number_56 rfl rfl rfl ?_
          exact s_iret C E dX8_number_57
        · refine s_bipush (q := 25) (v := 10) C dX8_number_23 rfl (by decide) ?_
          refine s_iload_n (q := 26) C 1 dX8_number_25 rfl rfl rfl ?_
          refine s_imul (q := 27) C dX8_number_26 rfl ?_
          refine s_aload_n (q := 28) C 0 dX8_number_27 rfl rfl rfl ?_
          refine s_aload_n (q := 29) C 0 dX8_number_28 rfl rfl rfl ?_
          refine geX8_8 (q := 32) C (s80 hG) flX8_109 dX8_number_29 rfl ?_
          refine s_Vi (q := 35) (As := [.int (V9 0 8)]) (st := [.int (10 * x2)]) C (uX8_byteAt l G hG V9 (V9 0 8)) yvX8_byteAt mlX8_112 (s80 hG) rfl rfl rfl rfl rfl rfl (gR_le (by decide) (by decide)) (Nat.le_of_ble_eq_true rfl) dX8_number_32 rfl (fun x11 V12 => ?_)
          refine s_iadd (q := 36) C dX8_number_35 rfl ?_
          refine s_bipush (q := 38) (v := 48) C dX8_number_36 rfl (by decide) ?_
          refine s_isub (q := 39) C dX8_number_38 rfl ?_
          refine s_lt (fun x13 => ?_)
          refine s_istore_n (q := 40) (L' := [(1, .int x13), (0, .ref (G.1 0)), (2, .int x3)]) C dX8_number_39 rfl rfl (by decide) rfl ?_
          refine s_aload_n (q := 41) C 1 dX8_number_40 rfl rfl rfl ?_
          refine s_dup (q := 42) C dX8_number_41 rfl rfl ?_
          refine geX8_8 (q := 45) C (s80 hG) flX8_109 dX8_number_42 rfl ?_
          refine s_iconst (q := 46) (v := 1) C dX8_number_45 rfl (by decide) ?_
          refine s_iadd (q := 47) C dX8_number_46 rfl ?_
          refine peX8_8 (q := 50) C (s80 hG) flX8_109 dX8_number_47 rfl (fun V14 => ?_)
          refine s_iinc (q := 53) (w := 1) (L' := [(2, .int (x3 + 1)), (1, .int x13), (0, .ref (G.1 0))]) C 2 dX8_number_50 rfl rfl (by decide) rfl (by decide) rfl ?_
          refine s_goto (q := 4) C dX8_number_53 (by decide) ?_
          refine s_sub [2, 1, 0] rfl ?_
          exact hB4 V14 x13 ((x3 + 1))
  refine s_sub [2, 1, 0] rfl ?_
  exact hL1 gFu V 0 0
noncomputable def fX8_factor_B (rc : Nat → gV → Option (Int32 × gV)) (V : gV)  : Option (Int32 × gV) := gbi (fX8_byteAt V (V 0 8)) fun (x1 : Int32) (V2 : gV) => gbi (fX8_isDigit V2 x1) fun (x3 : Int32) (V4 : gV) => if x3 = 0 then (gjn (if (V4 0 10) = 5 then (gbi (fX8_fails V4) fun (x39 : Int32) (V40 : gV) => some (x39, V40)) else (gpu V4 0 10 ((V4 0 10) + 1) fun (V12 : gV) => gpu V12 0 8 ((V12 0 8) + 1) fun (V13 : gV) => gjn (fun (x19 : Int32) (V20 : gV) => gpu V20 0 10 ((V20 0 10) - 1) fun (V22 : gV) => if x1 = 33 then (if x19 = 0 then (some (1, V22)) else (some (0, V22))) else (if (V22 0 14) = 0 then (gbi (fX8_fails V22) fun (x25 : Int32) (V26 : gV) => some (x25, V26)) else (gbi (fX8_byteAt V22 (V22 0 8)) fun (x27 : Int32) (V28 : gV) => if x27 = 41 then (gpu V28 0 8 ((V28 0 8) + 1) fun (V32 : gV) => some (x19, V32)) else (gbi (fX8_fails V28) fun (x30 : Int32) (V31 : gV) => some (x30, V31))))) fun J21 => if x1 = 33 then (gbi (rc 0 V13) fun (x37 : Int32) (V38 : gV) => J21 x37 V38) else (gbi (rc 5 V13) fun (x35 : Int32) (V36 : gV) => J21 x35 V36))) fun J10 => if x1 = 33 then (J10) else (if x1 = 40 then (J10) else (gbi (fX8_named_ V4 x1) fun (x43 : Int32) (V44 : gV) => some (x43, V44)))) else (gbi (fX8_number V4) fun (x45 : Int32) (V46 : gV) => some (x45, V46))
noncomputable def fX8_product_L1b (rc : Nat → gV → Option (Int32 × gV)) (B5 : gV → Int32 → Option (Int32 × gV)) (V3 : gV) (x4 : Int32) : Option (Int32 × gV) := if (V3 0 14) = 0 then (some (x4, V3)) else (gbi (fX8_byteAt V3 (V3 0 8)) fun (x7 : Int32) (V8 : gV) => gjn (fun (V16 : gV) => gbi (fX8_byteAt V16 (V16 0 8)) fun (x18 : Int32) (V19 : gV) => gpu V19 0 8 ((V19 0 8) + 1) fun (V20 : gV) => gbi (rc 0 V20) fun (x21 : Int32) (V22 : gV) => if x18 = 42 then (glt (x4 * x21) fun (x28 : Int32) => B5 V22 x28) else (if x21 = 0 then (B5 V22 0) else (if x18 = 47 then (gdv x21 <| glt (x4 / x21) fun (x27 : Int32) => B5 V22 x27) else (gdv x21 <| glt (grm x4 x21) fun (x26 : Int32) => B5 V22 x26)))) fun J17 => if x7 = 42 then (J17 V8) else (gbi (fX8_byteAt V8 (V8 0 8)) fun (x30 : Int32) (V31 : gV) => if x30 = 47 then (J17 V31) else (gbi (fX8_byteAt V31 (V31 0 8)) fun (x33 : Int32) (V34 : gV) => if x33 = 37 then (J17 V34) else (some (x4, V34)))))
noncomputable def fX8_product_L1 (rc : Nat → gV → Option (Int32 × gV)) : Nat → gV → Int32 → Option (Int32 × gV)
  | 0 => fun _ _ => none
  | n + 1 => fX8_product_L1b rc (fX8_product_L1 rc n)
noncomputable def fX8_product_B (rc : Nat → gV → Option (Int32 × gV)) (V : gV)  : Option (Int32 × gV) := gbi (rc 0 V) fun (x1 : Int32) (V2 : gV) => fX8_product_L1 rc gFu V2 x1
noncomputable def fX8_sum_L1b (rc : Nat → gV → Option (Int32 × gV)) (B5 : gV → Int32 → Option (Int32 × gV)) (V3 : gV) (x4 : Int32) : Option (Int32 × gV) := if (V3 0 14) = 0 then (some (x4, V3)) else (gbi (fX8_byteAt V3 (V3 0 8)) fun (x7 : Int32) (V8 : gV) => gjn (fun (V13 : gV) => gbi (fX8_byteAt V13 (V13 0 8)) fun (x15 : Int32) (V16 : gV) => gpu V16 0 8 ((V16 0 8) + 1) fun (V17 : gV) => gbi (rc 1 V17) fun (x18 : Int32) (V19 : gV) => if x15 = 43 then (glt (x4 + x18) fun (x22 : Int32) => B5 V19 x22) else (glt (x4 - x18) fun (x21 : Int32) => B5 V19 x21)) fun J14 => if x7 = 43 then (J14 V8) else (gbi (fX8_byteAt V8 (V8 0 8)) fun (x24 : Int32) (V25 : gV) => if x24 = 45 then (J14 V25) else (some (x4, V25))))
noncomputable def fX8_sum_L1 (rc : Nat → gV → Option (Int32 × gV)) : Nat → gV → Int32 → Option (Int32 × gV)
  | 0 => fun _ _ => none
  | n + 1 => fX8_sum_L1b rc (fX8_sum_L1 rc n)
noncomputable def fX8_sum_B (rc : Nat → gV → Option (Int32 × gV)) (V : gV)  : Option (Int32 × gV) := gbi (rc 1 V) fun (x1 : Int32) (V2 : gV) => fX8_sum_L1 rc gFu V2 x1
noncomputable def fX8_compared_B (rc : Nat → gV → Option (Int32 × gV)) (V : gV)  : Option (Int32 × gV) := gbi (rc 2 V) fun (x1 : Int32) (V2 : gV) => gjn (fun (x6 : Int32) (V7 : gV) => gjn (gpu V7 0 8 ((V7 0 8) + 1) fun (V13 : gV) => gbi (rc 2 V13) fun (x14 : Int32) (V15 : gV) => gjn (fun (x21 : Int32) => if x21 = 0 then (some (0, V15)) else (some (1, V15))) fun J22 => if x6 = 60 then (if x14 ≤ x1 then (J22 0) else (J22 1)) else (if x6 = 61 then (if x1 = x14 then (J22 1) else (J22 0)) else (if x1 ≤ x14 then (J22 0) else (J22 1)))) fun J12 => if x6 = 60 then (J12) else (if x6 = 61 then (J12) else (if x6 = 62 then (J12) else (some (x1, V7))))) fun J8 => if (V2 0 14) = 0 then (J8 (-1) V2) else (gbi (fX8_byteAt V2 (V2 0 8)) fun (x33 : Int32) (V34 : gV) => J8 x33 V34)
noncomputable def fX8_both_L1b (rc : Nat → gV → Option (Int32 × gV)) (B5 : gV → Int32 → Option (Int32 × gV)) (V3 : gV) (x4 : Int32) : Option (Int32 × gV) := if (V3 0 14) = 0 then (some (x4, V3)) else (gbi (fX8_byteAt V3 (V3 0 8)) fun (x7 : Int32) (V8 : gV) => if x7 = 38 then (gpu V8 0 8 ((V8 0 8) + 1) fun (V10 : gV) => gbi (rc 3 V10) fun (x11 : Int32) (V12 : gV) => if x4 = 0 then (B5 V12 0) else (if x11 = 0 then (B5 V12 0) else (B5 V12 1))) else (some (x4, V8)))
noncomputable def fX8_both_L1 (rc : Nat → gV → Option (Int32 × gV)) : Nat → gV → Int32 → Option (Int32 × gV)
  | 0 => fun _ _ => none
  | n + 1 => fX8_both_L1b rc (fX8_both_L1 rc n)
noncomputable def fX8_both_B (rc : Nat → gV → Option (Int32 × gV)) (V : gV)  : Option (Int32 × gV) := gbi (rc 3 V) fun (x1 : Int32) (V2 : gV) => fX8_both_L1 rc gFu V2 x1
noncomputable def fX8_whole_L1b (rc : Nat → gV → Option (Int32 × gV)) (B5 : gV → Int32 → Option (Int32 × gV)) (V3 : gV) (x4 : Int32) : Option (Int32 × gV) := if (V3 0 14) = 0 then (some (x4, V3)) else (gbi (fX8_byteAt V3 (V3 0 8)) fun (x7 : Int32) (V8 : gV) => if x7 = 124 then (gpu V8 0 8 ((V8 0 8) + 1) fun (V10 : gV) => gbi (rc 4 V10) fun (x11 : Int32) (V12 : gV) => if x4 = 0 then (if x11 = 0 then (B5 V12 0) else (B5 V12 1)) else (B5 V12 1)) else (some (x4, V8)))
noncomputable def fX8_whole_L1 (rc : Nat → gV → Option (Int32 × gV)) : Nat → gV → Int32 → Option (Int32 × gV)
  | 0 => fun _ _ => none
  | n + 1 => fX8_whole_L1b rc (fX8_whole_L1 rc n)
noncomputable def fX8_whole_B (rc : Nat → gV → Option (Int32 × gV)) (V : gV)  : Option (Int32 × gV) := gbi (rc 4 V) fun (x1 : Int32) (V2 : gV) => fX8_whole_L1 rc gFu V2 x1
noncomputable def fpaX8 : Nat → Nat → gV → Option (Int32 × gV)
  | 0 => fun _ _ => none
  | d + 1 => fun t V  => match t with
    | 0 => fX8_factor_B (fpaX8 d) V 
    | 1 => fX8_product_B (fpaX8 d) V 
    | 2 => fX8_sum_B (fpaX8 d) V 
    | 3 => fX8_compared_B (fpaX8 d) V 
    | 4 => fX8_both_B (fpaX8 d) V 
    | _ => fX8_whole_B (fpaX8 d) V 
set_option maxHeartbeats 8000000 in
set_option maxRecDepth 100000 in
theorem upaX8 (l : Launch) (G : gG) (hG : gIsM G) : ∀ (d : Nat), (∀ (V : gV) , gMi l G yX8_factor cX8_factor 3 Jvm.ClassFile.FieldType.int (gR (3 + 1 * d) (64 + 24 * d)) [.ref (G.1 0)] V (fpaX8 d 0 V)) ∧ (∀ (V : gV) , gMi l G yX8_product cX8_product 4 Jvm.ClassFile.FieldType.int (gR (3 + 1 * d) (64 + 24 * d)) [.ref (G.1 0)] V (fpaX8 d 1 V)) ∧ (∀ (V : gV) , gMi l G yX8_sum cX8_sum 4 Jvm.ClassFile.FieldType.int (gR (3 + 1 * d) (64 + 24 * d)) [.ref (G.1 0)] V (fpaX8 d 2 V)) ∧ (∀ (V : gV) , gMi l G yX8_compared cX8_compared 5 Jvm.ClassFile.FieldType.int (gR (3 + 1 * d) (64 + 24 * d)) [.ref (G.1 0)] V (fpaX8 d 3 V)) ∧ (∀ (V : gV) , gMi l G yX8_both cX8_both 3 Jvm.ClassFile.FieldType.int (gR (3 + 1 * d) (64 + 24 * d)) [.ref (G.1 0)] V (fpaX8 d 4 V)) ∧ (∀ (V : gV) , gMi l G yX8_whole cX8_whole 3 Jvm.ClassFile.FieldType.int (gR (3 + 1 * d) (64 + 24 * d)) [.ref (G.1 0)] V (fpaX8 d 5 V)) := by
  intro d
  induction d with
  | zero => exact ⟨by intros; intro _; intros; contradiction, by intros; intro _; intros; contradiction, by intros; intro _; intros; contradiction, by intros; intro _; intros; contradiction, by intros; intro _; intros; contradiction, by intros; intro _; intros; contradiction⟩
  | succ d ih =>
    obtain ⟨hrc0, hrc1, hrc2, hrc3, hrc4, hrc5⟩ := ih
    refine ⟨?_, ?_, ?_, ?_, ?_, ?_⟩
    · intro V 
      show gMi l G yX8_factor cX8_factor 3 Jvm.ClassFile.FieldType.int (gR (3 + 1 * (d + 1)) (64 + 24 * (d + 1))) [.ref (G.1 0)] V (fX8_factor_B (fpaX8 d) V)
      generalize fpaX8 d = rc at hrc0 hrc1 hrc2 hrc3 hrc4 hrc5 ⊢
      unfold fX8_factor_B
      refine gM_i (by decide +kernel) rfl rfl (Nat.le_of_ble_eq_true rfl) (fun X rr VV C E => ?_)
      change gC cX8_factor 3 RX8 G X at C
      change gSm l (gR (3 + 1 * (d + 1)) (64 + 24 * (d + 1))) 3 G X _ (rr, VV) V 0 [(0, .ref (G.1 0))] []
      refine s_aload_n (q := 1) C 0 dX8_factor_0 rfl rfl rfl ?_
      refine s_aload_n (q := 2) C 0 dX8_factor_1 rfl rfl rfl ?_
      refine geX8_8 (q := 5) C (s80 hG) flX8_109 dX8_factor_2 rfl ?_
      refine s_Vi (q := 8) (As := [.int (V 0 8)]) (st := []) C (uX8_byteAt l G hG V (V 0 8)) yvX8_byteAt mlX8_112 (s80 hG) rfl rfl rfl rfl rfl rfl (gR_le (by omega) (by omega)) (Nat.le_of_ble_eq_true rfl) dX8_factor_5 rfl (fun x1 V2 => ?_)
      refine s_istore_n (q := 9) (L' := [(1, .int x1), (0, .ref (G.1 0))]) C dX8_factor_8 rfl rfl (by decide) rfl ?_
      refine s_iload_n (q := 10) C 0 dX8_factor_9 rfl rfl rfl ?_
      refine s_Si (q := 13) (As := [.int x1]) (st := []) C (uX8_isDigit l G hG V2 x1) ysX8_isDigit mlX8_115 rfl rfl rfl rfl (gR_le (by omega) (by omega)) (Nat.le_of_ble_eq_true rfl) dX8_factor_10 rfl (fun x3 V4 => ?_)
      refine s_if_eq (tgt := 21) (q := 16) C dX8_factor_13 (by decide) rfl (fun c5 => ?_) (fun c5 => ?_)
      · refine s_iload_n (q := 22) C 0 dX8_factor_21 rfl rfl rfl ?_
        refine s_bipush (q := 24) (v := 33) C dX8_factor_22 rfl (by decide) ?_
        refine s_jn (fun J10 => gSm l (gR (3 + 1 * (d + 1)) (64 + 24 * (d + 1))) 3 G X (J10) (rr, VV) V4 39 [(0, .ref (G.1 0)), (1, .int x1)] []) ?_ (fun J10 hJ10 => ?_)
        · refine s_aload_n (q := 40) C 0 dX8_factor_39 rfl rfl rfl ?_
          refine geX8_10 (q := 43) C (s80 hG) flX8_137 dX8_factor_40 rfl ?_
          refine s_iconst (q := 44) (v := 5) C dX8_factor_43 rfl (by decide) ?_
          refine s_icmp_ne (tgt := 52) (q := 47) C dX8_factor_44 (by decide) rfl (fun c11 => ?_) (fun c11 => ?_)
          · refine s_aload_n (q := 48) C 0 dX8_factor_47 rfl rfl rfl ?_
            refine s_Vi (q := 51) (As := []) (st := []) C (uX8_fails l G hG V4) yvX8_fails mlX8_118 (s80 hG) rfl rfl rfl rfl rfl rfl (gR_le (by omega) (by omega)) (Nat.le_of_ble_eq_true rfl) dX8_factor_48 rfl (fun x39 V40 => ?_)
            exact s_iret C E dX8_factor_51
          · refine s_aload_n (q := 53) C 0 dX8_factor_52 rfl rfl rfl ?_
            refine s_dup (q := 54) C dX8_factor_53 rfl rfl ?_
            refine geX8_10 (q := 57) C (s80 hG) flX8_137 dX8_factor_54 rfl ?_
            refine s_iconst (q := 58) (v := 1) C dX8_factor_57 rfl (by decide) ?_
            refine s_iadd (q := 59) C dX8_factor_58 rfl ?_
            refine peX8_10 (q := 62) C (s80 hG) flX8_137 dX8_factor_59 rfl (fun V12 => ?_)
            refine s_aload_n (q := 63) C 0 dX8_factor_62 rfl rfl rfl ?_
            refine s_dup (q := 64) C dX8_factor_63 rfl rfl ?_
            refine geX8_8 (q := 67) C (s80 hG) flX8_109 dX8_factor_64 rfl ?_
            refine s_iconst (q := 68) (v := 1) C dX8_factor_67 rfl (by decide) ?_
            refine s_iadd (q := 69) C dX8_factor_68 rfl ?_
            refine peX8_8 (q := 72) C (s80 hG) flX8_109 dX8_factor_69 rfl (fun V13 => ?_)
            refine s_iload_n (q := 73) C 1 dX8_factor_72 rfl rfl rfl ?_
            refine s_bipush (q := 75) (v := 33) C dX8_factor_73 rfl (by decide) ?_
            refine s_jn (fun J21 => ∀ (x19 : Int32) (V20 : gV), gSm l (gR (3 + 1 * (d + 1)) (64 + 24 * (d + 1))) 3 G X (J21 x19 V20) (rr, VV) V20 89 [(0, .ref (G.1 0)), (1, .int x1)] [.int x19]) ?_ (fun J21 hJ21 => ?_)
            · intro x19 V20
              refine s_istore_n (q := 90) (L' := [(2, .int x19), (0, .ref (G.1 0)), (1, .int x1)]) C dX8_factor_89 rfl rfl (by decide) rfl ?_
              refine s_aload_n (q := 91) C 1 dX8_factor_90 rfl rfl rfl ?_
              refine s_dup (q := 92) C dX8_factor_91 rfl rfl ?_
              refine geX8_10 (q := 95) C (s80 hG) flX8_137 dX8_factor_92 rfl ?_
              refine s_iconst (q := 96) (v := 1) C dX8_factor_95 rfl (by decide) ?_
              refine s_isub (q := 97) C dX8_factor_96 rfl ?_
              refine peX8_10 (q := 100) C (s80 hG) flX8_137 dX8_factor_97 rfl (fun V22 => ?_)
              refine s_iload_n (q := 101) C 2 dX8_factor_100 rfl rfl rfl ?_
              refine s_bipush (q := 103) (v := 33) C dX8_factor_101 rfl (by decide) ?_
              refine s_icmp_ne (tgt := 116) (q := 106) C dX8_factor_103 (by decide) rfl (fun c23 => ?_) (fun c23 => ?_)
              · refine s_iload_n (q := 107) C 0 dX8_factor_106 rfl rfl rfl ?_
                refine s_if_ne (tgt := 114) (q := 110) C dX8_factor_107 (by decide) rfl (fun c33 => ?_) (fun c33 => ?_)
                · refine s_iconst (q := 111) (v := 1) C dX8_factor_110 rfl (by decide) ?_
                  refine s_goto (q := 115) C dX8_factor_111 (by decide) ?_
                  exact s_iret C E dX8_factor_115
                · refine s_iconst (q := 115) (v := 0) C dX8_factor_114 rfl (by decide) ?_
                  exact s_iret C E dX8_factor_115
              · refine s_aload_n (q := 117) C 1 dX8_factor_116 rfl rfl rfl ?_
                refine geX8_14 (q := 120) C (s80 hG) flX8_105 dX8_factor_117 rfl ?_
                refine s_if_eq (tgt := 148) (q := 123) C dX8_factor_120 (by decide) rfl (fun c24 => ?_) (fun c24 => ?_)
                · refine s_aload_n (q := 149) C 1 dX8_factor_148 rfl rfl rfl ?_
                  refine s_Vi (q := 152) (As := []) (st := []) C (uX8_fails l G hG V22) yvX8_fails mlX8_118 (s80 hG) rfl rfl rfl rfl rfl rfl (gR_le (by omega) (by omega)) (Nat.le_of_ble_eq_true rfl) dX8_factor_149 rfl (fun x25 V26 => ?_)
                  exact s_iret C E dX8_factor_152
                · refine s_aload_n (q := 124) C 1 dX8_factor_123 rfl rfl rfl ?_
                  refine s_aload_n (q := 125) C 1 dX8_factor_124 rfl rfl rfl ?_
                  refine geX8_8 (q := 128) C (s80 hG) flX8_109 dX8_factor_125 rfl ?_
                  refine s_Vi (q := 131) (As := [.int (V22 0 8)]) (st := []) C (uX8_byteAt l G hG V22 (V22 0 8)) yvX8_byteAt mlX8_112 (s80 hG) rfl rfl rfl rfl rfl rfl (gR_le (by omega) (by omega)) (Nat.le_of_ble_eq_true rfl) dX8_factor_128 rfl (fun x27 V28 => ?_)
                  refine s_bipush (q := 133) (v := 41) C dX8_factor_131 rfl (by decide) ?_
                  refine s_icmp_ne (tgt := 148) (q := 136) C dX8_factor_133 (by decide) rfl (fun c29 => ?_) (fun c29 => ?_)
                  · refine s_aload_n (q := 137) C 1 dX8_factor_136 rfl rfl rfl ?_
                    refine s_dup (q := 138) C dX8_factor_137 rfl rfl ?_
                    refine geX8_8 (q := 141) C (s80 hG) flX8_109 dX8_factor_138 rfl ?_
                    refine s_iconst (q := 142) (v := 1) C dX8_factor_141 rfl (by decide) ?_
                    refine s_iadd (q := 143) C dX8_factor_142 rfl ?_
                    refine peX8_8 (q := 146) C (s80 hG) flX8_109 dX8_factor_143 rfl (fun V32 => ?_)
                    refine s_iload_n (q := 147) C 0 dX8_factor_146 rfl rfl rfl ?_
                    exact s_iret C E dX8_factor_147
                  · refine s_aload_n (q := 149) C 1 dX8_factor_148 rfl rfl rfl ?_
                    refine s_Vi (q := 152) (As := []) (st := []) C (uX8_fails l G hG V28) yvX8_fails mlX8_118 (s80 hG) rfl rfl rfl rfl rfl rfl (gR_le (by omega) (by omega)) (Nat.le_of_ble_eq_true rfl) dX8_factor_149 rfl (fun x30 V31 => ?_)
                    exact s_iret C E dX8_factor_152
            · refine s_icmp_ne (tgt := 85) (q := 78) C dX8_factor_75 (by decide) rfl (fun c34 => ?_) (fun c34 => ?_)
              · refine s_aload_n (q := 79) C 0 dX8_factor_78 rfl rfl rfl ?_
                refine s_Vi (q := 82) (As := []) (st := []) C (hrc0 V13) yvX8_factor mlX8_140 (s80 hG) rfl rfl rfl rfl rfl rfl (gR_le (by omega) (by omega)) (Nat.le_of_ble_eq_true rfl) dX8_factor_79 rfl (fun x37 V38 => ?_)
                refine s_goto (q := 89) C dX8_factor_82 (by decide) ?_
                refine s_sub [0, 1] rfl ?_
                exact hJ21 x37 V38
              · refine s_aload_n (q := 86) C 0 dX8_factor_85 rfl rfl rfl ?_
                refine s_Vi (q := 89) (As := []) (st := []) C (hrc5 V13) yvX8_whole mlX8_143 (s80 hG) rfl rfl rfl rfl rfl rfl (gR_le (by omega) (by omega)) (Nat.le_of_ble_eq_true rfl) dX8_factor_86 rfl (fun x35 V36 => ?_)
                refine s_sub [0, 1] rfl ?_
                exact hJ21 x35 V36
        · refine s_icmp_eq (tgt := 39) (q := 27) C dX8_factor_24 (by decide) rfl (fun c41 => ?_) (fun c41 => ?_)
          · refine s_sub [1, 0] rfl ?_
            exact hJ10
          · refine s_iload_n (q := 28) C 0 dX8_factor_27 rfl rfl rfl ?_
            refine s_bipush (q := 30) (v := 40) C dX8_factor_28 rfl (by decide) ?_
            refine s_icmp_eq (tgt := 39) (q := 33) C dX8_factor_30 (by decide) rfl (fun c42 => ?_) (fun c42 => ?_)
            · refine s_sub [1, 0] rfl ?_
              exact hJ10
            · refine s_aload_n (q := 34) C 1 dX8_factor_33 rfl rfl rfl ?_
              refine s_iload_n (q := 35) C 0 dX8_factor_34 rfl rfl rfl ?_
              refine s_Vi (q := 38) (As := [.int x1]) (st := []) C (uX8_named_ l G hG V4 x1) yvX8_named_ mlX8_134 (s80 hG) rfl rfl rfl rfl rfl rfl (gR_le (by omega) (by omega)) (Nat.le_of_ble_eq_true rfl) dX8_factor_35 rfl (fun x43 V44 => ?_)
              exact s_iret C E dX8_factor_38
      · refine s_aload_n (q := 17) C 1 dX8_factor_16 rfl rfl rfl ?_
        refine s_Vi (q := 20) (As := []) (st := []) C (uX8_number l G hG V4) yvX8_number mlX8_131 (s80 hG) rfl rfl rfl rfl rfl rfl (gR_le (by omega) (by omega)) (Nat.le_of_ble_eq_true rfl) dX8_factor_17 rfl (fun x45 V46 => ?_)
        exact s_iret C E dX8_factor_20
    · intro V 
      show gMi l G yX8_product cX8_product 4 Jvm.ClassFile.FieldType.int (gR (3 + 1 * (d + 1)) (64 + 24 * (d + 1))) [.ref (G.1 0)] V (fX8_product_B (fpaX8 d) V)
      generalize fpaX8 d = rc at hrc0 hrc1 hrc2 hrc3 hrc4 hrc5 ⊢
      unfold fX8_product_B
      refine gM_i (by decide +kernel) rfl rfl (Nat.le_of_ble_eq_true rfl) (fun X rr VV C E => ?_)
      change gC cX8_product 4 RX8 G X at C
      change gSm l (gR (3 + 1 * (d + 1)) (64 + 24 * (d + 1))) 4 G X _ (rr, VV) V 0 [(0, .ref (G.1 0))] []
      refine s_aload_n (q := 1) C 0 dX8_product_0 rfl rfl rfl ?_
      refine s_Vi (q := 4) (As := []) (st := []) C (hrc0 V) yvX8_factor mlX8_140 (s80 hG) rfl rfl rfl rfl rfl rfl (gR_le (by omega) (by omega)) (Nat.le_of_ble_eq_true rfl) dX8_product_1 rfl (fun x1 V2 => ?_)
      refine s_istore_n (q := 5) (L' := [(1, .int x1), (0, .ref (G.1 0))]) C dX8_product_4 rfl rfl (by decide) rfl ?_
      have hL1 : ∀ (n : Nat) (V3 : gV) (x4 : Int32), gSm l (gR (3 + 1 * (d + 1)) (64 + 24 * (d + 1))) 4 G X (fX8_product_L1 rc n V3 x4) (rr, VV) V3 5 [(0, .ref (G.1 0)), (1, .int x4)] [] := by
        intro n
        induction n with
        | zero => exact fun V3 x4 => s_none
        | succ n ih =>
          intro V3 x4
          show gSm l (gR (3 + 1 * (d + 1)) (64 + 24 * (d + 1))) 4 G X (fX8_product_L1b rc (fX8_product_L1 rc n) V3 x4) (rr, VV) V3 5 [(0, .ref (G.1 0)), (1, .int x4)] []
          generalize fX8_product_L1 rc n = B5 at ih ⊢
          have hB5 := ih
          unfold fX8_product_L1b
          refine s_aload_n (q := 6) C 0 dX8_product_5 rfl rfl rfl ?_
          refine geX8_14 (q := 9) C (s80 hG) flX8_105 dX8_product_6 rfl ?_
          refine s_if_eq (tgt := 114) (q := 12) C dX8_product_9 (by decide) rfl (fun c6 => ?_) (fun c6 => ?_)
          · refine s_iload_n (q := 115) C 1 dX8_product_114 rfl rfl rfl ?_
            exact s_iret C E dX8_product_115
          · refine s_aload_n (q := 13) C 0 dX8_product_12 rfl rfl rfl ?_
            refine s_aload_n (q := 14) C 0 dX8_product_13 rfl rfl rfl ?_
            refine geX8_8 (q := 17) C (s80 hG) flX8_109 dX8_product_14 rfl ?_
            refine s_Vi (q := 20) (As := [.int (V3 0 8)]) (st := []) C (uX8_byteAt l G hG V3 (V3 0 8)) yvX8_byteAt mlX8_112 (s80 hG) rfl rfl rfl rfl rfl rfl (gR_le (by omega) (by omega)) (Nat.le_of_ble_eq_true rfl) dX8_product_17 rfl (fun x7 V8 => ?_)
            refine s_bipush (q := 22) (v := 42) C dX8_product_20 rfl (by decide) ?_
            refine s_jn (fun J17 => ∀ (V16 : gV), gSm l (gR (3 + 1 * (d + 1)) (64 + 24 * (d + 1))) 4 G X (J17 V16) (rr, VV) V16 51 [(0, .ref (G.1 0)), (1, .int x4)] []) ?_ (fun J17 hJ17 => ?_)
            · intro V16
              refine s_aload_n (q := 52) C 0 dX8_product_51 rfl rfl rfl ?_
              refine s_aload_n (q := 53) C 0 dX8_product_52 rfl rfl rfl ?_
              refine geX8_8 (q := 56) C (s80 hG) flX8_109 dX8_product_53 rfl ?_
              refine s_Vi (q := 59) (As := [.int (V16 0 8)]) (st := []) C (uX8_byteAt l G hG V16 (V16 0 8)) yvX8_byteAt mlX8_112 (s80 hG) rfl rfl rfl rfl rfl rfl (gR_le (by omega) (by omega)) (Nat.le_of_ble_eq_true rfl) dX8_product_56 rfl (fun x18 V19 => ?_)
              refine s_istore_n (q := 60) (L' := [(2, .int x18), (0, .ref (G.1 0)), (1, .int x4)]) C dX8_product_59 rfl rfl (by decide) rfl ?_
              refine s_aload_n (q := 61) C 1 dX8_product_60 rfl rfl rfl ?_
              refine s_dup (q := 62) C dX8_product_61 rfl rfl ?_
              refine geX8_8 (q := 65) C (s80 hG) flX8_109 dX8_product_62 rfl ?_
              refine s_iconst (q := 66) (v := 1) C dX8_product_65 rfl (by decide) ?_
              refine s_iadd (q := 67) C dX8_product_66 rfl ?_
              refine peX8_8 (q := 70) C (s80 hG) flX8_109 dX8_product_67 rfl (fun V20 => ?_)
              refine s_aload_n (q := 71) C 1 dX8_product_70 rfl rfl rfl ?_
              refine s_Vi (q := 74) (As := []) (st := []) C (hrc0 V20) yvX8_factor mlX8_140 (s80 hG) rfl rfl rfl rfl rfl rfl (gR_le (by omega) (by omega)) (Nat.le_of_ble_eq_true rfl) dX8_product_71 rfl (fun x21 V22 => ?_)
              refine s_istore_n (q := 75) (L' := [(3, .int x21), (2, .int x18), (0, .ref (G.1 0)), (1, .int x4)]) C dX8_product_74 rfl rfl (by decide) rfl ?_
              refine s_iload_n (q := 76) C 1 dX8_product_75 rfl rfl rfl ?_
              refine s_bipush (q := 78) (v := 42) C dX8_product_76 rfl (by decide) ?_
              refine s_icmp_ne (tgt := 87) (q := 81) C dX8_product_78 (by decide) rfl (fun c23 => ?_) (fun c23 => ?_)
              · refine s_iload_n (q := 82) C 3 dX8_product_81 rfl rfl rfl ?_
                refine s_iload_n (q := 83) C 0 dX8_product_82 rfl rfl rfl ?_
                refine s_imul (q := 84) C dX8_product_83 rfl ?_
                refine s_goto (q := 110) C dX8_product_84 (by decide) ?_
                refine s_lt (fun x28 => ?_)
                refine s_istore_n (q := 111) (L' := [(1, .int x28), (3, .int x21), (2, .int x18), (0, .ref (G.1 0))]) C dX8_product_110 rfl rfl (by decide) rfl ?_
                refine s_goto (q := 5) C dX8_product_111 (by decide) ?_
                refine s_sub [3, 0] rfl ?_
                exact hB5 V22 x28
              · refine s_iload_n (q := 88) C 0 dX8_product_87 rfl rfl rfl ?_
                refine s_if_ne (tgt := 95) (q := 91) C dX8_product_88 (by decide) rfl (fun c24 => ?_) (fun c24 => ?_)
                · refine s_iconst (q := 92) (v := 0) C dX8_product_91 rfl (by decide) ?_
                  refine s_goto (q := 110) C dX8_product_92 (by decide) ?_
                  refine s_istore_n (q := 111) (L' := [(1, .int 0), (3, .int x21), (2, .int x18), (0, .ref (G.1 0))]) C dX8_product_110 rfl rfl (by decide) rfl ?_
                  refine s_goto (q := 5) C dX8_product_111 (by decide) ?_
                  refine s_sub [3, 0] rfl ?_
                  exact hB5 V22 0
                · refine s_iload_n (q := 96) C 1 dX8_product_95 rfl rfl rfl ?_
                  refine s_bipush (q := 98) (v := 47) C dX8_product_96 rfl (by decide) ?_
                  refine s_icmp_ne (tgt := 107) (q := 101) C dX8_product_98 (by decide) rfl (fun c25 => ?_) (fun c25 => ?_)
                  · refine s_iload_n (q := 102) C 3 dX8_product_101 rfl rfl rfl ?_
                    refine s_iload_n (q := 103) C 0 dX8_product_102 rfl rfl rfl ?_
                    refine s_idiv (q := 104) C dX8_product_103 rfl ?_
                    refine s_goto (q := 110) C dX8_product_104 (by decide) ?_
                    refine s_lt (fun x27 => ?_)
                    refine s_istore_n (q := 111) (L' := [(1, .int x27), (3, .int x21), (2, .int x18), (0, .ref (G.1 0))]) C dX8_product_110 rfl rfl (by decide) rfl ?_
                    refine s_goto (q := 5) C dX8_product_111 (by decide) ?_
                    refine s_sub [3, 0] rfl ?_
                    exact hB5 V22 x27
                  · refine s_iload_n (q := 108) C 3 dX8_product_107 rfl rfl rfl ?_
                    refine s_iload_n (q := 109) C 0 dX8_product_108 rfl rfl rfl ?_
                    refine s_irem (q := 110) C dX8_product_109 rfl ?_
                    refine s_lt (fun x26 => ?_)
                    refine s_istore_n (q := 111) (L' := [(1, .int x26), (3, .int x21), (2, .int x18), (0, .ref (G.1 0))]) C dX8_product_110 rfl rfl (by decide) rfl ?_
                    refine s_goto (q := 5) C dX8_product_111 (by decide) ?_
                    refine s_sub [3, 0] rfl ?_
                    exact hB5 V22 x26
            · refine s_icmp_eq (tgt := 51) (q := 25) C dX8_product_22 (by decide) rfl (fun c29 => ?_) (fun c29 => ?_)
              · refine s_sub [0, 1] rfl ?_
                exact hJ17 V8
              · refine s_aload_n (q := 26) C 0 dX8_product_25 rfl rfl rfl ?_
                refine s_aload_n (q := 27) C 0 dX8_product_26 rfl rfl rfl ?_
                refine geX8_8 (q := 30) C (s80 hG) flX8_109 dX8_product_27 rfl ?_
                refine s_Vi (q := 33) (As := [.int (V8 0 8)]) (st := []) C (uX8_byteAt l G hG V8 (V8 0 8)) yvX8_byteAt mlX8_112 (s80 hG) rfl rfl rfl rfl rfl rfl (gR_le (by omega) (by omega)) (Nat.le_of_ble_eq_true rfl) dX8_product_30 rfl (fun x30 V31 => ?_)
                refine s_bipush (q := 35) (v := 47) C dX8_product_33 rfl (by decide) ?_
                refine s_icmp_eq (tgt := 51) (q := 38) C dX8_product_35 (by decide) rfl (fun c32 => ?_) (fun c32 => ?_)
                · refine s_sub [0, 1] rfl ?_
                  exact hJ17 V31
                · refine s_aload_n (q := 39) C 0 dX8_product_38 rfl rfl rfl ?_
                  refine s_aload_n (q := 40) C 0 dX8_product_39 rfl rfl rfl ?_
                  refine geX8_8 (q := 43) C (s80 hG) flX8_109 dX8_product_40 rfl ?_
                  refine s_Vi (q := 46) (As := [.int (V31 0 8)]) (st := []) C (uX8_byteAt l G hG V31 (V31 0 8)) yvX8_byteAt mlX8_112 (s80 hG) rfl rfl rfl rfl rfl rfl (gR_le (by omega) (by omega)) (Nat.le_of_ble_eq_true rfl) dX8_product_43 rfl (fun x33 V34 => ?_)
                  refine s_bipush (q := 48) (v := 37) C dX8_product_46 rfl (by decide) ?_
                  refine s_icmp_ne (tgt := 114) (q := 51) C dX8_product_48 (by decide) rfl (fun c35 => ?_) (fun c35 => ?_)
                  · refine s_sub [0, 1] rfl ?_
                    exact hJ17 V34
                  · refine s_iload_n (q := 115) C 1 dX8_product_114 rfl rfl rfl ?_
                    exact s_iret C E dX8_product_115
      refine s_sub [1, 0] rfl ?_
      exact hL1 gFu V2 x1
    · intro V 
      show gMi l G yX8_sum cX8_sum 4 Jvm.ClassFile.FieldType.int (gR (3 + 1 * (d + 1)) (64 + 24 * (d + 1))) [.ref (G.1 0)] V (fX8_sum_B (fpaX8 d) V)
      generalize fpaX8 d = rc at hrc0 hrc1 hrc2 hrc3 hrc4 hrc5 ⊢
      unfold fX8_sum_B
      refine gM_i (by decide +kernel) rfl rfl (Nat.le_of_ble_eq_true rfl) (fun X rr VV C E => ?_)
      change gC cX8_sum 4 RX8 G X at C
      change gSm l (gR (3 + 1 * (d + 1)) (64 + 24 * (d + 1))) 4 G X _ (rr, VV) V 0 [(0, .ref (G.1 0))] []
      refine s_aload_n (q := 1) C 0 dX8_sum_0 rfl rfl rfl ?_
      refine s_Vi (q := 4) (As := []) (st := []) C (hrc1 V) yvX8_product mlX8_146 (s80 hG) rfl rfl rfl rfl rfl rfl (gR_le (by omega) (by omega)) (Nat.le_of_ble_eq_true rfl) dX8_sum_1 rfl (fun x1 V2 => ?_)
      refine s_istore_n (q := 5) (L' := [(1, .int x1), (0, .ref (G.1 0))]) C dX8_sum_4 rfl rfl (by decide) rfl ?_
      have hL1 : ∀ (n : Nat) (V3 : gV) (x4 : Int32), gSm l (gR (3 + 1 * (d + 1)) (64 + 24 * (d + 1))) 4 G X (fX8_sum_L1 rc n V3 x4) (rr, VV) V3 5 [(0, .ref (G.1 0)), (1, .int x4)] [] := by
        intro n
        induction n with
        | zero => exact fun V3 x4 => s_none
        | succ n ih =>
          intro V3 x4
          show gSm l (gR (3 + 1 * (d + 1)) (64 + 24 * (d + 1))) 4 G X (fX8_sum_L1b rc (fX8_sum_L1 rc n) V3 x4) (rr, VV) V3 5 [(0, .ref (G.1 0)), (1, .int x4)] []
          generalize fX8_sum_L1 rc n = B5 at ih ⊢
          have hB5 := ih
          unfold fX8_sum_L1b
          refine s_aload_n (q := 6) C 0 dX8_sum_5 rfl rfl rfl ?_
          refine geX8_14 (q := 9) C (s80 hG) flX8_105 dX8_sum_6 rfl ?_
          refine s_if_eq (tgt := 81) (q := 12) C dX8_sum_9 (by decide) rfl (fun c6 => ?_) (fun c6 => ?_)
          · refine s_iload_n (q := 82) C 1 dX8_sum_81 rfl rfl rfl ?_
            exact s_iret C E dX8_sum_82
          · refine s_aload_n (q := 13) C 0 dX8_sum_12 rfl rfl rfl ?_
            refine s_aload_n (q := 14) C 0 dX8_sum_13 rfl rfl rfl ?_
            refine geX8_8 (q := 17) C (s80 hG) flX8_109 dX8_sum_14 rfl ?_
            refine s_Vi (q := 20) (As := [.int (V3 0 8)]) (st := []) C (uX8_byteAt l G hG V3 (V3 0 8)) yvX8_byteAt mlX8_112 (s80 hG) rfl rfl rfl rfl rfl rfl (gR_le (by omega) (by omega)) (Nat.le_of_ble_eq_true rfl) dX8_sum_17 rfl (fun x7 V8 => ?_)
            refine s_bipush (q := 22) (v := 43) C dX8_sum_20 rfl (by decide) ?_
            refine s_jn (fun J14 => ∀ (V13 : gV), gSm l (gR (3 + 1 * (d + 1)) (64 + 24 * (d + 1))) 4 G X (J14 V13) (rr, VV) V13 38 [(0, .ref (G.1 0)), (1, .int x4)] []) ?_ (fun J14 hJ14 => ?_)
            · intro V13
              refine s_aload_n (q := 39) C 0 dX8_sum_38 rfl rfl rfl ?_
              refine s_aload_n (q := 40) C 0 dX8_sum_39 rfl rfl rfl ?_
              refine geX8_8 (q := 43) C (s80 hG) flX8_109 dX8_sum_40 rfl ?_
              refine s_Vi (q := 46) (As := [.int (V13 0 8)]) (st := []) C (uX8_byteAt l G hG V13 (V13 0 8)) yvX8_byteAt mlX8_112 (s80 hG) rfl rfl rfl rfl rfl rfl (gR_le (by omega) (by omega)) (Nat.le_of_ble_eq_true rfl) dX8_sum_43 rfl (fun x15 V16 => ?_)
              refine s_istore_n (q := 47) (L' := [(2, .int x15), (0, .ref (G.1 0)), (1, .int x4)]) C dX8_sum_46 rfl rfl (by decide) rfl ?_
              refine s_aload_n (q := 48) C 1 dX8_sum_47 rfl rfl rfl ?_
              refine s_dup (q := 49) C dX8_sum_48 rfl rfl ?_
              refine geX8_8 (q := 52) C (s80 hG) flX8_109 dX8_sum_49 rfl ?_
              refine s_iconst (q := 53) (v := 1) C dX8_sum_52 rfl (by decide) ?_
              refine s_iadd (q := 54) C dX8_sum_53 rfl ?_
              refine peX8_8 (q := 57) C (s80 hG) flX8_109 dX8_sum_54 rfl (fun V17 => ?_)
              refine s_aload_n (q := 58) C 1 dX8_sum_57 rfl rfl rfl ?_
              refine s_Vi (q := 61) (As := []) (st := []) C (hrc1 V17) yvX8_product mlX8_146 (s80 hG) rfl rfl rfl rfl rfl rfl (gR_le (by omega) (by omega)) (Nat.le_of_ble_eq_true rfl) dX8_sum_58 rfl (fun x18 V19 => ?_)
              refine s_istore_n (q := 62) (L' := [(3, .int x18), (2, .int x15), (0, .ref (G.1 0)), (1, .int x4)]) C dX8_sum_61 rfl rfl (by decide) rfl ?_
              refine s_iload_n (q := 63) C 1 dX8_sum_62 rfl rfl rfl ?_
              refine s_bipush (q := 65) (v := 43) C dX8_sum_63 rfl (by decide) ?_
              refine s_icmp_ne (tgt := 74) (q := 68) C dX8_sum_65 (by decide) rfl (fun c20 => ?_) (fun c20 => ?_)
              · refine s_iload_n (q := 69) C 3 dX8_sum_68 rfl rfl rfl ?_
                refine s_iload_n (q := 70) C 0 dX8_sum_69 rfl rfl rfl ?_
                refine s_iadd (q := 71) C dX8_sum_70 rfl ?_
                refine s_goto (q := 77) C dX8_sum_71 (by decide) ?_
                refine s_lt (fun x22 => ?_)
                refine s_istore_n (q := 78) (L' := [(1, .int x22), (3, .int x18), (2, .int x15), (0, .ref (G.1 0))]) C dX8_sum_77 rfl rfl (by decide) rfl ?_
                refine s_goto (q := 5) C dX8_sum_78 (by decide) ?_
                refine s_sub [3, 0] rfl ?_
                exact hB5 V19 x22
              · refine s_iload_n (q := 75) C 3 dX8_sum_74 rfl rfl rfl ?_
                refine s_iload_n (q := 76) C 0 dX8_sum_75 rfl rfl rfl ?_
                refine s_isub (q := 77) C dX8_sum_76 rfl ?_
                refine s_lt (fun x21 => ?_)
                refine s_istore_n (q := 78) (L' := [(1, .int x21), (3, .int x18), (2, .int x15), (0, .ref (G.1 0))]) C dX8_sum_77 rfl rfl (by decide) rfl ?_
                refine s_goto (q := 5) C dX8_sum_78 (by decide) ?_
                refine s_sub [3, 0] rfl ?_
                exact hB5 V19 x21
            · refine s_icmp_eq (tgt := 38) (q := 25) C dX8_sum_22 (by decide) rfl (fun c23 => ?_) (fun c23 => ?_)
              · refine s_sub [0, 1] rfl ?_
                exact hJ14 V8
              · refine s_aload_n (q := 26) C 0 dX8_sum_25 rfl rfl rfl ?_
                refine s_aload_n (q := 27) C 0 dX8_sum_26 rfl rfl rfl ?_
                refine geX8_8 (q := 30) C (s80 hG) flX8_109 dX8_sum_27 rfl ?_
                refine s_Vi (q := 33) (As := [.int (V8 0 8)]) (st := []) C (uX8_byteAt l G hG V8 (V8 0 8)) yvX8_byteAt mlX8_112 (s80 hG) rfl rfl rfl rfl rfl rfl (gR_le (by omega) (by omega)) (Nat.le_of_ble_eq_true rfl) dX8_sum_30 rfl (fun x24 V25 => ?_)
                refine s_bipush (q := 35) (v := 45) C dX8_sum_33 rfl (by decide) ?_
                refine s_icmp_ne (tgt := 81) (q := 38) C dX8_sum_35 (by decide) rfl (fun c26 => ?_) (fun c26 => ?_)
                · refine s_sub [0, 1] rfl ?_
                  exact hJ14 V25
                · refine s_iload_n (q := 82) C 1 dX8_sum_81 rfl rfl rfl ?_
                  exact s_iret C E dX8_sum_82
      refine s_sub [1, 0] rfl ?_
      exact hL1 gFu V2 x1
    · intro V 
      show gMi l G yX8_compared cX8_compared 5 Jvm.ClassFile.FieldType.int (gR (3 + 1 * (d + 1)) (64 + 24 * (d + 1))) [.ref (G.1 0)] V (fX8_compared_B (fpaX8 d) V)
      generalize fpaX8 d = rc at hrc0 hrc1 hrc2 hrc3 hrc4 hrc5 ⊢
      unfold fX8_compared_B
      refine gM_i (by decide +kernel) rfl rfl (Nat.le_of_ble_eq_true rfl) (fun X rr VV C E => ?_)
      change gC cX8_compared 5 RX8 G X at C
      change gSm l (gR (3 + 1 * (d + 1)) (64 + 24 * (d + 1))) 5 G X _ (rr, VV) V 0 [(0, .ref (G.1 0))] []
      refine s_aload_n (q := 1) C 0 dX8_compared_0 rfl rfl rfl ?_
      refine s_Vi (q := 4) (As := []) (st := []) C (hrc2 V) yvX8_sum mlX8_149 (s80 hG) rfl rfl rfl rfl rfl rfl (gR_le (by omega) (by omega)) (Nat.le_of_ble_eq_true rfl) dX8_compared_1 rfl (fun x1 V2 => ?_)
      refine s_istore_n (q := 5) (L' := [(1, .int x1), (0, .ref (G.1 0))]) C dX8_compared_4 rfl rfl (by decide) rfl ?_
      refine s_aload_n (q := 6) C 1 dX8_compared_5 rfl rfl rfl ?_
      refine geX8_14 (q := 9) C (s80 hG) flX8_105 dX8_compared_6 rfl ?_
      refine s_jn (fun J8 => ∀ (x6 : Int32) (V7 : gV), gSm l (gR (3 + 1 * (d + 1)) (64 + 24 * (d + 1))) 5 G X (J8 x6 V7) (rr, VV) V7 24 [(0, .ref (G.1 0)), (1, .int x1)] [.int x6]) ?_ (fun J8 hJ8 => ?_)
      · intro x6 V7
        refine s_istore_n (q := 25) (L' := [(2, .int x6), (0, .ref (G.1 0)), (1, .int x1)]) C dX8_compared_24 rfl rfl (by decide) rfl ?_
        refine s_iload_n (q := 26) C 0 dX8_compared_25 rfl rfl rfl ?_
        refine s_bipush (q := 28) (v := 60) C dX8_compared_26 rfl (by decide) ?_
        refine s_jn (fun J12 => gSm l (gR (3 + 1 * (d + 1)) (64 + 24 * (d + 1))) 5 G X (J12) (rr, VV) V7 45 [(0, .ref (G.1 0)), (1, .int x1), (2, .int x6)] []) ?_ (fun J12 hJ12 => ?_)
        · refine s_aload_n (q := 46) C 0 dX8_compared_45 rfl rfl rfl ?_
          refine s_dup (q := 47) C dX8_compared_46 rfl rfl ?_
          refine geX8_8 (q := 50) C (s80 hG) flX8_109 dX8_compared_47 rfl ?_
          refine s_iconst (q := 51) (v := 1) C dX8_compared_50 rfl (by decide) ?_
          refine s_iadd (q := 52) C dX8_compared_51 rfl ?_
          refine peX8_8 (q := 55) C (s80 hG) flX8_109 dX8_compared_52 rfl (fun V13 => ?_)
          refine s_aload_n (q := 56) C 0 dX8_compared_55 rfl rfl rfl ?_
          refine s_Vi (q := 59) (As := []) (st := []) C (hrc2 V13) yvX8_sum mlX8_149 (s80 hG) rfl rfl rfl rfl rfl rfl (gR_le (by omega) (by omega)) (Nat.le_of_ble_eq_true rfl) dX8_compared_56 rfl (fun x14 V15 => ?_)
          refine s_istore_n (q := 60) (L' := [(3, .int x14), (0, .ref (G.1 0)), (1, .int x1), (2, .int x6)]) C dX8_compared_59 rfl rfl (by decide) rfl ?_
          refine s_iload_n (q := 61) C 3 dX8_compared_60 rfl rfl rfl ?_
          refine s_bipush (q := 63) (v := 60) C dX8_compared_61 rfl (by decide) ?_
          refine s_jn (fun J22 => ∀ (x21 : Int32), gSm l (gR (3 + 1 * (d + 1)) (64 + 24 * (d + 1))) 5 G X (J22 x21) (rr, VV) V15 108 [] [.int x21]) ?_ (fun J22 hJ22 => ?_)
          · intro x21
            refine s_istore (q := 110) (L' := [(4, .int x21)]) C dX8_compared_108 rfl (by decide) rfl ?_
            refine s_iload (q := 112) C 0 dX8_compared_110 rfl rfl ?_
            refine s_if_eq (tgt := 119) (q := 115) C dX8_compared_112 (by decide) rfl (fun c23 => ?_) (fun c23 => ?_)
            · refine s_iconst (q := 120) (v := 0) C dX8_compared_119 rfl (by decide) ?_
              exact s_iret C E dX8_compared_120
            · refine s_iconst (q := 116) (v := 1) C dX8_compared_115 rfl (by decide) ?_
              refine s_goto (q := 120) C dX8_compared_116 (by decide) ?_
              exact s_iret C E dX8_compared_120
          · refine s_icmp_ne (tgt := 79) (q := 66) C dX8_compared_63 (by decide) rfl (fun c24 => ?_) (fun c24 => ?_)
            · refine s_iload_n (q := 67) C 2 dX8_compared_66 rfl rfl rfl ?_
              refine s_iload_n (q := 68) C 0 dX8_compared_67 rfl rfl rfl ?_
              refine s_icmp_ge (tgt := 75) (q := 71) C dX8_compared_68 (by decide) rfl (fun c28 => ?_) (fun c28 => ?_)
              · refine s_iconst (q := 76) (v := 0) C dX8_compared_75 rfl (by decide) ?_
                refine s_goto (q := 108) C dX8_compared_76 (by decide) ?_
                refine s_sub [] rfl ?_
                exact hJ22 0
              · refine s_iconst (q := 72) (v := 1) C dX8_compared_71 rfl (by decide) ?_
                refine s_goto (q := 108) C dX8_compared_72 (by decide) ?_
                refine s_sub [] rfl ?_
                exact hJ22 1
            · refine s_iload_n (q := 80) C 3 dX8_compared_79 rfl rfl rfl ?_
              refine s_bipush (q := 82) (v := 61) C dX8_compared_80 rfl (by decide) ?_
              refine s_icmp_ne (tgt := 98) (q := 85) C dX8_compared_82 (by decide) rfl (fun c25 => ?_) (fun c25 => ?_)
              · refine s_iload_n (q := 86) C 2 dX8_compared_85 rfl rfl rfl ?_
                refine s_iload_n (q := 87) C 0 dX8_compared_86 rfl rfl rfl ?_
                refine s_icmp_ne (tgt := 94) (q := 90) C dX8_compared_87 (by decide) rfl (fun c27 => ?_) (fun c27 => ?_)
                · refine s_iconst (q := 91) (v := 1) C dX8_compared_90 rfl (by decide) ?_
                  refine s_goto (q := 108) C dX8_compared_91 (by decide) ?_
                  refine s_sub [] rfl ?_
                  exact hJ22 1
                · refine s_iconst (q := 95) (v := 0) C dX8_compared_94 rfl (by decide) ?_
                  refine s_goto (q := 108) C dX8_compared_95 (by decide) ?_
                  refine s_sub [] rfl ?_
                  exact hJ22 0
              · refine s_iload_n (q := 99) C 2 dX8_compared_98 rfl rfl rfl ?_
                refine s_iload_n (q := 100) C 0 dX8_compared_99 rfl rfl rfl ?_
                refine s_icmp_le (tgt := 107) (q := 103) C dX8_compared_100 (by decide) rfl (fun c26 => ?_) (fun c26 => ?_)
                · refine s_iconst (q := 108) (v := 0) C dX8_compared_107 rfl (by decide) ?_
                  refine s_sub [] rfl ?_
                  exact hJ22 0
                · refine s_iconst (q := 104) (v := 1) C dX8_compared_103 rfl (by decide) ?_
                  refine s_goto (q := 108) C dX8_compared_104 (by decide) ?_
                  refine s_sub [] rfl ?_
                  exact hJ22 1
        · refine s_icmp_eq (tgt := 45) (q := 31) C dX8_compared_28 (by decide) rfl (fun c29 => ?_) (fun c29 => ?_)
          · refine s_sub [1, 2, 0] rfl ?_
            exact hJ12
          · refine s_iload_n (q := 32) C 0 dX8_compared_31 rfl rfl rfl ?_
            refine s_bipush (q := 34) (v := 61) C dX8_compared_32 rfl (by decide) ?_
            refine s_icmp_eq (tgt := 45) (q := 37) C dX8_compared_34 (by decide) rfl (fun c30 => ?_) (fun c30 => ?_)
            · refine s_sub [1, 2, 0] rfl ?_
              exact hJ12
            · refine s_iload_n (q := 38) C 0 dX8_compared_37 rfl rfl rfl ?_
              refine s_bipush (q := 40) (v := 62) C dX8_compared_38 rfl (by decide) ?_
              refine s_icmp_eq (tgt := 45) (q := 43) C dX8_compared_40 (by decide) rfl (fun c31 => ?_) (fun c31 => ?_)
              · refine s_sub [1, 2, 0] rfl ?_
                exact hJ12
              · refine s_iload_n (q := 44) C 2 dX8_compared_43 rfl rfl rfl ?_
                exact s_iret C E dX8_compared_44
      · refine s_if_eq (tgt := 23) (q := 12) C dX8_compared_9 (by decide) rfl (fun c32 => ?_) (fun c32 => ?_)
        · refine s_iconst (q := 24) (v := (-1)) C dX8_compared_23 rfl (by decide) ?_
          refine s_sub [1, 0] rfl ?_
          exact hJ8 (-1) V2
        · refine s_aload_n (q := 13) C 1 dX8_compared_12 rfl rfl rfl ?_
          refine s_aload_n (q := 14) C 1 dX8_compared_13 rfl rfl rfl ?_
          refine geX8_8 (q := 17) C (s80 hG) flX8_109 dX8_compared_14 rfl ?_
          refine s_Vi (q := 20) (As := [.int (V2 0 8)]) (st := []) C (uX8_byteAt l G hG V2 (V2 0 8)) yvX8_byteAt mlX8_112 (s80 hG) rfl rfl rfl rfl rfl rfl (gR_le (by omega) (by omega)) (Nat.le_of_ble_eq_true rfl) dX8_compared_17 rfl (fun x33 V34 => ?_)
          refine s_goto (q := 24) C dX8_compared_20 (by decide) ?_
          refine s_sub [1, 0] rfl ?_
          exact hJ8 x33 V34
    · intro V 
      show gMi l G yX8_both cX8_both 3 Jvm.ClassFile.FieldType.int (gR (3 + 1 * (d + 1)) (64 + 24 * (d + 1))) [.ref (G.1 0)] V (fX8_both_B (fpaX8 d) V)
      generalize fpaX8 d = rc at hrc0 hrc1 hrc2 hrc3 hrc4 hrc5 ⊢
      unfold fX8_both_B
      refine gM_i (by decide +kernel) rfl rfl (Nat.le_of_ble_eq_true rfl) (fun X rr VV C E => ?_)
      change gC cX8_both 3 RX8 G X at C
      change gSm l (gR (3 + 1 * (d + 1)) (64 + 24 * (d + 1))) 3 G X _ (rr, VV) V 0 [(0, .ref (G.1 0))] []
      refine s_aload_n (q := 1) C 0 dX8_both_0 rfl rfl rfl ?_
      refine s_Vi (q := 4) (As := []) (st := []) C (hrc3 V) yvX8_compared mlX8_152 (s80 hG) rfl rfl rfl rfl rfl rfl (gR_le (by omega) (by omega)) (Nat.le_of_ble_eq_true rfl) dX8_both_1 rfl (fun x1 V2 => ?_)
      refine s_istore_n (q := 5) (L' := [(1, .int x1), (0, .ref (G.1 0))]) C dX8_both_4 rfl rfl (by decide) rfl ?_
      have hL1 : ∀ (n : Nat) (V3 : gV) (x4 : Int32), gSm l (gR (3 + 1 * (d + 1)) (64 + 24 * (d + 1))) 3 G X (fX8_both_L1 rc n V3 x4) (rr, VV) V3 5 [(0, .ref (G.1 0)), (1, .int x4)] [] := by
        intro n
        induction n with
        | zero => exact fun V3 x4 => s_none
        | succ n ih =>
          intro V3 x4
          show gSm l (gR (3 + 1 * (d + 1)) (64 + 24 * (d + 1))) 3 G X (fX8_both_L1b rc (fX8_both_L1 rc n) V3 x4) (rr, VV) V3 5 [(0, .ref (G.1 0)), (1, .int x4)] []
          generalize fX8_both_L1 rc n = B5 at ih ⊢
          have hB5 := ih
          unfold fX8_both_L1b
          refine s_aload_n (q := 6) C 0 dX8_both_5 rfl rfl rfl ?_
          refine geX8_14 (q := 9) C (s80 hG) flX8_105 dX8_both_6 rfl ?_
          refine s_if_eq (tgt := 57) (q := 12) C dX8_both_9 (by decide) rfl (fun c6 => ?_) (fun c6 => ?_)
          · refine s_iload_n (q := 58) C 1 dX8_both_57 rfl rfl rfl ?_
            exact s_iret C E dX8_both_58
          · refine s_aload_n (q := 13) C 0 dX8_both_12 rfl rfl rfl ?_
            refine s_aload_n (q := 14) C 0 dX8_both_13 rfl rfl rfl ?_
            refine geX8_8 (q := 17) C (s80 hG) flX8_109 dX8_both_14 rfl ?_
            refine s_Vi (q := 20) (As := [.int (V3 0 8)]) (st := []) C (uX8_byteAt l G hG V3 (V3 0 8)) yvX8_byteAt mlX8_112 (s80 hG) rfl rfl rfl rfl rfl rfl (gR_le (by omega) (by omega)) (Nat.le_of_ble_eq_true rfl) dX8_both_17 rfl (fun x7 V8 => ?_)
            refine s_bipush (q := 22) (v := 38) C dX8_both_20 rfl (by decide) ?_
            refine s_icmp_ne (tgt := 57) (q := 25) C dX8_both_22 (by decide) rfl (fun c9 => ?_) (fun c9 => ?_)
            · refine s_aload_n (q := 26) C 0 dX8_both_25 rfl rfl rfl ?_
              refine s_dup (q := 27) C dX8_both_26 rfl rfl ?_
              refine geX8_8 (q := 30) C (s80 hG) flX8_109 dX8_both_27 rfl ?_
              refine s_iconst (q := 31) (v := 1) C dX8_both_30 rfl (by decide) ?_
              refine s_iadd (q := 32) C dX8_both_31 rfl ?_
              refine peX8_8 (q := 35) C (s80 hG) flX8_109 dX8_both_32 rfl (fun V10 => ?_)
              refine s_aload_n (q := 36) C 0 dX8_both_35 rfl rfl rfl ?_
              refine s_Vi (q := 39) (As := []) (st := []) C (hrc3 V10) yvX8_compared mlX8_152 (s80 hG) rfl rfl rfl rfl rfl rfl (gR_le (by omega) (by omega)) (Nat.le_of_ble_eq_true rfl) dX8_both_36 rfl (fun x11 V12 => ?_)
              refine s_istore_n (q := 40) (L' := [(2, .int x11), (0, .ref (G.1 0)), (1, .int x4)]) C dX8_both_39 rfl rfl (by decide) rfl ?_
              refine s_iload_n (q := 41) C 2 dX8_both_40 rfl rfl rfl ?_
              refine s_if_eq (tgt := 52) (q := 44) C dX8_both_41 (by decide) rfl (fun c13 => ?_) (fun c13 => ?_)
              · refine s_iconst (q := 53) (v := 0) C dX8_both_52 rfl (by decide) ?_
                refine s_istore_n (q := 54) (L' := [(1, .int 0), (2, .int x11), (0, .ref (G.1 0))]) C dX8_both_53 rfl rfl (by decide) rfl ?_
                refine s_goto (q := 5) C dX8_both_54 (by decide) ?_
                refine s_sub [2, 0] rfl ?_
                exact hB5 V12 0
              · refine s_iload_n (q := 45) C 0 dX8_both_44 rfl rfl rfl ?_
                refine s_if_eq (tgt := 52) (q := 48) C dX8_both_45 (by decide) rfl (fun c14 => ?_) (fun c14 => ?_)
                · refine s_iconst (q := 53) (v := 0) C dX8_both_52 rfl (by decide) ?_
                  refine s_istore_n (q := 54) (L' := [(1, .int 0), (2, .int x11), (0, .ref (G.1 0))]) C dX8_both_53 rfl rfl (by decide) rfl ?_
                  refine s_goto (q := 5) C dX8_both_54 (by decide) ?_
                  refine s_sub [2, 0] rfl ?_
                  exact hB5 V12 0
                · refine s_iconst (q := 49) (v := 1) C dX8_both_48 rfl (by decide) ?_
                  refine s_goto (q := 53) C dX8_both_49 (by decide) ?_
                  refine s_istore_n (q := 54) (L' := [(1, .int 1), (2, .int x11), (0, .ref (G.1 0))]) C dX8_both_53 rfl rfl (by decide) rfl ?_
                  refine s_goto (q := 5) C dX8_both_54 (by decide) ?_
                  refine s_sub [2, 0] rfl ?_
                  exact hB5 V12 1
            · refine s_iload_n (q := 58) C 1 dX8_both_57 rfl rfl rfl ?_
              exact s_iret C E dX8_both_58
      refine s_sub [1, 0] rfl ?_
      exact hL1 gFu V2 x1
    · intro V 
      show gMi l G yX8_whole cX8_whole 3 Jvm.ClassFile.FieldType.int (gR (3 + 1 * (d + 1)) (64 + 24 * (d + 1))) [.ref (G.1 0)] V (fX8_whole_B (fpaX8 d) V)
      generalize fpaX8 d = rc at hrc0 hrc1 hrc2 hrc3 hrc4 hrc5 ⊢
      unfold fX8_whole_B
      refine gM_i (by decide +kernel) rfl rfl (Nat.le_of_ble_eq_true rfl) (fun X rr VV C E => ?_)
      change gC cX8_whole 3 RX8 G X at C
      change gSm l (gR (3 + 1 * (d + 1)) (64 + 24 * (d + 1))) 3 G X _ (rr, VV) V 0 [(0, .ref (G.1 0))] []
      refine s_aload_n (q := 1) C 0 dX8_whole_0 rfl rfl rfl ?_
      refine s_Vi (q := 4) (As := []) (st := []) C (hrc4 V) yvX8_both mlX8_155 (s80 hG) rfl rfl rfl rfl rfl rfl (gR_le (by omega) (by omega)) (Nat.le_of_ble_eq_true rfl) dX8_whole_1 rfl (fun x1 V2 => ?_)
      refine s_istore_n (q := 5) (L' := [(1, .int x1), (0, .ref (G.1 0))]) C dX8_whole_4 rfl rfl (by decide) rfl ?_
      have hL1 : ∀ (n : Nat) (V3 : gV) (x4 : Int32), gSm l (gR (3 + 1 * (d + 1)) (64 + 24 * (d + 1))) 3 G X (fX8_whole_L1 rc n V3 x4) (rr, VV) V3 5 [(0, .ref (G.1 0)), (1, .int x4)] [] := by
        intro n
        induction n with
        | zero => exact fun V3 x4 => s_none
        | succ n ih =>
          intro V3 x4
          show gSm l (gR (3 + 1 * (d + 1)) (64 + 24 * (d + 1))) 3 G X (fX8_whole_L1b rc (fX8_whole_L1 rc n) V3 x4) (rr, VV) V3 5 [(0, .ref (G.1 0)), (1, .int x4)] []
          generalize fX8_whole_L1 rc n = B5 at ih ⊢
          have hB5 := ih
          unfold fX8_whole_L1b
          refine s_aload_n (q := 6) C 0 dX8_whole_5 rfl rfl rfl ?_
          refine geX8_14 (q := 9) C (s80 hG) flX8_105 dX8_whole_6 rfl ?_
          refine s_if_eq (tgt := 57) (q := 12) C dX8_whole_9 (by decide) rfl (fun c6 => ?_) (fun c6 => ?_)
          · refine s_iload_n (q := 58) C 1 dX8_whole_57 rfl rfl rfl ?_
            exact s_iret C E dX8_whole_58
          · refine s_aload_n (q := 13) C 0 dX8_whole_12 rfl rfl rfl ?_
            refine s_aload_n (q := 14) C 0 dX8_whole_13 rfl rfl rfl ?_
            refine geX8_8 (q := 17) C (s80 hG) flX8_109 dX8_whole_14 rfl ?_
            refine s_Vi (q := 20) (As := [.int (V3 0 8)]) (st := []) C (uX8_byteAt l G hG V3 (V3 0 8)) yvX8_byteAt mlX8_112 (s80 hG) rfl rfl rfl rfl rfl rfl (gR_le (by omega) (by omega)) (Nat.le_of_ble_eq_true rfl) dX8_whole_17 rfl (fun x7 V8 => ?_)
            refine s_bipush (q := 22) (v := 124) C dX8_whole_20 rfl (by decide) ?_
            refine s_icmp_ne (tgt := 57) (q := 25) C dX8_whole_22 (by decide) rfl (fun c9 => ?_) (fun c9 => ?_)
            · refine s_aload_n (q := 26) C 0 dX8_whole_25 rfl rfl rfl ?_
              refine s_dup (q := 27) C dX8_whole_26 rfl rfl ?_
              refine geX8_8 (q := 30) C (s80 hG) flX8_109 dX8_whole_27 rfl ?_
              refine s_iconst (q := 31) (v := 1) C dX8_whole_30 rfl (by decide) ?_
              refine s_iadd (q := 32) C dX8_whole_31 rfl ?_
              refine peX8_8 (q := 35) C (s80 hG) flX8_109 dX8_whole_32 rfl (fun V10 => ?_)
              refine s_aload_n (q := 36) C 0 dX8_whole_35 rfl rfl rfl ?_
              refine s_Vi (q := 39) (As := []) (st := []) C (hrc4 V10) yvX8_both mlX8_155 (s80 hG) rfl rfl rfl rfl rfl rfl (gR_le (by omega) (by omega)) (Nat.le_of_ble_eq_true rfl) dX8_whole_36 rfl (fun x11 V12 => ?_)
              refine s_istore_n (q := 40) (L' := [(2, .int x11), (0, .ref (G.1 0)), (1, .int x4)]) C dX8_whole_39 rfl rfl (by decide) rfl ?_
              refine s_iload_n (q := 41) C 2 dX8_whole_40 rfl rfl rfl ?_
              refine s_if_ne (tgt := 48) (q := 44) C dX8_whole_41 (by decide) rfl (fun c13 => ?_) (fun c13 => ?_)
              · refine s_iload_n (q := 45) C 0 dX8_whole_44 rfl rfl rfl ?_
                refine s_if_eq (tgt := 52) (q := 48) C dX8_whole_45 (by decide) rfl (fun c14 => ?_) (fun c14 => ?_)
                · refine s_iconst (q := 53) (v := 0) C dX8_whole_52 rfl (by decide) ?_
                  refine s_istore_n (q := 54) (L' := [(1, .int 0), (2, .int x11), (0, .ref (G.1 0))]) C dX8_whole_53 rfl rfl (by decide) rfl ?_
                  refine s_goto (q := 5) C dX8_whole_54 (by decide) ?_
                  refine s_sub [2, 0] rfl ?_
                  exact hB5 V12 0
                · refine s_iconst (q := 49) (v := 1) C dX8_whole_48 rfl (by decide) ?_
                  refine s_goto (q := 53) C dX8_whole_49 (by decide) ?_
                  refine s_istore_n (q := 54) (L' := [(1, .int 1), (2, .int x11), (0, .ref (G.1 0))]) C dX8_whole_53 rfl rfl (by decide) rfl ?_
                  refine s_goto (q := 5) C dX8_whole_54 (by decide) ?_
                  refine s_sub [2, 0] rfl ?_
                  exact hB5 V12 1
              · refine s_iconst (q := 49) (v := 1) C dX8_whole_48 rfl (by decide) ?_
                refine s_goto (q := 53) C dX8_whole_49 (by decide) ?_
                refine s_istore_n (q := 54) (L' := [(1, .int 1), (2, .int x11), (0, .ref (G.1 0))]) C dX8_whole_53 rfl rfl (by decide) rfl ?_
                refine s_goto (q := 5) C dX8_whole_54 (by decide) ?_
                refine s_sub [2, 0] rfl ?_
                exact hB5 V12 1
            · refine s_iload_n (q := 58) C 1 dX8_whole_57 rfl rfl rfl ?_
              exact s_iret C E dX8_whole_58
      refine s_sub [1, 0] rfl ?_
      exact hL1 gFu V2 x1
theorem uX8_factor (l : Launch) (G : gG) (hG : gIsM G) (d : Nat) (V : gV)  : gMi l G yX8_factor cX8_factor 3 Jvm.ClassFile.FieldType.int (gR (3 + 1 * d) (64 + 24 * d)) [.ref (G.1 0)] V (fpaX8 d 0 V) := (upaX8 l G hG d).1 V 
theorem uX8_product (l : Launch) (G : gG) (hG : gIsM G) (d : Nat) (V : gV)  : gMi l G yX8_product cX8_product 4 Jvm.ClassFile.FieldType.int (gR (3 + 1 * d) (64 + 24 * d)) [.ref (G.1 0)] V (fpaX8 d 1 V) := (upaX8 l G hG d).2.1 V 
theorem uX8_sum (l : Launch) (G : gG) (hG : gIsM G) (d : Nat) (V : gV)  : gMi l G yX8_sum cX8_sum 4 Jvm.ClassFile.FieldType.int (gR (3 + 1 * d) (64 + 24 * d)) [.ref (G.1 0)] V (fpaX8 d 2 V) := (upaX8 l G hG d).2.2.1 V 
theorem uX8_compared (l : Launch) (G : gG) (hG : gIsM G) (d : Nat) (V : gV)  : gMi l G yX8_compared cX8_compared 5 Jvm.ClassFile.FieldType.int (gR (3 + 1 * d) (64 + 24 * d)) [.ref (G.1 0)] V (fpaX8 d 3 V) := (upaX8 l G hG d).2.2.2.1 V 
theorem uX8_both (l : Launch) (G : gG) (hG : gIsM G) (d : Nat) (V : gV)  : gMi l G yX8_both cX8_both 3 Jvm.ClassFile.FieldType.int (gR (3 + 1 * d) (64 + 24 * d)) [.ref (G.1 0)] V (fpaX8 d 4 V) := (upaX8 l G hG d).2.2.2.2.1 V 
theorem uX8_whole (l : Launch) (G : gG) (hG : gIsM G) (d : Nat) (V : gV)  : gMi l G yX8_whole cX8_whole 3 Jvm.ClassFile.FieldType.int (gR (3 + 1 * d) (64 + 24 * d)) [.ref (G.1 0)] V (fpaX8 d 5 V) := (upaX8 l G hG d).2.2.2.2.2 V 
noncomputable def fX8_walks (V : gV) (a1 : Int32) (a2 : Int32) (a3 : Int32) (a4 : Int32) : Option (Int32 × gV) := gpu V 0 7 a1 fun (V1 : gV) => gpu V1 0 8 0 fun (V2 : gV) => gal V2 (0 + 1) (6 + a1) 264 fun (x3 : Int32) => gpu V2 0 9 x3 fun (V4 : gV) => gpu V4 0 10 0 fun (V5 : gV) => gpu V5 0 14 1 fun (V6 : gV) => gpu V6 0 11 a2 fun (V7 : gV) => gpu V7 0 12 a3 fun (V8 : gV) => gpu V8 0 13 a4 fun (V9 : gV) => gbi (fpaX8 60 5 V9) fun (x10 : Int32) (V11 : gV) => if (V11 0 14) = 0 then (gpu V11 0 14 0 fun (V13 : gV) => some (x10, V13)) else (if (V11 0 8) = (V11 0 9) then (gpu V11 0 14 1 fun (V16 : gV) => some (x10, V16)) else (gpu V11 0 14 0 fun (V15 : gV) => some (x10, V15)))
set_option maxHeartbeats 4000000 in
set_option maxRecDepth 100000 in
theorem uX8_walks (l : Launch) (G : gG) (hG : gIsM G) (V : gV) (a1 : Int32) (a2 : Int32) (a3 : Int32) (a4 : Int32) : gMi l G yX8_walks cX8_walks 6 Jvm.ClassFile.FieldType.int (gR 64 1526) [.ref (G.1 0), .int a1, .int a2, .int a3, .int a4] V (fX8_walks V a1 a2 a3 a4) := by
  unfold fX8_walks
  refine gM_i (by decide +kernel) rfl rfl (Nat.le_of_ble_eq_true rfl) (fun X rr VV C E => ?_)
  change gC cX8_walks 6 RX8 G X at C
  change gSm l (gR 64 1526) 6 G X _ (rr, VV) V 0 [(0, .ref (G.1 0)), (1, .int a1), (2, .int a2), (3, .int a3), (4, .int a4)] []
  refine s_aload_n (q := 1) C 0 dX8_walks_0 rfl rfl rfl ?_
  refine s_iload_n (q := 2) C 1 dX8_walks_1 rfl rfl rfl ?_
  refine peX8_7 (q := 5) C (s80 hG) flX8_102 dX8_walks_2 rfl (fun V1 => ?_)
  refine s_aload_n (q := 6) C 0 dX8_walks_5 rfl rfl rfl ?_
  refine s_iconst (q := 7) (v := 0) C dX8_walks_6 rfl (by decide) ?_
  refine peX8_8 (q := 10) C (s80 hG) flX8_109 dX8_walks_7 rfl (fun V2 => ?_)
  refine s_aload_n (q := 11) C 0 dX8_walks_10 rfl rfl rfl ?_
  refine s_aload_n (q := 12) C 0 dX8_walks_11 rfl rfl rfl ?_
  refine geX8_0 (q := 15) C (s80 hG) flX8_7 dX8_walks_12 rfl ?_
  refine s_bipush (q := 17) (v := 6) C dX8_walks_15 rfl (by decide) ?_
  refine s_iload_n (q := 18) C 1 dX8_walks_17 rfl rfl rfl ?_
  refine s_iadd (q := 19) C dX8_walks_18 rfl ?_
  refine s_iald (q := 20) C (qX8_0 hG) dX8_walks_19 rfl (fun x3 => ?_)
  refine peX8_9 (q := 23) C (s80 hG) flX8_98 dX8_walks_20 rfl (fun V4 => ?_)
  refine s_aload_n (q := 24) C 0 dX8_walks_23 rfl rfl rfl ?_
  refine s_iconst (q := 25) (v := 0) C dX8_walks_24 rfl (by decide) ?_
  refine peX8_10 (q := 28) C (s80 hG) flX8_137 dX8_walks_25 rfl (fun V5 => ?_)
  refine s_aload_n (q := 29) C 0 dX8_walks_28 rfl rfl rfl ?_
  refine s_iconst (q := 30) (v := 1) C dX8_walks_29 rfl (by decide) ?_
  refine peX8_14 (q := 33) C (s80 hG) flX8_105 (Or.inr rfl) dX8_walks_30 rfl (fun V6 => ?_)
  refine s_aload_n (q := 34) C 0 dX8_walks_33 rfl rfl rfl ?_
  refine s_iload_n (q := 35) C 2 dX8_walks_34 rfl rfl rfl ?_
  refine peX8_11 (q := 38) C (s80 hG) flX8_122 dX8_walks_35 rfl (fun V7 => ?_)
  refine s_aload_n (q := 39) C 0 dX8_walks_38 rfl rfl rfl ?_
  refine s_iload_n (q := 40) C 3 dX8_walks_39 rfl rfl rfl ?_
  refine peX8_12 (q := 43) C (s80 hG) flX8_125 dX8_walks_40 rfl (fun V8 => ?_)
  refine s_aload_n (q := 44) C 0 dX8_walks_43 rfl rfl rfl ?_
  refine s_iload (q := 46) C 4 dX8_walks_44 rfl rfl ?_
  refine peX8_13 (q := 49) C (s80 hG) flX8_128 dX8_walks_46 rfl (fun V9 => ?_)
  refine s_aload_n (q := 50) C 0 dX8_walks_49 rfl rfl rfl ?_
  refine s_Vi (q := 53) (As := []) (st := []) C (uX8_whole l G hG 60 V9) yvX8_whole mlX8_143 (s80 hG) rfl rfl rfl rfl rfl rfl (gR_le (by decide) (by decide)) (Nat.le_of_ble_eq_true rfl) dX8_walks_50 rfl (fun x10 V11 => ?_)
  refine s_istore (q := 55) (L' := [(5, .int x10), (0, .ref (G.1 0)), (1, .int a1), (2, .int a2), (3, .int a3), (4, .int a4)]) C dX8_walks_53 rfl (by decide) rfl ?_
  refine s_aload_n (q := 56) C 1 dX8_walks_55 rfl rfl rfl ?_
  refine s_aload_n (q := 57) C 1 dX8_walks_56 rfl rfl rfl ?_
  refine geX8_14 (q := 60) C (s80 hG) flX8_105 dX8_walks_57 rfl ?_
  refine s_if_eq (tgt := 78) (q := 63) C dX8_walks_60 (by decide) rfl (fun c12 => ?_) (fun c12 => ?_)
  · refine s_iconst (q := 79) (v := 0) C dX8_walks_78 rfl (by decide) ?_
    refine peX8_14 (q := 82) C (s80 hG) flX8_105 (Or.inl rfl) dX8_walks_79 rfl (fun V13 => ?_)
    refine s_iload (q := 84) C 0 dX8_walks_82 rfl rfl ?_
    exact s_iret C E dX8_walks_84
  · refine s_aload_n (q := 64) C 1 dX8_walks_63 rfl rfl rfl ?_
    refine geX8_8 (q := 67) C (s80 hG) flX8_109 dX8_walks_64 rfl ?_
    refine s_aload_n (q := 68) C 1 dX8_walks_67 rfl rfl rfl ?_
    refine geX8_9 (q := 71) C (s80 hG) flX8_98 dX8_walks_68 rfl ?_
    refine s_icmp_ne (tgt := 78) (q := 74) C dX8_walks_71 (by decide) rfl (fun c14 => ?_) (fun c14 => ?_)
    · refine s_iconst (q := 75) (v := 1) C dX8_walks_74 rfl (by decide) ?_
      refine s_goto (q := 79) C dX8_walks_75 (by decide) ?_
      refine peX8_14 (q := 82) C (s80 hG) flX8_105 (Or.inr rfl) dX8_walks_79 rfl (fun V16 => ?_)
      refine s_iload (q := 84) C 0 dX8_walks_82 rfl rfl ?_
      exact s_iret C E dX8_walks_84
    · refine s_iconst (q := 79) (v := 0) C dX8_walks_78 rfl (by decide) ?_
      refine peX8_14 (q := 82) C (s80 hG) flX8_105 (Or.inl rfl) dX8_walks_79 rfl (fun V15 => ?_)
      refine s_iload (q := 84) C 0 dX8_walks_82 rfl rfl ?_
      exact s_iret C E dX8_walks_84

/-- what the two sides owe each other, method by method: house, ofHouse, change, cake, ofCake, layer, named, shift, press, become, as, feed, text, law, days, loose, where, twice, then, comes, clash, spares, hurry, fits, howFar, lends, odds, seed, voice, trace, sheet, put, move, worns, judge, image, restore, tell, check, count, told -/
def lAll (Rel Rel2 : gV → gV → Prop) : Prop := (∀ (VX VM : gV) (a0 : Int32), Rel VX VM → gEq Rel2 (fX7_house VX a0) (fX8_house VM a0)) ∧ (∀ (VX VM : gV) (a0 : Int32) (a1 : Int32), Rel VX VM → gEq Rel2 (fX7_ofHouse VX a0 a1) (fX8_ofHouse VM a0 a1)) ∧ (∀ (VX VM : gV) (a0 : Int32) (a1 : Int32) (a2 : Int32), Rel VX VM → gEq Rel2 (fX7_change VX a0 a1 a2) (fX8_change VM a0 a1 a2)) ∧ (∀ (VX VM : gV) (a0 : Int32) (a1 : Int32), Rel VX VM → gEq Rel2 (fX7_cake VX a0 a1) (fX8_cake VM a0 a1)) ∧ (∀ (VX VM : gV) (a0 : Int32) (a1 : Int32), Rel VX VM → gEq Rel2 (fX7_ofCake VX a0 a1) (fX8_ofCake VM a0 a1)) ∧ (∀ (VX VM : gV) (a0 : Int32) (a1 : Int32), Rel VX VM → gEq Rel2 (fX7_layer VX a0 a1) (fX8_layer VM a0 a1)) ∧ (∀ (VX VM : gV) (a0 : Int32) (a1 : Int32), Rel VX VM → gEq Rel2 (fX7_named VX a0 a1) (fX8_named VM a0 a1)) ∧ (∀ (VX VM : gV) (a0 : Int32) (a1 : Int32) (a2 : Int32), Rel VX VM → gEq Rel2 (fX7_shift VX a0 a1 a2) (fX8_shift VM a0 a1 a2)) ∧ (∀ (VX VM : gV) (a0 : Int32) (a1 : Int32), Rel VX VM → gEq Rel2 (fX7_press VX a0 a1) (fX8_press VM a0 a1)) ∧ (∀ (VX VM : gV) (a0 : Int32) (a1 : Int32), Rel VX VM → gEq Rel2 (fX7_become VX a0 a1) (fX8_become VM a0 a1)) ∧ (∀ (VX VM : gV) (a0 : Int32) (a1 : Int32), Rel VX VM → gEq Rel2 (fX7_as VX a0 a1) (fX8_as VM a0 a1)) ∧ (∀ (VX VM : gV) (a0 : Int64) (a1 : Int32), Rel VX VM → gEq Rel2 (fX7_feed VX a0 a1) (fX8_feed VM a0 a1)) ∧ (∀ (VX VM : gV) (a0 : Int32), Rel VX VM → gEq Rel2 (fX7_text VX a0) (fX8_text VM a0)) ∧ (∀ (VX VM : gV) (a0 : Int32) (a1 : Int32) (a2 : Int32) (a3 : Int32), Rel VX VM → gEq Rel2 (fX7_law VX a0 a1 a2 a3) (fX8_law VM a0 a1 a2 a3)) ∧ (∀ (VX VM : gV) (a0 : Int32), Rel VX VM → gEq Rel2 (fX7_days VX a0) (fX8_days VM a0)) ∧ (∀ (VX VM : gV) (a0 : Int32), Rel VX VM → gEq Rel2 (fX7_loose VX a0) (fX8_loose VM a0)) ∧ (∀ (VX VM : gV) (a0 : Int32), Rel VX VM → gEq Rel2 (fX7_where VX a0) (fX8_where VM a0)) ∧ (∀ (VX VM : gV), Rel VX VM → gEq Rel2 (fX7_twice VX) (fX8_twice VM)) ∧ (∀ (VX VM : gV) (a0 : Int32) (a1 : Int32) (a2 : Int32), Rel VX VM → gEq Rel2 (fX7_then VX a0 a1 a2) (fX8_then VM a0 a1 a2)) ∧ (∀ (VX VM : gV) (a0 : Int32) (a1 : Int32), Rel VX VM → gEq Rel2 (fX7_comes VX a0 a1) (fX8_comes VM a0 a1)) ∧ (∀ (VX VM : gV) (a0 : Int32), Rel VX VM → gEq Rel2 (fX7_clash VX a0) (fX8_clash VM a0)) ∧ (∀ (VX VM : gV) (a0 : Int32) (a1 : Int32), Rel VX VM → gEq Rel2 (fX7_spares VX a0 a1) (fX8_spares VM a0 a1)) ∧ (∀ (VX VM : gV) (a0 : Int32) (a1 : Int32) (a2 : Int32), Rel VX VM → gEq Rel2 (fX7_hurry VX a0 a1 a2) (fX8_hurry VM a0 a1 a2)) ∧ (∀ (VX VM : gV) (a0 : Int32), Rel VX VM → gEq Rel2 (fX7_fits VX a0) (fX8_fits VM a0)) ∧ (∀ (VX VM : gV) (a0 : Int32) (a1 : Int32) (a2 : Int32) (a3 : Int32) (a4 : Int32), Rel VX VM → gEq Rel2 (fX7_howFar VX a0 a1 a2 a3 a4) (fX8_howFar VM a0 a1 a2 a3 a4)) ∧ (∀ (VX VM : gV) (a0 : Int32), Rel VX VM → gEq Rel2 (fX7_lends VX a0) (fX8_lends VM a0)) ∧ (∀ (VX VM : gV) (a0 : Int32) (a1 : Int32) (a2 : Int32) (a3 : Int32), Rel VX VM → gEq Rel2 (fX7_odds VX a0 a1 a2 a3) (fX8_odds VM a0 a1 a2 a3)) ∧ (∀ (VX VM : gV) (a0 : Int32), Rel VX VM → gEq Rel2 (fX7_seed VX a0) (fX8_seed VM a0)) ∧ (∀ (VX VM : gV) (a0 : Int32) (a1 : Int32) (a2 : Int32), Rel VX VM → gEq Rel2 (fX7_voice VX a0 a1 a2) (fX8_voice VM a0 a1 a2)) ∧ (∀ (VX VM : gV) (a0 : Int32), Rel VX VM → gEq Rel2 (fX7_trace VX a0) (fX8_trace VM a0)) ∧ (∀ (VX VM : gV) (a0 : Int32) (a1 : Int32) (a2 : Int32), Rel VX VM → gEq Rel2 (fX7_sheet VX a0 a1 a2) (fX8_sheet VM a0 a1 a2)) ∧ (∀ (VX VM : gV) (a0 : Int32) (a1 : Int32) (a2 : Int32), Rel VX VM → gEq Rel2 (fX7_put VX a0 a1 a2) (fX8_put VM a0 a1 a2)) ∧ (∀ (VX VM : gV) (a0 : Int32) (a1 : Int32) (a2 : Int32) (a3 : Int32) (a4 : Int32), Rel VX VM → gEq Rel2 (fX7_move VX a0 a1 a2 a3 a4) (fX8_move VM a0 a1 a2 a3 a4)) ∧ (∀ (VX VM : gV) (a0 : Int32), Rel VX VM → gEq Rel2 (fX7_worns VX a0) (fX8_worns VM a0)) ∧ (∀ (VX VM : gV) (a0 : Int32), Rel VX VM → gEq Rel2 (fX7_judge VX a0) (fX8_judge VM a0)) ∧ (∀ (VX VM : gV), Rel VX VM → gEq Rel2 (fX7_image VX) (fX8_image VM)) ∧ (∀ (VX VM : gV), Rel VX VM → gEq Rel2 (fX7_restore VX) (fX8_restore VM)) ∧ (∀ (VX VM : gV) (a0 : Int32), Rel VX VM → gEq Rel2 (fX7_tell VX a0) (fX8_tell VM a0)) ∧ (∀ (VX VM : gV), Rel VX VM → gEq Rel2 (fX7_check VX) (fX8_check VM)) ∧ (∀ (VX VM : gV) (a0 : Int32), Rel VX VM → gEq Rel2 (fX7_count VX a0) (fX8_count VM a0)) ∧ (∀ (VX VM : gV) (a0 : Int32), Rel VX VM → gEq Rel2 (fX7_told VX a0) (fX8_told VM a0))
theorem lIn_of {i L : Nat} (h : i + 6 ≤ L) (hL : L ≤ 3072) : lIn (nI i) L := by
  have e : ∀ k : Nat, k < 6 → nI i + nI k = nI (i + k) := fun k hk => (Int32.ofNat_add i k).symm
  have f : ∀ k : Nat, k < 6 → vp_in (nI i + nI k) L := fun k hk => by rw [e k hk]; exact vp_in_nI (by omega) (by omega)
  exact ⟨vp_in_nI (by omega) (by omega), f 1 (by omega), f 2 (by omega), f 3 (by omega), f 4 (by omega), f 5 (by omega)⟩
theorem l_room {i L : Nat} (hL : L ≤ 3072) (hi : i ≤ 4000) (h : ¬ Int32.ofNat L - 6 < nI i) : i + 6 ≤ L := by
  rw [Int32.lt_iff_toInt_lt] at h
  have h1 : (Int32.ofNat L - 6).toInt = (L : Int) - 6 := by
    rw [Int32.toInt_sub, show (Int32.ofNat L).toInt = (L : Int) from toInt_of rfl (by omega), show (6 : Int32).toInt = 6 from by decide]
    simp only [Int.bmod]
    omega
  rw [h1, nI_toInt (by omega)] at h
  omega
set_option maxHeartbeats 8000000 in
set_option maxRecDepth 100000 in
theorem l_loop {l : Launch} {GX GM : gG} {b Ln : Nat} {sc : Nat → Int32} {X : gX} (hGX : gIsX GX) (hGM : gIsM GM) (C : lC GX GM b Ln sc X) (hL : Ln ≤ 3072) {Rel : Nat → gV → gV → Prop} (hp : ∀ i, i ≤ 3072 → lAll (Rel i) (Rel (i + 6))) (hmono : ∀ i VX VM, Rel i VX VM → Rel (i + 6) VX VM) (kend : ∀ VX VM (x3 : Int32), lSm l GX GM X VX VM 1541 [(0, .ref b), (1, .ref (GX.1 0)), (2, .ref (GM.1 0)), (3, .int x3)] []) : ∀ (n i : Nat), i ≤ Ln + 6 → Ln + 7 ≤ i + n → ∀ (VX VM : gV), Rel i VX VM → ∀ (x3 : Int32), x3 = nI i → lSm l GX GM X VX VM 18 [(0, .ref b), (1, .ref (GX.1 0)), (2, .ref (GM.1 0)), (3, .int x3)] [] := by
  intro n
  induction n with
  | zero =>
    intro i h1 h2
    exact absurd h2 (by omega)
  | succ n ih =>
    intro i h1 h2 VX VM hR x3 e3
    refine l_iload_n (q := 19) C 3 dL_law_18 rfl rfl rfl ?_
    refine l_aload_n (q := 20) C 0 dL_law_19 rfl rfl rfl ?_
    refine l_slen (q := 21) C dL_law_20 rfl ?_
    refine l_bipush (q := 23) (v := 6) C dL_law_21 rfl (by decide) ?_
    refine l_isub (q := 24) C dL_law_23 rfl ?_
    refine l_gt (q := 27) (tgt := 1541) C dL_law_24 (by decide) rfl (fun _ => kend VX VM x3) (fun hc => ?_)
    have hi6 : i + 6 ≤ Ln := l_room hL (by omega) (by rw [← e3]; exact hc)
    have hin : lIn x3 Ln := by rw [e3]; exact lIn_of hi6 hL
    have hp := hp i (by omega)
    have kk : ∀ VX VM, Rel (i + 6) VX VM → lSm l GX GM X VX VM 1535 [(0, .ref b), (1, .ref (GX.1 0)), (2, .ref (GM.1 0)), (3, .int x3)] [] := by
      intro VX VM hR
      refine l_iinc (q := 1538) (v := x3 + 6) (L' := [(3, .int (x3 + 6)), (0, .ref b), (1, .ref (GX.1 0)), (2, .ref (GM.1 0))]) C 3 dL_law_1535 rfl rfl rfl (by decide) rfl ?_
      refine l_goto (q := 18) C dL_law_1538 (by decide) ?_
      refine l_sub [1, 2, 3, 0] rfl ?_
      exact ih (i + 6) (by omega) (by omega) VX VM hR (x3 + 6) (by rw [e3]; exact (Int32.ofNat_add i 6).symm)
    refine l_aload_n (q := 28) C 0 dL_law_27 rfl rfl rfl ?_
    refine l_iload_n (q := 29) C 3 dL_law_28 rfl rfl rfl ?_
    refine l_sld (q := 30) C hin.1 dL_law_29 rfl ?_
    refine l_bipush (q := 32) (v := 63) C dL_law_30 rfl (by decide) ?_
    refine l_iand (q := 33) C dL_law_32 rfl ?_
    generalize sc x3.toNatClampNeg &&& 63 = v
    by_cases z0 : v = 0
    · exact l_tin (q := 212) (off := 179) (c := 0) C z0 dL_law_33 (by decide) (by decide) (by decide) (by decide) (lk_0 hGX hGM C (hp.1) hR hin kk)
    by_cases z1 : v = 1
    · exact l_tin (q := 235) (off := 202) (c := 1) C z1 dL_law_33 (by decide) (by decide) (by decide) (by decide) (lk_1 hGX hGM C (hp.2.1) hR hin kk)
    by_cases z2 : v = 2
    · exact l_tin (q := 268) (off := 235) (c := 2) C z2 dL_law_33 (by decide) (by decide) (by decide) (by decide) (lk_2 hGX hGM C (hp.2.2.1) hR hin kk)
    by_cases z3 : v = 3
    · exact l_tin (q := 311) (off := 278) (c := 3) C z3 dL_law_33 (by decide) (by decide) (by decide) (by decide) (lk_3 hGX hGM C (hp.2.2.2.1) hR hin kk)
    by_cases z4 : v = 4
    · exact l_tin (q := 344) (off := 311) (c := 4) C z4 dL_law_33 (by decide) (by decide) (by decide) (by decide) (lk_4 hGX hGM C (hp.2.2.2.2.1) hR hin kk)
    by_cases z5 : v = 5
    · exact l_tin (q := 377) (off := 344) (c := 5) C z5 dL_law_33 (by decide) (by decide) (by decide) (by decide) (lk_5 hGX hGM C (hp.2.2.2.2.2.1) hR hin kk)
    by_cases z6 : v = 6
    · exact l_tin (q := 410) (off := 377) (c := 6) C z6 dL_law_33 (by decide) (by decide) (by decide) (by decide) (lk_6 hGX hGM C (hp.2.2.2.2.2.2.1) hR hin kk)
    by_cases z7 : v = 7
    · exact l_tin (q := 443) (off := 410) (c := 7) C z7 dL_law_33 (by decide) (by decide) (by decide) (by decide) (lk_7 hGX hGM C (hp.2.2.2.2.2.2.2.1) hR hin kk)
    by_cases z8 : v = 8
    · exact l_tin (q := 486) (off := 453) (c := 8) C z8 dL_law_33 (by decide) (by decide) (by decide) (by decide) (lk_8 hGX hGM C (hp.2.2.2.2.2.2.2.2.1) hR hin kk)
    by_cases z9 : v = 9
    · exact l_tin (q := 519) (off := 486) (c := 9) C z9 dL_law_33 (by decide) (by decide) (by decide) (by decide) (lk_9 hGX hGM C (hp.2.2.2.2.2.2.2.2.2.1) hR hin kk)
    by_cases z10 : v = 10
    · exact l_tin (q := 552) (off := 519) (c := 10) C z10 dL_law_33 (by decide) (by decide) (by decide) (by decide) (lk_10 hGX hGM C (hp.2.2.2.2.2.2.2.2.2.2.1) hR hin kk)
    by_cases z11 : v = 11
    · exact l_tin (q := 585) (off := 552) (c := 11) C z11 dL_law_33 (by decide) (by decide) (by decide) (by decide) (lk_11 hGX hGM C (hp.2.2.2.2.2.2.2.2.2.2.2.1) hR hin kk)
    by_cases z12 : v = 12
    · exact l_tin (q := 648) (off := 615) (c := 12) C z12 dL_law_33 (by decide) (by decide) (by decide) (by decide) (lk_12 hGX hGM C (hp.2.2.2.2.2.2.2.2.2.2.2.2.1) hR hin kk)
    by_cases z13 : v = 13
    · exact l_tin (q := 671) (off := 638) (c := 13) C z13 dL_law_33 (by decide) (by decide) (by decide) (by decide) (lk_13 hGX hGM C (hp.2.2.2.2.2.2.2.2.2.2.2.2.2.1) hR hin kk)
    by_cases z14 : v = 14
    · exact l_tin (q := 724) (off := 691) (c := 14) C z14 dL_law_33 (by decide) (by decide) (by decide) (by decide) (lk_14 hGX hGM C (hp.2.2.2.2.2.2.2.2.2.2.2.2.2.2.1) hR hin kk)
    by_cases z15 : v = 15
    · exact l_tin (q := 747) (off := 714) (c := 15) C z15 dL_law_33 (by decide) (by decide) (by decide) (by decide) (lk_15 hGX hGM C (hp.2.2.2.2.2.2.2.2.2.2.2.2.2.2.2.1) hR hin kk)
    by_cases z16 : v = 16
    · exact l_tin (q := 770) (off := 737) (c := 16) C z16 dL_law_33 (by decide) (by decide) (by decide) (by decide) (lk_16 hGX hGM C (hp.2.2.2.2.2.2.2.2.2.2.2.2.2.2.2.2.1) hR hin kk)
    by_cases z17 : v = 17
    · exact l_tin (q := 793) (off := 760) (c := 17) C z17 dL_law_33 (by decide) (by decide) (by decide) (by decide) (lk_17 hGX hGM C (hp.2.2.2.2.2.2.2.2.2.2.2.2.2.2.2.2.2.1) hR hin kk)
    by_cases z18 : v = 18
    · exact l_tin (q := 806) (off := 773) (c := 18) C z18 dL_law_33 (by decide) (by decide) (by decide) (by decide) (lk_18 hGX hGM C (hp.2.2.2.2.2.2.2.2.2.2.2.2.2.2.2.2.2.2.1) hR hin kk)
    by_cases z19 : v = 19
    · exact l_tin (q := 849) (off := 816) (c := 19) C z19 dL_law_33 (by decide) (by decide) (by decide) (by decide) (lk_19 hGX hGM C (hp.2.2.2.2.2.2.2.2.2.2.2.2.2.2.2.2.2.2.2.1) hR hin kk)
    by_cases z20 : v = 20
    · exact l_tin (q := 882) (off := 849) (c := 20) C z20 dL_law_33 (by decide) (by decide) (by decide) (by decide) (lk_20 hGX hGM C (hp.2.2.2.2.2.2.2.2.2.2.2.2.2.2.2.2.2.2.2.2.1) hR hin kk)
    by_cases z21 : v = 21
    · exact l_tin (q := 905) (off := 872) (c := 21) C z21 dL_law_33 (by decide) (by decide) (by decide) (by decide) (lk_21 hGX hGM C (hp.2.2.2.2.2.2.2.2.2.2.2.2.2.2.2.2.2.2.2.2.2.1) hR hin kk)
    by_cases z22 : v = 22
    · exact l_tin (q := 938) (off := 905) (c := 22) C z22 dL_law_33 (by decide) (by decide) (by decide) (by decide) (lk_22 hGX hGM C (hp.2.2.2.2.2.2.2.2.2.2.2.2.2.2.2.2.2.2.2.2.2.2.1) hR hin kk)
    by_cases z23 : v = 23
    · exact l_tin (q := 981) (off := 948) (c := 23) C z23 dL_law_33 (by decide) (by decide) (by decide) (by decide) (lk_23 hGX hGM C (hp.2.2.2.2.2.2.2.2.2.2.2.2.2.2.2.2.2.2.2.2.2.2.2.1) hR hin kk)
    by_cases z24 : v = 24
    · exact l_tin (q := 1004) (off := 971) (c := 24) C z24 dL_law_33 (by decide) (by decide) (by decide) (by decide) (lk_24 hGX hGM C (hp.2.2.2.2.2.2.2.2.2.2.2.2.2.2.2.2.2.2.2.2.2.2.2.2.1) hR hin kk)
    by_cases z25 : v = 25
    · exact l_tin (q := 1067) (off := 1034) (c := 25) C z25 dL_law_33 (by decide) (by decide) (by decide) (by decide) (lk_25 hGX hGM C (hp.2.2.2.2.2.2.2.2.2.2.2.2.2.2.2.2.2.2.2.2.2.2.2.2.2.1) hR hin kk)
    by_cases z26 : v = 26
    · exact l_tin (q := 1090) (off := 1057) (c := 26) C z26 dL_law_33 (by decide) (by decide) (by decide) (by decide) (lk_26 hGX hGM C (hp.2.2.2.2.2.2.2.2.2.2.2.2.2.2.2.2.2.2.2.2.2.2.2.2.2.2.1) hR hin kk)
    by_cases z27 : v = 27
    · exact l_tin (q := 1143) (off := 1110) (c := 27) C z27 dL_law_33 (by decide) (by decide) (by decide) (by decide) (lk_27 hGX hGM C (hp.2.2.2.2.2.2.2.2.2.2.2.2.2.2.2.2.2.2.2.2.2.2.2.2.2.2.2.1) hR hin kk)
    by_cases z28 : v = 28
    · exact l_tin (q := 1166) (off := 1133) (c := 28) C z28 dL_law_33 (by decide) (by decide) (by decide) (by decide) (lk_28 hGX hGM C (hp.2.2.2.2.2.2.2.2.2.2.2.2.2.2.2.2.2.2.2.2.2.2.2.2.2.2.2.2.1) hR hin kk)
    by_cases z29 : v = 29
    · exact l_tin (q := 1209) (off := 1176) (c := 29) C z29 dL_law_33 (by decide) (by decide) (by decide) (by decide) (lk_29 hGX hGM C (hp.2.2.2.2.2.2.2.2.2.2.2.2.2.2.2.2.2.2.2.2.2.2.2.2.2.2.2.2.2.1) hR hin kk)
    by_cases z30 : v = 30
    · exact l_tin (q := 1232) (off := 1199) (c := 30) C z30 dL_law_33 (by decide) (by decide) (by decide) (by decide) (lk_30 hGX hGM C (hp.2.2.2.2.2.2.2.2.2.2.2.2.2.2.2.2.2.2.2.2.2.2.2.2.2.2.2.2.2.2.1) hR hin kk)
    by_cases z31 : v = 31
    · exact l_tin (q := 1275) (off := 1242) (c := 31) C z31 dL_law_33 (by decide) (by decide) (by decide) (by decide) (lk_31 hGX hGM C (hp.2.2.2.2.2.2.2.2.2.2.2.2.2.2.2.2.2.2.2.2.2.2.2.2.2.2.2.2.2.2.2.1) hR hin kk)
    by_cases z32 : v = 32
    · exact l_tin (q := 1318) (off := 1285) (c := 32) C z32 dL_law_33 (by decide) (by decide) (by decide) (by decide) (lk_32 hGX hGM C (hp.2.2.2.2.2.2.2.2.2.2.2.2.2.2.2.2.2.2.2.2.2.2.2.2.2.2.2.2.2.2.2.2.1) hR hin kk)
    by_cases z33 : v = 33
    · exact l_tin (q := 1381) (off := 1348) (c := 33) C z33 dL_law_33 (by decide) (by decide) (by decide) (by decide) (lk_33 hGX hGM C (hp.2.2.2.2.2.2.2.2.2.2.2.2.2.2.2.2.2.2.2.2.2.2.2.2.2.2.2.2.2.2.2.2.2.1) hR hin kk)
    by_cases z34 : v = 34
    · exact l_tin (q := 1404) (off := 1371) (c := 34) C z34 dL_law_33 (by decide) (by decide) (by decide) (by decide) (lk_34 hGX hGM C (hp.2.2.2.2.2.2.2.2.2.2.2.2.2.2.2.2.2.2.2.2.2.2.2.2.2.2.2.2.2.2.2.2.2.2.1) hR hin kk)
    by_cases z35 : v = 35
    · exact l_tin (q := 1427) (off := 1394) (c := 35) C z35 dL_law_33 (by decide) (by decide) (by decide) (by decide) (lk_35 hGX hGM C (hp.2.2.2.2.2.2.2.2.2.2.2.2.2.2.2.2.2.2.2.2.2.2.2.2.2.2.2.2.2.2.2.2.2.2.2.1) hR hin kk)
    by_cases z36 : v = 36
    · exact l_tin (q := 1440) (off := 1407) (c := 36) C z36 dL_law_33 (by decide) (by decide) (by decide) (by decide) (lk_36 hGX hGM C (hp.2.2.2.2.2.2.2.2.2.2.2.2.2.2.2.2.2.2.2.2.2.2.2.2.2.2.2.2.2.2.2.2.2.2.2.2.1) hR hin kk)
    by_cases z37 : v = 37
    · exact l_tin (q := 1453) (off := 1420) (c := 37) C z37 dL_law_33 (by decide) (by decide) (by decide) (by decide) (lk_37 hGX hGM C (hp.2.2.2.2.2.2.2.2.2.2.2.2.2.2.2.2.2.2.2.2.2.2.2.2.2.2.2.2.2.2.2.2.2.2.2.2.2.1) hR hin kk)
    by_cases z38 : v = 38
    · exact l_tin (q := 1476) (off := 1443) (c := 38) C z38 dL_law_33 (by decide) (by decide) (by decide) (by decide) (lk_38 hGX hGM C (hp.2.2.2.2.2.2.2.2.2.2.2.2.2.2.2.2.2.2.2.2.2.2.2.2.2.2.2.2.2.2.2.2.2.2.2.2.2.2.1) hR hin kk)
    by_cases z39 : v = 39
    · exact l_tin (q := 1489) (off := 1456) (c := 39) C z39 dL_law_33 (by decide) (by decide) (by decide) (by decide) (lk_39 hGX hGM C (hp.2.2.2.2.2.2.2.2.2.2.2.2.2.2.2.2.2.2.2.2.2.2.2.2.2.2.2.2.2.2.2.2.2.2.2.2.2.2.2.1) hR hin kk)
    by_cases z40 : v = 40
    · exact l_tin (q := 1512) (off := 1479) (c := 40) C z40 dL_law_33 (by decide) (by decide) (by decide) (by decide) (lk_40 hGX hGM C (hp.2.2.2.2.2.2.2.2.2.2.2.2.2.2.2.2.2.2.2.2.2.2.2.2.2.2.2.2.2.2.2.2.2.2.2.2.2.2.2.2) hR hin kk)
    exact l_tout (q := 1535) C dL_law_33 (by have y0 := lv_neT (k := 0) (a := 0) z0 (by decide); have y1 := lv_neT (k := 1) (a := 1) z1 (by decide); have y2 := lv_neT (k := 2) (a := 2) z2 (by decide); have y3 := lv_neT (k := 3) (a := 3) z3 (by decide); have y4 := lv_neT (k := 4) (a := 4) z4 (by decide); have y5 := lv_neT (k := 5) (a := 5) z5 (by decide); have y6 := lv_neT (k := 6) (a := 6) z6 (by decide); have y7 := lv_neT (k := 7) (a := 7) z7 (by decide); have y8 := lv_neT (k := 8) (a := 8) z8 (by decide); have y9 := lv_neT (k := 9) (a := 9) z9 (by decide); have y10 := lv_neT (k := 10) (a := 10) z10 (by decide); have y11 := lv_neT (k := 11) (a := 11) z11 (by decide); have y12 := lv_neT (k := 12) (a := 12) z12 (by decide); have y13 := lv_neT (k := 13) (a := 13) z13 (by decide); have y14 := lv_neT (k := 14) (a := 14) z14 (by decide); have y15 := lv_neT (k := 15) (a := 15) z15 (by decide); have y16 := lv_neT (k := 16) (a := 16) z16 (by decide); have y17 := lv_neT (k := 17) (a := 17) z17 (by decide); have y18 := lv_neT (k := 18) (a := 18) z18 (by decide); have y19 := lv_neT (k := 19) (a := 19) z19 (by decide); have y20 := lv_neT (k := 20) (a := 20) z20 (by decide); have y21 := lv_neT (k := 21) (a := 21) z21 (by decide); have y22 := lv_neT (k := 22) (a := 22) z22 (by decide); have y23 := lv_neT (k := 23) (a := 23) z23 (by decide); have y24 := lv_neT (k := 24) (a := 24) z24 (by decide); have y25 := lv_neT (k := 25) (a := 25) z25 (by decide); have y26 := lv_neT (k := 26) (a := 26) z26 (by decide); have y27 := lv_neT (k := 27) (a := 27) z27 (by decide); have y28 := lv_neT (k := 28) (a := 28) z28 (by decide); have y29 := lv_neT (k := 29) (a := 29) z29 (by decide); have y30 := lv_neT (k := 30) (a := 30) z30 (by decide); have y31 := lv_neT (k := 31) (a := 31) z31 (by decide); have y32 := lv_neT (k := 32) (a := 32) z32 (by decide); have y33 := lv_neT (k := 33) (a := 33) z33 (by decide); have y34 := lv_neT (k := 34) (a := 34) z34 (by decide); have y35 := lv_neT (k := 35) (a := 35) z35 (by decide); have y36 := lv_neT (k := 36) (a := 36) z36 (by decide); have y37 := lv_neT (k := 37) (a := 37) z37 (by decide); have y38 := lv_neT (k := 38) (a := 38) z38 (by decide); have y39 := lv_neT (k := 39) (a := 39) z39 (by decide); have y40 := lv_neT (k := 40) (a := 40) z40 (by decide); omega) (by decide) (kk VX VM (hmono i VX VM hR))

/-! ===== PURE: feed ===== -/
theorem byte_eq (w : Int64) : ∀ i, i < 8 → (((w).toUInt64 >>> (((8 * nI i)).toInt64.toUInt64 &&& Int64.toUInt64 63)).toInt64).toInt32 &&& 255 = (((w >>> (((8 * nI i)).toInt64 &&& 63)) &&& 255)).toInt32 := by
  intro i hi
  have key : ∀ s : Nat, s < 57 → (((w).toUInt64 >>> (UInt64.ofNat s)).toInt64).toInt32 &&& 255 = (((w >>> (Int64.ofNat s)) &&& 255)).toInt32 := by
    intro s hs
    apply Int32.toBitVec_inj.mp
    apply BitVec.eq_of_getLsbD_eq
    intro j hj
    have h255 : (255 : Int32).toBitVec.getLsbD j = decide (j < 8) := by
      revert j
      decide
    have h255' : (255 : Int64).toBitVec.getLsbD j = decide (j < 8) := by
      revert j
      decide
    have e1 : ((w.toUInt64 >>> UInt64.ofNat s).toInt64.toInt32 &&& 255).toBitVec = (w.toBitVec >>> s).setWidth 32 &&& (255 : Int32).toBitVec := by
      rw [Int32.toBitVec_and, Int64.toBitVec_toInt32, BitVec.signExtend_eq_setWidth_of_le _ (by decide)]
      congr 2
      show w.toBitVec >>> ((UInt64.ofNat s).toBitVec % 64) = w.toBitVec >>> s
      have : ((UInt64.ofNat s).toBitVec % 64).toNat = s := by
        show (s % 2 ^ 64) % 64 = s
        omega
      rw [BitVec.ushiftRight_eq', this]
    have e2 : ((w >>> Int64.ofNat s) &&& 255).toInt32.toBitVec = (BitVec.sshiftRight w.toBitVec s &&& (255 : Int64).toBitVec).setWidth 32 := by
      rw [Int64.toBitVec_toInt32, Int64.toBitVec_and, BitVec.signExtend_eq_setWidth_of_le _ (by decide)]
      congr 2
      show BitVec.sshiftRight' w.toBitVec ((Int64.ofNat s).toBitVec.smod 64) = _
      have : ((Int64.ofNat s).toBitVec.smod 64).toNat = s := by
        have hh : ∀ s, s < 57 → ((Int64.ofNat s).toBitVec.smod 64).toNat = s := by decide
        exact hh s hs
      unfold BitVec.sshiftRight'
      rw [this]
    rw [e1, e2, BitVec.getLsbD_and, BitVec.getLsbD_setWidth, BitVec.getLsbD_setWidth, BitVec.getLsbD_and, h255, h255', BitVec.getLsbD_ushiftRight, BitVec.getLsbD_sshiftRight]
    by_cases h8 : j < 8
    · have a1 : s + j < 64 := by omega
      have a2 : ¬ 64 ≤ j := by omega
      simp [h8, a1, a2, hj]
    · simp [h8]
  have c1 : ((8 * nI i)).toInt64.toUInt64 &&& Int64.toUInt64 63 = UInt64.ofNat (8 * i) := by
    revert i
    decide
  have c2 : ((8 * nI i)).toInt64 &&& 63 = Int64.ofNat (8 * i) := by
    revert i
    decide
  rw [c1, c2]
  exact key (8 * i) (by omega)
theorem pr_feed_L {w : Int64} {n T : Nat} (hn : n ≤ 8) (hT : T + n ≤ 50) : ∀ (m f g i : Nat) (V VM : gV), i + m = n → m < f → m < g → V 1 10 = nI T → VM 1 4 = nI (T + i) → (∀ k, k < 50 → V 13 k = VM 1 (94 + k)) → ∃ (V' VM' : gV), fX7_feed_L1 w (nI n) f V (nI i) = some (nI (T + n), gup V' 1 10 (nI (T + n))) ∧ fX8_feed_L1 w (nI n) g VM (nI i) = some (nI (T + n), VM') ∧ VM' 1 4 = nI (T + n) ∧ (∀ k, k < 50 → V' 13 k = VM' 1 (94 + k)) ∧ (∀ x, x ≠ 13 → V' x = V x) ∧ (∀ c, c ≠ 1 → VM' c = VM c) ∧ ∀ k, k ≠ 4 → ¬ (94 ≤ k ∧ k < 144) → VM' 1 k = VM 1 k := by
  intro m
  induction m with
  | zero =>
    intro f g i V VM h1 h2 h3 hV hM ht
    obtain ⟨f, rfl⟩ : ∃ f', f = f' + 1 := ⟨f - 1, by omega⟩
    obtain ⟨g, rfl⟩ : ∃ g', g = g' + 1 := ⟨g - 1, by omega⟩
    have hi : i = n := by omega
    subst hi
    refine ⟨V, VM, ?_, ?_, hM, ht, fun _ _ => rfl, fun _ _ => rfl, fun _ _ _ => rfl⟩
    · show fX7_feed_L1b _ _ _ V (nI i) = _
      unfold fX7_feed_L1b
      simp only [Nat.reduceAdd, gbi_some, gbr_some, gbv_some, gpu_eq, glt_eq, gjn_eq, r1_0, r1_1, r1_2, r1_3, r1_4, r1_5, w1_0, w1_1, w1_2, w1_3, w1_4, w1_5]
      rw [if_pos (nI_le (by omega) (by omega)), hV, nI_add, gup_at]
    · show fX8_feed_L1b _ _ _ VM (nI i) = _
      unfold fX8_feed_L1b
      simp only [Nat.reduceAdd, gbi_some, gbr_some, gbv_some, gpu_eq, glt_eq, gjn_eq, r1_0, r1_1, r1_2, r1_3, r1_4, r1_5, w1_0, w1_1, w1_2, w1_3, w1_4, w1_5]
      rw [if_pos (nI_le (by omega) (by omega)), hM]
  | succ m ih =>
    intro f g i V VM h1 h2 h3 hV hM ht
    obtain ⟨f, rfl⟩ : ∃ f', f = f' + 1 := ⟨f - 1, by omega⟩
    obtain ⟨g, rfl⟩ : ∃ g', g = g' + 1 := ⟨g - 1, by omega⟩
    show ∃ (V' VM' : gV), fX7_feed_L1b _ _ _ V (nI i) = _ ∧ fX8_feed_L1b _ _ _ VM (nI i) = _ ∧ _
    unfold fX7_feed_L1b fX8_feed_L1b
    simp only [Nat.reduceAdd, gbi_some, gbr_some, gbv_some, gpu_eq, glt_eq, gjn_eq, r1_0, r1_1, r1_2, r1_3, r1_4, r1_5, w1_0, w1_1, w1_2, w1_3, w1_4, w1_5]
    rw [if_neg (nI_ge (by omega) (by omega)), if_neg (nI_ge (by omega) (by omega)), hV, hM, nI_add, eX_setAt (T + i) rfl (by omega) (by decide), gbv_some, w1_at (94 + (T + i)) (show (94 + nI (T + i) : Int32) = nI (94 + (T + i)) from nI_add 94 _) (by omega), byte_eq w i (by omega)]
    generalize hb : (((w >>> (((8 * nI i)).toInt64 &&& 63)) &&& 255)).toInt32 = b
    have z : gup VM 1 (94 + (T + i)) b 1 4 = nI (T + i) := (gup_ne _ _ (by omega)).trans hM
    simp only [z, nI_1]
    obtain ⟨V', VM', r1, r2, r3, r4, r5, r6, r7⟩ := ih f g (i + 1) (gup V 13 (T + i) b) (gup (gup VM 1 (94 + (T + i)) b) 1 4 (nI (T + i + 1))) (by omega) (by omega) (by omega) ((gup_ne _ _ (by omega)).trans hV) (by rw [gup_at]; rfl) (fun k hk => by
      rw [gup_ne (gup VM 1 (94 + (T + i)) b) _ (by omega)]
      by_cases hkt : k = T + i
      · subst hkt; rw [gup_at, gup_at]
      · rw [gup_ne _ _ (by omega), gup_ne _ _ (by omega)]; exact ht k hk)
    refine ⟨V', VM', r1, r2, r3, r4, fun x hx => (r5 x hx).trans (gup_row _ _ _ hx), fun c hc => (r6 c hc).trans (by rw [gup_row _ _ _ hc, gup_row _ _ _ hc]), fun k hk hk2 => (r7 k hk hk2).trans (by rw [gup_ne _ _ (by omega), gup_ne _ _ (by omega)])⟩
theorem pr_feed {i : Nat} {VX VM : gV} {L : lW} {nh nc : Nat} (hR : RW i VX VM L nh nc) (w : Int64) (a : Int32) : gEq (Rel0 (i + 6)) (fX7_feed VX w a) (fX8_feed VM w a) := by
  unfold fX7_feed fX8_feed
  rw [d_within, d_in]
  by_cases ha : 1 ≤ a ∧ a ≤ 8
  · obtain ⟨n, hn, rfl⟩ := rngc (n := 8) (by decide) (show 0 ≤ a ∧ a ≤ nI 8 from ⟨Int32.le_trans (by decide) ha.1, ha.2⟩)
    obtain ⟨g1, g2, g3, g4, ⟨t, ht, t1, t2⟩, g6, g7, g8⟩ := hR.1
    rw [if_pos ha, if_pos ha, g10, g10]
    simp only [Nat.reduceAdd, gbi_some, gbr_some, gbv_some, gpu_eq, glt_eq, gjn_eq, r1_0, r1_1, r1_2, r1_3, r1_4, r1_5, w1_0, w1_1, w1_2, w1_3, w1_4, w1_5, t1, t2, nI_add]
    rw [show (50 : Int32) - nI n = nI (50 - n) from pk_sub (a := 50) (by omega)]
    have c1 : (nI t ≤ nI (50 - n)) ↔ t + n ≤ 50 := (pI_le_iff (by omega) (by omega)).trans (by omega)
    have c2 : (nI (t + n) ≤ 50) ↔ t + n ≤ 50 := nI_leI (b := 50) (by omega) (by decide)
    by_cases hh : t + n ≤ 50
    · rw [if_pos (c1.mpr hh), if_pos (c2.mpr hh)]
      obtain ⟨V', VM', r1, r2, r3, r4, r5, r6, r7⟩ := pr_feed_L (w := w) hn hh n gFu gFu 0 VX VM (by omega) (by unfold gFu; omega) (by unfold gFu; omega) t1 t2 g7
      rw [show (0 : Int32) = nI 0 from rfl, r1, r2]
      refine RW.done (L := L) (nh := nh) (nc := nc) ⟨hR.1.gen (fun x _ _ _ _ _ _ => ?_) ?_ ?_ ?_ ?_ (fun k _ h4 _ hk => r7 k h4 (by omega)) ?_ ?_ ?_ (fun k hk => ?_) (fun k hk => ?_), hR.2.congr (fun x hx => ?_) (mRest.cell fun c c1 _ _ _ _ => r6 c c1)⟩
      · rw [gup_row _ _ _ (by omega), r5 _ (by omega)]
      · rw [gup_ne _ _ (by omega), r5 _ (by omega)]
      · rw [gup_ne _ _ (by omega), r5 _ (by omega)]
      · rw [gup_ne _ _ (by omega), r5 _ (by omega), r7 _ (by omega) (by omega)]; exact g1.2.2.1.2.2.1
      · rw [gup_ne _ _ (by omega), r5 _ (by omega), r7 _ (by omega) (by omega)]; exact g1.2.2.1.2.2.2
      · rw [r7 _ (by omega) (by omega)]; exact g4
      · rw [gup_at, r3]; exact ⟨t + n, hh, rfl, rfl⟩
      · rw [gup_ne _ _ (by omega), r5 _ (by omega), r7 _ (by omega) (by omega)]; exact g6
      · rw [gup_row _ _ _ (by omega)]; exact r4 k hk
      · rw [gup_row _ _ _ (by omega), r5 _ (by omega), r7 _ (by omega) (by omega)]; exact g8 k hk
      · rw [gup_row _ _ _ (by omega), r5 _ (by omega)]
    · rw [if_neg (fun q => hh (c1.mp q)), if_neg (fun q => hh (c2.mp q))]
      exact hR.e4
  · rw [if_neg ha, if_neg ha, g00, g00]
    exact hR.e1

/-! ===== PURE: loose, check ===== -/
theorem gus8 (z : Int32) : ∃ n, n < 2 ^ 24 ∧ gus z 8 = nI n := by
  have hz := z.toBitVec.isLt
  refine ⟨z.toBitVec.toNat / 2 ^ 8, by omega, ?_⟩
  apply Int32.toBitVec_inj.mp
  apply BitVec.eq_of_toNat_eq
  unfold gus
  rw [pk_ushr z 8 8 (by decide)]
  show _ = (BitVec.ofNat 32 _).toNat
  rw [BitVec.toNat_ofNat, Nat.mod_eq_of_lt]
  omega
def zN (z : Int32) : Int32 := z * 1103515245 + 12345
theorem RW.setZ {i : Nat} {VX VM : gV} {L : lW} {nh nc : Nat} (hR : RW i VX VM L nh nc) (a : Int32) : RW i (gup VX 1 13 a) (gup VM 1 1 a) L nh nc := by
  refine ⟨?_, hR.2.congr (fun x hx => gup_row _ _ _ (by omega)) (mRest.cell fun c c1 _ _ _ _ => gup_row _ _ _ c1)⟩
  have g := hR.1
  refine hR.1.gen (fun x _ _ _ _ _ _ => gup_row _ _ _ (by omega)) (gup_ne _ _ (by omega)) (gup_ne _ _ (by omega)) ?_ ?_ (fun k _ _ _ _ => gup_ne _ _ (by omega)) ?_ ?_ ?_ (fun k hk => ?_) (fun k hk => ?_)
  · rw [gup_ne _ _ (by omega), gup_ne _ _ (by omega)]; exact g.1.2.2.1.2.2.1
  · rw [gup_at, gup_at]
  · rw [gup_ne _ _ (by omega)]; exact g.2.2.2.1
  · rw [gup_ne _ _ (by omega), gup_ne _ _ (by omega)]; exact g.2.2.2.2.1
  · rw [gup_ne _ _ (by omega), gup_ne _ _ (by omega)]; exact g.2.2.2.2.2.1
  · rw [gup_row _ _ _ (by omega), gup_ne _ _ (by omega)]; exact g.2.2.2.2.2.2.1 k hk
  · rw [gup_row _ _ _ (by omega), gup_ne _ _ (by omega)]; exact g.2.2.2.2.2.2.2 k hk
theorem RW.setH {i : Nat} {VX VM : gV} {L : lW} {nh nc h v : Nat} (hR : RW i VX VM L nh nc) (hh : h < nh) (hv : v ≤ 9) : RW i (gup VX (1 + 14 + 1 * h) 0 (nI v)) (gup VM 1 (8 + 2 * h) (nI v)) L nh nc := by
  have h4 := hR.h4
  obtain ⟨e0, e1⟩ := hR.co.2.2.2.1 h hh
  obtain ⟨wn1, wn2, wn3⟩ := (hR.co.2.1.2.2.2.2.1 h hh).2
  refine ⟨?_, hR.2.congr (fun x hx => gup_row _ _ _ (by omega)) (mRest.cell fun c c1 _ _ _ _ => gup_row _ _ _ c1)⟩
  refine hR.1.house (h := h) (by omega) (by omega) (by omega) (fun k _ _ => by omega) (fun x _ _ _ _ _ => ?_) ?_ (fun k hk => ?_) (fun k k2 k3 k4 => ?_) ?_ ⟨⟨v, by omega, ?_⟩, ⟨wn1, wn2, ?_⟩⟩ ?_ ?_
  all_goals try funext kk
  all_goals try simp only [sHands, sWater] at *
  all_goals simp (config := { decide := false }) only [gup, Nat.one_mul] at *
  · grind
  · have := hR.nhX; grind
  · grind
  · grind
  · have := hR.nhM; grind
  · grind
  · grind
  · grind
  · grind
theorem RW.day {i : Nat} {VX VM : gV} {L : lW} {nh nc d : Nat} (hR : RW i VX VM L nh nc) (hd : VM 1 0 = nI d) (h9 : d + 1 ≤ 9999) : ∃ VX' VM', fX6_passDay VX 1 = some VX' ∧ fX8_oneDay VM = some VM' ∧ RW i VX' VM' L nh nc ∧ VM' 1 0 = nI (d + 1) := by
  obtain ⟨V1, e1, hC1, hD1⟩ := x_day hR.co
  obtain ⟨V2, e2, hS2⟩ := m_day hR.mo
  refine ⟨V1, V2, e1, e2, hR.days (n := 1) ⟨d, h9, hd⟩ hC1 hD1 hS2, ?_⟩
  rw [hS2.row, sDay_0, hd, nI_1]
theorem x_draw (V : gV) : fX6_draw V 1 = some (gus (zN (V 1 13)) 8, gup V 1 13 (zN (V 1 13))) := by
  unfold fX6_draw
  simp only [gpu_eq, gup_at]
  rfl
theorem m_drawn (V : gV) {b : Nat} (h0 : 0 < b) (hb : b < 2 ^ 31) : fX8_drawn V (nI b) = some (grm (gus (zN (V 1 1)) 8) (nI b), gup V 1 1 (zN (V 1 1))) := by
  unfold fX8_drawn
  simp only [Nat.reduceAdd, gbi_some, gbr_some, gbv_some, gpu_eq, glt_eq, gjn_eq, r1_0, r1_1, r1_2, r1_3, r1_4, r1_5, w1_0, w1_1, w1_2, w1_3, w1_4, w1_5, gup_at]
  rw [gdv_ne (nI_ne0 h0 hb)]
  rfl
theorem pr_loose_L {i n : Nat} {L : lW} {nh nc : Nat} (hn : n ≤ 40) : ∀ (m f g k d : Nat) (VX VM : gV), k + m = n → m < f → m < g → RW i VX VM L nh nc → VM 1 0 = nI d → d + m ≤ 9999 → gEq (Rel0 (i + 6)) (fX7_loose_L1 (nI n) f VX (nI k)) (fX8_loose_L1 (nI n) g VM (nI k)) := by
  intro m
  induction m with
  | zero =>
    intro f g k d VX VM h1 h2 h3 hR hd h9
    obtain ⟨f, rfl⟩ : ∃ f', f = f' + 1 := ⟨f - 1, by omega⟩
    obtain ⟨g, rfl⟩ : ∃ f', g = f' + 1 := ⟨g - 1, by omega⟩
    show gEq _ (fX7_loose_L1b _ _ VX (nI k)) (fX8_loose_L1b _ _ VM (nI k))
    unfold fX7_loose_L1b fX8_loose_L1b
    simp only [Nat.reduceAdd, gbi_some, gbr_some, gbv_some, gpu_eq, glt_eq, gjn_eq, r1_0, r1_1, r1_2, r1_3, r1_4, r1_5, w1_0, w1_1, w1_2, w1_3, w1_4, w1_5]
    obtain ⟨V3, e3, hS3⟩ := m_gone hR.mo
    rw [if_pos (nI_le (by omega) (by omega)), if_pos (nI_le (by omega) (by omega)), x_gone hR.co, e3, gbi_some, gbi_some]
    exact (hR.scr hS3).done
  | succ m ih =>
    intro f g k d VX VM h1 h2 h3 hR hd h9
    obtain ⟨f, rfl⟩ : ∃ f', f = f' + 1 := ⟨f - 1, by omega⟩
    obtain ⟨g, rfl⟩ : ∃ f', g = f' + 1 := ⟨g - 1, by omega⟩
    have h4 := hR.h4
    show gEq _ (fX7_loose_L1b _ _ VX (nI k)) (fX8_loose_L1b _ _ VM (nI k))
    unfold fX7_loose_L1b fX8_loose_L1b fX6_drawHands
    simp only [Nat.reduceAdd, gbi_some, gbr_some, gbv_some, gpu_eq, glt_eq, gjn_eq, r1_0, r1_1, r1_2, r1_3, r1_4, r1_5, w1_0, w1_1, w1_2, w1_3, w1_4, w1_5]
    rw [if_neg (nI_ge (by omega) (by omega)), if_neg (nI_ge (by omega) (by omega)), hR.nhX, hR.nhM]
    by_cases h0 : nh = 0
    · subst h0
      rw [if_pos (by decide), if_pos (by decide), gbv_some]
      obtain ⟨VX', VM', e1, e2, hR', hd'⟩ := hR.day hd (by omega)
      rw [e1, e2, gbv_some, gbv_some, nI_1]
      exact ih f g (k + 1) (d + 1) VX' VM' (by omega) (by omega) (by omega) hR' hd' (by omega)
    · rw [if_neg (nI_nle (by omega) (by omega)), if_neg (nI_nle (by omega) (by omega))]
      have ez : VX 1 13 = VM 1 1 := hR.co.2.2.1.2.2.2
      obtain ⟨n1, hn1, en1⟩ := gus8 (zN (VM 1 1))
      obtain ⟨n2, hn2, en2⟩ := gus8 (zN (zN (VM 1 1)))
      have hlt : n1 % nh < nh := Nat.mod_lt _ (by omega)
      have hR1 := hR.setZ (zN (VM 1 1))
      have hR2 := hR1.setZ (zN (zN (VM 1 1)))
      have hR3 := hR2.setH (h := n1 % nh) (v := n2 % 10) hlt (by omega)
      rw [x_draw, m_drawn _ (by omega) (by omega), ez, gbi_some, gbi_some, hR1.nhX, gdv_ne (nI_ne0 (by omega) (by omega)), en1, grm_nI (by omega) (by omega) (by omega), x_houseAt (by omega), gbr_some, x_draw, show (10 : Int32) = nI 10 from rfl, m_drawn _ (by omega) (by omega), gup_at, gup_at, gbi_some, gbi_some, gdv_ne (by decide), en2, grm_nI (by omega) (by omega) (by omega), w1_at (8 + 2 * (n1 % nh)) (m_hx _) (by omega), gbv_some]
      obtain ⟨VX', VM', e1, e2, hR', hd'⟩ := hR3.day (d := d) (by rw [gup_ne _ _ (by omega), gup_ne _ _ (by omega), gup_ne _ _ (by omega)]; exact hd) (by omega)
      rw [e1, e2, gbv_some, gbv_some, nI_1]
      exact ih f g (k + 1) (d + 1) VX' VM' (by omega) (by omega) (by omega) hR' hd' (by omega)
theorem pr_loose {i : Nat} {VX VM : gV} {L : lW} {nh nc : Nat} (hR : RW i VX VM L nh nc) (a : Int32) : gEq (Rel0 (i + 6)) (fX7_loose VX a) (fX8_loose VM a) := by
  unfold fX7_loose fX8_loose
  simp only [Nat.reduceAdd, gbi_some, gbr_some, gbv_some, gpu_eq, glt_eq, gjn_eq, r1_0, r1_1, r1_2, r1_3, r1_4, r1_5, w1_0, w1_1, w1_2, w1_3, w1_4, w1_5]
  rw [d_within, d_in]
  by_cases ha : 1 ≤ a ∧ a ≤ 40
  · obtain ⟨n, hn, rfl⟩ := rngc (n := 40) (by decide) (show 0 ≤ a ∧ a ≤ nI 40 from ⟨Int32.le_trans (by decide) ha.1, ha.2⟩)
    rw [if_pos ha, if_pos ha, g10, g10]
    obtain ⟨d, hd, ed⟩ := hR.1.2.2.2.1
    rw [hR.co.2.2.1.2.2.1, ed, nI_add]
    have c1 : (nI d ≤ 9999 - nI n) ↔ d + n ≤ 9999 := by
      rw [show (9999 : Int32) - nI n = nI (9999 - n) from pk_sub (a := 9999) (by omega)]
      exact (pI_le_iff (by omega) (by omega)).trans (by omega)
    have c2 : (nI (d + n) ≤ 9999) ↔ d + n ≤ 9999 := nI_leI (b := 9999) (by omega) (by decide)
    by_cases hh : d + n ≤ 9999
    · rw [if_pos (c1.mpr hh), if_pos (c2.mpr hh)]
      exact pr_loose_L hn n gFu gFu 0 d VX VM (by omega) (by unfold gFu; omega) (by unfold gFu; omega) hR ed hh
    · rw [if_neg (fun q => hh (c1.mp q)), if_neg (fun q => hh (c2.mp q))]
      exact hR.e3
  · rw [if_neg ha, if_neg ha, g00, g00]
    exact hR.e1
/-! what waits is held against the days to come -/
def sCheck (L : lW) (nc : Nat) (q : Nat → Int32) : Nat → Nat → rR → Int32
  | 0, _, _ => 0
  | m + 1, k, r => if q k = sGone L (sDay L r nc) nc then sCheck L nc q m (k + 1) (sDay L r nc) else 1 + nI k
theorem sCheck_congr {L : lW} {nc : Nat} {q q' : Nat → Int32} : ∀ (m k : Nat) (r : rR), (∀ j, k ≤ j → j < k + m → q j = q' j) → sCheck L nc q m k r = sCheck L nc q' m k r
  | 0, _, _, _ => rfl
  | m + 1, k, r, h => by
    unfold sCheck
    rw [h k (by omega) (by omega), sCheck_congr m (k + 1) _ (fun j a b => h j (by omega) (by omega))]
theorem x_check_L {n : Nat} {L : lW} {nh nc : Nat} (hn : n ≤ 20) : ∀ (m f k : Nat) (V : gV) (r : rR), k + m = n → m < f → CO V 61 r L nh nc → V 61 11 = nI n → ∃ V', fX7_check_L1 f V (nI k) = some (sCheck L nc (V 74) m k r, V') ∧ Day 61 V V' := by
  intro m
  induction m with
  | zero =>
    intro f k V r h1 h2 hC h11
    obtain ⟨f, rfl⟩ : ∃ f', f = f' + 1 := ⟨f - 1, by omega⟩
    refine ⟨V, ?_, Day.rf⟩
    show fX7_check_L1b _ V (nI k) = _
    unfold fX7_check_L1b
    simp only [Nat.reduceAdd, gbi_some, gbr_some, gbv_some, gpu_eq, glt_eq, gjn_eq, r1_0, r1_1, r1_2, r1_3, r1_4, r1_5, w1_0, w1_1, w1_2, w1_3, w1_4, w1_5]
    rw [h11, if_pos (nI_le (by omega) (by omega))]
    rfl
  | succ m ih =>
    intro f k V r h1 h2 hC h11
    obtain ⟨f, rfl⟩ : ∃ f', f = f' + 1 := ⟨f - 1, by omega⟩
    show ∃ V', fX7_check_L1b _ V (nI k) = _ ∧ _
    unfold fX7_check_L1b sCheck
    simp only [Nat.reduceAdd, gbi_some, gbr_some, gbv_some, gpu_eq, glt_eq, gjn_eq, r1_0, r1_1, r1_2, r1_3, r1_4, r1_5, w1_0, w1_1, w1_2, w1_3, w1_4, w1_5]
    obtain ⟨V1, e1, hC1, hD1⟩ := x_day hC
    have e74 : V1 74 = V 74 := hD1.1 74 (by omega) (by omega) (by omega) (fun j _ => by omega)
    rw [h11, if_neg (nI_ge (by omega) (by omega)), e1, gbv_some, eX_at k rfl (by omega) (by decide), gbi_some, x_gone hC1, gbi_some, e74]
    by_cases hq : V 74 k = sGone L (sDay L r nc) nc
    · rw [if_pos hq, if_pos hq, nI_1]
      obtain ⟨V2, e2, hD2⟩ := ih f (k + 1) V1 _ (by omega) (by omega) hC1 (by rw [hD1.2 11 (by omega)]; exact h11)
      rw [e74] at e2
      exact ⟨V2, e2, hD1.tr hD2⟩
    · rw [if_neg hq, if_neg hq]
      exact ⟨V1, rfl, hD1⟩
theorem m_check_L {n : Nat} {L : lW} {nh nc : Nat} {VM : gV} (hn : n ≤ 20) : ∀ (m f k : Nat) (V : gV), k + m = n → m + 1 < f → MO V L nh nc → Thk VM V → ∃ V', Thk VM V' ∧ fX8_check_L1 (nI n) f V (nI k) 1 = some (sCheck L nc (fun j => V 1 (144 + j)) m k (V 1), mvV V' 3 1) := by
  intro m
  induction m with
  | zero =>
    intro f k V h1 h2 hM hT
    obtain ⟨f, rfl⟩ : ∃ f', f = f' + 1 := ⟨f - 1, by omega⟩
    refine ⟨V, hT, ?_⟩
    show fX8_check_L1b _ _ V (nI k) 1 = _
    unfold fX8_check_L1b
    simp only [Nat.reduceAdd, gbi_some, gbr_some, gbv_some, gpu_eq, glt_eq, gjn_eq, r1_0, r1_1, r1_2, r1_3, r1_4, r1_5, w1_0, w1_1, w1_2, w1_3, w1_4, w1_5]
    rw [if_pos (nI_le (by omega) (by omega)), m_move (by decide), gbv_some, g10]
    rfl
  | succ m ih =>
    intro f k V h1 h2 hM hT
    obtain ⟨f, rfl⟩ : ∃ f', f = f' + 1 := ⟨f - 1, by omega⟩
    show ∃ V', _ ∧ fX8_check_L1b _ _ V (nI k) 1 = _
    unfold fX8_check_L1b sCheck
    simp only [Nat.reduceAdd, gbi_some, gbr_some, gbv_some, gpu_eq, glt_eq, gjn_eq, r1_0, r1_1, r1_2, r1_3, r1_4, r1_5, w1_0, w1_1, w1_2, w1_3, w1_4, w1_5]
    obtain ⟨V1, e1, hS1⟩ := m_day hM
    have hM1 : MO V1 L nh nc := MO_day hM hS1.row
    obtain ⟨V2, e2, hS2⟩ := m_gone hM1
    have r2 : V2 1 = sDay L (V 1) nc := by rw [hS2.row (by decide), hS1.row]
    have h6 := hM.2.2.2.1
    have w : ∀ j, sDay L (V 1) nc (144 + j) = V 1 (144 + j) := fun j => sDay_oth (by omega) (fun _ _ => by omega)
    rw [if_neg (nI_ge (by omega) (by omega)), g10, e1, gbv_some, e2, gbi_some, r1_at (144 + k) (show (144 + nI k : Int32) = nI (144 + k) from nI_add 144 k) (by omega), hS1.row, r2, w]
    by_cases hq : V 1 (144 + k) = sGone L (sDay L (V 1) nc) nc
    · rw [if_pos hq.symm, if_pos hq, g10, nI_1]
      obtain ⟨V3, hT3, e3⟩ := ih f (k + 1) V2 (by omega) (by omega) (hM1.scr hS2) ((hT.sro hS1).scr hS2)
      refine ⟨V3, hT3, ?_⟩
      rw [e3, r2, show (fun j => sDay L (V 1) nc (144 + j)) = fun j => V 1 (144 + j) from funext w]
    · rw [if_neg (fun q => hq q.symm), if_neg hq, gTT]
      obtain ⟨f, rfl⟩ : ∃ f', f = f' + 1 := ⟨f - 1, by omega⟩
      refine ⟨V2, (hT.sro hS1).scr hS2, ?_⟩
      show fX8_check_L1b _ _ V2 (nI k + 0) 0 = _
      rw [show nI k + 0 = nI k from Int32.add_zero _]
      unfold fX8_check_L1b
      simp only [Nat.reduceAdd, gbi_some, gbr_some, gbv_some, gpu_eq, glt_eq, gjn_eq, r1_0, r1_1, r1_2, r1_3, r1_4, r1_5, w1_0, w1_1, w1_2, w1_3, w1_4, w1_5]
      rw [if_neg (nI_ge (by omega) (by omega)), gTT, m_move (by decide), gbv_some, gTT]
theorem pr_check {i : Nat} {VX VM : gV} {L : lW} {nh nc : Nat} (hR : RW i VX VM L nh nc) : gEq (Rel0 (i + 6)) (fX7_check VX) (fX8_check VM) := by
  unfold fX7_check fX8_check
  simp only [Nat.reduceAdd, gbi_some, gbr_some, gbv_some, gpu_eq, glt_eq, gjn_eq, r1_0, r1_1, r1_2, r1_3, r1_4, r1_5, w1_0, w1_1, w1_2, w1_3, w1_4, w1_5]
  obtain ⟨V1, e1, hC1, hO1, h74, h11⟩ := hR.think
  obtain ⟨t, ht, t1, t2⟩ := hR.1.2.2.2.2.2.1
  have g := hR.1
  have hR2 : RW i (gup V1 1 11 0) (gup VM 1 5 0) L nh nc := by
    have hR1 := hR.o61 hO1
    have g := hR1.1
    refine ⟨?_, hR1.2.congr (fun x hx => gup_row _ _ _ (by omega)) (mRest.cell fun c c1 _ _ _ _ => gup_row _ _ _ c1)⟩
    refine hR1.1.gen (fun x _ _ _ _ _ _ => gup_row _ _ _ (by omega)) (gup_ne _ _ (by omega)) (gup_ne _ _ (by omega)) ?_ ?_ (fun k _ _ _ _ => gup_ne _ _ (by omega)) ?_ ?_ ?_ (fun k hk => ?_) (fun k hk => ?_)
    · rw [gup_ne _ _ (by omega), gup_ne _ _ (by omega)]; exact g.1.2.2.1.2.2.1
    · rw [gup_ne _ _ (by omega), gup_ne _ _ (by omega)]; exact g.1.2.2.1.2.2.2
    · rw [gup_ne _ _ (by omega)]; exact g.2.2.2.1
    · rw [gup_ne _ _ (by omega), gup_ne _ _ (by omega)]; exact g.2.2.2.2.1
    · rw [gup_at, gup_at]; exact ⟨0, by omega, rfl, rfl⟩
    · rw [gup_row _ _ _ (by omega), gup_ne _ _ (by omega)]; exact g.2.2.2.2.2.2.1 k hk
    · rw [gup_row _ _ _ (by omega), gup_ne _ _ (by omega)]; exact g.2.2.2.2.2.2.2 k hk
  have hC2 : CO (gup V1 1 11 0) 61 (gup VM 1 5 0 1) L nh nc := hC1.gen (fun x _ _ _ _ _ _ => gup_row _ _ _ (by omega)) (gup_ne _ _ (by omega)) (gup_ne _ _ (by omega)) (by rw [gup_ne _ _ (by omega), gup_ne _ _ (by omega)]; exact hC1.2.2.1.2.2.1) (by rw [gup_ne _ _ (by omega), gup_ne _ _ (by omega)]; exact hC1.2.2.1.2.2.2) (fun k _ _ _ _ => gup_ne _ _ (by omega))
  obtain ⟨V2, e2, hD2⟩ := x_check_L ht t gFu 0 _ _ (by omega) (by unfold gFu; omega) hC2 (by rw [gup_ne _ _ (by omega), h11]; exact t1)
  obtain ⟨V3, hT3, e3⟩ := m_check_L ht t gFu 0 _ (by omega) (by unfold gFu; omega) hR2.moT Thk.of
  rw [e1, gbv_some, t2, m_move (by decide), gbv_some, show fX7_check_L1 gFu (gup V1 1 11 0) 0 = _ from e2, show fX8_check_L1 (nI t) gFu (mvV (gup VM 1 5 0) 1 3) 0 1 = _ from e3, mv13]
  refine (hT3.back (hR2.o61 (O61.day hD2))).dones ?_
  refine sCheck_congr t 0 _ (fun j _ hj => ?_)
  rw [gup_row _ _ _ (by omega), h74 j (by omega), gup_ne _ _ (by omega)]
  exact g.2.2.2.2.2.2.2 j (by omega)

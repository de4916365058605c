/-! ===== PURE: shift, layer, press ===== -/
theorem CO.toCM {V : gV} {w : Nat} {r : rR} {L : lW} {nh nc : Nat} (h : CO V w r L nh nc) : CM V w r L nh nc := by
  obtain ⟨hL, hr, hw, hH, hC, hT0, hT1⟩ := h
  refine ⟨hL, hr, hw, hH, fun j hj => ?_, hT0, hT1⟩
  obtain ⟨c1, c2, c3, c4, c5, c6, c7⟩ := hC j hj
  exact ⟨c1, c2, c3, c4, c5, c7⟩
theorem CM.cake {V V' : gV} {w : Nat} {r r' : rR} {L : lW} {nh nc i : Nat} (hO : CM V w r L nh nc) (hi : i < nc) (eV : ∀ x, w ≤ x → x < w + 30 → x ≠ w + 8 → x ≠ w + 11 → x ≠ w + 18 + 2 * i → x ≠ w + 18 + 2 * i + 1 → V' x = V x) (er : ∀ k, k < 94 → (k < 16 + 13 * i ∨ 16 + 13 * i + 13 ≤ k) → r' k = r k) (hok : cOk r' nh i) (hm : cakeM V' (w + 18 + 2 * i) r' i) : CM V' w r' L nh nc := by
  obtain ⟨hL, ⟨r1, r2, r3, r4, r5, r6⟩, ⟨w1, w2, w3, w4⟩, hH, hC, hT0, hT1⟩ := hO
  have ew : V' w = V w := eV w (by omega) (by omega) (by omega) (by omega) (by omega) (by omega)
  refine ⟨hL, ⟨r1, r2, (er 2 (by omega) (by omega)).trans r3, (er 3 (by omega) (by omega)).trans r4, fun k hk => hOk_congr (er _ (by omega) (by omega)) (er _ (by omega) (by omega)) (r5 k hk), fun j hj => ?_⟩, ⟨by rw [ew]; exact w1, by rw [ew]; exact w2, by rw [ew, er 0 (by omega) (by omega)]; exact w3, by rw [ew, er 1 (by omega) (by omega)]; exact w4⟩, fun k hk => ?_, fun j hj => ?_, ?_, ?_⟩
  · by_cases hji : j = i
    · subst hji; exact hok
    · exact cOk_rcongr (fun k hk => er _ (by omega) (by omega)) (r6 j hj)
  · rw [eV _ (by omega) (by omega) (by omega) (by omega) (by omega) (by omega)]
    unfold sHands sWater
    rw [er _ (by omega) (by omega), er _ (by omega) (by omega)]
    exact hH k hk
  · by_cases hji : j = i
    · subst hji; exact hm
    · exact cakeM_rcongr (fun k hk => er _ (by omega) (by omega)) (cakeM_congr (eV _ (by omega) (by omega) (by omega) (by omega) (by omega) (by omega)) (eV _ (by omega) (by omega) (by omega) (by omega) (by omega) (by omega)) (hC j hj))
  · rw [eV _ (by omega) (by omega) (by omega) (by omega) (by omega) (by omega), eV _ (by omega) (by omega) (by omega) (by omega) (by omega) (by omega)]
    exact hT0
  · rw [eV _ (by omega) (by omega) (by omega) (by omega) (by omega) (by omega), eV _ (by omega) (by omega) (by omega) (by omega) (by omega) (by omega)]
    exact hT1
theorem gn_ok {a : Int32} (h : -1 ≤ a ∧ a ≤ 9) : a = -1 ∨ ∃ b, b ≤ 9 ∧ a = nI b := by
  by_cases h0 : a = -1
  · exact Or.inl h0
  · refine Or.inr (rngc (n := 9) (by decide) ⟨?_, h.2⟩)
    have h1 := Int32.le_iff_toInt_le.mp h.1
    have : (-1 : Int32).toInt = -1 := by decide
    have : (0 : Int32).toInt = 0 := by decide
    apply Int32.le_iff_toInt_le.mpr
    have : a.toInt ≠ -1 := fun q => h0 (Int32.toInt_inj.mp (by rw [q]; decide))
    omega
theorem CM.layer {V VM : gV} {L : lW} {nh nc b at_ : Nat} {v : Int32} (hO : CM V 1 (VM 1) L nh nc) (hb : b < nc) (hl : kL (VM 1) b = nI at_) (h8 : at_ < 8) (hv : v = -1 ∨ ∃ b, b ≤ 9 ∧ v = nI b) : CM (gup (gup V (1 + 18 + 2 * b + 1) at_ v) (1 + 18 + 2 * b) 4 (nI (at_ + 1))) 1 (gup (gup VM 1 (16 + 13 * b + (5 + at_)) v) 1 (16 + 13 * b + 3) (nI (at_ + 1)) 1) L nh nc := by
  obtain ⟨⟨q1, q2, q3⟩, ⟨q4, q5, q6⟩, ⟨q7, q8, q9⟩, ⟨q10, q11, q12, q13⟩, ⟨q14, q15, q16⟩⟩ := hO.2.1.2.2.2.2.2 b hb
  obtain ⟨c1, c2, c3, c4, c5, c7⟩ := hO.2.2.2.2.1 b hb
  have e10 : q10 = at_ := pI_inj (by omega) (by omega) (q12.symm.trans hl)
  subst e10
  have h6 := hO.2.1.2.1
  refine hO.cake (i := b) hb (fun x _ _ _ _ _ _ => by rw [gup_row _ _ _ (by omega), gup_row _ _ _ (by omega)]) (fun k hk h => by rw [gup_ne _ _ (by omega), gup_ne _ _ (by omega)]) ⟨⟨q1, q2, ?_⟩, ⟨q4, q5, ?_⟩, ⟨q7, q8, ?_⟩, ⟨q10 + 1, by omega, ?_, fun i hi => ?_⟩, ⟨q14, q15, ?_⟩⟩ ⟨?_, ?_, ?_, ?_, ?_, fun i a h1 h2 h3 => ?_⟩
  · unfold kK at *; rw [gup_ne _ _ (by omega), gup_ne _ _ (by omega)]; exact q3
  · unfold kM at *; rw [gup_ne _ _ (by omega), gup_ne _ _ (by omega)]; exact q6
  · unfold kH at *; rw [gup_ne _ _ (by omega), gup_ne _ _ (by omega)]; exact q9
  · unfold kL; rw [gup_at]
  · unfold kN at *
    by_cases hi2 : i = q10
    · subst hi2
      rw [gup_ne _ _ (by omega), gup_at]; exact hv
    · rw [gup_ne _ _ (by omega), gup_ne _ _ (by omega)]; exact q13 i (by omega)
  · unfold kW at *; rw [gup_ne _ _ (by omega), gup_ne _ _ (by omega)]; exact q16
  · unfold kK at *; rw [gup_ne _ _ (by omega), gup_ne _ _ (by omega), gup_ne _ _ (by omega), gup_ne _ _ (by omega)]; exact c1
  · unfold kM at *; rw [gup_ne _ _ (by omega), gup_ne _ _ (by omega), gup_ne _ _ (by omega), gup_ne _ _ (by omega)]; exact c2
  · unfold kH at *; rw [gup_ne _ _ (by omega), gup_ne _ _ (by omega), gup_ne _ _ (by omega), gup_ne _ _ (by omega)]; exact c3
  · unfold kL; rw [gup_at, gup_at]
  · unfold kW at *; rw [gup_ne _ _ (by omega), gup_ne _ _ (by omega), gup_ne _ _ (by omega), gup_ne _ _ (by omega)]; exact c5
  · unfold kN at *
    have ha : q10 + 1 = a := by
      unfold kL at h2
      rw [gup_at] at h2
      exact pI_inj (by omega) (by omega) h2
    by_cases hi2 : i = q10
    · subst hi2
      rw [gup_row _ _ _ (by omega), gup_at, gup_ne _ _ (by omega), gup_at]
    · rw [gup_row _ _ _ (by omega), gup_ne _ _ (by omega), gup_ne _ _ (by omega), gup_ne _ _ (by omega)]
      exact c7 i q10 (by omega) q12 (by omega)
theorem x_addLayer {V : gV} {c n : Nat} {v : Int32} (h : V c 4 = nI n) (hn : n < 8) : fX0_addLayer V c v = some (gup (gup V (c + 1) n v) c 4 (nI (n + 1))) := by
  unfold fX0_addLayer
  rw [h, if_neg (show ¬ (8 : Int32) ≤ nI n from nI_ge (b := 8) hn (by decide)), eX_setAt n rfl hn (by decide), gbv_some, gpu_eq, gup_ne _ _ (by omega), h, nI_1]
theorem pr_layer {i : Nat} {VX VM : gV} {L : lW} {nh nc : Nat} (hR : RW i VX VM L nh nc) (a b : Int32) : gEq (Rel0 (i + 6)) (fX7_layer VX a b) (fX8_layer VM a b) := by
  have h6 := hR.h6
  unfold fX7_layer fX8_layer
  rw [d_isCake hR.ncX, dm_isCake hR.ncM]
  by_cases ha : 0 ≤ a ∧ a ≤ nI nc - 1
  · rw [if_pos ha, if_pos ha, g10, g10, d_isGN, d_in]
    obtain ⟨j, hj, rfl⟩ := rng (by omega) ha
    obtain ⟨-, -, -, ⟨n, hn, en, -⟩, -⟩ := hR.co.2.1.2.2.2.2.2 j hj
    have c4 := (hR.co.2.2.2.2.1 j hj).2.2.2.1.trans en
    by_cases hb : -1 ≤ b ∧ b ≤ 9
    · rw [if_pos hb, if_pos hb, g10, g10, x_cakeAt (by omega), gbr_some, m_its3 (by omega), gbi_some, en, show VX (0 + 1 + 18 + 2 * j) 4 = nI n from c4]
      by_cases hf : n < 8
      · rw [if_pos (show nI n < 8 from nI_lt (b := 8) hf (by decide)), if_neg (show ¬ nI n = 8 from fun q => by have := pI_inj (b := 8) (by omega) (by decide) q; omega), x_addLayer c4 hf, gbv_some, nI_1, m_gN (by omega) hf, gbv_some, m_g3 (by omega), gbv_some]
        refine Exists.elim (hR.cakeM (nc' := nc) (VX1 := gup (gup VX (1 + 18 + 2 * j + 1) n b) (1 + 18 + 2 * j) 4 (nI (n + 1))) (VM' := gup (gup VM 1 (16 + 13 * j + (5 + n)) b) 1 (16 + 13 * j + 3) (nI (n + 1))) (hR.co.toCM.layer hj en hf (gn_ok hb)) ?_ ?_ ?_ ?_ ?_ ?_ ?_) (fun V2 q => ?_)
        rotate_right
        · obtain ⟨e2, hR2, hS2⟩ := q
          rw [e2, gbv_some]
          refine hR2.dones ?_
          rw [hS2 _ 4 (by omega) (by omega) (Or.inr (by omega)), gup_at]
        · rw [gup_ne _ _ (by omega), gup_ne _ _ (by omega)]
        · rw [gup_ne _ _ (by omega), gup_ne _ _ (by omega)]
        · rw [gup_row _ _ _ (by omega), gup_row _ _ _ (by omega)]
        · rw [gup_row _ _ _ (by omega), gup_row _ _ _ (by omega)]
        · exact fun x hx => by rw [gup_row _ _ _ (by omega), gup_row _ _ _ (by omega)]
        · exact mRest.cell fun c h1 _ _ _ _ => by rw [gup_row _ _ _ h1, gup_row _ _ _ h1]
        · exact fun k _ _ => by rw [gup_ne _ _ (by omega), gup_ne _ _ (by omega)]
      · have hn : n = 8 := by omega
        subst hn
        rw [if_neg (by decide), if_pos (by decide)]
        exact hR.e4
    · rw [if_neg hb, if_neg hb, g00, g00]
      exact hR.e1
  · rw [if_neg ha, if_neg ha, g00, g00]
    exact hR.e1
/-- a cake's home or what it is worn -/
theorem RW.setF {i j f : Nat} {v : Int32} {VX VM : gV} {L : lW} {nh nc : Nat} (hR : RW i VX VM L nh nc) (hj : j < nc) (hv : (f = 3 ∧ ∃ a, a < nh ∧ v = nI a) ∨ (f = 5 ∧ ∃ a, a ≤ 9999 ∧ v = nI a)) : RW i (gup VX (1 + 18 + 2 * j) f v) (gup VM 1 (16 + 13 * j + (f - 1)) v) L nh nc := by
  have h6 := hR.h6
  obtain ⟨⟨q1, q2, q3⟩, ⟨q4, q5, q6⟩, ⟨q7, q8, q9⟩, ⟨q10, q11, q12, q13⟩, ⟨q14, q15, q16⟩⟩ := hR.co.2.1.2.2.2.2.2 j hj
  obtain ⟨c1, c2, c3, c4, c5, c6, c7⟩ := hR.co.2.2.2.2.1 j hj
  have hf : f = 3 ∨ f = 5 := by omega
  have hO := hR.co.toCM.cake (V' := gup VX (1 + 18 + 2 * j) f v) (r' := gup VM 1 (16 + 13 * j + (f - 1)) v 1) (i := j) hj (fun x _ _ _ _ _ _ => gup_row _ _ _ (by omega)) (fun k hk h => gup_ne _ _ (by omega)) (by
    refine ⟨⟨q1, q2, (gup_ne _ _ (by omega)).trans q3⟩, ⟨q4, q5, (gup_ne _ _ (by omega)).trans q6⟩, ?_, ⟨q10, q11, (gup_ne _ _ (by omega)).trans q12, fun i hi => by
      rw [show kN (gup VM 1 (16 + 13 * j + (f - 1)) v 1) j i = kN (VM 1) j i from gup_ne _ _ (by omega)]
      exact q13 i hi⟩, ?_⟩
    · rcases hv with ⟨rfl, a, ha, rfl⟩ | ⟨rfl, a, ha, rfl⟩
      · exact ⟨a, ha, gup_at _ _ _ _⟩
      · exact ⟨q7, q8, (gup_ne _ _ (by omega)).trans q9⟩
    · rcases hv with ⟨rfl, a, ha, rfl⟩ | ⟨rfl, a, ha, rfl⟩
      · exact ⟨q14, q15, (gup_ne _ _ (by omega)).trans q16⟩
      · exact ⟨a, ha, gup_at _ _ _ _⟩) (by
    have z : ∀ k l, k ≠ f → l ≠ f - 1 → VX (1 + 18 + 2 * j) k = VM 1 (16 + 13 * j + l) → gup VX (1 + 18 + 2 * j) f v (1 + 18 + 2 * j) k = gup VM 1 (16 + 13 * j + (f - 1)) v 1 (16 + 13 * j + l) := fun k l hk hl h => by
      rw [gup_ne _ _ (by omega), gup_ne _ _ (by omega)]; exact h
    refine ⟨z 1 0 (by omega) (by omega) c1, z 2 1 (by omega) (by omega) c2, ?_, z 4 3 (by omega) (by omega) c4, ?_, fun i a h1 h2 h3 => ?_⟩
    · rcases hf with rfl | rfl
      · exact (gup_at _ _ _ _).trans (gup_at _ _ _ _).symm
      · exact z 3 2 (by omega) (by omega) c3
    · rcases hf with rfl | rfl
      · exact z 5 4 (by omega) (by omega) c5
      · exact (gup_at _ _ _ _).trans (gup_at _ _ _ _).symm
    · rw [gup_row _ _ _ (by omega), show kN (gup VM 1 (16 + 13 * j + (f - 1)) v 1) j i = kN (VM 1) j i from gup_ne _ _ (by omega)]
      exact c7 i a h1 (by rw [← h2]; exact (gup_ne _ _ (by omega)).symm) h3)
  have hO2 := hO.toCO (fun k hk => by
    rw [show sThick L (gup VM 1 (16 + 13 * j + (f - 1)) v 1) k = sThick L (VM 1) k by
      unfold sThick kK kM kL
      rw [gup_ne _ _ (by omega), gup_ne _ _ (by omega), gup_ne _ _ (by omega)], gup_ne _ _ (by omega)]
    exact (hR.co.2.2.2.2.1 k hk).2.2.2.2.2.1)
  exact ⟨hR.1.rest hO2 (hR.1.2.1.cake (fun k hk => gup_ne _ _ (by omega))) (gup_ne _ _ (by omega)) (gup_ne _ _ (by omega)) (gup_row _ _ _ (by omega)) (gup_row _ _ _ (by omega)) (fun k hk => gup_ne _ _ (by omega)), hR.2.congr (fun x hx => gup_row _ _ _ (by omega)) (mRest.cell fun c h1 _ _ _ _ => gup_row _ _ _ h1)⟩
theorem pr_shift {i : Nat} {VX VM : gV} {L : lW} {nh nc : Nat} (hR : RW i VX VM L nh nc) (a b c : Int32) : gEq (Rel0 (i + 6)) (fX7_shift VX a b c) (fX8_shift VM a b c) := by
  have h6 := hR.h6
  have h4 := hR.h4
  unfold fX7_shift fX8_shift fX8_becomes
  simp only [gjn_eq, d_isCake hR.ncX, dm_isCake hR.ncM, d_isHouse hR.nhX, dm_isHouse hR.nhM, d_within, d_in]
  by_cases ha : 0 ≤ a ∧ a ≤ nI nc - 1
  · obtain ⟨j, hj, rfl⟩ := rng (by omega) ha
    obtain ⟨c1, c2, c3, c4, c5, c6, c7⟩ := hR.co.2.2.2.2.1 j hj
    simp only [if_pos ha, g10, g00]
    by_cases hb : 0 ≤ b ∧ b ≤ 1
    · simp only [if_pos hb, g10]
      obtain ⟨k, hk, rfl⟩ := rngc (n := 1) (by decide) hb
      have hc : k = 0 ∨ k = 1 := by omega
      rcases hc with rfl | rfl
      · simp only [if_pos (show nI 0 = 0 from rfl)]
        by_cases hc : 0 ≤ c ∧ c ≤ nI nh - 1
        · obtain ⟨h, hh, rfl⟩ := rng (by omega) hc
          simp only [if_pos hc, g10, x_cakeAt (show j < 6 by omega), Nat.reduceAdd, gbi_some, gbr_some, gbv_some, gpu_eq, glt_eq, gjn_eq, r1_0, r1_1, r1_2, r1_3, r1_4, r1_5, w1_0, w1_1, w1_2, w1_3, w1_4, w1_5]
          rw [r1_at (16 + 13 * j + 2) (show (16 + 13 * nI j + 2 : Int32) = nI (16 + 13 * j + 2) from m_ix j 2) (by omega), w1_at (16 + 13 * j + 2) (show (16 + 13 * nI j + 2 : Int32) = nI (16 + 13 * j + 2) from m_ix j 2) (by omega), gbi_some]
          exact (hR.setF (f := 3) hj (Or.inl ⟨rfl, h, hh, rfl⟩)).dones c3
        · simp only [if_neg hc, g00]
          exact hR.e1
      · simp only [if_neg (show ¬ nI 1 = 0 by decide), if_pos (show nI 1 = 1 from rfl)]
        by_cases hc : 0 ≤ c ∧ c ≤ 9999
        · obtain ⟨h, hh, rfl⟩ := rngc (n := 9999) (by decide) hc
          simp only [if_pos hc, g10, x_cakeAt (show j < 6 by omega), Nat.reduceAdd, gbi_some, gbr_some, gbv_some, gpu_eq, glt_eq, gjn_eq, r1_0, r1_1, r1_2, r1_3, r1_4, r1_5, w1_0, w1_1, w1_2, w1_3, w1_4, w1_5]
          rw [r1_at (16 + 13 * j + 4) (show (16 + 13 * nI j + 4 : Int32) = nI (16 + 13 * j + 4) from m_ix j 4) (by omega), w1_at (16 + 13 * j + 4) (show (16 + 13 * nI j + 4 : Int32) = nI (16 + 13 * j + 4) from m_ix j 4) (by omega), gbi_some]
          exact (hR.setF (f := 5) hj (Or.inr ⟨rfl, h, hh, rfl⟩)).dones c5
        · simp only [if_neg hc, g00]
          exact hR.e1
    · have n0 : ¬ b = 0 := fun q => hb (by subst q; decide)
      have n1 : ¬ b = 1 := fun q => hb (by subst q; decide)
      simp only [if_neg hb, g00, if_neg n0, if_neg n1]
      exact hR.e1
  · simp only [if_neg ha, g00, if_true, ite_self]
    exact hR.e1

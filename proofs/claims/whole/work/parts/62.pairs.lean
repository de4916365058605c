/-! ===== PURE: the first pairs ===== -/
theorem RW.nhX {i : Nat} {VX VM : gV} {L : lW} {nh nc : Nat} (h : RW i VX VM L nh nc) : VX 1 8 = nI nh := h.1.1.2.2.1.1
theorem RW.ncX {i : Nat} {VX VM : gV} {L : lW} {nh nc : Nat} (h : RW i VX VM L nh nc) : VX 1 9 = nI nc := h.1.1.2.2.1.2.1
theorem RW.nhM {i : Nat} {VX VM : gV} {L : lW} {nh nc : Nat} (h : RW i VX VM L nh nc) : VM 1 2 = nI nh := h.1.1.2.1.2.2.1
theorem RW.ncM {i : Nat} {VX VM : gV} {L : lW} {nh nc : Nat} (h : RW i VX VM L nh nc) : VM 1 3 = nI nc := h.1.1.2.1.2.2.2.1
theorem RW.h4 {i : Nat} {VX VM : gV} {L : lW} {nh nc : Nat} (h : RW i VX VM L nh nc) : nh ≤ 4 := h.1.1.2.1.1
theorem RW.h6 {i : Nat} {VX VM : gV} {L : lW} {nh nc : Nat} (h : RW i VX VM L nh nc) : nc ≤ 6 := h.1.1.2.1.2.1
theorem RW.co {i : Nat} {VX VM : gV} {L : lW} {nh nc : Nat} (h : RW i VX VM L nh nc) : CO VX 1 (VM 1) L nh nc := h.1.1
theorem RW.mo {i : Nat} {VX VM : gV} {L : lW} {nh nc : Nat} (h : RW i VX VM L nh nc) : MO VM L nh nc := ⟨h.1.2.1, h.1.1.1, h.1.1.2.1⟩
theorem RW.scr {i : Nat} {VX VM VM' : gV} {L : lW} {nh nc : Nat} (h : RW i VX VM L nh nc) (hS : Scr VM VM') : RW i VX VM' L nh nc := h.keep (fun _ _ _ _ => rfl) (hS.row (by omega)) (mRest.scr hS)
theorem RW.stk {i : Nat} {VX VX' VM : gV} {L : lW} {nh nc : Nat} (h : RW i VX VM L nh nc) (hS : Stk 1 VX VX') : RW i VX' VM L nh nc := h.keep (fun x _ a b => hS x a b) rfl mRest.rf
theorem WR.house {V V' : gV} {w : Nat} {r r' : rR} {L : lW} {nh nh' nc h : Nat} (hO : WR V w r L nh nc) (hh : h < nh') (h4 : nh' ≤ 4) (hn : nh ≤ nh') (hn2 : ∀ k, k < nh' → k ≠ h → k < nh) (eV : ∀ x, w < x → x < w + 30 → x ≠ w + 8 → x ≠ w + 11 → x ≠ w + 14 + h → V' x = V x) (e8 : V' w 8 = nI nh') (eW : ∀ k, k ≠ 8 → V' w k = V w k) (er : ∀ k, k ≠ 2 → k ≠ 8 + 2 * h → k ≠ 8 + 2 * h + 1 → r' k = r k) (er2 : r' 2 = nI nh') (hok : (∃ a, a ≤ 9 ∧ sHands r' h = nI a) ∧ ∃ a, a ≤ 9 ∧ sWater r' h = nI a) (v0 : V' (w + 14 + h) 0 = sHands r' h) (v1 : V' (w + 14 + h) 1 = sWater r' h) : WR V' w r' L nh' nc := by
  obtain ⟨h1, h2, h3, h4', h5, h6, h7, h8⟩ := hO
  refine ⟨h1.house hh h4 hn hn2 eV e8 (eW 9 (by omega)) (eW 12 (by omega)) (eW 13 (by omega)) (fun k _ a b c => er k a b c) er2 ⟨?_, hok.2⟩ v0 v1, h2.congr (er 6 (by omega) (by omega) (by omega)) (er 7 (by omega) (by omega) (by omega)) (fun i a b => er i (by omega) (by omega) (by omega)), fun k hk => ?_, ?_, ?_, ?_, ?_, ?_⟩
  · obtain ⟨a, ha, ea⟩ := hok.1
    exact ⟨a, by omega, ea⟩
  · by_cases hkh : k = h
    · subst hkh; exact hok.1
    · obtain ⟨a, ha, ea⟩ := h3 k (hn2 k hk hkh)
      exact ⟨a, ha, (er _ (by omega) (by omega) (by omega)).trans ea⟩
  · rw [er 0 (by omega) (by omega) (by omega)]; exact h4'
  · rw [er 4 (by omega) (by omega) (by omega), eW 10 (by omega)]; exact h5
  · rw [er 5 (by omega) (by omega) (by omega), eW 11 (by omega)]; exact h6
  · intro k hk
    rw [eV _ (by omega) (by omega) (by omega) (by omega) (by omega), er _ (by omega) (by omega) (by omega)]
    exact h7 k hk
  · intro k hk
    rw [eV _ (by omega) (by omega) (by omega) (by omega) (by omega), er _ (by omega) (by omega) (by omega)]
    exact h8 k hk
theorem pr_house {i : Nat} {VX VM : gV} {L : lW} {nh nc : Nat} (hR : RW i VX VM L nh nc) (a : Int32) : gEq (Rel0 (i + 6)) (fX7_house VX a) (fX8_house VM a) := by
  have h4 := hR.h4
  unfold fX7_house fX8_house
  rw [d_within, d_in]
  by_cases ha : 0 ≤ a ∧ a ≤ 9
  · simp only [if_pos ha, g10, Nat.reduceAdd, gbi_some, gbr_some, gbv_some, gpu_eq, glt_eq, gjn_eq, r1_0, r1_1, r1_2, r1_3, r1_4, r1_5, w1_0, w1_1, w1_2, w1_3, w1_4, w1_5, hR.nhX, hR.nhM]
    by_cases hf : nh < 4
    · rw [if_pos (show nI nh < 4 from nI_lt (b := 4) hf (by decide)), if_neg (show ¬ nI nh = 4 from fun q => by have := pI_inj (b := 4) (by omega) (by decide) q; omega), x_houseAt (by omega), w1_at (8 + 2 * nh) (m_hx nh) (by omega), w1_at (8 + 2 * nh + 1) (by rw [m_hx nh]; exact nI_1 _) (by omega)]
      have z : ∀ (V : gV) (j : Nat) (v : Int32), j ≠ 2 → gup V 1 j v 1 2 = V 1 2 := fun V j v hj => gup_ne V v (fun q => hj q.2.symm)
      have x8 : ∀ (V : gV) (j : Nat) (v : Int32), gup V (1 + 14 + 1 * nh) j v 1 8 = V 1 8 := fun V j v => gup_ne V v (fun q => by omega)
      simp only [Nat.reduceAdd, gbi_some, gbr_some, gbv_some, gpu_eq, glt_eq, gjn_eq, r1_0, r1_1, r1_2, r1_3, r1_4, r1_5, w1_0, w1_1, w1_2, w1_3, w1_4, w1_5, gup_at, x8, hR.nhX, z _ (8 + 2 * nh) _ (by omega), z _ (8 + 2 * nh + 1) _ (by omega), hR.nhM, nI_1]
      obtain ⟨a, ha9, rfl⟩ := rngc (n := 9) (by decide) ha
      have q1 : (1 : Int32) = nI 1 := rfl
      refine RW.done (L := L) (nh := nh + 1) (nc := nc) ⟨?_, hR.2.congr (fun x hx => ?_) (mRest.cell fun c c1 _ _ _ _ => ?_)⟩
      · refine hR.1.house (h := nh) (by omega) (by omega) (by omega) (fun k _ _ => by omega) (fun x _ _ _ _ _ => ?_) (gup_at _ _ _ _) (fun k hk => ?_) (fun k k2 k3 k4 => ?_) (gup_at _ _ _ _) ⟨⟨1, by omega, ?_⟩, ⟨a, ha9, ?_⟩⟩ ?_ ?_
        all_goals try funext kk
        all_goals try simp only [sHands, sWater]
        all_goals simp (config := { decide := false }) only [gup, Nat.one_mul]
        all_goals grind
      · rw [gup_row _ _ _ (by omega), gup_row _ _ _ (by omega), gup_row _ _ _ (by omega)]
      · rw [gup_row _ _ _ c1, gup_row _ _ _ c1, gup_row _ _ _ c1]
    · have hn : nh = 4 := by omega
      subst hn
      rw [if_neg (by decide), if_pos (by decide)]
      exact hR.e4
  · rw [if_neg ha, if_neg ha, g00, g00]
    exact hR.e1
theorem pr_ofHouse {i : Nat} {VX VM : gV} {L : lW} {nh nc : Nat} (hR : RW i VX VM L nh nc) (a b : Int32) : gEq (Rel0 (i + 6)) (fX7_ofHouse VX a b) (fX8_ofHouse VM a b) := by
  have h4 := hR.h4
  unfold fX7_ofHouse fX8_ofHouse
  rw [d_isHouse hR.nhX, dm_isHouse hR.nhM]
  by_cases ha : 0 ≤ a ∧ a ≤ nI nh - 1
  · rw [if_pos ha, if_pos ha, g10, g10, d_in]
    obtain ⟨h, hh, rfl⟩ := rng (by omega) ha
    obtain ⟨e0, e1⟩ := hR.co.2.2.2.1 h hh
    by_cases hb : 0 ≤ b ∧ b ≤ 3
    · rw [if_pos hb, g10]
      obtain ⟨k, hk, rfl⟩ := rngc (n := 3) (by decide) hb
      obtain ⟨V3, e3, hS3⟩ := m_guests hR.mo (nI h)
      have hc : k = 0 ∨ k = 1 ∨ k = 2 ∨ k = 3 := by omega
      rcases hc with rfl | rfl | rfl | rfl
      · rw [if_pos (by decide), if_neg (by decide), x_houseAt (by omega), gbr_some]
        simp only [Nat.reduceAdd, gbi_some, gbr_some, gbv_some, gpu_eq, glt_eq, gjn_eq, r1_0, r1_1, r1_2, r1_3, r1_4, r1_5, w1_0, w1_1, w1_2, w1_3, w1_4, w1_5]
        rw [r1_at (8 + 2 * h) (by rw [m_hx h]; exact nI_add _ 0) (by omega)]
        exact hR.dones e0
      · rw [if_neg (by decide), if_pos (by decide), if_neg (by decide), x_houseAt (by omega), gbr_some]
        simp only [Nat.reduceAdd, gbi_some, gbr_some, gbv_some, gpu_eq, glt_eq, gjn_eq, r1_0, r1_1, r1_2, r1_3, r1_4, r1_5, w1_0, w1_1, w1_2, w1_3, w1_4, w1_5]
        rw [r1_at (8 + 2 * h + 1) (by rw [m_hx h]; exact nI_add _ 1) (by omega)]
        exact hR.dones e1
      · rw [if_neg (by decide), if_neg (by decide), if_pos (by decide), if_pos (by decide), if_pos (by decide), x_cakes hR.co, m_cakes hR.h6 hR.ncM, gbi_some, gbi_some]
        exact hR.done
      · rw [if_neg (by decide), if_neg (by decide), if_neg (by decide), if_pos (by decide), if_pos (by decide), if_neg (by decide), x_guests hR.co, e3, gbi_some, gbi_some]
        exact (hR.scr hS3).done
    · rw [if_neg hb, g00]
      have n : ∀ k, k ≤ 3 → ¬ b = nI k := fun k hk q => hb (by subst q; exact ⟨nI_pos' (by omega), nI_le (b := 3) hk (by decide)⟩)
      rw [if_neg (show ¬ b = 0 from n 0 (by decide)), if_neg (show ¬ b = 1 from n 1 (by decide)), if_neg (show ¬ b = 2 from n 2 (by decide)), if_neg (show ¬ b = 3 from n 3 (by decide))]
      exact hR.e1
  · rw [if_neg ha, if_neg ha, g00, g00]
    exact hR.e1
theorem pr_change {i : Nat} {VX VM : gV} {L : lW} {nh nc : Nat} (hR : RW i VX VM L nh nc) (a b c : Int32) : gEq (Rel0 (i + 6)) (fX7_change VX a b c) (fX8_change VM a b c) := by
  have h4 := hR.h4
  unfold fX7_change fX8_change
  rw [d_isHouse hR.nhX, dm_isHouse hR.nhM]
  by_cases ha : 0 ≤ a ∧ a ≤ nI nh - 1
  · rw [if_pos ha, if_pos ha, g10, g10, d_in, d_within]
    obtain ⟨h, hh, rfl⟩ := rng (by omega) ha
    obtain ⟨e0, e1⟩ := hR.co.2.2.2.1 h hh
    by_cases hb : 0 ≤ b ∧ b ≤ 1
    · rw [if_pos hb, if_pos hb, g10, g10, d_in, d_within]
      obtain ⟨k, hk, rfl⟩ := rngc (n := 1) (by decide) hb
      by_cases hc : 0 ≤ c ∧ c ≤ 9
      · rw [if_pos hc, if_pos hc, g10, g10]
        obtain ⟨v, hv, rfl⟩ := rngc (n := 9) (by decide) hc
        unfold fX8_becomes
        simp only [Nat.reduceAdd, gbi_some, gbr_some, gbv_some, gpu_eq, glt_eq, gjn_eq, r1_0, r1_1, r1_2, r1_3, r1_4, r1_5, w1_0, w1_1, w1_2, w1_3, w1_4, w1_5]
        rw [x_houseAt (by omega), gbr_some, r1_at (8 + 2 * h + k) (by rw [m_hx h]; exact nI_add _ k) (by omega), w1_at (8 + 2 * h + k) (by rw [m_hx h]; exact nI_add _ k) (by omega), gbi_some]
        obtain ⟨⟨hn1, hn2, hn3⟩, ⟨wn1, wn2, wn3⟩⟩ := (show (∃ a, a ≤ 9 ∧ sHands (VM 1) h = nI a) ∧ ∃ a, a ≤ 9 ∧ sWater (VM 1) h = nI a from ⟨hR.1.2.2.1 h hh, (hR.co.2.1.2.2.2.2.1 h hh).2⟩)
        have hc : k = 0 ∨ k = 1 := by omega
        rcases hc with rfl | rfl
        · rw [if_pos (by decide), if_pos (by decide), e0]
          refine RW.done (L := L) (nh := nh) (nc := nc) ⟨?_, hR.2.congr (fun x hx => ?_) (mRest.cell fun c c1 _ _ _ _ => ?_)⟩
          · refine hR.1.house (h := h) (by omega) (by omega) (by omega) (fun k _ _ => by omega) (fun x _ _ _ _ _ => ?_) ?_ (fun k hk => ?_) (fun k k2 k3 k4 => ?_) ?_ ⟨⟨v, by omega, ?_⟩, ⟨wn1, wn2, ?_⟩⟩ ?_ ?_
            all_goals try funext kk
            all_goals try simp only [sHands, sWater] at *
            all_goals simp (config := { decide := false }) only [gup, Nat.one_mul] at *
            · grind
            · have := hR.nhX; grind
            · grind
            · grind
            · have := hR.nhM; grind
            · grind
            · grind
            · grind
            · grind
          · rw [gup_row _ _ _ (by omega)]
          · rw [gup_row _ _ _ c1]
        · rw [if_neg (by decide), if_neg (by decide), e1]
          refine RW.done (L := L) (nh := nh) (nc := nc) ⟨?_, hR.2.congr (fun x hx => ?_) (mRest.cell fun c c1 _ _ _ _ => ?_)⟩
          · refine hR.1.house (h := h) (by omega) (by omega) (by omega) (fun k _ _ => by omega) (fun x _ _ _ _ _ => ?_) ?_ (fun k hk => ?_) (fun k k2 k3 k4 => ?_) ?_ ⟨⟨hn1, hn2, ?_⟩, ⟨v, by omega, ?_⟩⟩ ?_ ?_
            all_goals try funext kk
            all_goals try simp only [sHands, sWater] at *
            all_goals simp (config := { decide := false }) only [gup, Nat.one_mul] at *
            · grind
            · have := hR.nhX; grind
            · grind
            · grind
            · have := hR.nhM; grind
            · grind
            · grind
            · grind
            · grind
          · rw [gup_row _ _ _ (by omega)]
          · rw [gup_row _ _ _ c1]
      · rw [if_neg hc, if_neg hc, g00, g00]
        exact hR.e1
    · rw [if_neg hb, if_neg hb, g00, g00]
      exact hR.e1
  · rw [if_neg ha, if_neg ha, g00, g00]
    exact hR.e1

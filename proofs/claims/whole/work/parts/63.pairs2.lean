/-! ===== PURE: more pairs ===== -/
theorem pr_law {i : Nat} {VX VM : gV} {L : lW} {nh nc : Nat} (hR : RW i VX VM L nh nc) (u a b c : Int32) : gEq (Rel0 (i + 6)) (fX7_law VX u a b c) (fX8_law VM u a b c) := by
  unfold fX7_law fX8_law
  rw [d_within, d_in]
  by_cases ha : 0 ≤ u ∧ u ≤ 1
  · rw [if_pos ha, if_pos ha, g10, g10]
    obtain ⟨h, hh, rfl⟩ := rngc (n := 1) (by decide) ha
    have hc : h = 0 ∨ h = 1 := by omega
    rcases hc with rfl | rfl
    · obtain ⟨V1, e1, hS1⟩ := x_given0 (w := 0 + 1) hR.co.2.2.2.2.2.1 a b c
      obtain ⟨V2, e2, hS2⟩ := (hR.mo.1.at a b c).1
      rw [show nI 0 = 0 from rfl, e1, e2, gbi_some, gbi_some]
      exact ((hR.stk hS1).scr hS2).done
    · obtain ⟨V1, e1, hS1⟩ := x_given1 (w := 0 + 1) hR.co.2.2.2.2.2.2 a b c
      obtain ⟨V2, e2, hS2⟩ := (hR.mo.1.at a b c).2
      rw [show nI 1 = 1 from rfl, e1, e2, gbi_some, gbi_some]
      exact ((hR.stk hS1).scr hS2).done
  · rw [if_neg ha, if_neg ha, g00, g00]
    exact hR.e1
theorem pr_where {i : Nat} {VX VM : gV} {L : lW} {nh nc : Nat} (hR : RW i VX VM L nh nc) (a : Int32) : gEq (Rel0 (i + 6)) (fX7_where VX a) (fX8_where VM a) := by
  unfold fX7_where fX8_where
  rw [d_isGuest, dm_isGuest]
  by_cases ha : 0 ≤ a ∧ a ≤ 9
  · rw [if_pos ha, if_pos ha, g10, g10]
    obtain ⟨h, hh, rfl⟩ := rngc (n := 9) (by decide) ha
    obtain ⟨V2, e2, hS2⟩ := m_houses hR.mo (nI h)
    rw [x_houses (w := 0 + 1) hR.co (by omega), e2, gbi_some, gbi_some]
    exact (hR.scr hS2).done
  · rw [if_neg ha, if_neg ha, g00, g00]
    exact hR.e1
theorem pr_twice {i : Nat} {VX VM : gV} {L : lW} {nh nc : Nat} (hR : RW i VX VM L nh nc) : gEq (Rel0 (i + 6)) (fX7_twice VX) (fX8_twice VM) := by
  unfold fX7_twice
  obtain ⟨V2, e2, hS2⟩ := m_twice hR.mo
  rw [x_twice (w := 0 + 1) hR.co, e2, gbi_some]
  exact (hR.scr hS2).done
theorem sDay_oth {L : lW} {r : rR} {nc k : Nat} (h0 : k ≠ 0) (h : ∀ j, j < nc → k ≠ 16 + 13 * j + 4) : sDay L r nc k = r k := (rup_ne _ _ h0).trans (sDayTo_oth nc h)
theorem sDay_0 {L : lW} {r : rR} {nc : Nat} : sDay L r nc 0 = r 0 + 1 := rup_at _ _ _
theorem sDays_oth {L : lW} {nc k : Nat} (h0 : k ≠ 0) (h : ∀ j, j < nc → k ≠ 16 + 13 * j + 4) : ∀ (n : Nat) (r : rR), sDays L nc n r k = r k
  | 0, _ => rfl
  | n + 1, r => (sDays_oth h0 h n (sDay L r nc)).trans (sDay_oth h0 h)
theorem sDays_0 {L : lW} {nc : Nat} : ∀ (n : Nat) (r : rR) (d : Nat), r 0 = nI d → sDays L nc n r 0 = nI (d + n)
  | 0, _, _, h => h
  | n + 1, r, d, h => by
    have := sDays_0 (L := L) (nc := nc) n (sDay L r nc) (d + 1) (by rw [sDay_0, h]; exact nI_1 d)
    rw [show d + (n + 1) = d + 1 + n by omega]
    exact this
theorem WR.days {V V' : gV} {w : Nat} {r : rR} {L : lW} {nh nc n : Nat} (h : WR V w r L nh nc) (hd : ∃ d, d + n ≤ 9999 ∧ r 0 = nI d) (hC : CO V' w (sDays L nc n r) L nh nc) (hD : Day w V V') : WR V' w (sDays L nc n r) L nh nc := by
  obtain ⟨h1, h2, h3, h4, h5, h6, h7, h8⟩ := h
  obtain ⟨d, hdn, ed⟩ := hd
  have n4 := h1.2.1.1
  have n6 := h1.2.1.2.1
  have o : ∀ k, k ≠ 0 → (∀ j, j < nc → k ≠ 16 + 13 * j + 4) → sDays L nc n r k = r k := fun k a b => sDays_oth a b n r
  refine ⟨hC, ML_days n6 n r h2, fun k hk => ?_, ⟨d + n, hdn, sDays_0 n r d ed⟩, ?_, ?_, fun k hk => ?_, fun k hk => ?_⟩
  · unfold sHands
    rw [o _ (by omega) (fun j hj => by omega)]
    exact h3 k hk
  · rw [hD.2 10 (by omega), o 4 (by omega) (fun j hj => by omega)]; exact h5
  · rw [hD.2 11 (by omega), o 5 (by omega) (fun j hj => by omega)]; exact h6
  · rw [hD.1 _ (by omega) (by omega) (by omega) (fun j hj => by omega), o _ (by omega) (fun j hj => by omega)]; exact h7 k hk
  · rw [hD.1 _ (by omega) (by omega) (by omega) (fun j hj => by omega), o _ (by omega) (fun j hj => by omega)]; exact h8 k hk
theorem RW.days {i : Nat} {VX VM VX' VM' : gV} {L : lW} {nh nc n : Nat} (hR : RW i VX VM L nh nc) (hd : ∃ d, d + n ≤ 9999 ∧ VM 1 0 = nI d) (hC : CO VX' 1 (sDays L nc n (VM 1)) L nh nc) (hD : Day 1 VX VX') (hS : Sro VM (sDays L nc n (VM 1)) VM') : RW i VX' VM' L nh nc := by
  refine ⟨?_, hR.2.congr (fun x hx => hD.out (by omega)) (mRest.sro hS)⟩
  rw [hS.row]
  exact hR.1.days hd hC hD
theorem pr_days {i : Nat} {VX VM : gV} {L : lW} {nh nc : Nat} (hR : RW i VX VM L nh nc) (a : Int32) : gEq (Rel0 (i + 6)) (fX7_days VX a) (fX8_days VM a) := by
  unfold fX7_days fX8_days
  rw [d_within, d_in]
  by_cases ha : 1 ≤ a ∧ a ≤ 99
  · obtain ⟨n, hn, rfl⟩ := rngc (n := 99) (by decide) (show 0 ≤ a ∧ a ≤ nI 99 from ⟨Int32.le_trans (by decide) ha.1, ha.2⟩)
    rw [if_pos ha, if_pos ha, g10, g10]
    simp only [Nat.reduceAdd, gbi_some, gbr_some, gbv_some, gpu_eq, glt_eq, gjn_eq, r1_0, r1_1, r1_2, r1_3, r1_4, r1_5, w1_0, w1_1, w1_2, w1_3, w1_4, w1_5]
    obtain ⟨d, hd, ed⟩ := hR.1.2.2.2.1
    rw [hR.co.2.2.1.2.2.1, ed, nI_add]
    have c1 : (nI d ≤ 9999 - nI n) ↔ d + n ≤ 9999 := by
      rw [show (9999 : Int32) - nI n = nI (9999 - n) from pk_sub (a := 9999) (by omega)]
      exact (pI_le_iff (by omega) (by omega)).trans (by omega)
    have c2 : (nI (d + n) ≤ 9999) ↔ d + n ≤ 9999 := nI_leI (b := 9999) (by omega) (by decide)
    by_cases hh : d + n ≤ 9999
    · rw [if_pos (c1.mpr hh), if_pos (c2.mpr hh)]
      obtain ⟨V1, e1, hC1, hD1⟩ := x_days (k := n) (by omega) hR.co
      obtain ⟨V2, e2, hS2⟩ := m_passes (k := n) (by omega) hR.mo
      have hR2 := hR.days (VX' := V1) (VM' := V2) ⟨d, hh, ed⟩ hC1 hD1 hS2
      obtain ⟨V3, e3, hS3⟩ := m_gone hR2.mo
      rw [e1, e2, gbv_some, gbv_some, x_gone hR2.co, e3, gbi_some, gbi_some]
      exact (hR2.scr hS3).done
    · rw [if_neg (fun q => hh (c1.mp q)), if_neg (fun q => hh (c2.mp q))]
      exact hR.e3
  · rw [if_neg ha, if_neg ha, g00, g00]
    exact hR.e1
/-- the head, the tape and what waits may change -/
theorem WR.gen {V V' : gV} {w : Nat} {r r' : rR} {L : lW} {nh nc : Nat} (h : WR V w r L nh nc) (eV : ∀ x, w < x → x < w + 30 → x ≠ w + 8 → x ≠ w + 11 → x ≠ w + 12 → x ≠ w + 13 → V' x = V x) (e8 : V' w 8 = V w 8) (e9 : V' w 9 = V w 9) (e12 : V' w 12 = r' 0) (e13 : V' w 13 = r' 1) (er : ∀ k, 2 ≤ k → k ≠ 4 → k ≠ 5 → ¬ (94 ≤ k ∧ k < 164) → r' k = r k) (hd : ∃ d, d ≤ 9999 ∧ r' 0 = nI d) (h10 : ∃ t, t ≤ 50 ∧ V' w 10 = nI t ∧ r' 4 = nI t) (h11 : ∃ t, t ≤ 20 ∧ V' w 11 = nI t ∧ r' 5 = nI t) (ht : ∀ k, k < 50 → V' (w + 12) k = r' (94 + k)) (hw : ∀ k, k < 20 → V' (w + 13) k = r' (144 + k)) : WR V' w r' L nh nc := by
  obtain ⟨h1, h2, h3, h4, h5, h6, h7, h8⟩ := h
  have n4 := h1.2.1.1
  refine ⟨h1.gen eV e8 e9 e12 e13 (fun k a b c d => er k a c d (by omega)), h2.congr (er 6 (by omega) (by omega) (by omega) (by omega)) (er 7 (by omega) (by omega) (by omega) (by omega)) (fun k a b => er k (by omega) (by omega) (by omega) (by omega)), fun k hk => ?_, hd, h10, h11, ht, hw⟩
  unfold sHands
  rw [er _ (by omega) (by omega) (by omega) (by omega)]
  exact h3 k hk
theorem pr_seed {i : Nat} {VX VM : gV} {L : lW} {nh nc : Nat} (hR : RW i VX VM L nh nc) (a : Int32) : gEq (Rel0 (i + 6)) (fX7_seed VX a) (fX8_seed VM a) := by
  unfold fX7_seed fX8_seed
  simp only [Nat.reduceAdd, gbi_some, gbr_some, gbv_some, gpu_eq, glt_eq, gjn_eq, r1_0, r1_1, r1_2, r1_3, r1_4, r1_5, w1_0, w1_1, w1_2, w1_3, w1_4, w1_5]
  rw [show VX 1 13 = VM 1 1 from hR.co.2.2.1.2.2.2]
  refine RW.done (L := L) (nh := nh) (nc := nc) ⟨?_, hR.2.congr (fun x hx => gup_row _ _ _ (by omega)) (mRest.cell fun c c1 _ _ _ _ => gup_row _ _ _ c1)⟩
  have g := hR.1
  refine hR.1.gen (fun x _ _ _ _ _ _ => gup_row _ _ _ (by omega)) (gup_ne _ _ (by omega)) (gup_ne _ _ (by omega)) ?_ ?_ (fun k _ _ _ _ => gup_ne _ _ (by omega)) ?_ ?_ ?_ (fun k hk => ?_) (fun k hk => ?_)
  · rw [gup_ne _ _ (by omega), gup_ne _ _ (by omega)]; exact g.1.2.2.1.2.2.1
  · rw [gup_at, gup_at]
  · rw [gup_ne _ _ (by omega)]; exact g.2.2.2.1
  · rw [gup_ne _ _ (by omega), gup_ne _ _ (by omega)]; exact g.2.2.2.2.1
  · rw [gup_ne _ _ (by omega), gup_ne _ _ (by omega)]; exact g.2.2.2.2.2.1
  · rw [gup_row _ _ _ (by omega), gup_ne _ _ (by omega)]; exact g.2.2.2.2.2.2.1 k hk
  · rw [gup_row _ _ _ (by omega), gup_ne _ _ (by omega)]; exact g.2.2.2.2.2.2.2 k hk
theorem pr_tell {i : Nat} {VX VM : gV} {L : lW} {nh nc : Nat} (hR : RW i VX VM L nh nc) (a : Int32) : gEq (Rel0 (i + 6)) (fX7_tell VX a) (fX8_tell VM a) := by
  unfold fX7_tell fX8_tell
  obtain ⟨h1, h2, h3, h4, h5, ⟨t, ht, t1, t2⟩, h7, h8⟩ := hR.1
  simp only [Nat.reduceAdd, gbi_some, gbr_some, gbv_some, gpu_eq, glt_eq, gjn_eq, r1_0, r1_1, r1_2, r1_3, r1_4, r1_5, w1_0, w1_1, w1_2, w1_3, w1_4, w1_5, t1, t2]
  by_cases hf : t < 20
  · rw [if_pos (show nI t < 20 from nI_lt (b := 20) hf (by decide)), if_neg (show ¬ nI t = 20 from fun q => by have := pI_inj (b := 20) (by omega) (by decide) q; omega), eX_setAt t rfl hf (by decide), gbv_some, w1_at (144 + t) (show (144 + nI t : Int32) = nI (144 + t) from nI_add 144 t) (by omega)]
    have z : gup VM 1 (144 + t) a 1 5 = nI t := (gup_ne _ _ (by omega)).trans t2
    have z2 : gup VX 14 t a 1 11 = nI t := (gup_ne _ _ (by omega)).trans t1
    simp only [Nat.reduceAdd, gbi_some, gbr_some, gbv_some, gpu_eq, glt_eq, gjn_eq, r1_0, r1_1, r1_2, r1_3, r1_4, r1_5, w1_0, w1_1, w1_2, w1_3, w1_4, w1_5, z, gup_at, z2]
    refine RW.done (L := L) (nh := nh) (nc := nc) ⟨?_, hR.2.congr (fun x hx => by rw [gup_row _ _ _ (by omega), gup_row _ _ _ (by omega)]) (mRest.cell fun c c1 _ _ _ _ => by rw [gup_row _ _ _ c1, gup_row _ _ _ c1])⟩
    refine hR.1.gen (fun x _ _ _ _ _ _ => by rw [gup_row _ _ _ (by omega), gup_row _ _ _ (by omega)]) ?_ ?_ ?_ ?_ (fun k _ _ _ _ => by rw [gup_ne _ _ (by omega), gup_ne _ _ (by omega)]) ?_ ?_ ?_ (fun k hk => ?_) (fun k hk => ?_)
    · rw [gup_ne _ _ (by omega), gup_ne _ _ (by omega)]
    · rw [gup_ne _ _ (by omega), gup_ne _ _ (by omega)]
    · rw [gup_ne _ _ (by omega), gup_ne _ _ (by omega), gup_ne _ _ (by omega), gup_ne _ _ (by omega)]; exact h1.2.2.1.2.2.1
    · rw [gup_ne _ _ (by omega), gup_ne _ _ (by omega), gup_ne _ _ (by omega), gup_ne _ _ (by omega)]; exact h1.2.2.1.2.2.2
    · rw [gup_ne _ _ (by omega), gup_ne _ _ (by omega)]; exact h4
    · rw [gup_ne _ _ (by omega), gup_ne _ _ (by omega), gup_ne _ _ (by omega), gup_ne _ _ (by omega)]; exact h5
    · rw [gup_at, gup_at, nI_1]; exact ⟨t + 1, by omega, rfl, rfl⟩
    · rw [gup_row _ _ _ (by omega), gup_row _ _ _ (by omega), gup_ne _ _ (by omega), gup_ne _ _ (by omega)]; exact h7 k hk
    · have := h8 k hk
      simp only [gup]
      grind
  · have hn : t = 20 := by omega
    subst hn
    rw [if_neg (by decide), if_pos (by decide)]
    exact hR.e4
theorem pr_told {i : Nat} {VX VM : gV} {L : lW} {nh nc : Nat} (hR : RW i VX VM L nh nc) (a : Int32) : gEq (Rel0 (i + 6)) (fX7_told VX a) (fX8_told VM a) := by
  unfold fX7_told fX8_told
  rw [d_within, d_in]
  by_cases ha : 1 ≤ a ∧ a ≤ 5
  · obtain ⟨n, hn, rfl⟩ := rngc (n := 5) (by decide) (show 0 ≤ a ∧ a ≤ nI 5 from ⟨Int32.le_trans (by decide) ha.1, ha.2⟩)
    rw [if_pos ha, if_pos ha, g10, g10, eX_at n rfl (by omega) (by decide), gbi_some, gal_at n rfl (by omega) (by decide)]
    exact hR.dones (hR.2.2.1 n (by omega))
  · rw [if_neg ha, if_neg ha, g00, g00]
    exact hR.e1
theorem pr_trace {i : Nat} {VX VM : gV} {L : lW} {nh nc : Nat} (hR : RW i VX VM L nh nc) (a : Int32) : gEq (Rel0 (i + 6)) (fX7_trace VX a) (fX8_trace VM a) := by
  unfold fX7_trace fX8_trace
  obtain ⟨t, t1, t2, t3, t4⟩ := hR.2.2.2.2.1
  rw [d_within, d_in, show VX (0 + 97) 1 = nI t from t2, t3]
  by_cases ha : 0 ≤ a ∧ a ≤ nI t - 1
  · obtain ⟨n, hn, rfl⟩ := rng (by omega) ha
    rw [if_pos ha, if_pos ha, g10, g10, eX_at n rfl (by omega) (by decide), gbi_some, gal_at n rfl (by omega) (by decide)]
    exact hR.dones (t4 n (by omega))
  · rw [if_neg ha, if_neg ha, g00, g00]
    exact hR.e2

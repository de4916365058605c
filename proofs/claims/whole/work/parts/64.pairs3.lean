/-! ===== PURE: pairs about cakes ===== -/
theorem grm_nI {a d : Nat} (ha : a < 2 ^ 31) (h0 : 0 < d) (hd : d < 2 ^ 31) : grm (nI a) (nI d) = nI (a % d) := pk_rem ha h0 hd
theorem CM.toCO {V : gV} {w : Nat} {r : rR} {L : lW} {nh nc : Nat} (h : CM V w r L nh nc) (ht : ∀ j, j < nc → V (w + 18 + 2 * j) 6 = sThick L r j) : CO V w r L nh nc := by
  obtain ⟨hL, hr, hw, hH, hC, hT0, hT1⟩ := h
  refine ⟨hL, hr, hw, hH, fun j hj => ?_, hT0, hT1⟩
  obtain ⟨c1, c2, c3, c4, c5, c7⟩ := hC j hj
  exact ⟨c1, c2, c3, c4, c5, ht j hj, c7⟩
theorem WR.rest {V V' : gV} {w : Nat} {r r' : rR} {L L' : lW} {nh nc nc' : Nat} (h : WR V w r L nh nc) (hC : CO V' w r' L' nh nc') (hM : ML r' L') (e10 : V' w 10 = V w 10) (e11 : V' w 11 = V w 11) (e12 : V' (w + 12) = V (w + 12)) (e13 : V' (w + 13) = V (w + 13)) (er : ∀ k, k = 0 ∨ (4 ≤ k ∧ k < 6) ∨ (8 ≤ k ∧ k < 16) ∨ (94 ≤ k ∧ k < 164) → r' k = r k) : WR V' w r' L' nh nc' := by
  obtain ⟨h1, h2, h3, h4, h5, h6, h7, h8⟩ := h
  have n4 := h1.2.1.1
  refine ⟨hC, hM, fun k hk => ?_, ?_, ?_, ?_, fun k hk => ?_, fun k hk => ?_⟩
  · unfold sHands
    rw [er _ (by omega)]
    exact h3 k hk
  · rw [er 0 (by omega)]; exact h4
  · rw [e10, er 4 (by omega)]; exact h5
  · rw [e11, er 5 (by omega)]; exact h6
  · rw [e12, er _ (by omega)]; exact h7 k hk
  · rw [e13, er _ (by omega)]; exact h8 k hk
theorem ML.cake {r r' : rR} {L : lW} (h : ML r L) (e : ∀ k, k = 6 ∨ k = 7 ∨ 164 ≤ k → r' k = r k) : ML r' L := h.congr (e 6 (by omega)) (e 7 (by omega)) (fun i a b => e i (by omega))
theorem pr_named {i : Nat} {VX VM : gV} {L : lW} {nh nc : Nat} (hR : RW i VX VM L nh nc) (a b : Int32) : gEq (Rel0 (i + 6)) (fX7_named VX a b) (fX8_named VM a b) := by
  have h6 := hR.h6
  unfold fX7_named fX8_named
  rw [d_isCake hR.ncX, dm_isCake hR.ncM]
  by_cases ha : 0 ≤ a ∧ a ≤ nI nc - 1
  · rw [if_pos ha, if_pos ha, g10, g10]
    obtain ⟨j, hj, rfl⟩ := rng (by omega) ha
    obtain ⟨c1, c2, c3, c4, c5, c6, c7⟩ := hR.co.2.2.2.2.1 j hj
    obtain ⟨-, -, -, ⟨n, hn, en, -⟩, -⟩ := hR.co.2.1.2.2.2.2.2 j hj
    rw [x_cakeAt (by omega), gbr_some, m_its3 (by omega), gbi_some, d_within, d_in, show VX (0 + 1 + 18 + 2 * j) 4 = nI n from c4.trans en, en]
    by_cases hb : 0 ≤ b ∧ b ≤ nI n - 1
    · obtain ⟨k, hk, rfl⟩ := rng (by omega) hb
      rw [if_pos hb, if_pos hb, g10, g10, x_cakeAt (by omega), gbr_some, x_nameOf (by omega), gbi_some, m_itsN (by omega) (show k < 8 by omega) rfl, gbi_some]
      exact hR.dones (c7 k n hn en hk)
    · rw [if_neg hb, if_neg hb, g00, g00]
      exact hR.e1
  · rw [if_neg ha, if_neg ha, g00, g00]
    exact hR.e1
theorem pr_ofCake {i : Nat} {VX VM : gV} {L : lW} {nh nc : Nat} (hR : RW i VX VM L nh nc) (a b : Int32) : gEq (Rel0 (i + 6)) (fX7_ofCake VX a b) (fX8_ofCake VM a b) := by
  have h6 := hR.h6
  unfold fX7_ofCake fX8_ofCake
  rw [d_isCake hR.ncX, dm_isCake hR.ncM]
  by_cases ha : 0 ≤ a ∧ a ≤ nI nc - 1
  · rw [if_pos ha, if_pos ha, g10, g10]
    obtain ⟨j, hj, rfl⟩ := rng (by omega) ha
    obtain ⟨c1, c2, c3, c4, c5, c6, c7⟩ := hR.co.2.2.2.2.1 j hj
    have hc := hR.co.2.1.2.2.2.2.2 j hj
    rw [x_cakeAt (by omega), gbr_some, d_in]
    by_cases hb : 0 ≤ b ∧ b ≤ 8
    · obtain ⟨k, hk, rfl⟩ := rngc (n := 8) (by decide) hb
      rw [if_pos hb, g10]
      have e5 : ∀ k, k < 5 → fX8_its VM (nI j) (nI k) = some (VM 1 (16 + 13 * j + k), VM) := fun k hk => m_its (by omega) (by omega) rfl
      obtain ⟨Vt, et, hSt⟩ := m_thick (j := j) hR.mo.1 (by omega)
      obtain ⟨Vs, es, hSs⟩ := m_shows (j := j) hR.mo.1 hR.mo.2.1 hc (by omega)
      obtain ⟨Vg, eg, hSg⟩ := m_isGone (j := j) hR.mo.1 hR.mo.2.1 hc (by omega)
      have hck : k = 0 ∨ k = 1 ∨ k = 2 ∨ k = 3 ∨ k = 4 ∨ k = 5 ∨ k = 6 ∨ k = 7 ∨ k = 8 := by omega
      rcases hck with rfl | rfl | rfl | rfl | rfl | rfl | rfl | rfl | rfl
      · rw [if_pos (by decide), if_neg (by decide), if_neg (by decide), if_neg (by decide), if_neg (by decide), e5 0 (by omega), gbi_some]
        exact hR.dones c1
      · rw [if_neg (by decide), if_pos (by decide), if_neg (by decide), if_neg (by decide), if_neg (by decide), if_neg (by decide), e5 1 (by omega), gbi_some]
        exact hR.dones c2
      · rw [if_neg (by decide), if_neg (by decide), if_pos (by decide), if_neg (by decide), if_neg (by decide), if_neg (by decide), if_neg (by decide), e5 2 (by omega), gbi_some]
        exact hR.dones c3
      · rw [if_neg (by decide), if_neg (by decide), if_neg (by decide), if_pos (by decide), if_neg (by decide), if_neg (by decide), if_neg (by decide), if_neg (by decide), e5 3 (by omega), gbi_some]
        exact hR.dones c4
      · rw [if_neg (by decide), if_neg (by decide), if_neg (by decide), if_neg (by decide), if_pos (by decide), if_neg (by decide), if_neg (by decide), if_neg (by decide), if_neg (by decide), e5 4 (by omega), gbi_some]
        exact hR.dones c5
      · rw [if_neg (by decide), if_neg (by decide), if_neg (by decide), if_neg (by decide), if_neg (by decide), if_pos (by decide), if_pos (by decide), et, gbi_some]
        exact (hR.scr hSt).dones c6
      · rw [if_neg (by decide), if_neg (by decide), if_neg (by decide), if_neg (by decide), if_neg (by decide), if_neg (by decide), if_pos (by decide), if_neg (by decide), if_pos (by decide), es, hR.co.shows hj, gbi_some, gbi_some]
        exact (hR.scr hSs).done
      · rw [if_neg (by decide), if_neg (by decide), if_neg (by decide), if_neg (by decide), if_neg (by decide), if_neg (by decide), if_neg (by decide), if_pos (by decide), if_neg (by decide), if_neg (by decide), if_pos (by decide), eg, hR.co.gone hj, gbi_some, gbi_some]
        by_cases hg : sOut L (VM 1) j < kL (VM 1) j
        · rw [if_pos hg, g00, g00]
          exact (hR.scr hSg).done
        · rw [if_neg hg, g10, g10]
          exact (hR.scr hSg).done
      · rw [if_neg (by decide), if_neg (by decide), if_neg (by decide), if_neg (by decide), if_neg (by decide), if_neg (by decide), if_neg (by decide), if_neg (by decide), if_pos (by decide), if_neg (by decide), if_neg (by decide), if_neg (by decide), if_pos (by decide), eg, hR.co.gone hj, gbi_some, gbi_some]
        by_cases hg : sOut L (VM 1) j < kL (VM 1) j
        · have hR2 := hR.scr hSg
          obtain ⟨V1, e1, hS1⟩ := hR.co.wear hj
          obtain ⟨V2, e2, hS2⟩ := m_wears hR2.mo hj
          rw [if_pos hg, g00, g00, e1, e2, gbi_some, gbi_some, hSg.row (by decide)]
          exact ((hR2.stk hS1).scr hS2).done
        · rw [if_neg hg, g10, g10]
          exact (hR.scr hSg).done
    · rw [if_neg hb, g00]
      have n : ∀ k, k ≤ 8 → ¬ b = nI k := fun k hk q => hb (by subst q; exact ⟨nI_pos' (by omega), nI_le (b := 8) hk (by decide)⟩)
      rw [if_neg (show ¬ b = 0 from n 0 (by decide)), if_neg (show ¬ b = 1 from n 1 (by decide)), if_neg (show ¬ b = 2 from n 2 (by decide)), if_neg (show ¬ b = 3 from n 3 (by decide)), if_neg (show ¬ b = 4 from n 4 (by decide)), if_neg (show ¬ b = 5 from n 5 (by decide)), if_neg (show ¬ b = 6 from n 6 (by decide)), if_neg (show ¬ b = 7 from n 7 (by decide)), if_neg (show ¬ b = 8 from n 8 (by decide))]
      exact hR.e1
  · rw [if_neg ha, if_neg ha, g00, g00]
    exact hR.e1
theorem V0X_above : ∀ a, a < 7 → V0X 112 a = if a = 0 then -1 else nI (a - 3) := by decide +kernel
theorem m_above {V : gV} {a : Nat} (ha : a < 7) : fX8_above V (nI a) = some (if a = 0 then -1 else nI (a - 3), V) := by
  unfold fX8_above
  by_cases h : a = 0
  · subst h; rfl
  · rw [if_neg (nI_ne0 (by omega) (by omega)), if_neg h]
    by_cases h3 : a ≤ 3
    · rw [if_pos (show nI a ≤ 3 from nI_le (b := 3) h3 (by decide)), show a - 3 = 0 by omega]
      rfl
    · rw [if_neg (show ¬ nI a ≤ 3 from nlI (b := 3) (by omega) (by omega))]
      rw [show nI a - 3 = nI (a - 3) from pk_sub (b := 3) (by omega)]
theorem kd_L {V VM : gV} {a1 w : Int32} (hV : V 112 = V0X 112) : ∀ a, a < 7 → ∀ i f g, i + a < 7 → a + 1 < f → a + 1 < g → (fX0_isOfKind_L1 w f V (nI a) (nI i) = some (1, V) ∧ fX8_as_L1 a1 w g VM (nI a) = (gbi (fX8_its VM a1 1) fun x V => some (x, V))) ∨ (fX0_isOfKind_L1 w f V (nI a) (nI i) = some (0, V) ∧ fX8_as_L1 a1 w g VM (nI a) = (gbi (fX8_errs VM (-1000000005)) fun x V => some (x, V))) := by
  intro a
  induction a using Nat.strongRecOn with
  | _ a ih =>
    intro ha i f g h1 h2 h3
    obtain ⟨f, rfl⟩ : ∃ f', f = f' + 1 := ⟨f - 1, by omega⟩
    obtain ⟨g, rfl⟩ : ∃ g', g = g' + 1 := ⟨g - 1, by omega⟩
    show (fX0_isOfKind_L1b w _ V (nI a) (nI i) = _ ∧ fX8_as_L1b a1 w _ VM (nI a) = _) ∨ (fX0_isOfKind_L1b w _ V (nI a) (nI i) = _ ∧ fX8_as_L1b a1 w _ VM (nI a) = _)
    unfold fX0_isOfKind_L1b fX8_as_L1b
    rw [if_neg (show ¬ (7 : Int32) ≤ nI i from nI_ge (b := 7) (by omega) (by decide)), if_neg (nI_pos (by omega)), gjn_eq, if_neg (nI_pos (by omega)), if_pos (nI_pos' (by omega))]
    by_cases hw : nI a = w
    · rw [if_pos hw, if_pos hw]
      exact Or.inl ⟨rfl, rfl⟩
    · rw [if_neg hw, if_neg hw, eX_at a rfl ha (by decide), gbi_some, hV, V0X_above a ha, m_above ha, gbi_some, nI_1]
      by_cases h0 : a = 0
      · subst h0
        obtain ⟨f, rfl⟩ : ∃ f', f = f' + 1 := ⟨f - 1, by omega⟩
        obtain ⟨g, rfl⟩ : ∃ g', g = g' + 1 := ⟨g - 1, by omega⟩
        refine Or.inr ⟨?_, ?_⟩
        · rw [if_pos rfl]
          show fX0_isOfKind_L1b w _ V _ _ = _
          unfold fX0_isOfKind_L1b
          rw [if_pos (show (-1 : Int32) < 0 by decide), ite_self]
        · rw [if_pos rfl]
          show fX8_as_L1b a1 w _ VM _ = _
          unfold fX8_as_L1b
          rw [gjn_eq, if_pos (show (-1 : Int32) < 0 by decide), if_neg (show ¬ (0 : Int32) ≤ -1 by decide)]
      · rw [if_neg h0]
        exact ih (a - 3) (by omega) (by omega) (i + 1) f g (by omega) (by omega) (by omega)
theorem pr_as {i : Nat} {VX VM : gV} {L : lW} {nh nc : Nat} (hR : RW i VX VM L nh nc) (a b : Int32) : gEq (Rel0 (i + 6)) (fX7_as VX a b) (fX8_as VM a b) := by
  have h6 := hR.h6
  unfold fX7_as fX8_as
  rw [d_isCake hR.ncX, dm_isCake hR.ncM]
  by_cases ha : 0 ≤ a ∧ a ≤ nI nc - 1
  · rw [if_pos ha, if_pos ha, g10, g10, d_within, d_in]
    obtain ⟨j, hj, rfl⟩ := rng (by omega) ha
    obtain ⟨c1, c2, c3, c4, c5, c6, c7⟩ := hR.co.2.2.2.2.1 j hj
    obtain ⟨⟨k, hk, ek⟩, -⟩ := hR.co.2.1.2.2.2.2.2 j hj
    by_cases hb : 0 ≤ b ∧ b ≤ 6
    · rw [if_pos hb, if_pos hb, g10, g10, x_cakeAt (by omega), gbr_some, m_its0 (by omega), gbi_some]
      unfold fX0_isOfKind
      rw [show VX (0 + 1 + 18 + 2 * j) 1 = nI k from c1.trans ek, ek]
      rcases kd_L (a1 := nI j) (w := b) (VM := VM) hR.2.2.2.2.2.1 k (by omega) 0 gFu gFu (by omega) (by unfold gFu; omega) (by unfold gFu; omega) with ⟨e1, e2⟩ | ⟨e1, e2⟩
      · rw [show (0 : Int32) = nI 0 from rfl, e1, e2, gbi_some, if_neg (by decide), m_its1 (by omega), gbi_some]
        exact hR.dones c2
      · rw [show (0 : Int32) = nI 0 from rfl, e1, e2, gbi_some, if_pos (by decide)]
        exact hR.e5
    · rw [if_neg hb, if_neg hb, g00, g00]
      exact hR.e1
  · rw [if_neg ha, if_neg ha, g00, g00]
    exact hR.e1

/-! ===== PURE: pairs that change cakes ===== -/
theorem RW.cakeM {i : Nat} {VX VM VX1 VM' : gV} {L : lW} {nh nc nc' : Nat} (hR : RW i VX VM L nh nc) (hC : CM VX1 1 (VM' 1) L nh nc') (e10 : VX1 1 10 = VX 1 10) (e11 : VX1 1 11 = VX 1 11) (e13 : VX1 13 = VX 13) (e14 : VX1 14 = VX 14) (hX : xRest VX VX1) (hM : mRest VM VM') (er : ∀ k, k ≠ 3 → ¬ (16 ≤ k ∧ k < 94) → VM' 1 k = VM 1 k) : ∃ VX2, fX6_measureCakes VX1 1 = some VX2 ∧ RW i VX2 VM' L nh nc' ∧ Msr 1 VX1 VX2 := by
  obtain ⟨V2, e2, hO2, hS2⟩ := x_msr hC
  refine ⟨V2, e2, ⟨hR.1.rest hO2 (hR.1.2.1.cake (fun k hk => er k (by omega) (by omega))) ?_ ?_ ?_ ?_ (fun k hk => er k (by omega) (by omega)), hR.2.congr (fun x hx => ?_) hM⟩, hS2⟩
  · rw [hS2.row (x := 1) (by omega) (by omega) (fun j _ => by omega)]; exact e10
  · rw [hS2.row (x := 1) (by omega) (by omega) (fun j _ => by omega)]; exact e11
  · rw [hS2.row (x := 1 + 12) (by omega) (by omega) (fun j _ => by omega)]; exact e13
  · rw [hS2.row (x := 1 + 13) (by omega) (by omega) (fun j _ => by omega)]; exact e14
  · rw [hS2.row (by omega) (by omega) (fun j _ => by omega)]; exact hX x hx
theorem km_ok {k : Nat} (hk : k ≤ 69) : (nI k : Int32) / 10 = nI (k / 10) ∧ grm (nI k) 10 = nI (k % 10) ∧ k / 10 ≤ 6 ∧ k % 10 ≤ 9 := ⟨pk_div (d := 10) (by omega) (by decide) (by decide), grm_nI (d := 10) (by omega) (by decide) (by decide), by omega, by omega⟩
theorem m_ix0 (j : Nat) : (16 : Int32) + 13 * nI j = nI (16 + 13 * j) := by
  have := m_ix j 0
  rw [show (nI 0 : Int32) = 0 from rfl, Int32.add_zero] at this
  exact this
theorem pr_become {i : Nat} {VX VM : gV} {L : lW} {nh nc : Nat} (hR : RW i VX VM L nh nc) (a b : Int32) : gEq (Rel0 (i + 6)) (fX7_become VX a b) (fX8_become VM a b) := by
  have h6 := hR.h6
  unfold fX7_become fX8_become
  rw [d_isCake hR.ncX, dm_isCake hR.ncM]
  by_cases ha : 0 ≤ a ∧ a ≤ nI nc - 1
  · rw [if_pos ha, if_pos ha, g10, g10, d_isKm, d_in]
    obtain ⟨j, hj, rfl⟩ := rng (by omega) ha
    obtain ⟨c1, c2, c3, c4, c5, c6, c7⟩ := hR.co.2.2.2.2.1 j hj
    obtain ⟨⟨q1, q2, q3⟩, ⟨q4, q5, q6⟩, q7, q8, q9⟩ := hR.co.2.1.2.2.2.2.2 j hj
    by_cases hb : 0 ≤ b ∧ b ≤ 69
    · obtain ⟨k, hk, rfl⟩ := rngc (n := 69) (by decide) hb
      obtain ⟨k1, k2, k3, k4⟩ := km_ok hk
      rw [if_pos hb, if_pos hb, g10, g10, x_cakeAt (by omega), gbr_some, gdv_ne (by decide), gdv_ne (by decide), m_g1 (by omega), gbv_some, k1, k2]
      unfold fX8_becomes
      simp only [Nat.reduceAdd, gbi_some, gbr_some, gbv_some, gpu_eq, glt_eq, gjn_eq, r1_0, r1_1, r1_2, r1_3, r1_4, r1_5, w1_0, w1_1, w1_2, w1_3, w1_4, w1_5, gdv_ne (show ¬ (10 : Int32) = 0 by decide), m_ix0]
      rw [r1_at (16 + 13 * j) rfl (by omega), w1_at (16 + 13 * j) rfl (by omega), gbi_some]
      refine Exists.elim (hR.cakeM (nc' := nc) (VX1 := gup (gup VX (1 + 18 + 2 * j) 1 (nI (k / 10))) (1 + 18 + 2 * j) 2 (nI (k % 10))) (VM' := gup (gup VM 1 (16 + 13 * j + 1) (nI (k % 10))) 1 (16 + 13 * j) (nI (k / 10))) ?_ ?_ ?_ ?_ ?_ ?_ ?_ ?_) (fun V2 q => ?_)
      rotate_right
      · obtain ⟨e2, hR2, hS2⟩ := q
        rw [e2, gbv_some]
        refine hR2.dones ?_
        rw [gup_ne _ _ (by omega)]
        exact c1
      · refine hR.co.cake (i := j) (by omega) (by omega) (fun k hk _ => hk) (fun x _ _ _ _ _ _ => ?_) ?_ ?_ ?_ ?_ (fun k hk h3 h => ?_) ?_ ⟨⟨k / 10, k3, ?_⟩, ⟨k % 10, k4, ?_⟩, ?_, ?_, ?_⟩ ⟨?_, ?_, ?_, ?_, ?_, fun i a q1 q2 q3 => ?_⟩
        · rw [gup_row _ _ _ (by omega), gup_row _ _ _ (by omega)]
        · rw [gup_ne _ _ (by omega), gup_ne _ _ (by omega)]
        · rw [gup_ne _ _ (by omega), gup_ne _ _ (by omega)]; exact hR.ncX
        · rw [gup_ne _ _ (by omega), gup_ne _ _ (by omega)]
        · rw [gup_ne _ _ (by omega), gup_ne _ _ (by omega)]
        · rw [gup_ne _ _ (by omega), gup_ne _ _ (by omega)]
        · rw [gup_ne _ _ (by omega), gup_ne _ _ (by omega)]; exact hR.ncM
        · unfold kK; rw [gup_at]
        · unfold kM; rw [gup_ne _ _ (by omega), gup_at]
        · unfold kH at *; rw [gup_ne _ _ (by omega), gup_ne _ _ (by omega)]; exact q7
        · unfold kL kN at *
          rw [gup_ne _ _ (by omega), gup_ne _ _ (by omega)]
          obtain ⟨n, n1, n2, n3⟩ := q8
          refine ⟨n, n1, n2, fun i hi => ?_⟩
          rw [gup_ne _ _ (by omega), gup_ne _ _ (by omega)]
          exact n3 i hi
        · unfold kW at *; rw [gup_ne _ _ (by omega), gup_ne _ _ (by omega)]; exact q9
        · unfold kK; rw [gup_ne _ _ (by omega), gup_at, gup_at]
        · unfold kM; rw [gup_at, gup_ne _ _ (by omega), gup_at]
        · unfold kH at *; rw [gup_ne _ _ (by omega), gup_ne _ _ (by omega), gup_ne _ _ (by omega), gup_ne _ _ (by omega)]; exact c3
        · unfold kL at *; rw [gup_ne _ _ (by omega), gup_ne _ _ (by omega), gup_ne _ _ (by omega), gup_ne _ _ (by omega)]; exact c4
        · unfold kW at *; rw [gup_ne _ _ (by omega), gup_ne _ _ (by omega), gup_ne _ _ (by omega), gup_ne _ _ (by omega)]; exact c5
        · unfold kL kN at *
          rw [gup_ne _ _ (by omega), gup_ne _ _ (by omega)] at q2
          rw [gup_row _ _ _ (by omega), gup_row _ _ _ (by omega), gup_ne _ _ (by omega), gup_ne _ _ (by omega)]
          exact c7 i a q1 q2 q3
      · rw [gup_ne _ _ (by omega), gup_ne _ _ (by omega)]
      · rw [gup_ne _ _ (by omega), gup_ne _ _ (by omega)]
      · rw [gup_row _ _ _ (by omega), gup_row _ _ _ (by omega)]
      · rw [gup_row _ _ _ (by omega), gup_row _ _ _ (by omega)]
      · exact fun x hx => by rw [gup_row _ _ _ (by omega), gup_row _ _ _ (by omega)]
      · exact mRest.cell fun c h1 _ _ _ _ => by rw [gup_row _ _ _ h1, gup_row _ _ _ h1]
      · exact fun k _ _ => by rw [gup_ne _ _ (by omega), gup_ne _ _ (by omega)]
    · rw [if_neg hb, if_neg hb, g00, g00]
      exact hR.e1
  · rw [if_neg ha, if_neg ha, g00, g00]
    exact hR.e1
theorem pr_cake {i : Nat} {VX VM : gV} {L : lW} {nh nc : Nat} (hR : RW i VX VM L nh nc) (a b : Int32) : gEq (Rel0 (i + 6)) (fX7_cake VX a b) (fX8_cake VM a b) := by
  have h6 := hR.h6
  have h4 := hR.h4
  unfold fX7_cake fX8_cake
  rw [d_isKm, d_in]
  by_cases ha : 0 ≤ a ∧ a ≤ 69
  · rw [if_pos ha, if_pos ha, g10, g10, d_isHouse hR.nhX, dm_isHouse hR.nhM]
    obtain ⟨k, hk, rfl⟩ := rngc (n := 69) (by decide) ha
    obtain ⟨k1, k2, k3, k4⟩ := km_ok hk
    by_cases hb : 0 ≤ b ∧ b ≤ nI nh - 1
    · obtain ⟨h, hh, rfl⟩ := rng (by omega) hb
      simp only [if_pos hb, g10, Nat.reduceAdd, gbi_some, gbr_some, gbv_some, gpu_eq, glt_eq, gjn_eq, r1_0, r1_1, r1_2, r1_3, r1_4, r1_5, w1_0, w1_1, w1_2, w1_3, w1_4, w1_5, hR.ncX, hR.ncM, gdv_ne (show ¬ (10 : Int32) = 0 by decide), k1, k2]
      by_cases hf : nc < 6
      · rw [if_pos (show nI nc < 6 from nI_lt (b := 6) hf (by decide)), if_neg (show ¬ nI nc = 6 from fun q => by have := pI_inj (b := 6) (by omega) (by decide) q; omega), x_cakeAt hf]
        unfold fX0_makeNew
        simp only [Nat.reduceAdd, gbi_some, gbr_some, gbv_some, gpu_eq, glt_eq, gjn_eq, r1_0, r1_1, r1_2, r1_3, r1_4, r1_5, w1_0, w1_1, w1_2, w1_3, w1_4, w1_5]
        have z : ∀ (V : gV) (k : Nat) (v : Int32), gup V (1 + 18 + 2 * nc) k v 1 9 = V 1 9 := fun V k v => gup_ne _ _ (by omega)
        simp only [z, hR.ncX, nI_1]
        rw [m_g0 hf, gbv_some, m_g1 hf, gbv_some, m_g2 hf, gbv_some, m_g3 hf, gbv_some, m_g4 hf, gbv_some]
        have z2 : ∀ (V : gV) (k : Nat) (v : Int32), gup V 1 (16 + 13 * nc + k) v 1 3 = V 1 3 := fun V k v => gup_ne _ _ (by omega)
        simp only [Nat.reduceAdd, gbi_some, gbr_some, gbv_some, gpu_eq, glt_eq, gjn_eq, r1_0, r1_1, r1_2, r1_3, r1_4, r1_5, w1_0, w1_1, w1_2, w1_3, w1_4, w1_5, z2, hR.ncM, nI_1]
        refine Exists.elim (hR.cakeM (nc' := nc + 1) (VX1 := gup (gup (gup (gup (gup (gup VX (1 + 18 + 2 * nc) 1 (nI (k / 10))) (1 + 18 + 2 * nc) 2 (nI (k % 10))) (1 + 18 + 2 * nc) 3 (nI h)) (1 + 18 + 2 * nc) 4 0) (1 + 18 + 2 * nc) 5 0) 1 9 (nI (nc + 1))) (VM' := gup (gup (gup (gup (gup (gup VM 1 (16 + 13 * nc + 0) (nI (k / 10))) 1 (16 + 13 * nc + 1) (nI (k % 10))) 1 (16 + 13 * nc + 2) (nI h)) 1 (16 + 13 * nc + 3) 0) 1 (16 + 13 * nc + 4) 0) 1 3 (nI (nc + 1))) ?_ ?_ ?_ ?_ ?_ ?_ ?_ ?_) (fun V2 q => ?_)
        rotate_right
        · obtain ⟨e2, hR2, hS2⟩ := q
          rw [e2, gbv_some]
          refine hR2.dones ?_
          rw [hS2.row (x := 1) (by omega) (by omega) (fun j _ => by omega), gup_at, pI_sub1]
        · have q0 : (0 : Int32) = nI 0 := rfl
          refine hR.co.cake (i := nc) (by omega) (by omega) (fun k hk _ => by omega) (fun x _ _ _ _ _ _ => ?_) ?_ ?_ ?_ ?_ (fun k hk h3 h => ?_) ?_ ⟨⟨k / 10, k3, ?_⟩, ⟨k % 10, k4, ?_⟩, ⟨h, hh, ?_⟩, ⟨0, by omega, ?_, fun i hi => absurd hi (by omega)⟩, ⟨0, by omega, ?_⟩⟩ ⟨?_, ?_, ?_, ?_, ?_, fun i a q1 q2 q3 => ?_⟩
          all_goals try funext kk
          all_goals try simp only [kK, kM, kH, kL, kW, kN] at *
          all_goals simp (config := { decide := false }) only [gup] at *
          · grind
          · grind
          · grind
          · grind
          · grind
          · grind
          · grind
          · grind
          · grind
          · grind
          · grind
          · grind
          · grind
          · grind
          · grind
          · grind
          · grind
          · exfalso
            have : (nI 0 : Int32) = nI a := by grind
            have := pI_inj (by omega) (by omega) this
            omega
        · simp only [gup]; grind
        · simp only [gup]; grind
        · funext kk; simp only [gup]; grind
        · funext kk; simp only [gup]; grind
        · exact fun x hx => by funext kk; simp only [gup]; grind
        · exact mRest.cell fun c h1 _ _ _ _ => by funext kk; simp only [gup]; grind
        · exact fun k _ _ => by simp only [gup]; grind
      · have hn : nc = 6 := by omega
        subst hn
        rw [if_neg (by decide), if_pos (by decide)]
        exact hR.e4
    · rw [if_neg hb, if_neg hb, g00, g00]
      exact hR.e1
  · rw [if_neg ha, if_neg ha, g00, g00]
    exact hR.e1

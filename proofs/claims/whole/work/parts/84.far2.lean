/-! ===== PURE: howFar, the loops ===== -/
def farP (L : lW) (r : rR) (c M : Nat) (g1 g2 : Int32) (i : Nat) : Bool := decide (sAtW L r c i = g1 ∧ sAtW L r c (i + M) = g2)
theorem x_far_L {V0 : gV} {r : rR} {L : lW} {nh nc c M : Nat} {g1 g2 p : Int32} (hC : CO V0 61 r L nh nc) (hc : c < nc) (hM : M ≤ 40000) : ∀ (m f i a : Nat) (x30 : Int32) (V : gV), i + m = 1000 → m < f → a ≤ i → (∀ x k, ¬ (x = 61 + 18 + 2 * c ∧ k = 5) → V x k = V0 x k) → ∃ V', (∀ x k, ¬ (x = 61 + 18 + 2 * c ∧ k = 5) → V' x k = V0 x k) ∧ fX7_howFar_L1 g1 g2 p (61 + 18 + 2 * c) (nI M) f V (nI a) x30 (nI i) = if p = 0 then some (nI (a + sCnt (farP L r c M g1 g2) m i), V') else if a + sCnt (farP L r c M g1 g2) m i = 0 then gbi (fX7_error V' 2) (fun x V => some (x, V)) else some (if a = 0 then fI (sFst (farP L r c M g1 g2) m i) else x30, V') := by
  intro m
  induction m with
  | zero =>
    intro f i a x30 V h1 h2 ha hV
    obtain ⟨f, rfl⟩ : ∃ f', f = f' + 1 := ⟨f - 1, by omega⟩
    obtain rfl : i = 1000 := by omega
    refine ⟨V, hV, ?_⟩
    show fX7_howFar_L1b _ _ _ _ _ _ V (nI a) x30 (nI 1000) = _
    unfold fX7_howFar_L1b
    rw [if_pos (show (1000 : Int32) ≤ nI 1000 by decide)]
    show _ = if p = 0 then some (nI a, V) else if a = 0 then gbi (fX7_error V 2) (fun x V => some (x, V)) else some (if a = 0 then (-1 : Int32) else x30, V)
    by_cases h0 : a = 0
    · subst h0
      rw [if_pos (show nI 0 = 0 from rfl), if_pos rfl]
    · rw [if_neg (nI_ne0 (by omega) (by omega)), if_neg h0, if_neg h0]
  | succ m ih =>
    intro f i a x30 V h1 h2 ha hV
    obtain ⟨f, rfl⟩ : ∃ f', f = f' + 1 := ⟨f - 1, by omega⟩
    show ∃ V', _ ∧ fX7_howFar_L1b _ _ _ _ _ _ V (nI a) x30 (nI i) = _
    unfold fX7_howFar_L1b
    have hV1 : ∀ (W : gV) (v : Int32), (∀ x k, ¬ (x = 61 + 18 + 2 * c ∧ k = 5) → W x k = V0 x k) → ∀ x k, ¬ (x = 61 + 18 + 2 * c ∧ k = 5) → gup W (61 + 18 + 2 * c) 5 v x k = V0 x k := fun W v hW x k h => (gup_ne _ _ h).trans (hW x k h)
    have hV2 := hV1 V (nI i) hV
    have hV3 := hV1 _ (nI (i + M)) hV2
    have en : ¬ (sAtW L r c i = g1 ∧ sAtW L r c (i + M) = g2) → sCnt (farP L r c M g1 g2) (m + 1) i = sCnt (farP L r c M g1 g2) m (i + 1) ∧ sFst (farP L r c M g1 g2) (m + 1) i = sFst (farP L r c M g1 g2) m (i + 1) := fun q => by
      have hp : ¬ farP L r c M g1 g2 i = true := fun w => q (of_decide_eq_true w)
      exact ⟨by rw [show sCnt (farP L r c M g1 g2) (m + 1) i = (if farP L r c M g1 g2 i = true then 1 else 0) + sCnt (farP L r c M g1 g2) m (i + 1) from rfl, if_neg hp, Nat.zero_add], if_neg hp⟩
    rw [if_neg (show ¬ (1000 : Int32) ≤ nI i from nI_ge (b := 1000) (by omega) (by decide)), x_would hC hc (by omega) hV, gbi_some, nI_1]
    by_cases q1 : sAtW L r c i = g1
    · rw [if_pos q1, if_neg (show ¬ (1 : Int32) = 0 by decide), pI_add, x_would hC hc (by omega) hV2, gbi_some]
      by_cases q2 : sAtW L r c (i + M) = g2
      · have hp : farP L r c M g1 g2 i = true := decide_eq_true ⟨q1, q2⟩
        have e1 : sCnt (farP L r c M g1 g2) (m + 1) i = 1 + sCnt (farP L r c M g1 g2) m (i + 1) := by
          rw [show sCnt (farP L r c M g1 g2) (m + 1) i = (if farP L r c M g1 g2 i = true then 1 else 0) + sCnt (farP L r c M g1 g2) m (i + 1) from rfl, if_pos hp]
        have e2 : sFst (farP L r c M g1 g2) (m + 1) i = some i := if_pos hp
        rw [if_pos q2, if_neg (show ¬ (1 : Int32) = 0 by decide), e1, e2, nI_1, show fI (some i) = nI i from rfl]
        by_cases h0 : a = 0
        · subst h0
          obtain ⟨V', hV', e'⟩ := ih f (i + 1) (0 + 1) (nI i) _ (by omega) (by omega) (by omega) hV3
          refine ⟨V', hV', ?_⟩
          rw [if_pos (show nI 0 = 0 from rfl), e', Nat.zero_add, Nat.zero_add, if_neg (show ¬ (1 + sCnt (farP L r c M g1 g2) m (i + 1) = 0) by omega), if_neg (show ¬ (1 + sCnt (farP L r c M g1 g2) m (i + 1) = 0) by omega), if_neg (show ¬ (1 = 0) by decide), if_pos rfl]
        · obtain ⟨V', hV', e'⟩ := ih f (i + 1) (a + 1) x30 _ (by omega) (by omega) (by omega) hV3
          refine ⟨V', hV', ?_⟩
          rw [if_neg (nI_ne0 (by omega) (by omega)), e', if_neg (show ¬ (a + 1 + sCnt (farP L r c M g1 g2) m (i + 1) = 0) by omega), if_neg (show ¬ (a + (1 + sCnt (farP L r c M g1 g2) m (i + 1)) = 0) by omega), if_neg (show ¬ (a + 1 = 0) by omega), if_neg h0, Nat.add_assoc]
      · obtain ⟨e1, e2⟩ := en (fun q => q2 q.2)
        rw [if_neg q2, if_pos rfl, e1, e2]
        exact ih f (i + 1) a x30 _ (by omega) (by omega) (by omega) hV3
    · obtain ⟨e1, e2⟩ := en (fun q => q1 q.1)
      rw [if_neg q1, if_pos rfl, e1, e2]
      exact ih f (i + 1) a x30 _ (by omega) (by omega) (by omega) hV2
noncomputable def farR (p x26 x27 : Int32) (W : gV) : Option (Int32 × gV) := if p = 1 then (if x26 = 0 then (gbi (fX8_errs W (-1000000002)) fun x V => some (x, V)) else (if p = 0 then some (x26, W) else some (x27, W))) else (if p = 0 then some (x26, W) else some (x27, W))
theorem nI_m1 (j : Nat) : nI (j + 1) + -1 = nI j := by
  have h := pI_sub1 (n := j)
  rw [Int32.sub_eq_add_neg] at h
  exact h
theorem m_far_L {VM : gV} {L : lW} {nh nc c M n T l : Nat} {g1 g2 p : Int32} (hM : MO VM L nh nc) (hc : c < nc) (hn : n ≤ 20) (eM : M = sM L c n (VM 1)) (t1 : 1 ≤ T) (t2 : T ≤ 157) (eT : sThick L (VM 1) c = nI T) (hl : l ≤ 8) (el : kL (VM 1) c = nI l) : ∀ (j f a : Nat) (x27 : Int32) (V : gV), j ≤ 1000 → j < f → a + j ≤ 1000 → Thk VM V → (∀ k, k ≠ 16 + 13 * c + 4 → V 1 k = VM 1 k) → ∃ V', Thk VM V' ∧ fX8_howFar_L1 (nI c) g1 g2 (nI n) p f V (nI a) x27 (nI j + -1) = farR p (nI (a + sCnt (farP L (VM 1) c M g1 g2) j 0)) (if sCnt (farP L (VM 1) c M g1 g2) j 0 = 0 then x27 else fI (sFst (farP L (VM 1) c M g1 g2) j 0)) (mvV V' 3 1) := by
  have h6 := hM.2.2.2.1
  intro j
  induction j with
  | zero =>
    intro f a x27 V h1 h2 ha hT hV
    obtain ⟨f, rfl⟩ : ∃ f', f = f' + 1 := ⟨f - 1, by omega⟩
    refine ⟨V, hT, ?_⟩
    show fX8_howFar_L1b _ _ _ _ _ _ V (nI a) x27 (nI 0 + -1) = _
    unfold fX8_howFar_L1b
    simp only [Nat.reduceAdd, gbi_some, gbr_some, gbv_some, gpu_eq, glt_eq, gjn_eq, r1_0, r1_1, r1_2, r1_3, r1_4, r1_5, w1_0, w1_1, w1_2, w1_3, w1_4, w1_5]
    rw [if_pos (show nI 0 + -1 < 0 by decide), m_move (by decide), gbv_some]
    rfl
  | succ j ih =>
    intro f a x27 V h1 h2 ha hT hV
    obtain ⟨f, rfl⟩ : ∃ f', f = f' + 1 := ⟨f - 1, by omega⟩
    show ∃ V', _ ∧ fX8_howFar_L1b _ _ _ _ _ _ V (nI a) x27 (nI (j + 1) + -1) = _
    unfold fX8_howFar_L1b
    simp only [Nat.reduceAdd, gbi_some, gbr_some, gbv_some, gpu_eq, glt_eq, gjn_eq, r1_0, r1_1, r1_2, r1_3, r1_4, r1_5, w1_0, w1_1, w1_2, w1_3, w1_4, w1_5]
    have hro : rOk (rup (VM 1) (16 + 13 * c + 4) (nI j)) nh nc := rOk_setW hc (by omega) hM.2.2
    have er : rup (V 1) (16 + 13 * c + 4) (nI j) = rup (VM 1) (16 + 13 * c + 4) (nI j) := by
      funext k
      by_cases hk : k = 16 + 13 * c + 4
      · subst hk
        rw [rup_at, rup_at]
      · rw [rup_ne _ _ hk, rup_ne _ _ hk, hV k hk]
    have e1 : gup V 1 (16 + 13 * c + 4) (nI j) 1 = rup (VM 1) (16 + 13 * c + 4) (nI j) := (gup_r V _ _).trans er
    have hT1 : Thk VM (gup V 1 (16 + 13 * c + 4) (nI j)) := hT.row (fun c hc => gup_row _ _ _ hc)
    generalize hW1 : gup V 1 (16 + 13 * c + 4) (nI j) = W1 at e1 hT1
    have hM1 : MO W1 L nh nc := by
      unfold MO
      rw [e1]
      exact ⟨hM.1.cake (fun k hk => rup_ne _ _ (by omega)), hM.2.1, hro⟩
    obtain ⟨W2, q2, hS2⟩ := m_shows (j := c) hM1.1 hM1.2.1 (hM1.2.2.2.2.2.2.2 c hc) (by omega)
    have r2 : W2 1 = rup (VM 1) (16 + 13 * c + 4) (nI j) := (hS2.row (by decide)).trans e1
    rw [e1, sShow_at] at q2
    rw [nI_m1, if_neg (nI_pos (by omega)), m_g4 (by omega), gbv_some, hW1, q2, gbi_some]
    have htop := sCnt_top (P := farP L (VM 1) c M g1 g2) j 0
    have ftop := sFst_top (P := farP L (VM 1) c M g1 g2) j 0
    rw [Nat.zero_add] at htop ftop
    have en : ¬ (sAtW L (VM 1) c j = g1 ∧ sAtW L (VM 1) c (j + M) = g2) → sCnt (farP L (VM 1) c M g1 g2) (j + 1) 0 = sCnt (farP L (VM 1) c M g1 g2) j 0 ∧ sFst (farP L (VM 1) c M g1 g2) (j + 1) 0 = sFst (farP L (VM 1) c M g1 g2) j 0 := fun q => by
      have hp : ¬ farP L (VM 1) c M g1 g2 j = true := fun w => q (of_decide_eq_true w)
      rw [if_neg hp] at htop ftop
      exact ⟨htop, by rw [ftop, Option.or_none]⟩
    by_cases h1' : sAtW L (VM 1) c j = g1
    · have hM2 := hM1.scr hS2
      obtain ⟨W3, q3, hS3⟩ := m_passes (k := n) (by omega) hM2
      have r3 : W3 1 = sDays L nc n (rup (VM 1) (16 + 13 * c + 4) (nI j)) := by rw [hS3.row, r2]
      have hM3 := hM2.days hS3.row
      obtain ⟨W4, q4, hS4⟩ := m_shows (j := c) hM3.1 hM3.2.1 (hM3.2.2.2.2.2.2.2 c hc) (by omega)
      have hsim : Sim (VM 1) (rup (VM 1) (16 + 13 * c + 4) (nI j)) c j T l := ⟨fun k hk => rup_ne _ _ (by omega), fun k hk k4 => rup_ne _ _ (by omega), Or.inl ⟨rup_at _ _ _, by omega⟩⟩
      have hfd := far_days hM.2.1 hc h6 t1 t2 hl n j (VM 1) _ hM.2.2 eT el hsim (by omega)
      rw [r3, hfd, ← eM] at q4
      have hT4 : Thk VM W4 := ((hT1.scr hS2).sro hS3).scr hS4
      have hV4 : ∀ k, 264 ≤ k → W4 1 k = VM 1 k := fun k hk => by
        rw [hS4.row (by decide), r3, sDays_oth (by omega) (fun _ _ => by omega), rup_ne _ _ (by omega)]
      have hw4 := hT4.whole hV4
      rw [if_pos h1', q3, gbv_some, q4, gbi_some]
      by_cases h2' : sAtW L (VM 1) c (j + M) = g2
      · have hp : farP L (VM 1) c M g1 g2 j = true := decide_eq_true ⟨h1', h2'⟩
        rw [if_pos hp] at htop ftop
        obtain ⟨V', hT', e'⟩ := ih f (a + 1) (nI j) (mvV W4 3 1) (by omega) (by omega) (by omega) hT4.mv (fun k _ => by rw [hw4])
        refine ⟨V', hT', ?_⟩
        rw [if_pos h2', m_move (by decide), gbv_some, nI_1, e', htop, ftop, if_neg (show ¬ (sCnt (farP L (VM 1) c M g1 g2) j 0 + 1 = 0) by omega), show a + 1 + sCnt (farP L (VM 1) c M g1 g2) j 0 = a + (sCnt (farP L (VM 1) c M g1 g2) j 0 + 1) by omega]
        have h0 := sFst_0 (P := farP L (VM 1) c M g1 g2) j 0
        by_cases hz : sCnt (farP L (VM 1) c M g1 g2) j 0 = 0
        · rw [if_pos hz, h0.mp hz]
          rfl
        · rw [if_neg hz]
          rcases ho : sFst (farP L (VM 1) c M g1 g2) j 0 with _ | k
          · exact absurd (h0.mpr ho) hz
          · rfl
      · obtain ⟨E1, E2⟩ := en (fun q => h2' q.2)
        obtain ⟨V', hT', e'⟩ := ih f a x27 (mvV W4 3 1) (by omega) (by omega) (by omega) hT4.mv (fun k _ => by rw [hw4])
        refine ⟨V', hT', ?_⟩
        rw [if_neg h2', m_move (by decide), gbv_some, e', E1, E2]
    · obtain ⟨E1, E2⟩ := en (fun q => h1' q.1)
      rw [if_neg h1', E1, E2]
      exact ih f a x27 W2 (by omega) (by omega) (by omega) (hT1.scr hS2) (fun k hk => by rw [r2, rup_ne _ _ hk])
theorem pr_howFar {i : Nat} {VX VM : gV} {L : lW} {nh nc : Nat} (hR : RW i VX VM L nh nc) (a b c d e : Int32) : gEq (Rel0 (i + 6)) (fX7_howFar VX a b c d e) (fX8_howFar VM a b c d e) := by
  have h6 := hR.h6
  unfold fX7_howFar fX8_howFar
  simp only [Nat.reduceAdd, gbi_some, gbr_some, gbv_some, gpu_eq, glt_eq, gjn_eq, r1_0, r1_1, r1_2, r1_3, r1_4, r1_5, w1_0, w1_1, w1_2, w1_3, w1_4, w1_5]
  rw [d_isCake hR.ncX, dm_isCake hR.ncM]
  by_cases ha : 0 ≤ a ∧ a ≤ nI nc - 1
  · rw [if_pos ha, if_pos ha, g10, g10, d_isGN, d_in]
    by_cases hb : -1 ≤ b ∧ b ≤ 9
    · rw [if_pos hb, if_pos hb, g10, g10, d_isGN, d_in]
      by_cases hc : -1 ≤ c ∧ c ≤ 9
      · rw [if_pos hc, if_pos hc, g10, g10, d_within, d_in]
        by_cases hd : 0 ≤ d ∧ d ≤ 20
        · rw [if_pos hd, if_pos hd, g10, g10, d_within, d_in]
          by_cases he : 0 ≤ e ∧ e ≤ 1
          · rw [if_pos he, if_pos he, g10, g10, m_move (by decide), gbv_some]
            obtain ⟨j, hj, rfl⟩ := rng (by omega) ha
            obtain ⟨n, hn, rfl⟩ := rngc (n := 20) (by decide) hd
            obtain ⟨p, hp, rfl⟩ := rngc (n := 1) (by decide) he
            obtain ⟨V1, e1, hC1, hO1, -, -⟩ := hR.think
            have hcok := hR.co.2.1.2.2.2.2.2 j hj
            obtain ⟨T, t1, t2, eT⟩ := sThick_ok hR.co.1 hcok
            obtain ⟨-, -, -, ⟨l, hl, el, -⟩, -⟩ := hcok
            have hm := sM_le (c := j) hR.co.1 hj n (VM 1) hR.co.2.1
            obtain ⟨V2, e2, hC2, hO2⟩ := x_wod_L (c := j) hj hn n gFu 0 0 V1 (VM 1) (by omega) (by unfold gFu; omega) hC1
            rw [Nat.zero_add] at e2
            obtain ⟨V3, hV3, e3⟩ := x_far_L (g1 := b) (g2 := c) (p := nI p) (M := sM L j n (VM 1)) hC2 hj (by omega) 1000 gFu 0 0 (-1) V2 (by omega) (by unfold gFu; omega) (by omega) (fun _ _ _ => rfl)
            obtain ⟨V4, hT4, e4⟩ := m_far_L (g1 := b) (g2 := c) (p := nI p) hR.mo hj hn rfl t1 t2 eT hl el 1000 gFu 0 0 (mvV VM 1 3) (by omega) (by unfold gFu; omega) (by omega) Thk.of (fun k _ => by rw [mv13])
            have eP : farP L (dayN n (VM 1)) j (sM L j n (VM 1)) b c = farP L (VM 1) j (sM L j n (VM 1)) b c := by
              funext k
              unfold farP
              have e : ∀ w, sAtW L (dayN n (VM 1)) j w = sAtW L (VM 1) j w := fun w => by
                unfold sAtW
                have z : ∀ k, dayN n (VM 1) (16 + 13 * j + k) = VM 1 (16 + 13 * j + k) := fun k => dayN_oth (by omega) _ _
                rw [sThick_congr (fun k _ => z k), show kK (dayN n (VM 1)) j = kK (VM 1) j from z 0, show kM (dayN n (VM 1)) j = kM (VM 1) j from z 1, show kL (dayN n (VM 1)) j = kL (VM 1) j from z 3, show kN (dayN n (VM 1)) j = kN (VM 1) j from funext fun i => z (5 + i)]
              rw [e, e]
            rw [eP] at e3
            have hO3 : O61 V2 V3 := fun x hx => funext fun k => hV3 x k (by omega)
            have hB : RW i V3 (mvV V4 3 1) L nh nc := hT4.back (hR.o61 ((hO1.tr hO2).tr hO3))
            rw [e1, gbv_some, x_cakeAt (by omega), gbr_some, show fX6_wearOfDays V1 61 (61 + 18 + 2 * j) (nI n) = _ from e2, gbi_some, show fX7_howFar_L1 b c (nI p) (61 + 18 + 2 * j) (nI (sM L j n (VM 1))) gFu V2 0 (-1) 0 = _ from e3, show fX8_howFar_L1 (nI j) b c (nI n) (nI p) gFu (mvV VM 1 3) 0 0 999 = _ from e4]
            have hcl := sCnt_le (P := farP L (VM 1) j (sM L j n (VM 1)) b c) 1000 0
            generalize sCnt (farP L (VM 1) j (sM L j n (VM 1)) b c) 1000 0 = N at *
            unfold farR
            rw [Nat.zero_add]
            have hpc : p = 0 ∨ p = 1 := by omega
            rcases hpc with rfl | rfl
            · rw [if_pos (show nI 0 = 0 from rfl), if_neg (show ¬ nI 0 = 1 by decide), if_pos (show nI 0 = 0 from rfl)]
              exact hB.done
            · rw [if_neg (show ¬ nI 1 = 0 by decide), if_pos (show nI 1 = 1 from rfl), if_neg (show ¬ nI 1 = 0 by decide)]
              by_cases h0 : N = 0
              · subst h0
                rw [if_pos rfl, if_pos (show nI 0 = 0 from rfl)]
                exact hB.e2
              · rw [if_neg h0, if_neg (nI_ne0 (by omega) (by omega)), if_pos rfl, if_neg h0]
                exact hB.done
          · rw [if_neg he, if_neg he, g00, g00]
            exact hR.e1
        · rw [if_neg hd, if_neg hd, g00, g00]
          exact hR.e1
      · rw [if_neg hc, if_neg hc, g00, g00]
        exact hR.e1
    · rw [if_neg hb, if_neg hb, g00, g00]
      exact hR.e1
  · rw [if_neg ha, if_neg ha, g00, g00]
    exact hR.e1

/-! ===== PURE: press ===== -/
def Prs (V VM V' VM' : gV) : Prop := (∀ x, (∀ j, j < 6 → x ≠ 1 + 18 + 2 * j ∧ x ≠ 1 + 18 + 2 * j + 1) → V' x = V x) ∧ (∀ c, c ≠ 1 → VM' c = VM c) ∧ ∀ k, ¬ (16 ≤ k ∧ k < 94) → VM' 1 k = VM 1 k
theorem Prs.tr {V VM V1 VM1 V2 VM2 : gV} (h1 : Prs V VM V1 VM1) (h2 : Prs V1 VM1 V2 VM2) : Prs V VM V2 VM2 := ⟨fun x h => (h2.1 x h).trans (h1.1 x h), fun c h => (h2.2.1 c h).trans (h1.2.1 c h), fun k h => (h2.2.2 k h).trans (h1.2.2 k h)⟩
theorem pr_press_L {VX0 : gV} {L : lW} {nh nc a b la had : Nat} (ha : a < nc) (hb : b < nc) (hab : a ≠ b) (hla : la ≤ 8) (hh : VX0 (1 + 18 + 2 * b) 4 = nI had) : ∀ (m f g i n : Nat) (V VM : gV), i + m = la → m < f → m < g → CM V 1 (VM 1) L nh nc → kL (VM 1) a = nI la → kL (VM 1) b = nI (had + n) → had + n ≤ 8 → ∃ (n' : Nat) (V' VM' : gV), fX0_pressOnto_L1 VX0 (1 + 18 + 2 * a) (1 + 18 + 2 * b) f V (nI i) = some (nI n', V') ∧ fX8_press_L1 (nI a) (nI b) g VM (nI n) (nI i) = some (nI n', VM') ∧ CM V' 1 (VM' 1) L nh nc ∧ Prs V VM V' VM' := by
  intro m
  induction m with
  | zero =>
    intro f g i n V VM h1 h2 h3 hC hA hB h8
    obtain ⟨f, rfl⟩ : ∃ f', f = f' + 1 := ⟨f - 1, by omega⟩
    obtain ⟨g, rfl⟩ : ∃ g', g = g' + 1 := ⟨g - 1, by omega⟩
    have hi : i = la := by omega
    subst hi
    have h6 := hC.2.1.2.1
    obtain ⟨c1, c2, c3, c4, c5, c7⟩ := hC.2.2.2.2.1 a ha
    obtain ⟨d1, d2, d3, d4, d5, d7⟩ := hC.2.2.2.2.1 b hb
    obtain ⟨⟨q1, q2, q3⟩, ⟨q4, q5, q6⟩, ⟨q7, q8, q9⟩, ⟨q10, q11, q12, q13⟩, ⟨q14, q15, q16⟩⟩ := hC.2.1.2.2.2.2.2 a ha
    show ∃ (n' : Nat) (V' VM' : gV), fX0_pressOnto_L1b VX0 _ _ _ V (nI i) = _ ∧ fX8_press_L1b (nI a) (nI b) _ VM (nI n) (nI i) = _ ∧ _
    unfold fX0_pressOnto_L1b fX8_press_L1b
    rw [c4, m_its3 (by omega), hA, if_pos (nI_le (by omega) (by omega)), gpu_eq, gbi_some, if_pos (nI_le (by omega) (by omega)), m_g3 (by omega), gbv_some, gup_ne _ _ (by omega), d4, hB, hh]
    rw [show nI (had + n) - nI had = nI n by rw [pk_sub (by omega)]; congr 1; omega]
    refine ⟨n, _, _, rfl, rfl, hC.cake (i := a) ha (fun x _ _ _ _ _ _ => gup_row _ _ _ (by omega)) (fun k _ _ => gup_ne _ _ (by omega)) ⟨⟨q1, q2, (gup_ne _ _ (by omega)).trans q3⟩, ⟨q4, q5, (gup_ne _ _ (by omega)).trans q6⟩, ⟨q7, q8, (gup_ne _ _ (by omega)).trans q9⟩, ⟨0, by omega, gup_at _ _ _ _, fun i hi => absurd hi (by omega)⟩, ⟨q14, q15, (gup_ne _ _ (by omega)).trans q16⟩⟩ ⟨?_, ?_, ?_, ?_, ?_, ?_⟩, fun x hx => gup_row _ _ _ (hx a (by omega)).1, fun c hc => gup_row _ _ _ hc, fun k hk => gup_ne _ _ (by omega)⟩
    · unfold kK at *; rw [gup_ne _ _ (by omega), gup_ne _ _ (by omega)]; exact c1
    · unfold kM at *; rw [gup_ne _ _ (by omega), gup_ne _ _ (by omega)]; exact c2
    · unfold kH at *; rw [gup_ne _ _ (by omega), gup_ne _ _ (by omega)]; exact c3
    · unfold kL at *; rw [gup_at, gup_at]
    · unfold kW at *; rw [gup_ne _ _ (by omega), gup_ne _ _ (by omega)]; exact c5
    · intro x y hy hxy hx
      exfalso
      unfold kL at hxy
      rw [gup_at] at hxy
      have := pI_inj (a := 0) (by omega) (by omega) hxy
      omega
  | succ m ih =>
    intro f g i n V VM h1 h2 h3 hC hA hB h8
    obtain ⟨f, rfl⟩ : ∃ f', f = f' + 1 := ⟨f - 1, by omega⟩
    obtain ⟨g, rfl⟩ : ∃ g', g = g' + 1 := ⟨g - 1, by omega⟩
    have h6 := hC.2.1.2.1
    obtain ⟨c1, c2, c3, c4, c5, c7⟩ := hC.2.2.2.2.1 a ha
    obtain ⟨d1, d2, d3, d4, d5, d7⟩ := hC.2.2.2.2.1 b hb
    obtain ⟨⟨q1, q2, q3⟩, ⟨q4, q5, q6⟩, ⟨q7, q8, q9⟩, ⟨q10, q11, q12, q13⟩, ⟨q14, q15, q16⟩⟩ := hC.2.1.2.2.2.2.2 a ha
    have e10 : q10 = la := pI_inj (by omega) (by omega) (q12.symm.trans hA)
    subst e10
    show ∃ (n' : Nat) (V' VM' : gV), fX0_pressOnto_L1b VX0 _ _ _ V (nI i) = _ ∧ fX8_press_L1b (nI a) (nI b) _ VM (nI n) (nI i) = _ ∧ _
    unfold fX0_pressOnto_L1b fX8_press_L1b
    rw [c4, m_its3 (by omega), hA, if_neg (nI_ge (by omega) (by omega)), gbi_some, if_neg (nI_ge (by omega) (by omega)), x_nameOf (by omega), gbi_some, m_its3 (by omega), gbi_some, hB, nI_1, nI_1, c7 i q10 hla q12 (by omega)]
    by_cases hf : had + n < 8
    · rw [x_addLayer (d4.trans hB) hf, gbv_some, if_neg (show ¬ (8 : Int32) ≤ nI (had + n) from nI_ge (b := 8) hf (by decide)), m_itsN (by omega) (show i < 8 by omega) rfl, gbi_some, m_gN (by omega) hf, gbv_some, nI_1, m_g3 (by omega), gbv_some]
      have hC2 := hC.layer hb hB hf (q13 i (by omega))
      obtain ⟨n', V', VM', r1, r2, r3, r4⟩ := ih f g (i + 1) (n + 1) _ (gup (gup VM 1 (16 + 13 * b + (5 + (had + n))) (kN (VM 1) a i)) 1 (16 + 13 * b + 3) (nI (had + n + 1))) (by omega) (by omega) (by omega) hC2 (by
        unfold kL at *
        rw [gup_ne _ _ (by omega), gup_ne _ _ (by omega)]
        exact hA) (by
        unfold kL
        rw [gup_at]
        rfl) (by omega)
      refine ⟨n', V', VM', r1, r2, r3, Prs.tr ⟨fun x hx => ?_, fun c hc => ?_, fun k hk => ?_⟩ r4⟩
      · rw [gup_row _ _ _ (hx b (by omega)).1, gup_row _ _ _ (hx b (by omega)).2]
      · rw [gup_row _ _ _ hc, gup_row _ _ _ hc]
      · rw [gup_ne _ _ (by omega), gup_ne _ _ (by omega)]
    · have e8 : had + n = 8 := by omega
      have ea : fX0_addLayer V (1 + 18 + 2 * b) (kN (VM 1) a i) = some V := by
        unfold fX0_addLayer
        rw [d4, hB, e8, if_pos (by decide)]
      rw [ea, gbv_some, e8, if_pos (by decide)]
      exact ih f g (i + 1) n V VM (by omega) (by omega) (by omega) hC hA hB h8
theorem pr_press {i : Nat} {VX VM : gV} {L : lW} {nh nc : Nat} (hR : RW i VX VM L nh nc) (a b : Int32) : gEq (Rel0 (i + 6)) (fX7_press VX a b) (fX8_press VM a b) := by
  have h6 := hR.h6
  unfold fX7_press fX8_press
  rw [d_isCake hR.ncX, dm_isCake hR.ncM]
  by_cases ha : 0 ≤ a ∧ a ≤ nI nc - 1
  · rw [if_pos ha, if_pos ha, g10, g10, d_isCake hR.ncX, dm_isCake hR.ncM]
    obtain ⟨j, hj, rfl⟩ := rng (by omega) ha
    by_cases hb : 0 ≤ b ∧ b ≤ nI nc - 1
    · rw [if_pos hb, if_pos hb, g10, g10]
      obtain ⟨k, hk, rfl⟩ := rng (by omega) hb
      by_cases hjk : j = k
      · subst hjk
        rw [if_pos rfl, if_pos rfl]
        exact hR.e1
      · have hn : ¬ (nI j : Int32) = nI k := fun q => hjk (pI_inj (by omega) (by omega) q)
        obtain ⟨Vg, eg, hSg⟩ := m_isGone (j := j) hR.mo.1 hR.mo.2.1 (hR.co.2.1.2.2.2.2.2 j hj) (by omega)
        have hR2 := hR.scr hSg
        rw [if_neg hn, if_neg hn, x_cakeAt (by omega), gbr_some, hR.co.gone hj, gbi_some, eg, gbi_some]
        by_cases hg : sOut L (VM 1) j < kL (VM 1) j
        · rw [if_pos hg, g00, g00, x_cakeAt (by omega), gbr_some]
          obtain ⟨V3, e3, hS3⟩ := m_out (j := j) hR2.mo.1 hR2.mo.2.1 (hR2.co.2.1.2.2.2.2.2 j hj) (by omega)
          have hR3 := hR2.scr hS3
          rw [e3, gbi_some]
          unfold fX0_pressOnto
          have er : Vg 1 = VM 1 := hSg.row (by omega)
          have er3 : V3 1 = VM 1 := (hS3.row (by omega)).trans er
          obtain ⟨o, ho, eo⟩ := sOut_ok hR.co.1 (hR.co.2.1.2.2.2.2.2 j hj)
          obtain ⟨-, -, -, ⟨la, la8, ela, -⟩, -⟩ := hR.co.2.1.2.2.2.2.2 j hj
          obtain ⟨-, -, -, ⟨lb, lb8, elb, -⟩, -⟩ := hR.co.2.1.2.2.2.2.2 k hk
          have hol : o < la := by
            rw [eo, ela] at hg
            exact (nI_ltI (by omega) (by omega)).mp hg
          rw [hR.co.out hj, gbi_some, er, eo]
          obtain ⟨n', V', VM', r1, r2, r3, r4⟩ := pr_press_L (VX0 := VX) (a := j) (b := k) hj hk hjk la8 ((hR.co.2.2.2.2.1 k hk).2.2.2.1.trans elb) (la - o) gFu gFu o 0 VX V3 (by omega) (by unfold gFu; omega) (by unfold gFu; omega) hR3.co.toCM (by rw [er3]; exact ela) (by rw [er3]; exact elb) (by omega)
          rw [r1, gbi_some, show (0 : Int32) = nI 0 from rfl, r2]
          obtain ⟨V2, e2, hR4, hS2⟩ := hR3.cakeM r3 (by rw [r4.1 1 (fun j _ => by omega)]) (by rw [r4.1 1 (fun j _ => by omega)]) (r4.1 13 (fun j _ => by omega)) (r4.1 14 (fun j _ => by omega)) (fun x hx => r4.1 x (fun j _ => by omega)) (mRest.cell fun c h1 _ _ _ _ => r4.2.1 c h1) (fun k _ h => r4.2.2 k h)
          rw [e2, gbv_some]
          exact hR4.done
        · rw [if_neg hg, g10, g10]
          exact hR2.e3
    · rw [if_neg hb, if_neg hb, g00, g00]
      exact hR.e1
  · rw [if_neg ha, if_neg ha, g00, g00]
    exact hR.e1

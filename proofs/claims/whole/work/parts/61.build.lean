/-! ===== PURE: worlds changed ===== -/
theorem cakeC_rcongr {V : gV} {c : Nat} {r r' : rR} {L : lW} {j : Nat} (e : ∀ k, k < 13 → r' (16 + 13 * j + k) = r (16 + 13 * j + k)) (h : cakeC V c r L j) : cakeC V c r' L j := by
  obtain ⟨c1, c2, c3, c4, c5, c6, c7⟩ := h
  have hth : sThick L r' j = sThick L r j := sThick_congr (fun k hk => e k (by omega))
  have n : ∀ i a, a ≤ 8 → kL r' j = nI a → i < a → V (c + 1) i = kN r' j i := fun i a ha hl hi => by
    rw [show kN r' j i = kN r j i from e (5 + i) (by omega)]
    exact c7 i a ha (by rw [← hl]; exact (e 3 (by omega)).symm) hi
  exact ⟨c1.trans (e 0 (by omega)).symm, c2.trans (e 1 (by omega)).symm, c3.trans (e 2 (by omega)).symm, c4.trans (e 3 (by omega)).symm, c5.trans (e 4 (by omega)).symm, c6.trans hth.symm, n⟩
theorem cOk_rcongr {r r' : rR} {nh j : Nat} (e : ∀ k, k < 13 → r' (16 + 13 * j + k) = r (16 + 13 * j + k)) (hc : cOk r nh j) : cOk r' nh j :=
  cOk_congr (fun k hk _ => e k hk) (by rw [show kW r' j = kW r j from e 4 (by omega)]; exact hc.2.2.2.2) hc
theorem cOk_nh {r : rR} {nh nh' j : Nat} (hn : nh ≤ nh') (hc : cOk r nh j) : cOk r nh' j := by
  obtain ⟨a, b, ⟨c, c1, c2⟩, d⟩ := hc
  exact ⟨a, b, ⟨c, by omega, c2⟩, d⟩
/-- the head, the tape and what waits may change -/
theorem CO.gen {V V' : gV} {w : Nat} {r r' : rR} {L : lW} {nh nc : Nat} (h : CO V w r L nh nc) (eV : ∀ x, w < x → x < w + 30 → x ≠ w + 8 → x ≠ w + 11 → x ≠ w + 12 → x ≠ w + 13 → V' x = V x) (e8 : V' w 8 = V w 8) (e9 : V' w 9 = V w 9) (e12 : V' w 12 = r' 0) (e13 : V' w 13 = r' 1) (er : ∀ k, 2 ≤ k → k < 94 → k ≠ 4 → k ≠ 5 → r' k = r k) : CO V' w r' L nh nc := by
  obtain ⟨hL, ⟨r1, r2, r3, r4, r5, r6⟩, ⟨w1, w2, w3, w4⟩, hH, hC, hT0, hT1⟩ := h
  refine ⟨hL, ⟨r1, r2, (er 2 (by omega) (by omega) (by omega) (by omega)).trans r3, (er 3 (by omega) (by omega) (by omega) (by omega)).trans r4, fun k hk => hOk_congr (er _ (by omega) (by omega) (by omega) (by omega)) (er _ (by omega) (by omega) (by omega) (by omega)) (r5 k hk), fun j hj => cOk_rcongr (fun k hk => er _ (by omega) (by omega) (by omega) (by omega)) (r6 j hj)⟩, ⟨e8.trans w1, e9.trans w2, e12, e13⟩, fun k hk => ?_, fun j hj => cakeC_rcongr (fun k hk => er _ (by omega) (by omega) (by omega) (by omega)) (cakeC_congr (eV _ (by omega) (by omega) (by omega) (by omega) (by omega) (by omega)) (eV _ (by omega) (by omega) (by omega) (by omega) (by omega) (by omega)) (hC j hj)), ?_, ?_⟩
  · rw [eV _ (by omega) (by omega) (by omega) (by omega) (by omega) (by omega)]
    unfold sHands sWater
    rw [er _ (by omega) (by omega) (by omega) (by omega), er _ (by omega) (by omega) (by omega) (by omega)]
    exact hH k hk
  · rw [eV _ (by omega) (by omega) (by omega) (by omega) (by omega) (by omega), eV _ (by omega) (by omega) (by omega) (by omega) (by omega) (by omega)]
    exact hT0
  · rw [eV _ (by omega) (by omega) (by omega) (by omega) (by omega) (by omega), eV _ (by omega) (by omega) (by omega) (by omega) (by omega) (by omega)]
    exact hT1
/-- a house may change, or one may be new -/
theorem CO.house {V V' : gV} {w : Nat} {r r' : rR} {L : lW} {nh nh' nc h : Nat} (hO : CO V w r L nh nc) (hh : h < nh') (h4 : nh' ≤ 4) (hn : nh ≤ nh') (hn2 : ∀ k, k < nh' → k ≠ h → k < nh) (eV : ∀ x, w < x → x < w + 30 → x ≠ w + 8 → x ≠ w + 11 → x ≠ w + 14 + h → V' x = V x) (e8 : V' w 8 = nI nh') (e9 : V' w 9 = V w 9) (e12 : V' w 12 = V w 12) (e13 : V' w 13 = V w 13) (er : ∀ k, k < 94 → k ≠ 2 → k ≠ 8 + 2 * h → k ≠ 8 + 2 * h + 1 → r' k = r k) (er2 : r' 2 = nI nh') (hok : hOk r' h) (v0 : V' (w + 14 + h) 0 = sHands r' h) (v1 : V' (w + 14 + h) 1 = sWater r' h) : CO V' w r' L nh' nc := by
  obtain ⟨hL, ⟨r1, r2, r3, r4, r5, r6⟩, ⟨w1, w2, w3, w4⟩, hH, hC, hT0, hT1⟩ := hO
  refine ⟨hL, ⟨h4, r2, er2, (er 3 (by omega) (by omega) (by omega) (by omega)).trans r4, fun k hk => ?_, fun j hj => cOk_nh hn (cOk_rcongr (fun k hk => er _ (by omega) (by omega) (by omega) (by omega)) (r6 j hj))⟩, ⟨e8, e9.trans w2, e12.trans (w3.trans (er 0 (by omega) (by omega) (by omega) (by omega)).symm), e13.trans (w4.trans (er 1 (by omega) (by omega) (by omega) (by omega)).symm)⟩, fun k hk => ?_, fun j hj => cakeC_rcongr (fun k hk => er _ (by omega) (by omega) (by omega) (by omega)) (cakeC_congr (eV _ (by omega) (by omega) (by omega) (by omega) (by omega)) (eV _ (by omega) (by omega) (by omega) (by omega) (by omega)) (hC j hj)), ?_, ?_⟩
  · by_cases hkh : k = h
    · subst hkh; exact hok
    · exact hOk_congr (er _ (by omega) (by omega) (by omega) (by omega)) (er _ (by omega) (by omega) (by omega) (by omega)) (r5 k (hn2 k hk hkh))
  · by_cases hkh : k = h
    · subst hkh; rw [Nat.one_mul]; exact ⟨v0, v1⟩
    · rw [eV _ (by omega) (by omega) (by omega) (by omega) (by omega)]
      unfold sHands sWater
      rw [er _ (by omega) (by omega) (by omega) (by omega), er _ (by omega) (by omega) (by omega) (by omega)]
      exact hH k (hn2 k hk hkh)
  · rw [eV _ (by omega) (by omega) (by omega) (by omega) (by omega), eV _ (by omega) (by omega) (by omega) (by omega) (by omega)]
    exact hT0
  · rw [eV _ (by omega) (by omega) (by omega) (by omega) (by omega), eV _ (by omega) (by omega) (by omega) (by omega) (by omega)]
    exact hT1
/-- a cake's cell, but for what it is measured -/
def cakeM (V : gV) (c : Nat) (r : rR) (j : Nat) : Prop := V c 1 = kK r j ∧ V c 2 = kM r j ∧ V c 3 = kH r j ∧ V c 4 = kL r j ∧ V c 5 = kW r j ∧ ∀ i a, a ≤ 8 → kL r j = nI a → i < a → V (c + 1) i = kN r j i
theorem cakeM_rcongr {V : gV} {c : Nat} {r r' : rR} {j : Nat} (e : ∀ k, k < 13 → r' (16 + 13 * j + k) = r (16 + 13 * j + k)) (h : cakeM V c r j) : cakeM V c r' j := by
  obtain ⟨c1, c2, c3, c4, c5, c7⟩ := h
  exact ⟨c1.trans (e 0 (by omega)).symm, c2.trans (e 1 (by omega)).symm, c3.trans (e 2 (by omega)).symm, c4.trans (e 3 (by omega)).symm, c5.trans (e 4 (by omega)).symm, fun i a ha hl hi => by
    rw [show kN r' j i = kN r j i from e (5 + i) (by omega)]
    exact c7 i a ha (by rw [← hl]; exact (e 3 (by omega)).symm) hi⟩
theorem cakeM_congr {V V' : gV} {c : Nat} {r : rR} {j : Nat} (h1 : V' c = V c) (h2 : V' (c + 1) = V (c + 1)) (h : cakeM V c r j) : cakeM V' c r j := by
  unfold cakeM
  rw [h1, h2]
  exact h
theorem cakeM_congr2 {V V' : gV} {c : Nat} {r : rR} {j : Nat} (h1 : ∀ k, k ≠ 6 → V' c k = V c k) (h2 : V' (c + 1) = V (c + 1)) (h : cakeM V c r j) : cakeM V' c r j := by
  unfold cakeM
  rw [h1 1 (by omega), h1 2 (by omega), h1 3 (by omega), h1 4 (by omega), h1 5 (by omega), h2]
  exact h
/-- a world not measured yet -/
def CM (V : gV) (w : Nat) (r : rR) (L : lW) (nh nc : Nat) : Prop := lOk L ∧ rOk r nh nc ∧ (V w 8 = nI nh ∧ V w 9 = nI nc ∧ V w 12 = r 0 ∧ V w 13 = r 1) ∧ (∀ h, h < nh → V (w + 14 + 1 * h) 0 = sHands r h ∧ V (w + 14 + 1 * h) 1 = sWater r h) ∧ (∀ j, j < nc → cakeM V (w + 18 + 2 * j) r j) ∧ TK 0 (V (w + 6) 2) (V (w + 7)) L ∧ TK 1 (V (w + 9) 2) (V (w + 10)) L
/-- a cake may change, or one may be new -/
theorem CO.cake {V V' : gV} {w : Nat} {r r' : rR} {L : lW} {nh nc nc' i : Nat} (hO : CO V w r L nh nc) (hi : i < nc') (h6 : nc' ≤ 6) (hn2 : ∀ k, k < nc' → k ≠ i → k < nc) (eV : ∀ x, w < x → x < w + 30 → x ≠ w + 8 → x ≠ w + 11 → x ≠ w + 18 + 2 * i → x ≠ w + 18 + 2 * i + 1 → V' x = V x) (e8 : V' w 8 = V w 8) (e9 : V' w 9 = nI nc') (e12 : V' w 12 = V w 12) (e13 : V' w 13 = V w 13) (er : ∀ k, k < 94 → k ≠ 3 → (k < 16 + 13 * i ∨ 16 + 13 * i + 13 ≤ k) → r' k = r k) (er3 : r' 3 = nI nc') (hok : cOk r' nh i) (hm : cakeM V' (w + 18 + 2 * i) r' i) : CM V' w r' L nh nc' := by
  obtain ⟨hL, ⟨r1, r2, r3, r4, r5, r6⟩, ⟨w1, w2, w3, w4⟩, hH, hC, hT0, hT1⟩ := hO
  refine ⟨hL, ⟨r1, h6, (er 2 (by omega) (by omega) (by omega)).trans r3, er3, fun k hk => hOk_congr (er _ (by omega) (by omega) (by omega)) (er _ (by omega) (by omega) (by omega)) (r5 k hk), fun j hj => ?_⟩, ⟨e8.trans w1, e9, e12.trans (w3.trans (er 0 (by omega) (by omega) (by omega)).symm), e13.trans (w4.trans (er 1 (by omega) (by omega) (by omega)).symm)⟩, fun k hk => ?_, fun j hj => ?_, ?_, ?_⟩
  · by_cases hji : j = i
    · subst hji; exact hok
    · exact cOk_rcongr (fun k hk => er _ (by omega) (by omega) (by omega)) (r6 j (hn2 j hj hji))
  · rw [eV _ (by omega) (by omega) (by omega) (by omega) (by omega) (by omega)]
    unfold sHands sWater
    rw [er _ (by omega) (by omega) (by omega), er _ (by omega) (by omega) (by omega)]
    exact hH k hk
  · by_cases hji : j = i
    · subst hji; exact hm
    · refine cakeM_rcongr (fun k hk => er _ (by omega) (by omega) (by omega)) (cakeM_congr (eV _ (by omega) (by omega) (by omega) (by omega) (by omega) (by omega)) (eV _ (by omega) (by omega) (by omega) (by omega) (by omega) (by omega)) ?_)
      obtain ⟨c1, c2, c3, c4, c5, c6, c7⟩ := hC j (hn2 j hj hji)
      exact ⟨c1, c2, c3, c4, c5, c7⟩
  · rw [eV _ (by omega) (by omega) (by omega) (by omega) (by omega) (by omega), eV _ (by omega) (by omega) (by omega) (by omega) (by omega) (by omega)]
    exact hT0
  · rw [eV _ (by omega) (by omega) (by omega) (by omega) (by omega) (by omega), eV _ (by omega) (by omega) (by omega) (by omega) (by omega) (by omega)]
    exact hT1
/-- behind the measuring: field 6 of the cakes and the stacks alone differ -/
def Msr (w : Nat) (V V' : gV) : Prop := ∀ x k, x ≠ w + 8 → x ≠ w + 11 → ((∀ j, j < 6 → x ≠ w + 18 + 2 * j) ∨ k ≠ 6) → V' x k = V x k
theorem Msr.rf {w : Nat} {V : gV} : Msr w V V := fun _ _ _ _ _ => rfl
theorem Msr.tr {w : Nat} {V V1 V2 : gV} (h1 : Msr w V V1) (h2 : Msr w V1 V2) : Msr w V V2 := fun x k a b c => (h2 x k a b c).trans (h1 x k a b c)
theorem Msr.row {w : Nat} {V V' : gV} (h : Msr w V V') {x : Nat} (h1 : x ≠ w + 8) (h2 : x ≠ w + 11) (h3 : ∀ j, j < 6 → x ≠ w + 18 + 2 * j) : V' x = V x := funext fun k => h x k h1 h2 (Or.inl h3)
theorem CM.msr {V V' : gV} {w : Nat} {r : rR} {L : lW} {nh nc : Nat} (h : CM V w r L nh nc) (hS : Msr w V V') : CM V' w r L nh nc := by
  obtain ⟨hL, hr, hw, hH, hC, hT0, hT1⟩ := h
  have h4 := hr.1
  have h6 := hr.2.1
  refine ⟨hL, hr, by rw [hS.row (x := w) (by omega) (by omega) (fun j _ => by omega)]; exact hw, fun k hk => ?_, fun j hj => cakeM_congr2 (fun k hk => hS _ k (by omega) (by omega) (Or.inr hk)) (hS.row (by omega) (by omega) (fun _ _ => by omega)) (hC j hj), ?_, ?_⟩
  · rw [hS.row (by omega) (by omega) (fun j _ => by omega)]
    exact hH k hk
  · rw [hS.row (by omega) (by omega) (fun j _ => by omega), hS.row (by omega) (by omega) (fun j _ => by omega)]
    exact hT0
  · rw [hS.row (by omega) (by omega) (fun j _ => by omega), hS.row (by omega) (by omega) (fun j _ => by omega)]
    exact hT1
theorem x_measure {V : gV} {c n : Nat} {v m : Int32} (h1 : 1 ≤ n) (hn : n ≤ 99) (hv : v = nI n) (hm : V c 2 = m) : fX0_measure V c v = some (gup V c 6 (thOf (V c 1) m v)) := by
  subst hv
  have e2 : (nI n : Int32) / 2 = nI (n / 2) := pk_div (d := 2) (by omega) (by decide) (by decide)
  have e3 : gmx 1 (nI n / 2) = if nI n ≤ 1 then 1 else nI n / 2 := by
    rw [e2]
    unfold gmx
    by_cases h : n ≤ 1
    · rw [if_pos (show nI n ≤ 1 from nI_le (b := 1) h (by decide)), if_neg (show ¬ (1 : Int32) < nI (n / 2) from nI_nlt (a := 1) (by omega) (by decide))]
    · rw [if_neg (show ¬ nI n ≤ 1 from fun q => h ((nI_leI (b := 1) (by omega) (by decide)).mp q))]
      by_cases h2 : n / 2 = 1
      · rw [h2]; rfl
      · rw [if_pos (show (1 : Int32) < nI (n / 2) from nI_lt (a := 1) (by omega) (by omega))]
  unfold fX0_measure thOf
  rw [e3, hm]
  simp only [gdv_ne (show ¬ (2 : Int32) = 0 by decide), gpu_eq]
  repeat' split
  all_goals first
    | rfl
    | grind
theorem x_msr_L {w : Nat} {r : rR} {L : lW} {nh nc : Nat} : ∀ (m fuel i : Nat) (V : gV), i + m = nc → m < fuel → CM V w r L nh nc → (∀ j, j < i → V (w + 18 + 2 * j) 6 = sThick L r j) → ∃ V', fX6_measureCakes_L1 w fuel V (nI i) = some V' ∧ CO V' w r L nh nc ∧ Msr w V V' := by
  intro m
  induction m with
  | zero =>
    intro fuel i V h1 h2 hO hi
    obtain ⟨fuel, rfl⟩ : ∃ f, fuel = f + 1 := ⟨fuel - 1, by omega⟩
    show ∃ V', fX6_measureCakes_L1b w _ V (nI i) = _ ∧ _
    unfold fX6_measureCakes_L1b
    rw [hO.2.2.1.2.1, if_pos (nI_le (by omega) (by have := hO.2.1.2.1; omega))]
    refine ⟨V, rfl, ?_, Msr.rf⟩
    obtain ⟨hL, hr, hw, hH, hC, hT0, hT1⟩ := hO
    refine ⟨hL, hr, hw, hH, fun j hj => ?_, hT0, hT1⟩
    obtain ⟨c1, c2, c3, c4, c5, c7⟩ := hC j hj
    exact ⟨c1, c2, c3, c4, c5, hi j (by omega), c7⟩
  | succ m ih =>
    intro fuel i V h1 h2 hO hi
    obtain ⟨fuel, rfl⟩ : ∃ f, fuel = f + 1 := ⟨fuel - 1, by omega⟩
    have h6 := hO.2.1.2.1
    obtain ⟨V1, e1, hS1⟩ := x_given0 hO.2.2.2.2.2.1 (V (w + 18 + 2 * i) 2) (V (w + 18 + 2 * i) 1) (V (w + 18 + 2 * i) 4)
    obtain ⟨c1, c2, c3, c4, c5, c7⟩ := hO.2.2.2.2.1 i (by omega)
    obtain ⟨n, n1, n2, en⟩ := (hO.1 (V (w + 18 + 2 * i) 2) (V (w + 18 + 2 * i) 1) (V (w + 18 + 2 * i) 4)).1
    have ev1 : V1 (w + 18 + 2 * i) = V (w + 18 + 2 * i) := hS1 _ (by omega) (by omega)
    show ∃ V', fX6_measureCakes_L1b w _ V (nI i) = _ ∧ _
    unfold fX6_measureCakes_L1b
    rw [hO.2.2.1.2.1, if_neg (nI_ge (by omega) (by omega)), x_cakeAt (by omega), gbr_some, e1, gbi_some, x_measure n1 n2 en rfl, gbv_some, ev1, nI_1]
    have hth : thOf (V (w + 18 + 2 * i) 1) (V (w + 18 + 2 * i) 2) (L 0 (V (w + 18 + 2 * i) 2) (V (w + 18 + 2 * i) 1) (V (w + 18 + 2 * i) 4)) = sThick L r i := by
      rw [c1, c2, c4]
      rfl
    rw [hth]
    have hM : Msr w V (gup V1 (w + 18 + 2 * i) 6 (sThick L r i)) := fun x k a b d => by
      rw [gup_ne V1 _ (fun q => by rcases d with d | d; exact d i (by omega) q.1; exact d q.2), hS1 x a b]
    obtain ⟨V2, e2, hO2, hS2⟩ := ih fuel (i + 1) _ (by omega) (by omega) (hO.msr hM) (fun j hj => by
      by_cases hji : j = i
      · subst hji; exact gup_at _ _ _ _
      · rw [gup_row V1 6 _ (show w + 18 + 2 * j ≠ w + 18 + 2 * i by omega), hS1 _ (by omega) (by omega)]
        exact hi j (by omega))
    exact ⟨V2, e2, hO2, hM.tr hS2⟩
theorem x_msr {V : gV} {w : Nat} {r : rR} {L : lW} {nh nc : Nat} (h : CM V w r L nh nc) : ∃ V', fX6_measureCakes V w = some V' ∧ CO V' w r L nh nc ∧ Msr w V V' :=
  x_msr_L nc gFu 0 V (Nat.zero_add _) (by have := h.2.1.2.1; unfold gFu; omega) h (fun _ hj => absurd hj (by omega))
theorem m_g0 {V : gV} {j : Nat} {v : Int32} (hj : j < 6) : fX8_gets V (nI j) 0 v = some (gup V 1 (16 + 13 * j + 0) v) := m_gets (k := 0) hj (by decide) rfl
theorem m_g1 {V : gV} {j : Nat} {v : Int32} (hj : j < 6) : fX8_gets V (nI j) 1 v = some (gup V 1 (16 + 13 * j + 1) v) := m_gets (k := 1) hj (by decide) rfl
theorem m_g2 {V : gV} {j : Nat} {v : Int32} (hj : j < 6) : fX8_gets V (nI j) 2 v = some (gup V 1 (16 + 13 * j + 2) v) := m_gets (k := 2) hj (by decide) rfl
theorem m_g3 {V : gV} {j : Nat} {v : Int32} (hj : j < 6) : fX8_gets V (nI j) 3 v = some (gup V 1 (16 + 13 * j + 3) v) := m_gets (k := 3) hj (by decide) rfl
theorem m_g4 {V : gV} {j : Nat} {v : Int32} (hj : j < 6) : fX8_gets V (nI j) 4 v = some (gup V 1 (16 + 13 * j + 4) v) := m_gets (k := 4) hj (by decide) rfl
theorem m_gN {V : gV} {j i : Nat} {v : Int32} (hj : j < 6) (hi : i < 8) : fX8_gets V (nI j) (5 + nI i) v = some (gup V 1 (16 + 13 * j + (5 + i)) v) := m_gets (k := 5 + i) hj (by omega) (nI_add 5 i)

/-! ===== PURE: a day ===== -/
/-- the model's row is r now; else its scratch fields alone differ -/
def Sro (V : gV) (r : rR) (V' : gV) : Prop := ∀ c j, ¬ (c = 0 ∧ 7 ≤ j ∧ j ≤ 14) → V' c j = if c = 1 then r j else V c j
theorem Sro.of {V V' : gV} (h : Scr V V') : Sro V (V 1) V' := fun c j q => by
  rw [h c j q]
  split
  · rename_i h1; rw [h1]
  · rfl
theorem Sro.row {V V' : gV} {r : rR} (h : Sro V r V') : V' 1 = r := funext fun j => (h 1 j (fun q => by omega)).trans (if_pos rfl)
theorem Sro.tr {V V1 V2 : gV} {r r2 : rR} (h1 : Sro V r V1) (h2 : Sro V1 r2 V2) : Sro V r2 V2 := fun c j q => by
  rw [h2 c j q]
  by_cases hc : c = 1
  · rw [if_pos hc, if_pos hc]
  · rw [if_neg hc, if_neg hc, h1 c j q, if_neg hc]
theorem Sro.gup (V : gV) (k : Nat) (v : Int32) : Sro V (rup (V 1) k v) (gup V 1 k v) := fun c j _ => by
  unfold Jvm.Pilot.CSoapNamesLaw_law_r7231_3c4212.gup rup
  by_cases hc : c = 1
  · subst hc
    simp
  · simp [hc]
theorem Sro.oth {V V' : gV} {r : rR} (h : Sro V r V') {c : Nat} (h0 : c ≠ 0) (h1 : c ≠ 1) : V' c = V c := funext fun j => (h c j (fun q => h0 q.1)).trans (if_neg h1)
theorem sThick_congr {L : lW} {r r' : rR} {j : Nat} (h : ∀ k, k < 4 → r' (16 + 13 * j + k) = r (16 + 13 * j + k)) : sThick L r' j = sThick L r j := by
  unfold sThick kK kM kL
  rw [h 1 (by omega), h 3 (by omega), show r' (16 + 13 * j) = r (16 + 13 * j) from h 0 (by omega)]
theorem sOut_congr {L : lW} {r r' : rR} {j : Nat} (h : ∀ k, k < 5 → r' (16 + 13 * j + k) = r (16 + 13 * j + k)) : sOut L r' j = sOut L r j := by
  unfold sOut kW
  rw [h 4 (by omega), sThick_congr (fun k hk => h k (by omega))]
theorem sShow_congr {L : lW} {r r' : rR} {j : Nat} (h : ∀ k, k < 13 → r' (16 + 13 * j + k) = r (16 + 13 * j + k)) (hl : ∃ a, a ≤ 8 ∧ kL r j = nI a) (ho : ∃ o, o ≤ 9999 ∧ sOut L r j = nI o) : sShow L r' j = sShow L r j := by
  obtain ⟨a, ha, ea⟩ := hl
  obtain ⟨o, ho, eo⟩ := ho
  unfold sShow
  rw [sOut_congr (fun k hk => h k (by omega))]
  unfold kK kM kL at *
  rw [h 1 (by omega), h 3 (by omega), show r' (16 + 13 * j) = r (16 + 13 * j) from h 0 (by omega), eo, ea]
  unfold shOf
  by_cases hl : nI o < nI a
  · have hoa : o < a := (nI_ltI (by omega) (by omega)).mp hl
    have e3 : (nI o).toNatClampNeg = o := nI_clamp (by omega)
    have e4 : (nI (o + 1)).toNatClampNeg = o + 1 := nI_clamp (by omega)
    have c3 : nI o + 1 < nI a ↔ o + 1 < a := by rw [nI_1]; exact nI_ltI (by omega) (by omega)
    have k1 : kN r' j o = kN r j o := h (5 + o) (by omega)
    simp only [c3]
    by_cases h5 : o + 1 < a
    · have k2 : kN r' j (o + 1) = kN r j (o + 1) := h (5 + (o + 1)) (by omega)
      rw [nI_1]
      grind
    · grind
  · rw [if_neg hl, if_neg hl]
theorem sWear_congr {L : lW} {r r' : rR} {j : Nat} (h : ∀ k, k < 5 → r' (16 + 13 * j + k) = r (16 + 13 * j + k)) (hh : ∀ k, k < 16 → r' k = r k) (hH : (kH r j).toNatClampNeg < 4) : sWear L r' j = sWear L r j := by
  have e1 : kH r' j = kH r j := h 2 (by omega)
  unfold sWear
  rw [e1]
  unfold kK kM sHands sWater
  rw [h 1 (by omega), show r' (16 + 13 * j) = r (16 + 13 * j) from h 0 (by omega), hh 0 (by omega), hh _ (by omega), hh _ (by omega)]
theorem sNew_congr {L : lW} {r r' : rR} {j : Nat} (h : ∀ k, k < 5 → r' (16 + 13 * j + k) = r (16 + 13 * j + k)) (hh : ∀ k, k < 16 → r' k = r k) (hH : (kH r j).toNatClampNeg < 4) : sNew L r' j = sNew L r j := by
  unfold sNew
  rw [sOut_congr h, sWear_congr h hh hH]
  unfold kL kW
  rw [h 3 (by omega), h 4 (by omega)]
theorem sDayTo_oth {L : lW} {r : rR} {k : Nat} : ∀ n, (∀ j, j < n → k ≠ 16 + 13 * j + 4) → sDayTo L r n k = r k
  | 0, _ => rfl
  | n + 1, h => (rup_ne _ _ (h n (by omega))).trans (sDayTo_oth n (fun j hj => h j (by omega)))
theorem sDayTo_at {L : lW} {r : rR} {j : Nat} : ∀ n, j < n → sDayTo L r n (16 + 13 * j + 4) = sNew L r j
  | 0, h => absurd h (by omega)
  | n + 1, h => by
    show rup (sDayTo L r n) (16 + 13 * n + 4) (sNew L r n) _ = _
    by_cases hj : j = n
    · subst hj; exact rup_at _ _ _
    · rw [rup_ne _ _ (by omega)]
      exact sDayTo_at n (by omega)
theorem cOk_congr {r r' : rR} {nh j : Nat} (h : ∀ k, k < 13 → k ≠ 4 → r' (16 + 13 * j + k) = r (16 + 13 * j + k)) (hw : ∃ a, a ≤ 9999 ∧ kW r' j = nI a) (hc : cOk r nh j) : cOk r' nh j := by
  obtain ⟨⟨a, a1, a2⟩, ⟨b, b1, b2⟩, ⟨c, c1, c2⟩, ⟨d, d1, d2, d3⟩, -⟩ := hc
  refine ⟨⟨a, a1, (h 0 (by omega) (by omega)).trans a2⟩, ⟨b, b1, (h 1 (by omega) (by omega)).trans b2⟩, ⟨c, c1, (h 2 (by omega) (by omega)).trans c2⟩, ⟨d, d1, (h 3 (by omega) (by omega)).trans d2, fun i hi => ?_⟩, hw⟩
  have e : kN r' j i = kN r j i := h (5 + i) (by omega) (by omega)
  rw [e]
  exact d3 i hi
theorem hOk_congr {r r' : rR} {h : Nat} (h1 : r' (8 + 2 * h) = r (8 + 2 * h)) (h2 : r' (8 + 2 * h + 1) = r (8 + 2 * h + 1)) (hh : hOk r h) : hOk r' h := by
  unfold hOk sHands sWater at *
  rw [h1, h2]
  exact hh
theorem rOk_dayTo {L : lW} {r : rR} {nh nc n : Nat} (hL : lOk L) (h : rOk r nh nc) (hn : n ≤ nc) : rOk (sDayTo L r n) nh nc := by
  obtain ⟨h1, h2, h3, h4, h5, h6⟩ := h
  refine ⟨h1, h2, (sDayTo_oth n (fun j hj => by omega)).trans h3, (sDayTo_oth n (fun j hj => by omega)).trans h4, fun k hk => hOk_congr (sDayTo_oth n (fun j hj => by omega)) (sDayTo_oth n (fun j hj => by omega)) (h5 k hk), fun j hj => ?_⟩
  refine cOk_congr (fun k hk hk4 => sDayTo_oth n (fun i hi => by omega)) ?_ (h6 j hj)
  unfold kW
  by_cases hjn : j < n
  · rw [sDayTo_at n hjn]
    exact sNew_ok hL h1 (h6 j hj) h5
  · rw [sDayTo_oth n (fun i hi => by omega)]
    exact (h6 j hj).2.2.2.2
theorem ML_dayTo {L L2 : lW} {r : rR} {n : Nat} (hn : n ≤ 6) (h : ML r L2) : ML (sDayTo L r n) L2 := h.congr (sDayTo_oth n (fun j hj => by omega)) (sDayTo_oth n (fun j hj => by omega)) (fun i h1 h2 => sDayTo_oth n (fun j hj => by omega))
theorem rOk_day {L : lW} {r : rR} {nh nc : Nat} (hL : lOk L) (h : rOk r nh nc) : rOk (sDay L r nc) nh nc := by
  have h0 := rOk_dayTo hL h (Nat.le_refl nc)
  have hne : ∀ k, k ≠ 0 → sDay L r nc k = sDayTo L r nc k := fun k hk => rup_ne _ _ hk
  obtain ⟨h1, h2, h3, h4, h5, h6⟩ := h0
  refine ⟨h1, h2, (hne 2 (by omega)).trans h3, (hne 3 (by omega)).trans h4, fun k hk => hOk_congr (hne _ (by omega)) (hne _ (by omega)) (h5 k hk), fun j hj => cOk_congr (fun k hk _ => hne _ (by omega)) ?_ (h6 j hj)⟩
  unfold kW
  rw [hne _ (by omega)]
  exact (h6 j hj).2.2.2.2
theorem ML_day {L L2 : lW} {r : rR} {nc : Nat} (hn : nc ≤ 6) (h : ML r L2) : ML (sDay L r nc) L2 := (ML_dayTo hn h).congr (rup_ne _ _ (by omega)) (rup_ne _ _ (by omega)) (fun i h1 h2 => rup_ne _ _ (by omega))
theorem MO_day {V V' : gV} {L : lW} {nh nc : Nat} (h : MO V L nh nc) (hV : V' 1 = sDay L (V 1) nc) : MO V' L nh nc := by
  unfold MO
  rw [hV]
  exact ⟨ML_day h.2.2.2.1 h.1, h.2.1, rOk_day h.2.1 h.2.2⟩
theorem m_day_L {L : lW} {nh nc : Nat} {r : rR} (hL : lOk L) (hr : rOk r nh nc) (hM : ML r L) : ∀ (m fuel i : Nat) (V : gV), i + m = nc → m < fuel → V 1 = sDayTo L r i → ∃ V', fX8_oneDay_L1 fuel V (nI i) = some V' ∧ Sro V (sDay L r nc) V' := by
  intro m
  have h6 := hr.2.1
  induction m with
  | zero =>
    intro fuel i V h1 h2 hV
    obtain ⟨fuel, rfl⟩ : ∃ f, fuel = f + 1 := ⟨fuel - 1, by omega⟩
    have hi : i = nc := by omega
    subst hi
    show ∃ V', fX8_oneDay_L1b _ V (nI i) = _ ∧ _
    unfold fX8_oneDay_L1b
    have hd := rOk_dayTo hL hr (Nat.le_refl i)
    rw [r_k3, hV, hd.2.2.2.1, if_pos (nI_le (by omega) (by omega)), r_k0, w_k0]
    refine ⟨_, rfl, ?_⟩
    have e : sDay L r i = rup (V 1) 0 (V 1 0 + 1) := by
      unfold sDay
      rw [hV, show sDayTo L r i 0 = r 0 from sDayTo_oth i (fun j hj => by omega)]
    rw [e]
    exact Sro.gup V 0 _
  | succ m ih =>
    intro fuel i V h1 h2 hV
    obtain ⟨fuel, rfl⟩ : ∃ f, fuel = f + 1 := ⟨fuel - 1, by omega⟩
    have hd := rOk_dayTo (n := i) hL hr (by omega)
    have hO : MO V L nh nc := by
      unfold MO
      rw [hV]
      exact ⟨ML_dayTo (by omega) hM, hL, hd⟩
    obtain ⟨V1, e1, hS1⟩ := m_isGone hO.1 hO.2.1 (hO.2.2.2.2.2.2.2 i (by omega)) (show i < 6 by omega)
    have er : V1 1 = V 1 := hS1.row (by decide)
    obtain ⟨V2, e2, hS2⟩ := m_wears (hO.scr hS1) (show i < nc by omega)
    have er2 : V2 1 = V 1 := (hS2.row (by decide)).trans er
    have hHi : (kH r i).toNatClampNeg < 4 := by
      obtain ⟨c, c1, c2⟩ := (hr.2.2.2.2.2 i (by omega)).2.2.1
      rw [c2, nI_clamp (by have := hr.1; omega)]
      have := hr.1
      omega
    have hnew : sNew L (V 1) i = sNew L r i := by
      rw [hV]
      exact sNew_congr (fun k hk => sDayTo_oth i (fun j hj => by omega)) (fun k hk => sDayTo_oth i (fun j hj => by omega)) hHi
    show ∃ V', fX8_oneDay_L1b _ V (nI i) = _ ∧ _
    unfold fX8_oneDay_L1b
    rw [r_k3, hO.2.2.2.2.2.1, if_neg (nI_ge (by omega) (by omega)), e1, gbi_some, nI_1, m_its4 (by omega), gbi_some, e2, gbi_some, m_held, gbi_some, m_gets (k := 4) (by omega) (by omega) (show (4 : Int32) = nI 4 from rfl), gbv_some, er]
    by_cases hg : sOut L (V 1) i < kL (V 1) i
    · rw [if_pos hg, if_pos rfl]
      have hv : (if (0 : Int32) ≤ kW (V 1) i + sWear L (V 1) i then (if kW (V 1) i + sWear L (V 1) i ≤ 9999 then kW (V 1) i + sWear L (V 1) i else 9999) else 0) = sNew L r i := by
        rw [← hnew]
        unfold sNew sHeld
        rw [if_pos hg]
      rw [hv]
      have hS3 : Sro V (rup (V 1) (16 + 13 * i + 4) (sNew L r i)) (gup V2 1 (16 + 13 * i + 4) (sNew L r i)) := by
        have := (Sro.of (hS1.tr hS2)).tr (Sro.gup V2 (16 + 13 * i + 4) (sNew L r i))
        rw [er2] at this
        exact this
      obtain ⟨V3, e3, hS4⟩ := ih fuel (i + 1) (gup V2 1 (16 + 13 * i + 4) (sNew L r i)) (by omega) (by omega) (by rw [hS3.row, hV]; rfl)
      exact ⟨V3, e3, hS3.tr hS4⟩
    · rw [if_neg hg, if_neg (by decide)]
      have hsame : sDayTo L r (i + 1) = sDayTo L r i := by
        funext k
        show rup (sDayTo L r i) (16 + 13 * i + 4) (sNew L r i) k = _
        by_cases hk : k = 16 + 13 * i + 4
        · subst hk
          rw [rup_at, ← hnew]
          unfold sNew
          rw [if_neg hg]
          unfold kW
          rw [hV]
        · exact rup_ne _ _ hk
      obtain ⟨V3, e3, hS4⟩ := ih fuel (i + 1) V1 (by omega) (by omega) (by rw [er, hV, hsame])
      exact ⟨V3, e3, (Sro.of hS1).tr hS4⟩
theorem m_day {V : gV} {L : lW} {nh nc : Nat} (hO : MO V L nh nc) : ∃ V', fX8_oneDay V = some V' ∧ Sro V (sDay L (V 1) nc) V' :=
  m_day_L hO.2.1 hO.2.2 hO.1 nc gFu 0 V (Nat.zero_add _) (by have := hO.2.2.2.1; unfold gFu; omega) rfl

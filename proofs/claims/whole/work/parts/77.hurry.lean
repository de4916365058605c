/-! ===== PURE: sets as bits; hurry ===== -/
theorem gfold_congr {α : Type} {f g : α → Nat → α} : ∀ (m i : Nat) (a : α), (∀ s c, i ≤ c → c < i + m → f s c = g s c) → gfold f m i a = gfold g m i a
  | 0, _, _, _ => rfl
  | m + 1, i, a, h => by
    unfold gfold
    rw [h a i (by omega) (by omega)]
    exact gfold_congr m (i + 1) _ (fun s c h1 h2 => h s c (by omega) (by omega))
theorem hb4 : ∀ b0 b1 b2 b3 : Bool, ∀ nh, nh < 5 → (∀ h, h < nh → ((gfold (fun (s : Int32) k => s ||| (if [b0, b1, b2, b3].getD k false = true then 1 <<< (nI k &&& 31) else 0)) nh 0 0 &&& (1 <<< (nI h &&& 31)) = 0) ↔ [b0, b1, b2, b3].getD h false = false)) ∧ ((gfold (fun (s : Int32) k => s ||| (if [b0, b1, b2, b3].getD k false = true then 1 <<< (nI k &&& 31) else 0)) nh 0 0 &&& 15 = 0) ↔ ∀ h, h < nh → [b0, b1, b2, b3].getD h false = false) := by decide +kernel
theorem bits4 (P : Nat → Prop) [DecidablePred P] {nh : Nat} (h4 : nh ≤ 4) : (∀ h, h < nh → ((gfold (fun (s : Int32) k => s ||| (if P k then 1 <<< (nI k &&& 31) else 0)) nh 0 0 &&& (1 <<< (nI h &&& 31)) = 0) ↔ ¬ P h)) ∧ ((gfold (fun (s : Int32) k => s ||| (if P k then 1 <<< (nI k &&& 31) else 0)) nh 0 0 &&& 15 = 0) ↔ ∀ h, h < nh → ¬ P h) := by
  have d : ∀ h, h < 4 → ([decide (P 0), decide (P 1), decide (P 2), decide (P 3)].getD h false = false ↔ ¬ P h) := fun h hh => by
    have hc : h = 0 ∨ h = 1 ∨ h = 2 ∨ h = 3 := by omega
    rcases hc with rfl | rfl | rfl | rfl <;> exact decide_eq_false_iff_not
  have e : gfold (fun (s : Int32) k => s ||| (if P k then 1 <<< (nI k &&& 31) else 0)) nh 0 0 = gfold (fun (s : Int32) k => s ||| (if [decide (P 0), decide (P 1), decide (P 2), decide (P 3)].getD k false = true then 1 <<< (nI k &&& 31) else 0)) nh 0 0 := gfold_congr nh 0 0 (fun s c _ hc => by
    have dc := d c (by omega)
    by_cases hp : P c
    · rw [if_pos hp, if_pos (by cases hq : [decide (P 0), decide (P 1), decide (P 2), decide (P 3)].getD c false with | true => rfl | false => exact absurd hp (dc.mp hq))]
    · rw [if_neg hp, if_neg (by rw [dc.mpr hp]; decide)])
  have k := hb4 (decide (P 0)) (decide (P 1)) (decide (P 2)) (decide (P 3)) nh (by omega)
  rw [e]
  exact ⟨fun h hh => (k.1 h hh).trans (d h (by omega)), k.2.trans ⟨fun q h hh => (d h (by omega)).mp (q h hh), fun q h hh => (d h (by omega)).mpr (q h hh)⟩⟩
theorem houses_bit {L : lW} {r : rR} {nh nc h : Nat} {g : Int32} (h4 : nh ≤ 4) (hh : h < nh) : sHouses L r nh nc g &&& (1 <<< (nI h &&& 31)) = 0 ↔ ¬ hasB (sGuests L r nc (nI h)) g :=
  (bits4 (fun k => hasB (sGuests L r nc (nI k)) g) h4).1 h hh
theorem houses_15 {L : lW} {r : rR} {nh nc : Nat} {g : Int32} (h4 : nh ≤ 4) : sHouses L r nh nc g &&& 15 = 0 ↔ ∀ h, h < nh → ¬ hasB (sGuests L r nc (nI h)) g :=
  (bits4 (fun k => hasB (sGuests L r nc (nI k)) g) h4).2
/-- whether a guest is in some of a set of houses on some of m days: 1 -/
def sSoon (L : lW) (nh nc : Nat) (g mask : Int32) : Nat → rR → Int32
  | 0, _ => 0
  | m + 1, r => if sHouses L r nh nc g &&& mask = 0 then sSoon L nh nc g mask m (sDay L r nc) else 1
theorem sSoon_01 {L : lW} {nh nc : Nat} {g mask : Int32} : ∀ (m : Nat) (r : rR), sSoon L nh nc g mask m r = 0 ∨ sSoon L nh nc g mask m r = 1
  | 0, _ => Or.inl rfl
  | m + 1, r => by
    unfold sSoon
    split
    · exact sSoon_01 m _
    · exact Or.inr rfl
theorem m_soon_L {n : Nat} {L : lW} {nh nc : Nat} {g mask : Int32} {VM : gV} (hn : n ≤ 100) : ∀ (m f k : Nat) (V : gV), k + m = n → m + 1 < f → MO V L nh nc → Thk VM V → ∃ V', Thk VM V' ∧ (∀ j, 264 ≤ j → V' 1 j = V 1 j) ∧ fX8_isInSoon_L1 g mask (nI n) f V 0 (nI k) = some (sSoon L nh nc g mask m (V 1), V') := by
  intro m
  induction m with
  | zero =>
    intro f k V h1 h2 hM hT
    obtain ⟨f, rfl⟩ : ∃ f', f = f' + 1 := ⟨f - 1, by omega⟩
    refine ⟨V, hT, fun _ _ => rfl, ?_⟩
    show fX8_isInSoon_L1b _ _ _ _ V 0 (nI k) = _
    unfold fX8_isInSoon_L1b
    rw [if_pos (nI_le (by omega) (by omega)), gzb_0]
    rfl
  | succ m ih =>
    intro f k V h1 h2 hM hT
    obtain ⟨f, rfl⟩ : ∃ f', f = f' + 1 := ⟨f - 1, by omega⟩
    show ∃ V', _ ∧ _ ∧ fX8_isInSoon_L1b _ _ _ _ V 0 (nI k) = _
    unfold fX8_isInSoon_L1b sSoon
    obtain ⟨V1, e1, hS1⟩ := m_houses hM g
    obtain ⟨V2, e2, hS2⟩ := m_day (hM.scr hS1)
    have r2 : V2 1 = sDay L (V 1) nc := by rw [hS2.row, hS1.row (by decide)]
    have h6 := hM.2.2.2.1
    have t2 : ∀ j, 264 ≤ j → V2 1 j = V 1 j := fun j hj => by rw [r2]; exact sDay_oth (by omega) (fun _ _ => by omega)
    rw [if_neg (nI_ge (by omega) (by omega)), if_pos rfl, e1, gbi_some]
    by_cases hq : sHouses L (V 1) nh nc g &&& mask = 0
    · rw [if_pos hq, if_pos hq, e2, gbv_some, nI_1]
      obtain ⟨V3, hT3, t3, e3⟩ := ih f (k + 1) V2 (by omega) (by omega) (MO_day hM r2) ((hT.scr hS1).sro hS2)
      rw [r2] at e3
      exact ⟨V3, hT3, fun j hj => (t3 j hj).trans (t2 j hj), e3⟩
    · rw [if_neg hq, if_neg hq, e2, gbv_some]
      obtain ⟨f, rfl⟩ : ∃ f', f = f' + 1 := ⟨f - 1, by omega⟩
      refine ⟨V2, (hT.scr hS1).sro hS2, t2, ?_⟩
      show fX8_isInSoon_L1b _ _ _ _ V2 1 _ = _
      unfold fX8_isInSoon_L1b
      rw [if_neg (show ¬ (1 : Int32) = 0 by decide)]
      simp only [gzb_1, ite_self]
theorem m_soon {n : Nat} {L : lW} {nh nc : Nat} {g mask : Int32} {VM V : gV} (hn : n ≤ 100) (hM : MO V L nh nc) (hT : Thk VM V) : ∃ V', Thk VM V' ∧ (∀ j, 264 ≤ j → V' 1 j = V 1 j) ∧ fX8_isInSoon V g mask (nI n) = some (sSoon L nh nc g mask n (V 1), V') :=
  m_soon_L hn n gFu 0 V (by omega) (by unfold gFu; omega) hM hT
theorem soon_first {L : lW} {nh nc h : Nat} {g : Int32} (h4 : nh ≤ 4) (hh : h < nh) : ∀ (m i : Nat) (r : rR), (sFirst L nc (nI h) g m i r = none ∧ sSoon L nh nc g (1 <<< (nI h &&& 31)) m r = 0) ∨ (∃ k, k < i + m ∧ sFirst L nc (nI h) g m i r = some k ∧ sSoon L nh nc g (1 <<< (nI h &&& 31)) m r = 1)
  | 0, _, _ => Or.inl ⟨rfl, rfl⟩
  | m + 1, i, r => by
    unfold sFirst sSoon
    by_cases hb : hasB (sGuests L r nc (nI h)) g
    · rw [if_pos hb, if_neg (fun q => (houses_bit h4 hh).mp q hb)]
      exact Or.inr ⟨i, by omega, rfl, rfl⟩
    · rw [if_neg hb, if_pos ((houses_bit h4 hh).mpr hb)]
      rcases soon_first h4 hh m (i + 1) (sDay L r nc) with q | ⟨k, q1, q2⟩
      · exact Or.inl q
      · exact Or.inr ⟨k, by omega, q2⟩
theorem pr_hurry_L {i g h n : Nat} {L : lW} {nh nc : Nat} (hg : g < 10) (hh : h < nh) (hn : n ≤ 30) : ∀ (m f f2 v : Nat) (VX V : gV), v + m = 10 → m < f → m + 1 < f2 → RW i VX V L nh nc → Thk V V → gEq (Rel0 (i + 6)) (fX7_hurry_L1 (nI g) (nI h) (nI n) f VX (nI v)) (fX8_hurry_L1 (nI g) (nI h) (nI n) f2 V (nI v) 0) := by
  intro m
  induction m with
  | zero =>
    intro f f2 v VX V h1 h2 h3 hR hT
    obtain ⟨f, rfl⟩ : ∃ f', f = f' + 1 := ⟨f - 1, by omega⟩
    obtain ⟨f2, rfl⟩ : ∃ f', f2 = f' + 1 := ⟨f2 - 1, by omega⟩
    obtain rfl : v = 10 := by omega
    show gEq _ (fX7_hurry_L1b _ _ _ _ VX (nI 10)) (fX8_hurry_L1b _ _ _ _ V (nI 10) 0)
    unfold fX7_hurry_L1b fX8_hurry_L1b
    simp only [Nat.reduceAdd, gbi_some, gbr_some, gbv_some, gpu_eq, glt_eq, gjn_eq, r1_0, r1_1, r1_2, r1_3, r1_4, r1_5, w1_0, w1_1, w1_2, w1_3, w1_4, w1_5]
    rw [if_pos (by decide), if_pos (by decide), gTT]
    exact hR.e2
  | succ m ih =>
    intro f f2 v VX V h1 h2 h3 hR hT
    obtain ⟨f, rfl⟩ : ∃ f', f = f' + 1 := ⟨f - 1, by omega⟩
    obtain ⟨f2, rfl⟩ : ∃ f', f2 = f' + 1 := ⟨f2 - 1, by omega⟩
    have h4 := hR.h4
    show gEq _ (fX7_hurry_L1b _ _ _ _ VX (nI v)) (fX8_hurry_L1b _ _ _ _ V (nI v) 0)
    unfold fX7_hurry_L1b fX8_hurry_L1b
    simp only [Nat.reduceAdd, gbi_some, gbr_some, gbv_some, gpu_eq, glt_eq, gjn_eq, r1_0, r1_1, r1_2, r1_3, r1_4, r1_5, w1_0, w1_1, w1_2, w1_3, w1_4, w1_5]
    obtain ⟨V1, e1, hC1, hO1, -, -⟩ := hR.think
    obtain ⟨a, ha, ea⟩ := hR.1.2.2.1 h hh
    have ex : V1 (61 + 14 + 1 * h) 0 = nI a := (hC1.2.2.2.1 h hh).1.trans ea
    have hC2 := hC1.setHands (h := h) (v := a + v) hh (by omega)
    obtain ⟨V3, e3, hD3⟩ := x_first (g := g) (n := n) (h := nI h) hg (by omega) hC2
    have hM2 : MO (gup V 1 (8 + 2 * h) (nI (a + v))) L nh nc := hR.mo.house (by omega) hC2.2.1
    obtain ⟨W3, hT3, -, q3⟩ := m_soon (n := n) (g := nI g) (mask := 1 <<< (nI h &&& 31)) (VM := V) (by omega) hM2 (hT.row (fun c hc => gup_row _ _ _ hc))
    have hR4 : RW i V3 (mvV W3 3 1) L nh nc := hT3.back (hR.o61 ((hO1.tr (O61.gup (by omega) (by omega) _ _)).tr (O61.day hD3)))
    rw [if_neg (show ¬ 9 < nI v from nI_nlt (a := 9) (by omega) (by decide)), if_neg (show ¬ 9 < nI v from nI_nlt (a := 9) (by omega) (by decide)), gTT, e1, gbv_some, x_houseAt (by omega), gbr_some, ex, pI_add, e3, gbi_some, r1_at (8 + 2 * h) (m_hx h) (by omega), w1_at (8 + 2 * h) (m_hx h) (by omega), show V 1 (8 + 2 * h) = nI a from ea, pI_add, q3, gbi_some, m_move (by decide), gbv_some, gup_r, nI_1]
    rcases soon_first (L := L) (nc := nc) (g := nI g) h4 hh n 0 (rup (V 1) (8 + 2 * h) (nI (a + v))) with ⟨q1, q2⟩ | ⟨k, hk, q1, q2⟩
    · rw [q1, q2, show fI none = -1 from rfl, if_pos (by decide), g00]
      exact ih f f2 (v + 1) V3 (mvV W3 3 1) (by omega) (by omega) (by omega) hR4 hT3.again
    · rw [q1, q2, show fI (some k) = nI k from rfl, if_neg (nI_pos (by omega)), g10]
      obtain ⟨f2, rfl⟩ : ∃ f', f2 = f' + 1 := ⟨f2 - 1, by omega⟩
      show gEq _ _ (fX8_hurry_L1b _ _ _ _ (mvV W3 3 1) (nI v + 0) 1)
      rw [show nI v + 0 = nI v from Int32.add_zero _]
      unfold fX8_hurry_L1b
      simp only [gjn_eq, g10, ite_self]
      exact hR4.done
theorem pr_hurry {i : Nat} {VX VM : gV} {L : lW} {nh nc : Nat} (hR : RW i VX VM L nh nc) (a b c : Int32) : gEq (Rel0 (i + 6)) (fX7_hurry VX a b c) (fX8_hurry VM a b c) := by
  have h4 := hR.h4
  unfold fX7_hurry fX8_hurry
  simp only [Nat.reduceAdd, gbi_some, gbr_some, gbv_some, gpu_eq, glt_eq, gjn_eq, r1_0, r1_1, r1_2, r1_3, r1_4, r1_5, w1_0, w1_1, w1_2, w1_3, w1_4, w1_5]
  rw [d_isGuest, dm_isGuest]
  by_cases ha : 0 ≤ a ∧ a ≤ 9
  · rw [if_pos ha, if_pos ha, g10, g10, d_isHouse hR.nhX, dm_isHouse hR.nhM]
    by_cases hb : 0 ≤ b ∧ b ≤ nI nh - 1
    · rw [if_pos hb, if_pos hb, g10, g10, d_within, d_in]
      by_cases hc : 0 ≤ c ∧ c ≤ 30
      · rw [if_pos hc, if_pos hc, g10, g10, m_move (by decide), gbv_some]
        obtain ⟨g, hg, rfl⟩ := rngc (n := 9) (by decide) ha
        obtain ⟨h, hh, rfl⟩ := rng (by omega) hb
        obtain ⟨n, hn, rfl⟩ := rngc (n := 30) (by decide) hc
        exact pr_hurry_L (by omega) hh hn 10 gFu gFu 0 VX (mvV VM 1 3) (by omega) (by unfold gFu; omega) (by unfold gFu; omega) hR.mvT Thk.start
      · rw [if_neg hc, if_neg hc, g00, g00]
        exact hR.e1
    · rw [if_neg hb, if_neg hb, g00, g00]
      exact hR.e1
  · rw [if_neg ha, if_neg ha, g00, g00]
    exact hR.e1

/-! ===== PURE: the cakes that show somebody; fits ===== -/
theorem hb6 : ∀ b0 b1 b2 b3 b4 b5 : Bool, ∀ nc, nc < 7 → ((gfold (fun (s : Int32) k => s ||| (if [b0, b1, b2, b3, b4, b5].getD k false = true then 1 <<< (nI k &&& 31) else 0)) nc 0 0 = 0) ↔ ∀ h, h < nc → [b0, b1, b2, b3, b4, b5].getD h false = false) ∧ ∀ s, s < 2 ^ nc → (nI s &&& gfold (fun (s : Int32) k => s ||| (if [b0, b1, b2, b3, b4, b5].getD k false = true then 1 <<< (nI k &&& 31) else 0)) nc 0 0 = gfold (fun (s : Int32) k => s &&& (if [b0, b1, b2, b3, b4, b5].getD k false = true then (-1 : Int32) else ((1 : Int32) <<< (nI k &&& 31)) ^^^ (-1))) nc 0 (nI s)) := by decide +kernel
theorem hb6n : ∀ b0 b1 b2 b3 b4 b5 : Bool, ∀ nc, nc < 7 → ∃ t, t < 64 ∧ gfold (fun (s : Int32) k => s ||| (if [b0, b1, b2, b3, b4, b5].getD k false = true then 1 <<< (nI k &&& 31) else 0)) nc 0 0 = nI t := by decide +kernel
theorem bits6 (P : Nat → Prop) [DecidablePred P] {nc : Nat} (h6 : nc ≤ 6) : ((gfold (fun (s : Int32) k => s ||| (if P k then 1 <<< (nI k &&& 31) else 0)) nc 0 0 = 0) ↔ ∀ h, h < nc → ¬ P h) ∧ (∀ s, s < 2 ^ nc → (nI s &&& gfold (fun (s : Int32) k => s ||| (if P k then 1 <<< (nI k &&& 31) else 0)) nc 0 0 = gfold (fun (s : Int32) k => s &&& (if P k then (-1 : Int32) else ((1 : Int32) <<< (nI k &&& 31)) ^^^ (-1))) nc 0 (nI s))) ∧ ∃ t, t < 64 ∧ gfold (fun (s : Int32) k => s ||| (if P k then 1 <<< (nI k &&& 31) else 0)) nc 0 0 = nI t := by
  have d : ∀ h, h < 6 → ([decide (P 0), decide (P 1), decide (P 2), decide (P 3), decide (P 4), decide (P 5)].getD h false = false ↔ ¬ P h) := fun h hh => by
    have hc : h = 0 ∨ h = 1 ∨ h = 2 ∨ h = 3 ∨ h = 4 ∨ h = 5 := by omega
    rcases hc with rfl | rfl | rfl | rfl | rfl | rfl <;> exact decide_eq_false_iff_not
  have hif : ∀ (c : Nat) (A B : Int32), c < 6 → (if P c then A else B) = if [decide (P 0), decide (P 1), decide (P 2), decide (P 3), decide (P 4), decide (P 5)].getD c false = true then A else B := fun c A B hc => by
    have dc := d c hc
    by_cases hp : P c
    · rw [if_pos hp, if_pos (by cases hq : [decide (P 0), decide (P 1), decide (P 2), decide (P 3), decide (P 4), decide (P 5)].getD c false with | true => rfl | false => exact absurd hp (dc.mp hq))]
    · rw [if_neg hp, if_neg (by rw [dc.mpr hp]; decide)]
  have e : gfold (fun (s : Int32) k => s ||| (if P k then 1 <<< (nI k &&& 31) else 0)) nc 0 0 = gfold (fun (s : Int32) k => s ||| (if [decide (P 0), decide (P 1), decide (P 2), decide (P 3), decide (P 4), decide (P 5)].getD k false = true then 1 <<< (nI k &&& 31) else 0)) nc 0 0 := gfold_congr nc 0 0 (fun s c _ hc => by rw [hif c _ _ (by omega)])
  have e2 : ∀ s, gfold (fun (s : Int32) k => s &&& (if P k then (-1 : Int32) else ((1 : Int32) <<< (nI k &&& 31)) ^^^ (-1))) nc 0 s = gfold (fun (s : Int32) k => s &&& (if [decide (P 0), decide (P 1), decide (P 2), decide (P 3), decide (P 4), decide (P 5)].getD k false = true then (-1 : Int32) else ((1 : Int32) <<< (nI k &&& 31)) ^^^ (-1))) nc 0 s := fun s => gfold_congr nc 0 s (fun s c _ hc => by rw [hif c _ _ (by omega)])
  have k := hb6 (decide (P 0)) (decide (P 1)) (decide (P 2)) (decide (P 3)) (decide (P 4)) (decide (P 5)) nc (by omega)
  have k2 := hb6n (decide (P 0)) (decide (P 1)) (decide (P 2)) (decide (P 3)) (decide (P 4)) (decide (P 5)) nc (by omega)
  rw [e]
  refine ⟨k.1.trans ⟨fun q h hh => (d h (by omega)).mp (q h hh), fun q h hh => (d h (by omega)).mpr (q h hh)⟩, fun s hs => ?_, k2⟩
  rw [e2]
  exact k.2 s hs
def sShowing (L : lW) (r : rR) (nc : Nat) (g : Int32) : Int32 := gfold (fun s c => s ||| (if sShow L r c = g then 1 <<< (nI c &&& 31) else 0)) nc 0 0
theorem x_showing_L {V : gV} {w : Nat} {r : rR} {L : lW} {nh nc : Nat} {g : Int32} (hO : CO V w r L nh nc) : ∀ (m fuel i : Nat) (s : Int32), i + m = nc → m < fuel → fX6_cakesShowing_L1 w g fuel V s (nI i) = some (gfold (fun s c => s ||| (if sShow L r c = g then 1 <<< (nI c &&& 31) else 0)) m i s, V) := by
  intro m
  have h6 := hO.2.1.2.1
  induction m with
  | zero =>
    intro fuel i s h1 h2
    obtain ⟨fuel, rfl⟩ : ∃ f, fuel = f + 1 := ⟨fuel - 1, by omega⟩
    show fX6_cakesShowing_L1b w g _ V s (nI i) = _
    unfold fX6_cakesShowing_L1b
    rw [hO.2.2.1.2.1, if_pos (nI_le (by omega) (by omega))]
    rfl
  | succ m ih =>
    intro fuel i s h1 h2
    obtain ⟨fuel, rfl⟩ : ∃ f, fuel = f + 1 := ⟨fuel - 1, by omega⟩
    show fX6_cakesShowing_L1b w g _ V s (nI i) = _
    unfold fX6_cakesShowing_L1b
    rw [hO.2.2.1.2.1, if_neg (nI_ge (by omega) (by omega)), x_cakeAt (by omega), gbr_some, hO.shows (by omega), gbi_some, nI_1]
    show _ = some (gfold _ m (i + 1) (s ||| (if sShow L r i = g then 1 <<< (nI i &&& 31) else 0)), V)
    rw [← ih fuel (i + 1) _ (by omega) (by omega)]
    by_cases hh : sShow L r i = g
    · rw [if_pos hh, if_pos hh, glt_eq]
    · rw [if_neg hh, if_neg hh, Int32.or_zero]
theorem x_showing {V : gV} {w : Nat} {r : rR} {L : lW} {nh nc : Nat} (hO : CO V w r L nh nc) (g : Int32) : fX6_cakesShowing V w g = some (sShowing L r nc g, V) :=
  x_showing_L hO nc gFu 0 0 (Nat.zero_add _) (by have := hO.2.1.2.1; unfold gFu; omega)
theorem showing_0 {L : lW} {r : rR} {nc : Nat} {g : Int32} (h6 : nc ≤ 6) : sShowing L r nc g = 0 ↔ ∀ c, c < nc → ¬ sShow L r c = g := (bits6 (fun c => sShow L r c = g) h6).1
def sFits (L : lW) (nc : Nat) (q : Nat → Int32) : Nat → Nat → rR → Int32 → Int32
  | 0, _, _, s => s
  | m + 1, k, r, s => sFits L nc q m (k + 1) (sDay L r nc) (s &&& sShowing L r nc (q k))
theorem sFits_0 {L : lW} {nc : Nat} {q : Nat → Int32} : ∀ (m k : Nat) (r : rR), sFits L nc q m k r 0 = 0
  | 0, _, _ => rfl
  | m + 1, k, r => by
    unfold sFits
    rw [Int32.zero_and]
    exact sFits_0 m (k + 1) _
theorem sFits_congr {L : lW} {nc : Nat} {q q' : Nat → Int32} : ∀ (m k : Nat) (r : rR) (s : Int32), (∀ j, k ≤ j → j < k + m → q j = q' j) → sFits L nc q m k r s = sFits L nc q' m k r s
  | 0, _, _, _, _ => rfl
  | m + 1, k, r, s, h => by
    unfold sFits
    rw [h k (by omega) (by omega), sFits_congr m (k + 1) _ _ (fun j a b => h j (by omega) (by omega))]
theorem x_fits_L {s n : Nat} {L : lW} {nh nc : Nat} (hs : s < 4) (hn : n ≤ 40) : ∀ (m f k : Nat) (V : gV) (r : rR) (x : Int32), k + m = n → m < f → CO V 61 r L nh nc → V (104 + 2 * s) 2 = nI n → ∃ V', fX7_fits_L1 (104 + 2 * s) f V x (nI k) = some (sFits L nc (V (104 + 2 * s + 1)) m k r x, V') ∧ O61 V V' := by
  intro m
  induction m with
  | zero =>
    intro f k V r x h1 h2 hC h2s
    obtain ⟨f, rfl⟩ : ∃ f', f = f' + 1 := ⟨f - 1, by omega⟩
    refine ⟨V, ?_, O61.rf⟩
    show fX7_fits_L1b _ _ V x (nI k) = _
    unfold fX7_fits_L1b
    rw [h2s, if_pos (nI_le (by omega) (by omega))]
    rfl
  | succ m ih =>
    intro f k V r x h1 h2 hC h2s
    obtain ⟨f, rfl⟩ : ∃ f', f = f' + 1 := ⟨f - 1, by omega⟩
    show ∃ V', fX7_fits_L1b _ _ V x (nI k) = _ ∧ _
    unfold fX7_fits_L1b fX3_numberAt
    simp only [Nat.reduceAdd, gbi_some, gbr_some, gbv_some, gpu_eq, glt_eq, gjn_eq, r1_0, r1_1, r1_2, r1_3, r1_4, r1_5, w1_0, w1_1, w1_2, w1_3, w1_4, w1_5]
    rw [h2s, if_neg (nI_ge (by omega) (by omega))]
    by_cases h0 : x = 0
    · subst h0
      rw [if_pos rfl, sFits_0]
      exact ⟨V, rfl, O61.rf⟩
    · obtain ⟨V1, e1, hC1, hD1⟩ := x_day hC
      have hO1 := O61.day hD1
      rw [if_neg h0, eX_at k rfl (by omega) (by decide), gbi_some, gbi_some, x_showing hC, gbi_some, e1, gbv_some, nI_1]
      obtain ⟨V2, e2, hO2⟩ := ih f (k + 1) V1 _ (x &&& sShowing L r nc (V (104 + 2 * s + 1) k)) (by omega) (by omega) hC1 (by rw [hO1 _ (by omega)]; exact h2s)
      rw [hO1 _ (by omega)] at e2
      exact ⟨V2, e2, hO1.tr hO2⟩
theorem m_fits2_L {s k : Nat} {x11 : Int32} {L : lW} {nh nc : Nat} {B : gV → Int32 → Int32 → Option (Int32 × gV)} (hs : s < 4) (hk : k < 40) : ∀ (m f c : Nat) (V : gV) (x : Int32), c + m = nc → m < f → MO V L nh nc → ∃ V', Scr V V' ∧ fX8_fits_L2 (nI s) (nI k) B f V x (nI c) = gbv (fX8_oneDay V') (fun V2 => B V2 (gfold (fun (s' : Int32) c => s' &&& (if sShow L (V 1) c = V 8 (40 * s + k) then (-1 : Int32) else ((1 : Int32) <<< (nI c &&& 31)) ^^^ (-1))) m c x) (nI k + 1)) := by
  intro m
  induction m with
  | zero =>
    intro f c V x h1 h2 hM
    have h6 := hM.2.2.2.1
    obtain ⟨f, rfl⟩ : ∃ f', f = f' + 1 := ⟨f - 1, by omega⟩
    refine ⟨V, Scr.rf, ?_⟩
    show fX8_fits_L2b _ _ _ _ V x (nI c) = _
    unfold fX8_fits_L2b
    simp only [Nat.reduceAdd, gbi_some, gbr_some, gbv_some, gpu_eq, glt_eq, gjn_eq, r1_0, r1_1, r1_2, r1_3, r1_4, r1_5, w1_0, w1_1, w1_2, w1_3, w1_4, w1_5]
    rw [hM.2.2.2.2.2.1, if_pos (nI_le (by omega) (by omega))]
    rfl
  | succ m ih =>
    intro f c V x h1 h2 hM
    have h6 := hM.2.2.2.1
    obtain ⟨f, rfl⟩ : ∃ f', f = f' + 1 := ⟨f - 1, by omega⟩
    show ∃ V', _ ∧ fX8_fits_L2b _ _ _ _ V x (nI c) = _
    unfold fX8_fits_L2b
    simp only [Nat.reduceAdd, gbi_some, gbr_some, gbv_some, gpu_eq, glt_eq, gjn_eq, r1_0, r1_1, r1_2, r1_3, r1_4, r1_5, w1_0, w1_1, w1_2, w1_3, w1_4, w1_5]
    obtain ⟨V1, e1, hS1⟩ := m_shows (j := c) hM.1 hM.2.1 (hM.2.2.2.2.2.2.2 c (by omega)) (by omega)
    rw [hM.2.2.2.2.2.1, if_neg (nI_ge (by omega) (by omega)), e1, gbi_some, gal_at (40 * s + k) (m_shx s k) (by omega) (by decide), hS1.row (show (8 : Nat) ≠ 0 by decide), nI_1]
    obtain ⟨V2, hS2, e2⟩ := ih f (c + 1) V1 (x &&& (if sShow L (V 1) c = V 8 (40 * s + k) then (-1 : Int32) else ((1 : Int32) <<< (nI c &&& 31)) ^^^ (-1))) (by omega) (by omega) (hM.scr hS1)
    rw [hS1.row (show (8 : Nat) ≠ 0 by decide), hS1.row (show (1 : Nat) ≠ 0 by decide)] at e2
    refine ⟨V2, hS1.tr hS2, ?_⟩
    show _ = gbv (fX8_oneDay V2) (fun V2 => B V2 (gfold _ m (c + 1) (x &&& (if sShow L (V 1) c = V 8 (40 * s + k) then (-1 : Int32) else ((1 : Int32) <<< (nI c &&& 31)) ^^^ (-1)))) (nI k + 1))
    rw [← e2]
    by_cases hq : sShow L (V 1) c = V 8 (40 * s + k)
    · rw [if_pos hq, if_pos hq]
    · rw [if_neg hq, if_neg hq]
theorem and_low {nc s t : Nat} (hs : s < 2 ^ nc) : s &&& t < 2 ^ nc := Nat.and_comm t s ▸ Nat.and_lt_two_pow t hs
theorem m_fits_L {s n : Nat} {L : lW} {nh nc : Nat} {VM : gV} (hs : s < 4) (hn : n ≤ 40) : ∀ (m f k x : Nat) (V : gV), k + m = n → m < f → x < 2 ^ nc → MO V L nh nc → Thk VM V → V 7 s = nI n → ∃ V', Thk VM V' ∧ fX8_fits_L1 (nI s) f V (nI x) (nI k) = some (sFits L nc (fun j => V 8 (40 * s + j)) m k (V 1) (nI x), mvV V' 3 1) := by
  intro m
  induction m with
  | zero =>
    intro f k x V h1 h2 hx hM hT h7
    obtain ⟨f, rfl⟩ : ∃ f', f = f' + 1 := ⟨f - 1, by omega⟩
    refine ⟨V, hT, ?_⟩
    show fX8_fits_L1b _ _ V (nI x) (nI k) = _
    unfold fX8_fits_L1b
    simp only [Nat.reduceAdd, gbi_some, gbr_some, gbv_some, gpu_eq, glt_eq, gjn_eq, r1_0, r1_1, r1_2, r1_3, r1_4, r1_5, w1_0, w1_1, w1_2, w1_3, w1_4, w1_5]
    rw [gal_at s rfl hs (by decide), h7, if_pos (nI_le (by omega) (by omega)), m_move (by decide), gbv_some]
    rfl
  | succ m ih =>
    intro f k x V h1 h2 hx hM hT h7
    have h6 := hM.2.2.2.1
    obtain ⟨f, rfl⟩ : ∃ f', f = f' + 1 := ⟨f - 1, by omega⟩
    show ∃ V', _ ∧ fX8_fits_L1b _ _ V (nI x) (nI k) = _
    unfold fX8_fits_L1b sFits
    simp only [Nat.reduceAdd, gbi_some, gbr_some, gbv_some, gpu_eq, glt_eq, gjn_eq, r1_0, r1_1, r1_2, r1_3, r1_4, r1_5, w1_0, w1_1, w1_2, w1_3, w1_4, w1_5]
    obtain ⟨V1, hS1, e1⟩ := m_fits2_L (x11 := 0) (s := s) (k := k) (B := fX8_fits_L1 (nI s) f) hs (by omega) nc gFu 0 V (nI x) (by omega) (by unfold gFu; omega) hM
    obtain ⟨V2, e2, hS2⟩ := m_day (hM.scr hS1)
    have r2 : V2 1 = sDay L (V 1) nc := by rw [hS2.row, hS1.row (by decide)]
    have c8 : V2 8 = V 8 := by rw [hS2.oth (by decide) (by decide), hS1.row (by decide)]
    have c7 : V2 7 = V 7 := by rw [hS2.oth (by decide) (by decide), hS1.row (by decide)]
    obtain ⟨-, b2, t, ht, et⟩ := bits6 (fun c => sShow L (V 1) c = V 8 (40 * s + k)) h6
    rw [gal_at s rfl hs (by decide), h7, if_neg (nI_ge (by omega) (by omega)), show fX8_fits_L2 (nI s) (nI k) (fX8_fits_L1 (nI s) f) gFu V (nI x) 0 = _ from e1, e2, gbv_some, ← b2 x hx, nI_1]
    have ex : nI x &&& sShowing L (V 1) nc (V 8 (40 * s + k)) = nI (x &&& t) := by
      unfold sShowing
      rw [et, nI_and]
    obtain ⟨V3, hT3, e3⟩ := ih f (k + 1) (x &&& t) V2 (by omega) (by omega) (and_low hx) (MO_day hM r2) ((hT.scr hS1).sro hS2) (by rw [c7]; exact h7)
    refine ⟨V3, hT3, ?_⟩
    rw [et, nI_and, e3, r2, c8, ex]
theorem pr_fits {i : Nat} {VX VM : gV} {L : lW} {nh nc : Nat} (hR : RW i VX VM L nh nc) (a : Int32) : gEq (Rel0 (i + 6)) (fX7_fits VX a) (fX8_fits VM a) := by
  have h6 := hR.h6
  unfold fX7_fits fX8_fits fX3_isMissing
  simp only [Nat.reduceAdd, gbi_some, gbr_some, gbv_some, gpu_eq, glt_eq, gjn_eq, r1_0, r1_1, r1_2, r1_3, r1_4, r1_5, w1_0, w1_1, w1_2, w1_3, w1_4, w1_5]
  rw [d_isSheet, dm_isSheet]
  by_cases ha : 0 ≤ a ∧ a ≤ 3
  · obtain ⟨s, hs, rfl⟩ := rngc (n := 3) (by decide) ha
    obtain ⟨⟨b, hb, b1, b2⟩, ⟨n, hn, n1, n2⟩, hq⟩ := hR.2.2.2.1 s (by omega)
    rw [if_pos ha, if_pos ha, g10, g10, x_sheetAt (by omega), gbr_some, b1, gal_at s rfl (by omega) (by decide), b2]
    by_cases h0 : b = 0
    · subst h0
      rw [if_pos (by decide), if_pos (by decide), gbi_some, g10]
      exact hR.e2
    · rw [if_neg (nI_ne0 (by omega) (by omega)), if_neg (nI_ne0 (by omega) (by omega)), gbi_some, g00]
      obtain ⟨V1, e1, hC1, hO1, -, -⟩ := hR.think
      have hR1 := hR.o61 hO1
      have ep : (1 : Int32) <<< (nI nc &&& 31) - 1 = nI (2 ^ nc - 1) := by
        have hc : nc = 0 ∨ nc = 1 ∨ nc = 2 ∨ nc = 3 ∨ nc = 4 ∨ nc = 5 ∨ nc = 6 := by omega
        rcases hc with rfl | rfl | rfl | rfl | rfl | rfl | rfl <;> decide +kernel
      have e0 : V1 1 = VX 1 := hO1 1 (by omega)
      obtain ⟨V2, e2, hO2⟩ := x_fits_L (s := s) (by omega) hn n gFu 0 V1 (VM 1) (nI (2 ^ nc - 1)) (by omega) (by unfold gFu; omega) hC1 (by rw [hO1 _ (by omega)]; exact n1)
      obtain ⟨V3, hT3, e3⟩ := m_fits_L (s := s) (by omega) hn n gFu 0 (2 ^ nc - 1) (mvV VM 1 3) (by omega) (by unfold gFu; omega) (by have := Nat.two_pow_pos nc; omega) hR.moT Thk.of (by rw [mv_oth (by decide)]; exact n2)
      rw [e1, gbv_some, e0, hR.ncX, hR.ncM, ep, m_move (by decide), gbv_some, show fX7_fits_L1 (104 + 2 * s) gFu V1 (nI (2 ^ nc - 1)) 0 = _ from e2, show fX8_fits_L1 (nI s) gFu (mvV VM 1 3) (nI (2 ^ nc - 1)) 0 = _ from e3, mv13]
      refine (hT3.back (hR1.o61 hO2)).dones ?_
      refine sFits_congr n 0 _ _ (fun j _ hj => ?_)
      rw [hO1 _ (by omega), mv_oth (by decide)]
      exact hq j (by omega)
  · rw [if_neg ha, if_neg ha, g00, g00]
    exact hR.e1

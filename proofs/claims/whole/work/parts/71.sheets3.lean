/-! ===== PURE: worns, judge, count ===== -/
theorem gmn_nI {a b : Nat} (ha : a < 2 ^ 31) (hb : b < 2 ^ 31) : gmn (nI a) (nI b) = nI (min a b) := by
  unfold gmn
  by_cases h : b < a
  · rw [if_pos (nI_lt h ha), Nat.min_eq_right (by omega)]
  · rw [if_neg (nI_nlt (by omega) hb), Nat.min_eq_left (by omega)]
theorem m_shx (s k : Nat) : (40 : Int32) * nI s + nI k = nI (40 * s + k) := by rw [show (40 : Int32) = nI 40 from rfl, pk_mul, nI_add]
theorem pr_worns_L {i s sz : Nat} {L : lW} {nh nc : Nat} (hs : s < 4) (h40 : sz ≤ 40) : ∀ (m f g k : Nat) (VX VM : gV), k + m = min sz nc → m < f → m < g → RW i VX VM L nh nc → VM 7 s = nI sz → gEq (Rel0 (i + 6)) (fX7_worns_L1 (104 + 2 * s) (nI (min sz nc)) f VX (nI k)) (fX8_worns_L1 (nI s) g VM (nI k)) := by
  intro m
  induction m with
  | zero =>
    intro f g k VX VM h1 h2 h3 hR h7
    obtain ⟨f, rfl⟩ : ∃ f', f = f' + 1 := ⟨f - 1, by omega⟩
    obtain ⟨g, rfl⟩ : ∃ g', g = g' + 1 := ⟨g - 1, by omega⟩
    have h6 := hR.h6
    show gEq _ (fX7_worns_L1b _ _ _ VX (nI k)) (fX8_worns_L1b _ _ VM (nI k))
    unfold fX7_worns_L1b fX8_worns_L1b
    rw [if_pos (nI_le (by omega) (by omega)), gal_at s rfl hs (by decide), show VM (0 + 7) s = nI sz from h7]
    by_cases hk : sz ≤ k
    · rw [if_pos (nI_le hk (by omega))]
      exact hR.dones (by congr 1; omega)
    · rw [if_neg (nI_ge (by omega) (by omega)), dm_isCake hR.ncM, if_neg (fun q => by
        obtain ⟨z, hz, ez⟩ := rng (by omega) q
        have := pI_inj (by omega) (by omega) ez
        omega), g00]
      exact hR.dones (by congr 1; omega)
  | succ m ih =>
    intro f g k VX VM h1 h2 h3 hR h7
    obtain ⟨f, rfl⟩ : ∃ f', f = f' + 1 := ⟨f - 1, by omega⟩
    obtain ⟨g, rfl⟩ : ∃ g', g = g' + 1 := ⟨g - 1, by omega⟩
    have h6 := hR.h6
    have eN := (hR.2.2.2.1 s hs).2.2 k (by omega)
    have hc : (0 : Int32) ≤ nI k ∧ nI k ≤ nI nc - 1 := by
      refine ⟨nI_pos' (by omega), ?_⟩
      rw [show nI nc - 1 = nI (nc - 1) from pk_sub (b := 1) (by omega)]
      exact nI_le (by omega) (by omega)
    show gEq _ (fX7_worns_L1b _ _ _ VX (nI k)) (fX8_worns_L1b _ _ VM (nI k))
    unfold fX7_worns_L1b fX8_worns_L1b fX3_numberAt
    rw [if_neg (nI_ge (by omega) (by omega)), gal_at s rfl hs (by decide), show VM (0 + 7) s = nI sz from h7, if_neg (nI_ge (by omega) (by omega)), dm_isCake hR.ncM, if_pos hc, g10, eX_at k rfl (by omega) (by decide), gbi_some, gbi_some, gal_at (40 * s + k) (m_shx s k) (by omega) (by decide), d_within, d_in, eN]
    by_cases hv : 0 ≤ VM 8 (40 * s + k) ∧ VM 8 (40 * s + k) ≤ 9999
    · rw [if_pos hv, if_pos (show 0 ≤ VM (0 + 8) (40 * s + k) ∧ VM (0 + 8) (40 * s + k) ≤ 9999 from hv), g10, g10, x_cakeAt (by omega), gbr_some, eX_at k rfl (by omega) (by decide), gbi_some, gbi_some, gal_at (40 * s + k) (m_shx s k) (by omega) (by decide), m_g4 (by omega), gbv_some, gpu_eq, nI_1, eN]
      exact ih f g (k + 1) _ _ (by omega) (by omega) (by omega) (hR.setF (f := 5) (j := k) (by omega) (Or.inr ⟨rfl, rngc (n := 9999) (by decide) hv⟩)) ((congrFun (gup_row _ _ _ (by omega)) s).trans h7)
    · rw [if_neg hv, if_neg (show ¬ (0 ≤ VM (0 + 8) (40 * s + k) ∧ VM (0 + 8) (40 * s + k) ≤ 9999) from hv), g00, g00]
      exact hR.done
theorem pr_worns {i : Nat} {VX VM : gV} {L : lW} {nh nc : Nat} (hR : RW i VX VM L nh nc) (a : Int32) : gEq (Rel0 (i + 6)) (fX7_worns VX a) (fX8_worns VM a) := by
  have hn6 := hR.h6
  unfold fX7_worns fX8_worns
  simp only [d_isSheet, dm_isSheet]
  by_cases ha : 0 ≤ a ∧ a ≤ 3
  · obtain ⟨s, hs, rfl⟩ := rngc (n := 3) (by decide) ha
    obtain ⟨⟨b', h1, h2, h3⟩, ⟨n', h4, h5, h6⟩, h7⟩ := hR.2.2.2.1 s (by omega)
    simp only [if_pos ha, g10, x_sheetAt (show s < 4 by omega), gbr_some]
    unfold fX3_isMissing
    rw [gal_at s rfl (by omega) (by decide), show VM (0 + 6) s = nI b' from h3, h2]
    by_cases hb : (nI b' : Int32) = 0
    · rw [if_pos hb, if_pos hb, gbi_some, g10]
      exact hR.e2
    · rw [if_neg hb, if_neg hb, gbi_some, g00, glt_eq, h5, show VX (0 + 1) 9 = nI nc from hR.ncX, gmn_nI (by omega) (by omega)]
      exact pr_worns_L (by omega) h4 (min n' nc) gFu gFu 0 VX VM (by omega) (by unfold gFu; omega) (by unfold gFu; omega) hR h6
  · simp only [if_neg ha, g00]
    exact hR.e1
theorem pr_judge_L {i s sz : Nat} {VX : gV} {L : lW} {nh nc : Nat} (hs : s < 4) (h40 : sz ≤ 40) (hX2 : VX (104 + 2 * s) 2 = nI sz) : ∀ (m f g k : Nat) (VM : gV), k + m = min sz nc → m < f → m < g → RW i VX VM L nh nc → VM 7 s = nI sz → gEq (Rel0 (i + 6)) (fX7_judge_L1 (104 + 2 * s) (nI (min sz nc)) f VX (nI k)) (fX8_judge_L1 (nI s) g VM (nI k)) := by
  intro m
  induction m with
  | zero =>
    intro f g k VM h1 h2 h3 hR h7
    obtain ⟨f, rfl⟩ : ∃ f', f = f' + 1 := ⟨f - 1, by omega⟩
    obtain ⟨g, rfl⟩ : ∃ g', g = g' + 1 := ⟨g - 1, by omega⟩
    have h6 := hR.h6
    show gEq _ (fX7_judge_L1b _ _ _ VX (nI k)) (fX8_judge_L1b _ _ VM (nI k))
    unfold fX7_judge_L1b fX8_judge_L1b
    rw [if_pos (nI_le (by omega) (by omega)), hX2, show VX (0 + 1) 9 = nI nc from hR.ncX]
    have e7 : ∀ {β : Type} (f : Int32 → Option β), gal VM (0 + 7) (nI s) 4 f = f (nI sz) := fun f => by
      rw [gal_at s rfl hs (by decide), show VM (0 + 7) s = nI sz from h7]
    have eq : ∀ a b : Nat, a < 100 → b < 100 → ((nI a : Int32) = nI b ↔ a = b) := fun a b h1 h2 => ⟨fun q => pI_inj (by omega) (by omega) q, fun q => by rw [q]⟩
    simp only [Nat.reduceAdd, gbi_some, gbr_some, gbv_some, gpu_eq, glt_eq, gjn_eq, r1_0, r1_1, r1_2, r1_3, r1_4, r1_5, w1_0, w1_1, w1_2, w1_3, w1_4, w1_5, hR.ncM]
    rw [gal_at s rfl hs (by decide), gal_at s rfl hs (by decide), h7]
    simp only [eq sz nc (by omega) (by omega), eq k nc (by omega) (by omega), eq k sz (by omega) (by omega)]
    have R : gEq (Rel0 (i + 6)) (if sz = nc then some (-1, VX) else some (nI (min sz nc), VX)) (if k = nc then if k = sz then some (-1, VM) else some (nI k, VM) else some (nI k, VM)) := by
      by_cases q1 : sz = nc
      · rw [if_pos q1, if_pos (by omega), if_pos (by omega)]
        exact hR.done
      · rw [if_neg q1]
        have e : (if k = nc then if k = sz then some (-1, VM) else some (nI k, VM) else some (nI k, VM)) = some (nI k, VM) := by
          by_cases q2 : k = nc
          · rw [if_pos q2, if_neg (by omega)]
          · rw [if_neg q2]
        rw [e]
        exact hR.dones (by congr 1; omega)
    by_cases hk : nc ≤ k
    · rw [if_pos (nI_le hk (by omega))]
      exact R
    · rw [if_neg (nI_ge (by omega) (by omega)), if_pos (nI_le (by omega) (by omega))]
      exact R
  | succ m ih =>
    intro f g k VM h1 h2 h3 hR h7
    obtain ⟨f, rfl⟩ : ∃ f', f = f' + 1 := ⟨f - 1, by omega⟩
    obtain ⟨g, rfl⟩ : ∃ g', g = g' + 1 := ⟨g - 1, by omega⟩
    have h6 := hR.h6
    have eN := (hR.2.2.2.1 s hs).2.2 k (by omega)
    obtain ⟨Vs, es, hSs⟩ := m_shows (j := k) hR.mo.1 hR.mo.2.1 (hR.co.2.1.2.2.2.2.2 k (by omega)) (by omega)
    have hR2 := hR.scr hSs
    have h72 : Vs 7 s = nI sz := (congrFun (hSs.row (by omega)) s).trans h7
    show gEq _ (fX7_judge_L1b _ _ _ VX (nI k)) (fX8_judge_L1b _ _ VM (nI k))
    unfold fX7_judge_L1b fX8_judge_L1b fX3_numberAt
    simp only [Nat.reduceAdd, gbi_some, gbr_some, gbv_some, gpu_eq, glt_eq, gjn_eq, r1_0, r1_1, r1_2, r1_3, r1_4, r1_5, w1_0, w1_1, w1_2, w1_3, w1_4, w1_5, hR.ncM]
    rw [if_neg (nI_ge (by omega) (by omega)), if_neg (nI_ge (by omega) (by omega)), gal_at s rfl hs (by decide), h7, if_neg (nI_ge (by omega) (by omega)), eX_at k rfl (by omega) (by decide), gbi_some, gbi_some, gal_at (40 * s + k) (m_shx s k) (by omega) (by decide), x_cakeAt (by omega), gbr_some, hR.co.shows (by omega), gbi_some, es, gbi_some, eN]
    by_cases hv : VM 8 (40 * s + k) = sShow L (VM 1) k
    · rw [if_pos hv, if_pos hv, nI_1]
      exact ih f g (k + 1) _ (by omega) (by omega) (by omega) hR2 h72
    · rw [if_neg hv, if_neg hv]
      rw [show Vs 1 3 = nI nc from hR2.ncM, if_neg (fun q => by have := pI_inj (by omega) (by omega) q; omega)]
      exact hR2.done
theorem pr_judge {i : Nat} {VX VM : gV} {L : lW} {nh nc : Nat} (hR : RW i VX VM L nh nc) (a : Int32) : gEq (Rel0 (i + 6)) (fX7_judge VX a) (fX8_judge VM a) := by
  have hn6 := hR.h6
  unfold fX7_judge fX8_judge
  simp only [d_isSheet, dm_isSheet]
  by_cases ha : 0 ≤ a ∧ a ≤ 3
  · obtain ⟨s, hs, rfl⟩ := rngc (n := 3) (by decide) ha
    obtain ⟨⟨b', h1, h2, h3⟩, ⟨n', h4, h5, h6⟩, h7⟩ := hR.2.2.2.1 s (by omega)
    simp only [if_pos ha, g10, x_sheetAt (show s < 4 by omega), gbr_some]
    unfold fX3_isMissing
    rw [gal_at s rfl (by omega) (by decide), show VM (0 + 6) s = nI b' from h3, h2]
    by_cases hb : (nI b' : Int32) = 0
    · rw [if_pos hb, if_pos hb, gbi_some, g10]
      exact hR.e2
    · rw [if_neg hb, if_neg hb, gbi_some, g00, glt_eq, h5, show VX (0 + 1) 9 = nI nc from hR.ncX, gmn_nI (by omega) (by omega)]
      exact pr_judge_L (by omega) h4 h5 (min n' nc) gFu gFu 0 VM (by omega) (by unfold gFu; omega) (by unfold gFu; omega) hR h6
  · simp only [if_neg ha, g00]
    exact hR.e1
def sSum (r : rR) (a b m : Nat) : Int32 := gfold (fun s k => s + r (a + b * k)) m 0 0
theorem m_sum_L {V : gV} {a b n : Nat} (ha : a < 100) (hb : b < 100) (hn : n < 100) (hx : a + b * n < 264) : ∀ (m f k : Nat) (s : Int32), k + m = n → m < f → fX8_sumOf_L1 V (nI a) (nI b) (nI n) f s (nI k) = some (gfold (fun s k => s + V 1 (a + b * k)) m k s, V) := by
  intro m
  induction m with
  | zero =>
    intro f k s h1 h2
    obtain ⟨f, rfl⟩ : ∃ f', f = f' + 1 := ⟨f - 1, by omega⟩
    show fX8_sumOf_L1b _ _ _ _ _ s (nI k) = _
    unfold fX8_sumOf_L1b
    rw [if_pos (nI_le (by omega) (by omega))]
    rfl
  | succ m ih =>
    intro f k s h1 h2
    obtain ⟨f, rfl⟩ : ∃ f', f = f' + 1 := ⟨f - 1, by omega⟩
    show fX8_sumOf_L1b _ _ _ _ _ s (nI k) = _
    unfold fX8_sumOf_L1b
    have hx2 : a + b * k < 264 := by
      have := Nat.mul_le_mul_left b (show k ≤ n by omega)
      omega
    rw [if_neg (nI_ge (by omega) (by omega)), r_at (k := a + b * k) hx2 (by rw [pk_mul, nI_add]), glt_eq, nI_1]
    exact ih f (k + 1) _ (by omega) (by omega)
theorem x_hands_L {V : gV} {r : rR} {L : lW} {nh nc : Nat} (hO : CO V 1 r L nh nc) : ∀ (m f k : Nat) (s : Int32), k + m = nh → m < f → fX6_allHands_L1 1 f V s (nI k) = some (gfold (fun s k => s + r (8 + 2 * k)) m k s, V) := by
  intro m
  have h4 := hO.2.1.1
  induction m with
  | zero =>
    intro f k s h1 h2
    obtain ⟨f, rfl⟩ : ∃ f', f = f' + 1 := ⟨f - 1, by omega⟩
    show fX6_allHands_L1b _ _ V s (nI k) = _
    unfold fX6_allHands_L1b
    rw [hO.2.2.1.1, if_pos (nI_le (by omega) (by omega))]
    rfl
  | succ m ih =>
    intro f k s h1 h2
    obtain ⟨f, rfl⟩ : ∃ f', f = f' + 1 := ⟨f - 1, by omega⟩
    show fX6_allHands_L1b _ _ V s (nI k) = _
    unfold fX6_allHands_L1b
    rw [hO.2.2.1.1, if_neg (nI_ge (by omega) (by omega)), x_houseAt (by omega), gbr_some, glt_eq, nI_1, (hO.2.2.2.1 k (by omega)).1]
    exact ih f (k + 1) _ (by omega) (by omega)
theorem x_worn_L {V : gV} {r : rR} {L : lW} {nh nc : Nat} (hO : CO V 1 r L nh nc) : ∀ (m f k : Nat) (s : Int32), k + m = nc → m < f → fX6_allWorn_L1 1 f V s (nI k) = some (gfold (fun s k => s + r (20 + 13 * k)) m k s, V) := by
  intro m
  have h6 := hO.2.1.2.1
  induction m with
  | zero =>
    intro f k s h1 h2
    obtain ⟨f, rfl⟩ : ∃ f', f = f' + 1 := ⟨f - 1, by omega⟩
    show fX6_allWorn_L1b _ _ V s (nI k) = _
    unfold fX6_allWorn_L1b
    rw [hO.2.2.1.2.1, if_pos (nI_le (by omega) (by omega))]
    rfl
  | succ m ih =>
    intro f k s h1 h2
    obtain ⟨f, rfl⟩ : ∃ f', f = f' + 1 := ⟨f - 1, by omega⟩
    show fX6_allWorn_L1b _ _ V s (nI k) = _
    unfold fX6_allWorn_L1b
    rw [hO.2.2.1.2.1, if_neg (nI_ge (by omega) (by omega)), x_cakeAt (by omega), gbr_some, glt_eq, nI_1, (hO.2.2.2.2.1 k (by omega)).2.2.2.2.1]
    have e : kW r k = r (20 + 13 * k) := by
      unfold kW
      rw [show 16 + 13 * k + 4 = 20 + 13 * k by omega]
    rw [e]
    exact ih f (k + 1) _ (by omega) (by omega)
theorem pr_count {i : Nat} {VX VM : gV} {L : lW} {nh nc : Nat} (hR : RW i VX VM L nh nc) (a : Int32) : gEq (Rel0 (i + 6)) (fX7_count VX a) (fX8_count VM a) := by
  have h4 := hR.h4
  have h6 := hR.h6
  obtain ⟨t, ht, t1, t2⟩ := hR.1.2.2.2.2.1
  obtain ⟨w, hw, w1, w2⟩ := hR.1.2.2.2.2.2.1
  obtain ⟨q, hq, q1, q2, -⟩ := hR.2.2.2.2.1
  obtain ⟨Vg, eg, hSg⟩ := m_gone hR.mo
  unfold fX7_count fX8_count fX6_allHands fX6_allWorn fX8_sumOf
  simp only [Nat.reduceAdd, gbi_some, gbr_some, gbv_some, gpu_eq, glt_eq, gjn_eq, r1_0, r1_1, r1_2, r1_3, r1_4, r1_5, w1_0, w1_1, w1_2, w1_3, w1_4, w1_5]
  by_cases h0 : a = 0
  · rw [if_pos h0, if_pos h0]
    exact hR.dones (hR.nhX.trans hR.nhM.symm)
  rw [if_neg h0, if_neg h0]
  by_cases h1 : a = 1
  · rw [if_pos h1, if_pos h1]
    exact hR.dones (hR.ncX.trans hR.ncM.symm)
  rw [if_neg h1, if_neg h1]
  by_cases h2 : a = 2
  · rw [if_pos h2, if_pos h2]
    exact hR.dones hR.co.2.2.1.2.2.1
  rw [if_neg h2, if_neg h2]
  by_cases h3 : a = 3
  · rw [if_pos h3, if_pos h3, x_gone hR.co, eg, gbi_some, gbi_some]
    exact (hR.scr hSg).done
  rw [if_neg h3, if_neg h3]
  by_cases h4' : a = 4
  · have e1 := x_hands_L hR.co nh gFu 0 0 (by omega) (by unfold gFu; omega)
    have e2 := m_sum_L (V := VM) (a := 8) (b := 2) (n := nh) (by omega) (by omega) (by omega) (by omega) nh gFu 0 0 (by omega) (by unfold gFu; omega)
    rw [if_pos h4', if_pos h4', hR.nhM, show (0 : Int32) = nI 0 from rfl]
    rw [show (0 : Int32) = nI 0 from rfl] at e1 e2
    rw [e1, show (8 : Int32) = nI 8 from rfl, show (2 : Int32) = nI 2 from rfl, e2, gbi_some, gbi_some]
    exact hR.done
  rw [if_neg h4', if_neg h4']
  by_cases h5 : a = 5
  · have e1 := x_worn_L hR.co nc gFu 0 0 (by omega) (by unfold gFu; omega)
    have e2 := m_sum_L (V := VM) (a := 20) (b := 13) (n := nc) (by omega) (by omega) (by omega) (by omega) nc gFu 0 0 (by omega) (by unfold gFu; omega)
    rw [if_pos h5, if_pos h5, hR.ncM, show (0 : Int32) = nI 0 from rfl]
    rw [show (0 : Int32) = nI 0 from rfl] at e1 e2
    rw [e1, show (20 : Int32) = nI 20 from rfl, show (13 : Int32) = nI 13 from rfl, e2, gbi_some, gbi_some]
    exact hR.done
  rw [if_neg h5, if_neg h5]
  by_cases h6' : a = 6
  · rw [if_pos h6', if_pos h6']
    exact hR.dones (t1.trans t2.symm)
  rw [if_neg h6', if_neg h6']
  by_cases h7 : a = 7
  · rw [if_pos h7, if_pos h7]
    exact hR.dones (w1.trans w2.symm)
  rw [if_neg h7, if_neg h7]
  by_cases h8 : a = 8
  · rw [if_pos h8, if_pos h8]
    exact hR.dones (q1.trans q2.symm)
  rw [if_neg h8, if_neg h8]
  by_cases h9 : a = 9
  · rw [if_pos h9, if_pos h9]
    exact hR.dones hR.co.2.2.1.2.2.2
  rw [if_neg h9, if_neg h9]
  exact hR.e1

/-! ===== PURE: sheets ===== -/
theorem RW.sh {i : Nat} {VX VM VX' VM' : gV} {L : lW} {nh nc : Nat} (h : RW i VX VM L nh nc) (hX : ∀ x, ¬ (104 ≤ x ∧ x < 112) → VX' x = VX x) (hM : ∀ c, c ≠ 6 → c ≠ 7 → c ≠ 8 → c ≠ 9 → VM' c = VM c) (hs : ∀ s, s < 4 → shR VX' VM' s) : RW i VX' VM' L nh nc := by
  obtain ⟨hw, ⟨n, h1, h2, h3, h4, h5⟩, h6, h7, ⟨t, h8, h9, h10, h11⟩, h12, h13, h14, h15⟩ := h
  have m := fun c a b d e => hM c a b d e
  refine ⟨?_, ⟨n, h1, by rw [hX 0 (by omega)]; exact h2, by rw [m 0 (by omega) (by omega) (by omega) (by omega)]; exact h3, by rw [m 0 (by omega) (by omega) (by omega) (by omega)]; exact h4, fun q => ?_⟩, fun k hk => by rw [hX 103 (by omega), m 5 (by omega) (by omega) (by omega) (by omega)]; exact h6 k hk, hs, ⟨t, h8, by rw [hX 97 (by omega)]; exact h9, by rw [m 0 (by omega) (by omega) (by omega) (by omega)]; exact h10, fun k hk => by rw [hX 98 (by omega), m 11 (by omega) (by omega) (by omega) (by omega)]; exact h11 k hk⟩, (hX 112 (by omega)).trans h12, (hX 113 (by omega)).trans h13, (hX 114 (by omega)).trans h14, (hX 115 (by omega)).trans h15⟩
  · rw [m 1 (by omega) (by omega) (by omega) (by omega)]
    exact hw.congr (fun x a b c d => hX x (by omega))
  · obtain ⟨L, nh, nc, hw⟩ := h5 q
    rw [m 2 (by omega) (by omega) (by omega) (by omega)]
    exact ⟨L, nh, nc, hw.congr (fun x a b c d => hX x (by omega))⟩
theorem x_sheetAt {V : gV} {s : Nat} (hs : s < 4) : fX7_sheetAt V (nI s) = some (104 + 2 * s, V) := by
  unfold fX7_sheetAt
  rw [if_neg (nI_pos (by omega)), if_neg (show ¬ (4 : Int32) ≤ nI s from nI_ge (b := 4) hs (by decide)), gar_at s rfl hs (by decide), gar_at s rfl hs (by decide), nI_clamp (by omega)]
theorem x_clear {c : Nat} : ∀ (m f i : Nat) (V : gV), i + m = 40 → m < f → ∃ V', fX3_makeNew_L1 c f V (nI i) = some V' ∧ (∀ k, i ≤ k → k < 40 → V' (c + 1) k = 0) ∧ ∀ x k, ¬ (x = c + 1 ∧ i ≤ k ∧ k < 40) → V' x k = V x k := by
  intro m
  induction m with
  | zero =>
    intro f i V h1 h2
    obtain ⟨f, rfl⟩ : ∃ f', f = f' + 1 := ⟨f - 1, by omega⟩
    refine ⟨V, ?_, fun k _ _ => absurd h1 (by omega), fun _ _ _ => rfl⟩
    show fX3_makeNew_L1b c _ V (nI i) = _
    unfold fX3_makeNew_L1b
    rw [if_pos (show (40 : Int32) ≤ nI i from nI_le (a := 40) (by omega) (by omega))]
  | succ m ih =>
    intro f i V h1 h2
    obtain ⟨f, rfl⟩ : ∃ f', f = f' + 1 := ⟨f - 1, by omega⟩
    show ∃ V', fX3_makeNew_L1b c _ V (nI i) = _ ∧ _
    unfold fX3_makeNew_L1b
    rw [if_neg (show ¬ (40 : Int32) ≤ nI i from nI_ge (b := 40) (by omega) (by decide)), eX_setAt i rfl (by omega) (by decide), gbv_some, nI_1]
    obtain ⟨V', r1, r2, r3⟩ := ih f (i + 1) (gup V (c + 1) i 0) (by omega) (by omega)
    refine ⟨V', r1, fun k hk1 hk2 => ?_, fun x k hk => ?_⟩
    · by_cases hki : k = i
      · subst hki; rw [r3 _ _ (by omega), gup_at]
      · exact r2 k (by omega) hk2
    · rw [r3 _ _ (by omega), gup_ne _ _ (by omega)]
theorem m_clearL1 {s : Nat} (hs : s < 4) : ∀ (m f i : Nat) (V : gV), i + m = 40 → m < f → ∃ V', fX8_sheet_L1 (nI s) f V (nI i) = some (1, V') ∧ (∀ k, i ≤ k → k < 40 → V' 8 (40 * s + k) = 0) ∧ ∀ x k, ¬ (x = 8 ∧ 40 * s + i ≤ k ∧ k < 40 * s + 40) → V' x k = V x k := by
  intro m
  induction m with
  | zero =>
    intro f i V h1 h2
    obtain ⟨f, rfl⟩ : ∃ f', f = f' + 1 := ⟨f - 1, by omega⟩
    refine ⟨V, ?_, fun k _ _ => absurd h1 (by omega), fun _ _ _ => rfl⟩
    show fX8_sheet_L1b _ _ V (nI i) = _
    unfold fX8_sheet_L1b
    rw [if_pos (show (40 : Int32) ≤ nI i from nI_le (a := 40) (by omega) (by omega))]
  | succ m ih =>
    intro f i V h1 h2
    obtain ⟨f, rfl⟩ : ∃ f', f = f' + 1 := ⟨f - 1, by omega⟩
    show ∃ V', fX8_sheet_L1b _ _ V (nI i) = _ ∧ _
    unfold fX8_sheet_L1b
    rw [if_neg (show ¬ (40 : Int32) ≤ nI i from nI_ge (b := 40) (by omega) (by decide)), gas_at (40 * s + i) (show ((40 : Int32) * nI s + nI i) = nI (40 * s + i) by rw [show (40 : Int32) = nI 40 from rfl, pk_mul, nI_add]) (by omega) (by decide), nI_1]
    obtain ⟨V', r1, r2, r3⟩ := ih f (i + 1) (gup V 8 (40 * s + i) 0) (by omega) (by omega)
    refine ⟨V', r1, fun k hk1 hk2 => ?_, fun x k hk => ?_⟩
    · by_cases hki : k = i
      · subst hki; rw [r3 _ _ (by omega), gup_at]
      · exact r2 k (by omega) hk2
    · rw [r3 _ _ (by omega), gup_ne _ _ (by omega)]
theorem m_clearL2 {s : Nat} (hs : s < 4) : ∀ (m f i : Nat) (V : gV), i + m = 40 → m < f → ∃ V', fX8_sheet_L2 (nI s) f V (nI i) = some (1, V') ∧ (∀ k, i ≤ k → k < 40 → V' 8 (40 * s + k) = 0) ∧ ∀ x k, ¬ (x = 8 ∧ 40 * s + i ≤ k ∧ k < 40 * s + 40) → V' x k = V x k := by
  intro m
  induction m with
  | zero =>
    intro f i V h1 h2
    obtain ⟨f, rfl⟩ : ∃ f', f = f' + 1 := ⟨f - 1, by omega⟩
    refine ⟨V, ?_, fun k _ _ => absurd h1 (by omega), fun _ _ _ => rfl⟩
    show fX8_sheet_L2b _ _ V (nI i) = _
    unfold fX8_sheet_L2b
    rw [if_pos (show (40 : Int32) ≤ nI i from nI_le (a := 40) (by omega) (by omega))]
  | succ m ih =>
    intro f i V h1 h2
    obtain ⟨f, rfl⟩ : ∃ f', f = f' + 1 := ⟨f - 1, by omega⟩
    show ∃ V', fX8_sheet_L2b _ _ V (nI i) = _ ∧ _
    unfold fX8_sheet_L2b
    rw [if_neg (show ¬ (40 : Int32) ≤ nI i from nI_ge (b := 40) (by omega) (by decide)), gas_at (40 * s + i) (show ((40 : Int32) * nI s + nI i) = nI (40 * s + i) by rw [show (40 : Int32) = nI 40 from rfl, pk_mul, nI_add]) (by omega) (by decide), nI_1]
    obtain ⟨V', r1, r2, r3⟩ := ih f (i + 1) (gup V 8 (40 * s + i) 0) (by omega) (by omega)
    refine ⟨V', r1, fun k hk1 hk2 => ?_, fun x k hk => ?_⟩
    · by_cases hki : k = i
      · subst hki; rw [r3 _ _ (by omega), gup_at]
      · exact r2 k (by omega) hk2
    · rw [r3 _ _ (by omega), gup_ne _ _ (by omega)]
theorem sh_new {i s b n : Nat} {VX VM VX' VM' : gV} {L : lW} {nh nc : Nat} (hR : RW i VX VM L nh nc) (hs : s < 4) (hb : b ≤ 32) (hn : n ≤ 40) (x1 : VX' (104 + 2 * s) 1 = nI b) (x2 : VX' (104 + 2 * s) 2 = nI n) (x3 : ∀ k, k < 40 → VX' (104 + 2 * s + 1) k = 0) (xf : ∀ x, x ≠ 104 + 2 * s → x ≠ 104 + 2 * s + 1 → VX' x = VX x) (m1 : VM' 6 s = nI b) (m2 : VM' 7 s = nI n) (m3 : ∀ k, k < 40 → VM' 8 (40 * s + k) = 0) (mf : ∀ c k, ¬ (c = 6 ∧ k = s) → ¬ (c = 7 ∧ k = s) → ¬ (c = 8 ∧ 40 * s ≤ k ∧ k < 40 * s + 40) → VM' c k = VM c k) : RW i VX' VM' L nh nc := by
  refine hR.sh (fun x hx => xf x (by omega) (by omega)) (fun c _ _ _ _ => funext fun k => mf c k (by omega) (by omega) (by omega)) (fun t ht => ?_)
  by_cases hts : t = s
  · subst hts
    exact ⟨⟨b, hb, x1, m1⟩, ⟨n, hn, x2, m2⟩, fun k hk => (x3 k hk).trans (m3 k hk).symm⟩
  · obtain ⟨⟨b', h1, h2, h3⟩, ⟨n', h4, h5, h6⟩, h7⟩ := hR.2.2.2.1 t ht
    refine ⟨⟨b', h1, by rw [xf _ (by omega) (by omega)]; exact h2, (mf _ _ (by omega) (by omega) (by omega)).trans h3⟩, ⟨n', h4, by rw [xf _ (by omega) (by omega)]; exact h5, (mf _ _ (by omega) (by omega) (by omega)).trans h6⟩, fun k hk => ?_⟩
    rw [xf _ (by omega) (by omega), mf _ _ (by omega) (by omega) (by omega)]
    exact h7 k hk
theorem x_makeNew {V : gV} {c : Nat} (a b : Int32) : ∃ V', fX3_makeNew V c a b = some V' ∧ V' c 1 = a ∧ V' c 2 = b ∧ (∀ k, k < 40 → V' (c + 1) k = 0) ∧ ∀ x, x ≠ c → x ≠ c + 1 → V' x = V x := by
  obtain ⟨V', r1, r2, r3⟩ := x_clear (c := c) 40 gFu 0 (gup (gup V c 1 a) c 2 b) (by omega) (by unfold gFu; omega)
  refine ⟨V', r1, ?_, ?_, fun k hk => r2 k (by omega) hk, fun x h1 h2 => funext fun k => ?_⟩
  · rw [r3 _ _ (by omega), gup_ne _ _ (by omega), gup_at]
  · rw [r3 _ _ (by omega), gup_at]
  · rw [r3 _ _ (by omega), gup_ne _ _ (by omega), gup_ne _ _ (by omega)]
theorem pr_sheet {i : Nat} {VX VM : gV} {L : lW} {nh nc : Nat} (hR : RW i VX VM L nh nc) (a b c : Int32) : gEq (Rel0 (i + 6)) (fX7_sheet VX a b c) (fX8_sheet VM a b c) := by
  unfold fX7_sheet fX8_sheet
  simp only [gjn_eq, d_isSheet, dm_isSheet]
  by_cases ha : 0 ≤ a ∧ a ≤ 3
  · obtain ⟨s, hs, rfl⟩ := rngc (n := 3) (by decide) ha
    simp only [if_pos ha, g10, x_sheetAt (show s < 4 by omega), gbr_some]
    by_cases hb0 : b = 0
    · subst hb0
      simp only [if_true]
      obtain ⟨V1, x0, x1, x2, x3, xf⟩ := x_makeNew (V := VX) (c := 104 + 2 * s) 0 0
      obtain ⟨V2, y0, y1, yf⟩ := m_clearL2 (s := s) (by omega) 40 gFu 0 (gup (gup VM 6 s 0) 7 s 0) (by omega) (by unfold gFu; omega)
      rw [x0, gbv_some, gas_at s rfl (by omega) (by decide), gas_at s rfl (by omega) (by decide), show (0 : Int32) = nI 0 from rfl]
      rw [show (0 : Int32) = nI 0 from rfl] at y0
      rw [y0]
      refine RW.done (sh_new (s := s) (b := 0) (n := 0) hR (by omega) (by omega) (by omega) x1 x2 x3 xf ?_ ?_ (fun k hk => y1 k (by omega) hk) (fun c k h1 h2 h3 => ?_))
      · rw [yf _ _ (by omega), gup_ne _ _ (by omega), gup_at]; rfl
      · rw [yf _ _ (by omega), gup_at]; rfl
      · rw [yf _ _ (by omega), gup_ne _ _ h2, gup_ne _ _ h1]
    · simp only [if_neg hb0]
      have main : (∃ n, n ≤ 32 ∧ b = nI n) → gEq (Rel0 (i + 6)) (if 0 ≤ c then (if c ≤ 40 then (gbv (fX3_makeNew VX (104 + 2 * s) b c) fun V27 => some (1, V27)) else (gbi (fX7_error VX 1) fun x V => some (x, V))) else (gbi (fX7_error VX 3) fun x V => some (x, V))) (if 0 ≤ c then (if c ≤ 40 then (gas VM (0 + 6) (nI s) 4 b fun V23 => gas V23 (0 + 7) (nI s) 4 c fun V25 => fX8_sheet_L1 (nI s) gFu V25 0) else (gbi (fX8_errs VM (-1000000001)) fun x V => some (x, V))) else (gbi (fX8_errs VM (-1000000003)) fun x V => some (x, V))) := by
        rintro ⟨nb, hnb, rfl⟩
        by_cases hc0 : 0 ≤ c
        · by_cases hc1 : c ≤ 40
          · obtain ⟨n, hn, rfl⟩ := rngc (n := 40) (by decide) ⟨hc0, hc1⟩
            rw [if_pos hc0, if_pos hc0, if_pos hc1, if_pos hc1]
            obtain ⟨V1, x0, x1, x2, x3, xf⟩ := x_makeNew (V := VX) (c := 104 + 2 * s) (nI nb) (nI n)
            obtain ⟨V2, y0, y1, yf⟩ := m_clearL1 (s := s) (by omega) 40 gFu 0 (gup (gup VM 6 s (nI nb)) 7 s (nI n)) (by omega) (by unfold gFu; omega)
            rw [x0, gbv_some, gas_at s rfl (by omega) (by decide), gas_at s rfl (by omega) (by decide), show (0 : Int32) = nI 0 from rfl, y0]
            refine RW.done (sh_new (s := s) (b := nb) (n := n) hR (by omega) (by omega) (by omega) x1 x2 x3 xf ?_ ?_ (fun k hk => y1 k (by omega) hk) (fun c k h1 h2 h3 => ?_))
            · rw [yf _ _ (by omega), gup_ne _ _ (by omega), gup_at]
            · rw [yf _ _ (by omega), gup_at]
            · rw [yf _ _ (by omega), gup_ne _ _ h2, gup_ne _ _ h1]
          · rw [if_pos hc0, if_pos hc0, if_neg hc1, if_neg hc1]
            exact hR.e1
        · rw [if_neg hc0, if_neg hc0]
          exact hR.e3
      by_cases h8 : b = 8
      · simp only [if_pos h8]
        exact main ⟨8, by omega, h8⟩
      · simp only [if_neg h8]
        by_cases h16 : b = 16
        · simp only [if_pos h16]
          exact main ⟨16, by omega, h16⟩
        · simp only [if_neg h16]
          by_cases h32 : b = 32
          · simp only [if_pos h32]
            exact main ⟨32, by omega, h32⟩
          · simp only [if_neg h32]
            exact hR.e1
  · simp only [if_neg ha, g00]
    exact hR.e1
theorem pr_put {i : Nat} {VX VM : gV} {L : lW} {nh nc : Nat} (hR : RW i VX VM L nh nc) (a b c : Int32) : gEq (Rel0 (i + 6)) (fX7_put VX a b c) (fX8_put VM a b c) := by
  unfold fX7_put fX8_put
  simp only [d_isSheet, dm_isSheet]
  by_cases ha : 0 ≤ a ∧ a ≤ 3
  · obtain ⟨s, hs, rfl⟩ := rngc (n := 3) (by decide) ha
    obtain ⟨⟨b', h1, h2, h3⟩, ⟨n', h4, h5, h6⟩, h7⟩ := hR.2.2.2.1 s (by omega)
    simp only [if_pos ha, g10, x_sheetAt (show s < 4 by omega), gbr_some]
    unfold fX3_isMissing
    rw [gal_at s rfl (by omega) (by decide), show VM (0 + 6) s = nI b' from h3, h2]
    by_cases hb : (nI b' : Int32) = 0
    · rw [if_pos hb, if_pos hb, gbi_some, g10]
      exact hR.e2
    · rw [if_neg hb, if_neg hb, gbi_some, g00, gal_at s rfl (by omega) (by decide), show VM (0 + 7) s = nI n' from h6, h5, d_within, d_in]
      by_cases hk : 0 ≤ b ∧ b ≤ nI n' - 1
      · obtain ⟨k, hk2, rfl⟩ := rng (by omega) hk
        rw [if_pos hk, if_pos hk, g10, g10, gal_at s rfl (by omega) (by decide), show VM (0 + 6) s = nI b' from h3]
        have e : ∃ v, (∃ V1, fX3_setNumber VX (104 + 2 * s) (nI k) c = some V1 ∧ V1 = gup VX (104 + 2 * s + 1) k v) ∧ fX8_narrow VM (nI b') c = some (v, VM) := by
          unfold fX3_setNumber fX8_narrow
          rw [h2, eX_setAt k rfl (by omega) (by decide), eX_setAt k rfl (by omega) (by decide), eX_setAt k rfl (by omega) (by decide), gbv_some, gbv_some, gbv_some]
          by_cases q1 : (nI b' : Int32) = 8
          · rw [if_pos q1, if_pos q1]
            exact ⟨_, ⟨_, rfl, rfl⟩, rfl⟩
          · rw [if_neg q1, if_neg q1]
            by_cases q2 : (nI b' : Int32) = 16
            · rw [if_pos q2, if_pos q2]
              exact ⟨_, ⟨_, rfl, rfl⟩, rfl⟩
            · rw [if_neg q2, if_neg q2]
              exact ⟨_, ⟨_, rfl, rfl⟩, rfl⟩
        obtain ⟨v, ⟨V1, e1, rfl⟩, e2⟩ := e
        rw [e1, gbv_some, e2, gbi_some, gas_at (40 * s + k) (show ((40 : Int32) * nI s + nI k) = nI (40 * s + k) by rw [show (40 : Int32) = nI 40 from rfl, pk_mul, nI_add]) (by omega) (by decide)]
        refine RW.done (hR.sh (VX' := gup VX (104 + 2 * s + 1) k v) (VM' := gup VM 8 (40 * s + k) v) (fun x hx => gup_row _ _ _ (by omega)) (fun c _ _ h8 _ => gup_row _ _ _ h8) (fun t ht => ?_))
        obtain ⟨⟨b2, g1, g2, g3⟩, ⟨n2, g4, g5, g6⟩, g7⟩ := hR.2.2.2.1 t ht
        refine ⟨⟨b2, g1, by rw [gup_row _ _ _ (by omega)]; exact g2, by rw [gup_row _ _ _ (by omega)]; exact g3⟩, ⟨n2, g4, by rw [gup_row _ _ _ (by omega)]; exact g5, by rw [gup_row _ _ _ (by omega)]; exact g6⟩, fun j hj => ?_⟩
        have := g7 j hj
        by_cases hq : t = s ∧ j = k
        · obtain ⟨rfl, rfl⟩ := hq
          rw [gup_at, gup_at]
        · rw [gup_ne _ _ (by omega), gup_ne _ _ (by omega)]
          exact this
      · rw [if_neg hk, if_neg hk, g00, g00]
        exact hR.e1
  · simp only [if_neg ha, g00]
    exact hR.e1

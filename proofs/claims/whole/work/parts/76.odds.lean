/-! ===== PURE: odds ===== -/
theorem Thk.again {VM V : gV} (_ : Thk VM V) : Thk (mvV V 3 1) (mvV V 3 1) := ⟨fun k hk => by rw [mv_oth (by decide), mv_to hk], mRest.rf⟩
theorem Thk.start {VM : gV} : Thk (mvV VM 1 3) (mvV VM 1 3) := ⟨fun k hk => by rw [mv_to hk, mv_oth (by decide)], mRest.rf⟩
theorem RW.mvT {i : Nat} {VX VM : gV} {L : lW} {nh nc : Nat} (h : RW i VX VM L nh nc) : RW i VX (mvV VM 1 3) L nh nc := h.keep (fun _ _ _ _ => rfl) mv13 Thk.of.2
theorem gup_r (V : gV) (k : Nat) (v : Int32) : gup V 1 k v 1 = rup (V 1) k v := (Sro.gup V k v).row
theorem CO.setWater {V : gV} {w : Nat} {r : rR} {L : lW} {nh nc h v : Nat} (hO : CO V w r L nh nc) (hh : h < nh) (hv : v ≤ 9) : CO (gup V (w + 14 + 1 * h) 1 (nI v)) w (rup r (8 + 2 * h + 1) (nI v)) L nh nc := by
  have h4 := hO.2.1.1
  obtain ⟨e0, e1⟩ := hO.2.2.2.1 h hh
  obtain ⟨⟨a, ha, ea⟩, -⟩ := hO.2.1.2.2.2.2.1 h hh
  refine hO.house (h := h) hh h4 (Nat.le_refl _) (fun k hk _ => hk) (fun x _ _ _ _ _ => gup_row _ _ _ (by omega)) ?_ ?_ ?_ ?_ (fun k _ _ _ _ => rup_ne _ _ (by omega)) ?_ ⟨⟨a, ha, ?_⟩, ⟨v, hv, ?_⟩⟩ ?_ ?_
  · rw [gup_row _ _ _ (by omega)]; exact hO.2.2.1.1
  · rw [gup_row _ _ _ (by omega)]
  · rw [gup_row _ _ _ (by omega)]
  · rw [gup_row _ _ _ (by omega)]
  · rw [rup_ne _ _ (by omega)]; exact hO.2.1.2.2.1
  · unfold sHands at ea ⊢
    rw [rup_ne _ _ (by omega)]; exact ea
  · exact rup_at _ _ _
  · unfold sHands at e0 ⊢
    rw [rup_ne _ _ (by omega), ← e0, show w + 14 + 1 * h = w + 14 + h by omega]
    exact gup_ne _ _ (by omega)
  · unfold sWater
    rw [rup_at, show w + 14 + 1 * h = w + 14 + h by omega]
    exact gup_at _ _ _ _
theorem CO.setHands {V : gV} {w : Nat} {r : rR} {L : lW} {nh nc h v : Nat} (hO : CO V w r L nh nc) (hh : h < nh) (hv : v ≤ 18) : CO (gup V (w + 14 + 1 * h) 0 (nI v)) w (rup r (8 + 2 * h) (nI v)) L nh nc := by
  have h4 := hO.2.1.1
  obtain ⟨e0, e1⟩ := hO.2.2.2.1 h hh
  obtain ⟨-, ⟨a, ha, ea⟩⟩ := hO.2.1.2.2.2.2.1 h hh
  refine hO.house (h := h) hh h4 (Nat.le_refl _) (fun k hk _ => hk) (fun x _ _ _ _ _ => gup_row _ _ _ (by omega)) ?_ ?_ ?_ ?_ (fun k _ _ _ _ => rup_ne _ _ (by omega)) ?_ ⟨⟨v, hv, ?_⟩, ⟨a, ha, ?_⟩⟩ ?_ ?_
  · rw [gup_row _ _ _ (by omega)]; exact hO.2.2.1.1
  · rw [gup_row _ _ _ (by omega)]
  · rw [gup_row _ _ _ (by omega)]
  · rw [gup_row _ _ _ (by omega)]
  · rw [rup_ne _ _ (by omega)]; exact hO.2.1.2.2.1
  · exact rup_at _ _ _
  · unfold sWater at ea ⊢
    rw [rup_ne _ _ (by omega)]; exact ea
  · unfold sHands
    rw [rup_at, show w + 14 + 1 * h = w + 14 + h by omega]
    exact gup_at _ _ _ _
  · unfold sWater at e1 ⊢
    rw [rup_ne _ _ (by omega), ← e1, show w + 14 + 1 * h = w + 14 + h by omega]
    exact gup_ne _ _ (by omega)
/-- the model's row with one number of a house changed -/
theorem MO.house {V : gV} {L : lW} {nh nc k : Nat} {v : Int32} (h : MO V L nh nc) (hk : 8 ≤ k ∧ k < 16) (hr : rOk (rup (V 1) k v) nh nc) : MO (gup V 1 k v) L nh nc := by
  unfold MO
  rw [gup_r]
  exact ⟨h.1.congr (rup_ne _ _ (by omega)) (rup_ne _ _ (by omega)) (fun i a b => rup_ne _ _ (by omega)), h.2.1, hr⟩
def partP (a b : Int32) : Nat → Int32 → Option Int32
  | 0, _ => none
  | n + 1, d => if d ≤ 1 then some b else if d = 0 then none else if grm 10 d = 0 then (if d = 0 then none else if grm a d = 0 then (if d = 0 then none else some (b / d)) else partP a b n (d + (-1))) else partP a b n (d + (-1))
def divP : Nat → Int32 → Int32 → Option Int32
  | 0, _, _ => none
  | n + 1, x, y => if y = 0 then some x else if y = 0 then none else divP n y (grm x y)
theorem x_part_L (V : gV) (a b : Int32) : ∀ (n : Nat) (d : Int32), fX7_partInLowestTerms_L1 V a b n d = (partP a b n d).map (fun q => (q, V)) := by
  intro n
  induction n with
  | zero => intro d; rfl
  | succ n ih =>
    intro d
    show fX7_partInLowestTerms_L1b V a b _ d = _
    unfold fX7_partInLowestTerms_L1b partP gdv
    rw [ih]
    repeat' split
    all_goals rfl
theorem m_div_L (V : gV) : ∀ (n : Nat) (a b : Int32), fX8_divisor_L1 V n a b = (divP n a b).map (fun q => (q, V)) := by
  intro n
  induction n with
  | zero => intro a b; rfl
  | succ n ih =>
    intro a b
    show fX8_divisor_L1b V _ a b = _
    unfold fX8_divisor_L1b divP gdv glt
    simp only [ih]
    repeat' split
    all_goals rfl
theorem part_ok : ∀ t, t < 11 → divP 5000 (nI t) 10 = some (nI (Nat.gcd t 10)) ∧ ¬ nI (Nat.gcd t 10) = 0 ∧ partP (nI t) (nI t) 5000 10 = some (nI t / nI (Nat.gcd t 10)) ∧ partP (nI t) 10 5000 10 = some (10 / nI (Nat.gcd t 10)) := by decide +kernel
theorem pr_odds_L {i g h n p : Nat} {L : lW} {nh nc : Nat} (hg : g < 10) (hh : h < nh) (hn : n ≤ 99) (hp : p ≤ 1) : ∀ (m f f2 v s : Nat) (VX V : gV), v + m = 10 → m < f → m < f2 → s ≤ v → RW i VX V L nh nc → Thk V V → gEq (Rel0 (i + 6)) (fX7_odds_L1 (nI g) (nI h) (nI n) (nI p) f VX (nI s) (nI v)) (fX8_odds_L1 (nI g) (nI h) (nI n) (nI p) f2 V (nI s) (nI v)) := by
  intro m
  induction m with
  | zero =>
    intro f f2 v s VX V h1 h2 h3 hs hR hT
    obtain ⟨f, rfl⟩ : ∃ f', f = f' + 1 := ⟨f - 1, by omega⟩
    obtain ⟨f2, rfl⟩ : ∃ f', f2 = f' + 1 := ⟨f2 - 1, by omega⟩
    obtain rfl : v = 10 := by omega
    show gEq _ (fX7_odds_L1b _ _ _ _ _ VX (nI s) (nI 10)) (fX8_odds_L1b _ _ _ _ _ V (nI s) (nI 10))
    unfold fX7_odds_L1b fX8_odds_L1b fX7_partInLowestTerms fX8_divisor
    obtain ⟨p1, p2, p3, p4⟩ := part_ok s (by omega)
    rw [if_pos (show (9 : Int32) < nI 10 by decide), if_pos (show (9 : Int32) < nI 10 by decide), x_part_L, x_part_L, m_div_L, show gFu = 5000 from rfl, p1, p3, p4]
    simp only [Option.map_some, gbi_some, gdv_ne p2]
    have hc : p = 0 ∨ p = 1 := by omega
    rcases hc with rfl | rfl
    · rw [if_pos (by decide), if_pos (by decide)]
      exact hR.done
    · rw [if_neg (by decide), if_neg (by decide)]
      exact hR.done
  | succ m ih =>
    intro f f2 v s VX V h1 h2 h3 hs hR hT
    obtain ⟨f, rfl⟩ : ∃ f', f = f' + 1 := ⟨f - 1, by omega⟩
    obtain ⟨f2, rfl⟩ : ∃ f', f2 = f' + 1 := ⟨f2 - 1, by omega⟩
    have h4 := hR.h4
    show gEq _ (fX7_odds_L1b _ _ _ _ _ VX (nI s) (nI v)) (fX8_odds_L1b _ _ _ _ _ V (nI s) (nI v))
    unfold fX7_odds_L1b fX8_odds_L1b
    simp only [Nat.reduceAdd, gbi_some, gbr_some, gbv_some, gpu_eq, glt_eq, gjn_eq, r1_0, r1_1, r1_2, r1_3, r1_4, r1_5, w1_0, w1_1, w1_2, w1_3, w1_4, w1_5]
    obtain ⟨V1, e1, hC1, hO1, -, -⟩ := hR.think
    have hC2 := hC1.setWater (h := h) (v := v) hh (by omega)
    obtain ⟨V3, e3, hC3, hD3⟩ := x_days (k := n) (by omega) hC2
    have hM2 : MO (gup V 1 (8 + 2 * h + 1) (nI v)) L nh nc := hR.mo.house (by omega) hC2.2.1
    obtain ⟨W3, q3, hS3⟩ := m_passes (k := n) (by omega) hM2
    obtain ⟨W4, q4, hS4⟩ := m_guests (hM2.days hS3.row) (nI h)
    have hT4 : Thk V W4 := ((hT.row (fun c hc => gup_row _ _ _ hc)).sro hS3).scr hS4
    have hR4 : RW i V3 (mvV W4 3 1) L nh nc := hT4.back (hR.o61 ((hO1.tr (O61.gup (by omega) (by omega) _ _)).tr (O61.day hD3)))
    rw [if_neg (show ¬ 9 < nI v from nI_nlt (a := 9) (by omega) (by decide)), if_neg (show ¬ 9 < nI v from nI_nlt (a := 9) (by omega) (by decide)), e1, gbv_some, x_houseAt (by omega), gbr_some, e3, gbv_some, x_isIn hC3 hg, gbi_some, w1_at (8 + 2 * h + 1) (by rw [m_hx h]; exact nI_1 _) (by omega), q3, gbv_some, q4, gbi_some, m_has, gbi_some, hS3.row, gup_r, nI_1, nI_1]
    by_cases hb : hasB (sGuests L (sDays L nc n (rup (V 1) (8 + 2 * h + 1) (nI v))) nc (nI h)) (nI g)
    · simp only [if_pos hb, g10, m_move (show 3 ≠ 1 by decide), gbv_some]
      exact ih f f2 (v + 1) (s + 1) V3 (mvV W4 3 1) (by omega) (by omega) (by omega) (by omega) hR4 hT4.again
    · simp only [if_neg hb, g00, gTT, m_move (show 3 ≠ 1 by decide), gbv_some]
      rw [show nI s + 0 = nI s from Int32.add_zero _]
      exact ih f f2 (v + 1) s V3 (mvV W4 3 1) (by omega) (by omega) (by omega) (by omega) hR4 hT4.again
theorem pr_odds {i : Nat} {VX VM : gV} {L : lW} {nh nc : Nat} (hR : RW i VX VM L nh nc) (a b c d : Int32) : gEq (Rel0 (i + 6)) (fX7_odds VX a b c d) (fX8_odds VM a b c d) := by
  have h4 := hR.h4
  unfold fX7_odds fX8_odds
  simp only [Nat.reduceAdd, gbi_some, gbr_some, gbv_some, gpu_eq, glt_eq, gjn_eq, r1_0, r1_1, r1_2, r1_3, r1_4, r1_5, w1_0, w1_1, w1_2, w1_3, w1_4, w1_5]
  rw [d_isGuest, dm_isGuest]
  by_cases ha : 0 ≤ a ∧ a ≤ 9
  · rw [if_pos ha, if_pos ha, g10, g10, d_isHouse hR.nhX, dm_isHouse hR.nhM]
    by_cases hb : 0 ≤ b ∧ b ≤ nI nh - 1
    · rw [if_pos hb, if_pos hb, g10, g10, d_within, d_in]
      by_cases hc : 0 ≤ c ∧ c ≤ 99
      · rw [if_pos hc, if_pos hc, g10, g10, d_within, d_in]
        by_cases hd : 0 ≤ d ∧ d ≤ 1
        · rw [if_pos hd, if_pos hd, g10, g10, m_move (by decide), gbv_some]
          obtain ⟨g, hg, rfl⟩ := rngc (n := 9) (by decide) ha
          obtain ⟨h, hh, rfl⟩ := rng (by omega) hb
          obtain ⟨n, hn, rfl⟩ := rngc (n := 99) (by decide) hc
          obtain ⟨p, hp, rfl⟩ := rngc (n := 1) (by decide) hd
          exact pr_odds_L (by omega) hh hn hp 10 gFu gFu 0 0 VX (mvV VM 1 3) (by omega) (by unfold gFu; omega) (by unfold gFu; omega) (by omega) hR.mvT Thk.start
        · rw [if_neg hd, if_neg hd, g00, g00]
          exact hR.e1
      · rw [if_neg hc, if_neg hc, g00, g00]
        exact hR.e1
    · rw [if_neg hb, if_neg hb, g00, g00]
      exact hR.e1
  · rw [if_neg ha, if_neg ha, g00, g00]
    exact hR.e1

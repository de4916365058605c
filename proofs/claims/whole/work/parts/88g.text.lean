/-! ===== PURE: text ===== -/
theorem m_copyT {u : Nat} (hu : u ≤ 1) : ∀ (m f k : Nat) (V : gV), k + m = 50 → m < f → ∃ V', fX8_text_L1 (nI u) f V (nI k) = fX8_text_L1b (nI u) (fun _ _ => none) V' (nI 50) ∧ (∀ c, c ≠ 1 → V' c = V c) ∧ (∀ j, ¬ (164 + 50 * u + k ≤ j ∧ j < 214 + 50 * u) → V' 1 j = V 1 j) ∧ ∀ j, k ≤ j → j < 50 → V' 1 (164 + 50 * u + j) = V 1 (94 + j) := by
  intro m
  induction m with
  | zero =>
    intro f k V h1 h2
    obtain ⟨f, rfl⟩ : ∃ f', f = f' + 1 := ⟨f - 1, by omega⟩
    obtain rfl : k = 50 := by omega
    refine ⟨V, ?_, fun _ _ => rfl, fun _ _ => rfl, fun j a b => absurd b (by omega)⟩
    show fX8_text_L1b _ _ V (nI 50) = _
    unfold fX8_text_L1b
    rw [if_pos (show (50 : Int32) ≤ nI 50 by decide), if_pos (show (50 : Int32) ≤ nI 50 by decide)]
  | succ m ih =>
    intro f k V h1 h2
    obtain ⟨f, rfl⟩ : ∃ f', f = f' + 1 := ⟨f - 1, by omega⟩
    have e1 : (94 : Int32) + nI k = nI (94 + k) := pI_add 94 k
    have e2 : (164 : Int32) + 50 * nI u + nI k = nI (164 + 50 * u + k) := by rw [show (164 : Int32) = nI 164 from rfl, show (50 : Int32) = nI 50 from rfl, pI_mul, pI_add, pI_add]
    obtain ⟨V1, q1, q2, q3, q4⟩ := ih f (k + 1) (gup V 1 (164 + 50 * u + k) (V 1 (94 + k))) (by omega) (by omega)
    refine ⟨V1, ?_, fun c hc => (q2 c hc).trans (gup_row _ _ _ hc), fun j hj => ?_, fun j a b => ?_⟩
    · rw [← q1]
      show fX8_text_L1b _ _ V (nI k) = _
      rw [show fX8_text_L1b (nI u) (fX8_text_L1 (nI u) f) V (nI k) = (gal V (0 + 1) (94 + nI k) 264 fun x33 => gas V (0 + 1) (164 + 50 * nI u + nI k) 264 x33 fun V34 => fX8_text_L1 (nI u) f V34 (nI k + 1)) from if_neg (show ¬ 50 ≤ nI k from nI_ge (b := 50) (by omega) (by decide))]
      simp only [Nat.reduceAdd]
      rw [e1, r1_at (94 + k) rfl (by omega), e2, w1_at (164 + 50 * u + k) rfl (by omega), nI_1]
    · rw [q3 j (by omega), gup_ne _ _ (by omega)]
    · by_cases hjk : j = k
      · subst hjk
        rw [q3 _ (by omega), gup_at]
      · rw [q4 j (by omega) b, gup_ne _ _ (by omega)]
theorem RW.tape0 {i : Nat} {VX VM : gV} {L : lW} {nh nc : Nat} (hR : RW i VX VM L nh nc) : RW i (gup VX 1 10 0) (gup VM 1 4 0) L nh nc := by
  have g := hR.1
  refine ⟨?_, hR.2.congr (fun x hx => gup_row _ _ _ (by omega)) (mRest.cell fun c c1 _ _ _ _ => gup_row _ _ _ c1)⟩
  refine hR.1.gen (fun x _ _ _ _ _ _ => gup_row _ _ _ (by omega)) (gup_ne _ _ (by omega)) (gup_ne _ _ (by omega)) ?_ ?_ (fun k _ _ _ _ => gup_ne _ _ (by omega)) ?_ ?_ ?_ (fun k hk => ?_) (fun k hk => ?_)
  · rw [gup_ne _ _ (by omega), gup_ne _ _ (by omega)]; exact g.1.2.2.1.2.2.1
  · rw [gup_ne _ _ (by omega), gup_ne _ _ (by omega)]; exact g.1.2.2.1.2.2.2
  · rw [gup_ne _ _ (by omega)]; exact g.2.2.2.1
  · rw [gup_at, gup_at]; exact ⟨0, by omega, rfl, rfl⟩
  · rw [gup_ne _ _ (by omega), gup_ne _ _ (by omega)]; exact g.2.2.2.2.2.1
  · rw [gup_row _ _ _ (by omega), gup_ne _ _ (by omega)]; exact g.2.2.2.2.2.2.1 k hk
  · rw [gup_row _ _ _ (by omega), gup_ne _ _ (by omega)]; exact g.2.2.2.2.2.2.2 k hk
/-- the class reads the tape -/
theorem x_fault {V : gV} {bs : Nat → Int32} {len u cn : Nat} (hu : u ≤ 1) (hl : len ≤ 50) (hcn : cn = 113 + u) (hs3 : V 113 = V0X 113) (hs4 : V 114 = V0X 114) (hb : ∀ k, k < 50 → V 13 k = bs k) : ∃ V', fX2_faultOf V 91 13 50 (nI len) cn 3 = some (if (sPar bs len (nmU u) 60 0 0 0).1 = true ∧ (sPar bs len (nmU u) 60 0 0 0).2.1 = len then -1 else nI (sPar bs len (nmU u) 60 0 0 0).2.1, V') ∧ (∀ x, ¬ (91 ≤ x ∧ x < 97) → V' x = V x) ∧ ((sPar bs len (nmU u) 60 0 0 0).1 = true ∧ (sPar bs len (nmU u) 60 0 0 0).2.1 = len → V' 92 2 = nI (sPar bs len (nmU u) 60 0 0 0).2.2.length ∧ ∀ k, k < (sPar bs len (nmU u) 60 0 0 0).2.2.length → V' 93 k = (sPar bs len (nmU u) 60 0 0 0).2.2.getD k 0) := by
  have hnm : ∀ i, i < 3 → ¬ nmU u i = -1 := (aV_E (bs := bs) (a := 0) (b := 0) (c := 0) hu hl).nm1
  obtain ⟨b1, b2, b3⟩ := sPar_B (bs := bs) hnm 60 0 0 0 (Nat.zero_le len)
  unfold fX2_faultOf
  simp only [Nat.reduceAdd, gbi_some, gbr_some, gbv_some, gpu_eq, glt_eq, gjn_eq, r1_0, r1_1, r1_2, r1_3, r1_4, r1_5, w1_0, w1_1, w1_2, w1_3, w1_4, w1_5]
  rw [show fX7_copyRow V 13 50 95 50 = some (gcV V 13 0 95 0 50) from x_copyRow (by decide), gbv_some, show fX7_copyRow (gcV V 13 0 95 0 50) cn 3 96 3 = some (gcV (gcV V 13 0 95 0 50) cn 0 96 0 3) from x_copyRow (by decide), gbv_some]
  generalize hW0 : gcV (gcV V 13 0 95 0 50) cn 0 96 0 3 = W0
  have w0 : ∀ x, x ≠ 95 → x ≠ 96 → W0 x = V x := fun x h1 h2 => by rw [← hW0, gcV_row h2, gcV_row h1]
  have w95 : ∀ k, k < 50 → W0 95 k = bs k := fun k hk => by rw [← hW0, gcV_row (by decide), gcV_at hk]; exact hb k hk
  have w96 : ∀ k, k < 3 → W0 96 k = nmU u k := fun k hk => by
    rw [← hW0, gcV_at hk, gcV_row (by omega), hcn]
    have huc : u = 0 ∨ u = 1 := by omega
    have hkc : k = 0 ∨ k = 1 ∨ k = 2 := by omega
    rcases huc with rfl | rfl
    · rw [show (113 : Nat) + 0 = 113 from rfl, hs3]
      rcases hkc with rfl | rfl | rfl <;> decide
    · rw [show (113 : Nat) + 1 = 114 from rfl, hs4]
      rcases hkc with rfl | rfl | rfl <;> decide
  generalize hW : gup (gup (gup (gup W0 91 3 (nI len)) 91 4 0) 91 5 (-1)) 92 2 0 = W
  have wo : ∀ x, x ≠ 91 → x ≠ 92 → W x = W0 x := fun x h1 h2 => by rw [← hW, gup_row _ _ _ h2, gup_row _ _ _ h1, gup_row _ _ _ h1, gup_row _ _ _ h1]
  have hE : CE W bs len (nmU u) := ⟨by rw [← hW, gup_ne _ _ (by omega), gup_ne _ _ (by omega), gup_ne _ _ (by omega), gup_at], hl, fun k hk => by rw [wo 95 (by decide) (by decide)]; exact w95 k hk, fun k hk => by rw [wo 96 (by decide) (by decide)]; exact w96 k hk⟩
  have hS : CS W W 0 [] := ⟨⟨fun _ _ _ _ => rfl, fun _ _ _ => rfl, fun _ _ => rfl⟩, by rw [← hW, gup_ne _ _ (by omega), gup_ne _ _ (by omega), gup_at]; rfl, by rw [← hW, gup_ne _ _ (by omega), gup_at], by rw [← hW, gup_at]; rfl, fun k hk => absurd hk (by simp)⟩
  obtain ⟨V1, e1, q1⟩ := c_par hE hnm 60 0 0 0 60 [] W (by omega) (by omega) (by omega) (by omega) (by omega) (Nat.le_refl _) hS
  have fr : ∀ V2, CR W V2 → ∀ x, ¬ (91 ≤ x ∧ x < 97) → V2 x = V x := fun V2 h x hx => by
    rw [h.1 x (by omega) (by omega) (by omega), wo x (by omega) (by omega), w0 x (by omega) (by omega)]
  rw [show frdX2 60 0 W 91 0 0 = _ from e1, gbv_some]
  unfold cPost at q1
  by_cases ho : (sPar bs len (nmU u) 60 0 0 0).1 = true
  · rw [if_pos ho] at q1
    rw [q1.1.2.1 3 (by decide) (by decide), hE.1, q1.2.1]
    by_cases hq : (sPar bs len (nmU u) 60 0 0 0).2.1 = len
    · rw [if_pos (by rw [hq]; exact Int32.le_refl _), if_pos ⟨ho, hq⟩, q1.2.2.1]
      exact ⟨V1, rfl, fr V1 q1.1, fun _ => ⟨q1.2.2.2.1, q1.2.2.2.2⟩⟩
    · obtain ⟨V2, e2, q2⟩ := c_fail q1
      rw [if_neg (nI_ge (by omega) (by omega)), if_neg (fun w => hq w.2), e2, gbv_some, q2.2]
      exact ⟨V2, rfl, fr V2 q2.1, fun w => absurd w.2 hq⟩
  · rw [if_neg ho] at q1
    rw [if_neg (show ¬ ((sPar bs len (nmU u) 60 0 0 0).1 = true ∧ (sPar bs len (nmU u) 60 0 0 0).2.1 = len) from fun w => ho w.1), c_failF (by omega) q1, gbv_some, q1.2, ite_self]
    exact ⟨V1, rfl, fr V1 q1.1, fun w => absurd w.1 ho⟩
def newL (L : lW) (u : Nat) (l : List Int32) : lW := fun u' => if u' = u then (fun a b c => hold u (lawV a b c l)) else L u'
theorem newL_at {L : lW} {u : Nat} {l : List Int32} (a b c : Int32) : newL L u l u a b c = hold u (lawV a b c l) := by
  unfold newL
  rw [if_pos rfl]
theorem newL_ne {L : lW} {u u' : Nat} {l : List Int32} (h : u' ≠ u) : newL L u l u' = L u' := if_neg h
theorem newL_ok {L : lW} {u : Nat} {l : List Int32} (hu : u ≤ 1) (h : lOk L) : lOk (newL L u l) := fun a b c => by
  have huc : u = 0 ∨ u = 1 := by omega
  rcases huc with rfl | rfl
  · rw [newL_at, newL_ne (by decide)]
    exact ⟨(hold_ok _).1, (h a b c).2⟩
  · rw [newL_at, newL_ne (by decide)]
    exact ⟨(h a b c).1, (hold_ok _).2⟩

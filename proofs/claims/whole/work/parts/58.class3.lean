/-! ===== PURE: the class's days and sets ===== -/
theorem held_eq (v : Int32) : gmx 0 (gmn 9999 v) = sHeld v := by
  by_cases h : v < 0
  · unfold gmx gmn sHeld
    rw [if_pos (show v < 9999 from by
      rw [Int32.lt_iff_toInt_lt] at h ⊢
      have : (0 : Int32).toInt = 0 := by decide
      have : (9999 : Int32).toInt = 9999 := by decide
      omega), if_neg (fun q => absurd h (Int32.not_lt.mpr (Int32.le_of_lt q))), if_neg (Int32.not_le.mpr h)]
  · obtain ⟨j, hj, rfl⟩ := nI_of h
    rw [sHeld_ok hj]
    unfold gmx gmn
    by_cases h1 : j < 9999
    · rw [if_pos (show nI j < 9999 from nI_lt (b := 9999) h1 (by decide)), Nat.min_eq_left (by omega)]
      by_cases h0 : j = 0
      · subst h0; rfl
      · rw [if_pos (show (0 : Int32) < nI j from nI_lt (a := 0) (by omega) hj)]
    · rw [if_neg (show ¬ nI j < 9999 from nI_nlt (b := 9999) (by omega) hj), Nat.min_eq_right (by omega)]
      rfl
theorem x_held (V : gV) (a lo hi : Int32) : fX7_held V a lo hi = some (gmx lo (gmn hi a), V) := rfl
theorem rOk_setW {r : rR} {nh nc i a : Nat} (hi : i < nc) (ha : a ≤ 9999) (h : rOk r nh nc) : rOk (rup r (16 + 13 * i + 4) (nI a)) nh nc := by
  obtain ⟨h1, h2, h3, h4, h5, h6⟩ := h
  refine ⟨h1, h2, (rup_ne _ _ (by omega)).trans h3, (rup_ne _ _ (by omega)).trans h4, fun k hk => hOk_congr (rup_ne _ _ (by omega)) (rup_ne _ _ (by omega)) (h5 k hk), fun j hj => cOk_congr (fun k hk hk4 => rup_ne _ _ (by omega)) ?_ (h6 j hj)⟩
  unfold kW
  by_cases hji : j = i
  · subst hji
    exact ⟨a, ha, rup_at _ _ _⟩
  · rw [rup_ne _ _ (by omega)]
    exact (h6 j hj).2.2.2.2
theorem CO.setW {V : gV} {w : Nat} {r : rR} {L : lW} {nh nc i : Nat} {v : Int32} (h : CO V w r L nh nc) (hi : i < nc) (hv : ∃ a, a ≤ 9999 ∧ v = nI a) : CO (gup V (w + 18 + 2 * i) 5 v) w (rup r (16 + 13 * i + 4) v) L nh nc := by
  obtain ⟨a, ha, rfl⟩ := hv
  obtain ⟨hL, hr, hw, hH, hC, hT0, hT1⟩ := h
  have h4 := hr.1
  have h6 := hr.2.1
  have g : ∀ x, x ≠ w + 18 + 2 * i → gup V (w + 18 + 2 * i) 5 (nI a) x = V x := fun x hx => gup_row V 5 _ hx
  refine ⟨hL, rOk_setW hi ha hr, by rw [g w (by omega), rup_ne _ _ (by omega), rup_ne _ _ (by omega)]; exact hw, fun k hk => ?_, fun j hj => ?_, by rw [g _ (by omega), g _ (by omega)]; exact hT0, by rw [g _ (by omega), g _ (by omega)]; exact hT1⟩
  · rw [g _ (by omega)]
    unfold sHands sWater
    rw [rup_ne _ _ (by omega), rup_ne _ _ (by omega)]
    exact hH k hk
  · have hth : sThick L (rup r (16 + 13 * i + 4) (nI a)) j = sThick L r j := sThick_congr (fun k hk => rup_ne _ _ (by omega))
    obtain ⟨c1, c2, c3, c4, c5, c6, c7⟩ := hC j hj
    have q : ∀ k, k < 13 → ¬ (j = i ∧ k = 4) → rup r (16 + 13 * i + 4) (nI a) (16 + 13 * j + k) = r (16 + 13 * j + k) := fun k hk hh => rup_ne _ _ (by omega)
    unfold cakeC
    rw [hth]
    unfold kK kM kH kL kN at *
    rw [q 1 (by omega) (by omega), q 2 (by omega) (by omega), q 3 (by omega) (by omega), show rup r (16 + 13 * i + 4) (nI a) (16 + 13 * j) = r (16 + 13 * j) from q 0 (by omega) (by omega)]
    have nms : ∀ i_1 a_1, a_1 ≤ 8 → r (16 + 13 * j + 3) = nI a_1 → i_1 < a_1 → gup V (w + 18 + 2 * i) 5 (nI a) (w + 18 + 2 * j + 1) i_1 = rup r (16 + 13 * i + 4) (nI a) (16 + 13 * j + (5 + i_1)) := fun x y hy hxy hx => by
      rw [g _ (by omega), q (5 + x) (by omega) (by omega)]
      exact c7 x y hy hxy hx
    by_cases hji : j = i
    · subst hji
      have z : ∀ k, k ≠ 5 → gup V (w + 18 + 2 * j) 5 (nI a) (w + 18 + 2 * j) k = V (w + 18 + 2 * j) k := fun k hk => gup_ne V _ (fun q => hk q.2)
      refine ⟨(z 1 (by omega)).trans c1, (z 2 (by omega)).trans c2, (z 3 (by omega)).trans c3, (z 4 (by omega)).trans c4, ?_, (z 6 (by omega)).trans c6, nms⟩
      rw [gup_at]
      exact (rup_at _ _ _).symm
    · rw [g _ (by omega)]
      exact ⟨c1, c2, c3, c4, c5.trans (q 4 (by omega) (by omega)).symm, c6, nms⟩
/-- behind days: worns, the day and the stacks alone differ -/
def Day (w : Nat) (V V' : gV) : Prop := (∀ x, x ≠ w → x ≠ w + 8 → x ≠ w + 11 → (∀ j, j < 6 → x ≠ w + 18 + 2 * j) → V' x = V x) ∧ ∀ k, k ≠ 12 → V' w k = V w k
theorem Day.rf {w : Nat} {V : gV} : Day w V V := ⟨fun _ _ _ _ _ => rfl, fun _ _ => rfl⟩
theorem Day.tr {w : Nat} {V V1 V2 : gV} (h1 : Day w V V1) (h2 : Day w V1 V2) : Day w V V2 := ⟨fun x a b c d => (h2.1 x a b c d).trans (h1.1 x a b c d), fun k hk => (h2.2 k hk).trans (h1.2 k hk)⟩
theorem Day.stk {w : Nat} {V V1 : gV} (h : Stk w V V1) : Day w V V1 := ⟨fun x _ b c _ => h x b c, fun k _ => by rw [h w (by omega) (by omega)]⟩
theorem Day.cake {w j : Nat} (hj : j < 6) (V : gV) (v : Int32) : Day w V (gup V (w + 18 + 2 * j) 5 v) := ⟨fun x _ _ _ d => gup_row V 5 v (d j hj), fun k _ => by rw [gup_row V 5 v (show w ≠ w + 18 + 2 * j by omega)]⟩
theorem Day.out {w : Nat} {V V' : gV} (h : Day w V V') {x : Nat} (hx : x < w ∨ w + 30 ≤ x) : V' x = V x := h.1 x (by omega) (by omega) (by omega) (fun j hj => by omega)
theorem x_day_L {w : Nat} {L : lW} {nh nc : Nat} {r : rR} (hr : rOk r nh nc) : ∀ (m fuel i : Nat) (V : gV), i + m = nc → m < fuel → CO V w (sDayTo L r i) L nh nc → ∃ V', fX6_passDay_L1 w fuel V (nI i) = some V' ∧ CO V' w (sDay L r nc) L nh nc ∧ Day w V V' := by
  intro m
  have h6 := hr.2.1
  induction m with
  | zero =>
    intro fuel i V h1 h2 hO
    obtain ⟨fuel, rfl⟩ : ∃ f, fuel = f + 1 := ⟨fuel - 1, by omega⟩
    have hi : i = nc := by omega
    subst hi
    show ∃ V', fX6_passDay_L1b w _ V (nI i) = _ ∧ _
    unfold fX6_passDay_L1b
    rw [hO.2.2.1.2.1, if_pos (nI_le (by omega) (by omega)), gpu_eq]
    refine ⟨_, rfl, ?_, ⟨fun x a _ _ _ => gup_row V 12 _ a, fun k hk => gup_ne V _ (fun q => hk q.2)⟩⟩
    obtain ⟨hL, hd, ⟨w1, w2, w3, w4⟩, hH, hC, hT0, hT1⟩ := hO
    have e0 : sDayTo L r i 0 = r 0 := sDayTo_oth i (fun j hj => by omega)
    have g : ∀ x, x ≠ w → gup V w 12 (V w 12 + 1) x = V x := fun x hx => gup_row V 12 _ hx
    have z : ∀ k, k ≠ 12 → gup V w 12 (V w 12 + 1) w k = V w k := fun k hk => gup_ne V _ (fun q => hk q.2)
    have s : ∀ k, k ≠ 0 → sDay L r i k = sDayTo L r i k := fun k hk => rup_ne _ _ hk
    have cg : ∀ j k, sDay L r i (16 + 13 * j + k) = sDayTo L r i (16 + 13 * j + k) := fun j k => s _ (by omega)
    refine ⟨hL, rOk_day hL hr, ⟨(z 8 (by omega)).trans w1, (z 9 (by omega)).trans w2, ?_, ?_⟩, fun k hk => ?_, fun j hj => ?_, by rw [g _ (by omega), g _ (by omega)]; exact hT0, by rw [g _ (by omega), g _ (by omega)]; exact hT1⟩
    · rw [gup_at, w3, e0]
      exact (rup_at _ _ _).symm
    · rw [z 13 (by omega), w4, s 1 (by omega)]
    · rw [g _ (by omega)]
      unfold sHands sWater
      rw [s _ (by omega), s _ (by omega)]
      exact hH k hk
    · have hth : sThick L (sDay L r i) j = sThick L (sDayTo L r i) j := sThick_congr (fun k hk => cg j k)
      have := hC j hj
      unfold cakeC kK kM kH kL kW kN at *
      rw [hth, g _ (by omega), g _ (by omega), cg j 1, cg j 2, cg j 3, cg j 4, show sDay L r i (16 + 13 * j) = sDayTo L r i (16 + 13 * j) from cg j 0]
      obtain ⟨c1, c2, c3, c4, c5, c6, c7⟩ := this
      exact ⟨c1, c2, c3, c4, c5, c6, fun x y hy hxy hx => (c7 x y hy hxy hx).trans (cg j (5 + x)).symm⟩
  | succ m ih =>
    intro fuel i V h1 h2 hO
    obtain ⟨fuel, rfl⟩ : ∃ f, fuel = f + 1 := ⟨fuel - 1, by omega⟩
    have hin : i < nc := by omega
    have hHi : (kH r i).toNatClampNeg < 4 := by
      obtain ⟨c, c1, c2⟩ := (hr.2.2.2.2.2 i (by omega)).2.2.1
      have := hr.1
      rw [c2, nI_clamp (by omega)]
      omega
    have hnew : sNew L (sDayTo L r i) i = sNew L r i := sNew_congr (fun k hk => sDayTo_oth i (fun j hj => by omega)) (fun k hk => sDayTo_oth i (fun j hj => by omega)) hHi
    have hnb : ∃ a, a ≤ 9999 ∧ sNew L r i = nI a := sNew_ok hO.1 hr.1 (hr.2.2.2.2.2 i hin) hr.2.2.2.2.1
    show ∃ V', fX6_passDay_L1b w _ V (nI i) = _ ∧ _
    unfold fX6_passDay_L1b
    rw [hO.2.2.1.2.1, if_neg (nI_ge (by omega) (by omega)), x_cakeAt (by omega), gbr_some, hO.gone hin, gbi_some, nI_1]
    by_cases hg : sOut L (sDayTo L r i) i < kL (sDayTo L r i) i
    · rw [if_pos hg, if_pos rfl]
      obtain ⟨V1, e1, hS1⟩ := hO.wear hin
      have hO1 := hO.stk hS1
      have ew : V1 (w + 18 + 2 * i) 5 = kW (sDayTo L r i) i := (hO1.2.2.2.2.1 i hin).2.2.2.2.1
      rw [e1, gbi_some]
      unfold fX0_wearBy
      rw [x_held, gbi_some, gpu_eq, gbv_some, ew, held_eq]
      have hv : sHeld (kW (sDayTo L r i) i + sWear L (sDayTo L r i) i) = sNew L r i := by
        rw [← hnew]
        unfold sNew
        rw [if_pos hg]
      rw [hv]
      obtain ⟨V2, e2, hO2, hD2⟩ := ih fuel (i + 1) (gup V1 (w + 18 + 2 * i) 5 (sNew L r i)) (by omega) (by omega) (hO1.setW hin hnb)
      exact ⟨V2, e2, hO2, (Day.stk hS1).tr ((Day.cake (by omega) V1 _).tr hD2)⟩
    · rw [if_neg hg, if_neg (by decide)]
      have hsame : sDayTo L r (i + 1) = sDayTo L r i := by
        funext k
        show rup (sDayTo L r i) (16 + 13 * i + 4) (sNew L r i) k = _
        by_cases hk : k = 16 + 13 * i + 4
        · subst hk
          rw [rup_at, ← hnew]
          unfold sNew
          rw [if_neg hg]
          rfl
        · exact rup_ne _ _ hk
      obtain ⟨V2, e2, hO2, hD2⟩ := ih fuel (i + 1) V (by omega) (by omega) (by rw [hsame]; exact hO)
      exact ⟨V2, e2, hO2, hD2⟩
theorem x_day {V : gV} {w : Nat} {r : rR} {L : lW} {nh nc : Nat} (h : CO V w r L nh nc) : ∃ V', fX6_passDay V w = some V' ∧ CO V' w (sDay L r nc) L nh nc ∧ Day w V V' :=
  x_day_L h.2.1 nc gFu 0 V (Nat.zero_add _) (by have := h.2.1.2.1; unfold gFu; omega) h
theorem x_days_L {w : Nat} {L : lW} {nh nc k : Nat} (hk : k < 2 ^ 30) : ∀ (m fuel i : Nat) (V : gV) (r : rR), i + m = k → m < fuel → CO V w r L nh nc → ∃ V', fX6_passDays_L1 w (nI k) fuel V (nI i) = some V' ∧ CO V' w (sDays L nc m r) L nh nc ∧ Day w V V' := by
  intro m
  induction m with
  | zero =>
    intro fuel i V r h1 h2 hO
    obtain ⟨fuel, rfl⟩ : ∃ f, fuel = f + 1 := ⟨fuel - 1, by omega⟩
    show ∃ V', fX6_passDays_L1b w _ _ V (nI i) = _ ∧ _
    unfold fX6_passDays_L1b
    rw [if_pos (nI_le (by omega) (by omega))]
    exact ⟨V, rfl, hO, Day.rf⟩
  | succ m ih =>
    intro fuel i V r h1 h2 hO
    obtain ⟨fuel, rfl⟩ : ∃ f, fuel = f + 1 := ⟨fuel - 1, by omega⟩
    obtain ⟨V1, e1, hO1, hD1⟩ := x_day hO
    obtain ⟨V2, e2, hO2, hD2⟩ := ih fuel (i + 1) V1 _ (by omega) (by omega) hO1
    show ∃ V', fX6_passDays_L1b w _ _ V (nI i) = _ ∧ _
    unfold fX6_passDays_L1b
    rw [if_neg (nI_ge (by omega) (by omega)), e1, gbv_some, nI_1]
    exact ⟨V2, e2, hO2, hD1.tr hD2⟩
theorem x_days {V : gV} {w k : Nat} {r : rR} {L : lW} {nh nc : Nat} (hk : k < 4000) (h : CO V w r L nh nc) : ∃ V', fX6_passDays V w (nI k) = some V' ∧ CO V' w (sDays L nc k r) L nh nc ∧ Day w V V' :=
  x_days_L (by omega) k gFu 0 V r (Nat.zero_add _) (by unfold gFu; omega) h

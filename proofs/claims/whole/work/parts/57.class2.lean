/-! ===== PURE: the class's cakes and worlds ===== -/
theorem x_layerOut {V : gV} {c w t : Nat} (hw : V c 5 = nI w) (ht : V c 6 = nI t) (h1 : 1 ≤ t) (h2 : t < 2 ^ 31) (h3 : w < 2 ^ 31) : fX0_layerOut V c = some (nI (w / t), V) := by
  unfold fX0_layerOut
  rw [hw, ht, if_pos (show (1 : Int32) ≤ nI t from nI_le (a := 1) h1 h2), gdv_ne (nI_ne0 (by omega) h2), pk_div h3 (by omega) h2]
theorem x_isGone {V : gV} {c w t : Nat} (hw : V c 5 = nI w) (ht : V c 6 = nI t) (h1 : 1 ≤ t) (h2 : t < 2 ^ 31) (h3 : w < 2 ^ 31) : fX0_isGone V c = some (if nI (w / t) < V c 4 then 0 else 1, V) := by
  unfold fX0_isGone
  rw [x_layerOut hw ht h1 h2 h3, gbi_some]
  split <;> rfl
theorem x_nameOf {V : gV} {c i : Nat} (hi : i < 8) : fX0_nameOf V c (nI i) = some (V (c + 1) i, V) := by
  unfold fX0_nameOf
  rw [eX_at i rfl hi (by decide), gbi_some]
theorem x_unbribed (V : gV) (c : Nat) (a : Int32) : fX0_unbribed V c a = some (if a = V c 2 then -1 else a, V) := by
  unfold fX0_unbribed
  split <;> rfl
theorem x_shown {V : gV} {c w t n : Nat} (hw : V c 5 = nI w) (ht : V c 6 = nI t) (h1 : 1 ≤ t) (h2 : t < 2 ^ 31) (h3 : w < 2 ^ 30) (hn : n ≤ 8) (hl : V c 4 = nI n) : fX0_shown V c = some (shOf (V c 1) (V c 2) (V c 4) (nI (w / t)) (V (c + 1)), V) := by
  have ho : w / t ≤ w := Nat.div_le_self w t
  generalize hoe : w / t = o at ho
  unfold fX0_shown
  rw [x_layerOut hw ht h1 h2 (by omega), hoe, gbi_some, hl]
  unfold shOf
  by_cases hg : nI o < nI n
  · have hon : o < n := (nI_ltI (by omega) (by omega)).mp hg
    have e3 : (nI o).toNatClampNeg = o := nI_clamp (by omega)
    have e4 : (nI (o + 1)).toNatClampNeg = o + 1 := nI_clamp (by omega)
    have e2 : nI o + 1 = nI (o + 1) := nI_1 o
    rw [if_pos hg, if_pos hg, e2]
    have e5 : nI n - 1 = nI (n - 1) := pk_sub (b := 1) (by omega)
    rw [e5]
    have e6 : gmn (nI (o + 1)) (nI (n - 1)) = nI (if o + 1 < n then o + 1 else o) := by
      unfold gmn
      by_cases h5 : o + 1 < n
      · rw [if_pos h5, if_neg (nI_nlt (by omega) (by omega))]
      · rw [if_neg h5, if_pos (nI_lt (by omega) (by omega))]
        congr 1
        omega
    rw [e6]
    have h8 : (if o + 1 < n then o + 1 else o) < 8 := by split <;> omega
    simp only [x_nameOf (c := c) (show o < 8 by omega), x_nameOf (c := c) h8, gbi_some, x_unbribed]
    have c3 : nI (o + 1) < nI n ↔ o + 1 < n := nI_ltI (by omega) (by omega)
    simp only [c3]
    generalize V c 1 = kd
    generalize V c 2 = m
    by_cases h5 : o + 1 < n
    · simp only [if_pos h5, h5, and_true]
      grind
    · simp only [if_neg h5, h5, and_false, if_false, e3]
      grind
  · rw [if_neg hg, if_neg hg]
theorem x_wearWith (V : gV) (c : Nat) (a b : Int32) (ho : ¬ a * b < 0) : fX0_wearWith V c a b = some (wrOf (V c 1) (a * b), V) := by
  unfold fX0_wearWith wrOf
  have e : gmx 0 (a * b - 1) = if a * b ≤ 0 then 0 else a * b - 1 := by
    obtain ⟨j, hj, ej⟩ := nI_of ho
    rw [ej]
    unfold gmx
    by_cases h : j = 0
    · subst h
      rw [if_pos (show nI 0 ≤ 0 from by decide), if_neg (show ¬ (0 : Int32) < nI 0 - 1 from by decide)]
    · rw [if_neg (nI_nle (by omega) hj)]
      have e1 : nI j - 1 = nI (j - 1) := pk_sub (b := 1) (by omega)
      rw [e1]
      by_cases h1 : 0 < j - 1
      · rw [if_pos (show (0 : Int32) < nI (j - 1) from nI_lt (a := 0) h1 (by omega))]
      · rw [if_neg (show ¬ (0 : Int32) < nI (j - 1) from nI_nlt (b := 0) (by omega) (by omega) |> fun _ => by
          have : j - 1 = 0 := by omega
          rw [this]; decide)]
        have : j - 1 = 0 := by omega
        rw [this]
        rfl
  rw [e, gdv_ne (by decide)]
  repeat' split
  all_goals rfl
/-- a cake's cell holds what the row has of cake j -/
def cakeC (V : gV) (c : Nat) (r : rR) (L : lW) (j : Nat) : Prop := V c 1 = kK r j ∧ V c 2 = kM r j ∧ V c 3 = kH r j ∧ V c 4 = kL r j ∧ V c 5 = kW r j ∧ V c 6 = sThick L r j ∧ ∀ i a, a ≤ 8 → kL r j = nI a → i < a → V (c + 1) i = kN r j i
/-- world w of the class holds row r under the law L -/
def CO (V : gV) (w : Nat) (r : rR) (L : lW) (nh nc : Nat) : Prop := lOk L ∧ rOk r nh nc ∧ (V w 8 = nI nh ∧ V w 9 = nI nc ∧ V w 12 = r 0 ∧ V w 13 = r 1) ∧ (∀ h, h < nh → V (w + 14 + 1 * h) 0 = sHands r h ∧ V (w + 14 + 1 * h) 1 = sWater r h) ∧ (∀ j, j < nc → cakeC V (w + 18 + 2 * j) r L j) ∧ TK 0 (V (w + 6) 2) (V (w + 7)) L ∧ TK 1 (V (w + 9) 2) (V (w + 10)) L
theorem cakeC_congr {V V' : gV} {c : Nat} {r : rR} {L : lW} {j : Nat} (h1 : V' c = V c) (h2 : V' (c + 1) = V (c + 1)) (h : cakeC V c r L j) : cakeC V' c r L j := by
  unfold cakeC
  rw [h1, h2]
  exact h
theorem CO.congr {V V' : gV} {w : Nat} {r : rR} {L : lW} {nh nc : Nat} (h : CO V w r L nh nc) (e : ∀ x, w ≤ x → x < w + 30 → x ≠ w + 8 → x ≠ w + 11 → V' x = V x) : CO V' w r L nh nc := by
  obtain ⟨hL, hr, hw, hH, hC, hT0, hT1⟩ := h
  have h4 := hr.1
  have h6 := hr.2.1
  refine ⟨hL, hr, by rw [e w (by omega) (by omega) (by omega) (by omega)]; exact hw, fun k hk => ?_, fun j hj => cakeC_congr (e _ (by omega) (by omega) (by omega) (by omega)) (e _ (by omega) (by omega) (by omega) (by omega)) (hC j hj), ?_, ?_⟩
  · rw [e _ (by omega) (by omega) (by omega) (by omega)]
    exact hH k hk
  · rw [e _ (by omega) (by omega) (by omega) (by omega), e _ (by omega) (by omega) (by omega) (by omega)]
    exact hT0
  · rw [e _ (by omega) (by omega) (by omega) (by omega), e _ (by omega) (by omega) (by omega) (by omega)]
    exact hT1
theorem CO.stk {V V' : gV} {w : Nat} {r : rR} {L : lW} {nh nc : Nat} (h : CO V w r L nh nc) (hS : Stk w V V') : CO V' w r L nh nc := h.congr (fun x _ _ h1 h2 => hS x h1 h2)
theorem x_houseAt {V : gV} {w h : Nat} (hh : h < 4) : fX6_houseAt V w (nI h) = some (w + 14 + 1 * h, V) := by
  unfold fX6_houseAt
  rw [if_neg (nI_pos (by omega)), if_neg (show ¬ (4 : Int32) ≤ nI h from nI_ge (b := 4) hh (by decide)), gar_at h rfl hh (by decide), gar_at h rfl hh (by decide), nI_clamp (by omega)]
theorem x_cakeAt {V : gV} {w j : Nat} (hj : j < 6) : fX6_cakeAt V w (nI j) = some (w + 18 + 2 * j, V) := by
  unfold fX6_cakeAt
  rw [if_neg (nI_pos (by omega)), if_neg (show ¬ (6 : Int32) ≤ nI j from nI_ge (b := 6) hj (by decide)), gar_at j rfl hj (by decide), gar_at j rfl hj (by decide), nI_clamp (by omega)]
theorem CO.gone {V : gV} {w : Nat} {r : rR} {L : lW} {nh nc : Nat} (h : CO V w r L nh nc) {j : Nat} (hj : j < nc) : fX0_isGone V (w + 18 + 2 * j) = some (if sOut L r j < kL r j then 0 else 1, V) := by
  obtain ⟨hL, hr, -, -, hC, -⟩ := h
  obtain ⟨c1, c2, c3, c4, c5, c6, c7⟩ := hC j hj
  have hc := hr.2.2.2.2.2 j hj
  obtain ⟨t, t1, t2, et⟩ := sThick_ok hL hc
  obtain ⟨-, -, -, -, x, hx, ex⟩ := hc
  rw [x_isGone (c5.trans ex) (c6.trans et) t1 (by omega) (by omega), c4]
  unfold sOut
  rw [ex, et, pk_div (by omega) (by omega) (by omega)]
theorem CO.out {V : gV} {w : Nat} {r : rR} {L : lW} {nh nc : Nat} (h : CO V w r L nh nc) {j : Nat} (hj : j < nc) : fX0_layerOut V (w + 18 + 2 * j) = some (sOut L r j, V) := by
  obtain ⟨hL, hr, -, -, hC, -⟩ := h
  obtain ⟨c1, c2, c3, c4, c5, c6, c7⟩ := hC j hj
  have hc := hr.2.2.2.2.2 j hj
  obtain ⟨t, t1, t2, et⟩ := sThick_ok hL hc
  obtain ⟨-, -, -, -, x, hx, ex⟩ := hc
  rw [x_layerOut (c5.trans ex) (c6.trans et) t1 (by omega) (by omega)]
  unfold sOut
  rw [ex, et, pk_div (by omega) (by omega) (by omega)]
theorem shOf_congr {kd m : Int32} {n o : Nat} (hn : n ≤ 8) (ho : o < 2 ^ 30) {f g : Nat → Int32} (h : ∀ i, i < n → f i = g i) : shOf kd m (nI n) (nI o) f = shOf kd m (nI n) (nI o) g := by
  unfold shOf
  by_cases hl : nI o < nI n
  · have hoa : o < n := (nI_ltI (by omega) (by omega)).mp hl
    have e3 : (nI o).toNatClampNeg = o := nI_clamp (by omega)
    have e4 : (nI (o + 1)).toNatClampNeg = o + 1 := nI_clamp (by omega)
    have c3 : nI o + 1 < nI n ↔ o + 1 < n := by rw [nI_1]; exact nI_ltI (by omega) (by omega)
    have k1 := h o hoa
    simp only [c3]
    by_cases h5 : o + 1 < n
    · have k2 := h (o + 1) h5
      rw [nI_1]
      grind
    · grind
  · rw [if_neg hl, if_neg hl]
theorem CO.shows {V : gV} {w : Nat} {r : rR} {L : lW} {nh nc : Nat} (h : CO V w r L nh nc) {j : Nat} (hj : j < nc) : fX0_shown V (w + 18 + 2 * j) = some (sShow L r j, V) := by
  obtain ⟨hL, hr, -, -, hC, -⟩ := h
  obtain ⟨c1, c2, c3, c4, c5, c6, c7⟩ := hC j hj
  have hc := hr.2.2.2.2.2 j hj
  obtain ⟨t, t1, t2, et⟩ := sThick_ok hL hc
  obtain ⟨-, -, -, ⟨n, hn, en, -⟩, x, hx, ex⟩ := hc
  rw [x_shown (c5.trans ex) (c6.trans et) t1 (by omega) (by omega) hn (c4.trans en), c1, c2, c4]
  unfold sShow sOut
  have hd : x / t ≤ x := Nat.div_le_self x t
  rw [ex, et, pk_div (by omega) (by omega) (by omega), en, shOf_congr hn (by omega) (fun i hi => c7 i n hn en hi)]
theorem CO.wear {V : gV} {w : Nat} {r : rR} {L : lW} {nh nc : Nat} (h : CO V w r L nh nc) {j : Nat} (hj : j < nc) : ∃ V', fX6_wearOf V w (w + 18 + 2 * j) = some (sWear L r j, V') ∧ Stk w V V' := by
  obtain ⟨hL, hr, ⟨w1, w2, w3, w4⟩, hH, hC, hT0, hT1⟩ := h
  obtain ⟨c1, c2, c3, c4, c5, c6, c7⟩ := hC j hj
  obtain ⟨-, -, ⟨a, ha, ea⟩, -⟩ := hr.2.2.2.2.2 j hj
  have h4 := hr.1
  have h6 := hr.2.1
  obtain ⟨V', e1, hS⟩ := x_given1 hT1 (sWater r a) (kM r j) (r 0)
  obtain ⟨⟨x, hx, ex⟩, -⟩ := hr.2.2.2.2.1 a ha
  obtain ⟨n, hn, en⟩ := (hL (sWater r a) (kM r j) (r 0)).2
  have hno : ¬ sHands r a * L 1 (sWater r a) (kM r j) (r 0) < 0 := by
    rw [ex, en, pk_mul]
    have := Nat.mul_le_mul hx hn
    exact nI_pos (by omega)
  refine ⟨V', ?_, hS⟩
  unfold fX6_wearOf
  rw [c3, ea, x_houseAt (by omega), gbr_some, (hH a ha).2, (hH a ha).1, c2, w3, e1, gbi_some, x_wearWith _ _ _ _ hno, gbi_some, hS _ (by omega) (by omega), c1]
  unfold sWear
  rw [ea, nI_clamp (by omega)]

/-! ===== PURE: what both sides work out, told by the model's row and the law L ===== -/
abbrev rR : Type := Nat → Int32
abbrev lW : Type := Nat → Int32 → Int32 → Int32 → Int32
def rup (r : rR) (i : Nat) (v : Int32) : rR := fun k => if k = i then v else r k
theorem rup_at (r : rR) (i : Nat) (v : Int32) : rup r i v i = v := if_pos rfl
theorem rup_ne (r : rR) {i k : Nat} (v : Int32) (h : k ≠ i) : rup r i v k = r k := if_neg h
def kK (r : rR) (j : Nat) : Int32 := r (16 + 13 * j)
def kM (r : rR) (j : Nat) : Int32 := r (16 + 13 * j + 1)
def kH (r : rR) (j : Nat) : Int32 := r (16 + 13 * j + 2)
def kL (r : rR) (j : Nat) : Int32 := r (16 + 13 * j + 3)
def kW (r : rR) (j : Nat) : Int32 := r (16 + 13 * j + 4)
def kN (r : rR) (j i : Nat) : Int32 := r (16 + 13 * j + (5 + i))
def thOf (kd m v : Int32) : Int32 := if kd = 1 then v + v / 2 else if kd = 2 then (if v ≤ 1 then 1 else v / 2) else if kd = 3 then v else if kd = 4 then v + v / 2 + m else if kd = 5 then (if v ≤ 1 then 1 else v / 2) else v
def wrOf (kd v : Int32) : Int32 := if kd = 1 then (if v ≤ 0 then 0 else v - 1) else if kd = 2 then v else if kd = 3 then v else if kd = 4 then (if v ≤ 0 then 0 else v - 1) else if kd = 5 then v + 1 else if kd = 6 then v / 2 else v
def shOf (kd m l o : Int32) (nm : Nat → Int32) : Int32 := if o < l then (if kd = 6 ∧ ¬ o < 3 then -1 else if (kd = 3 ∨ kd = 6) ∧ nm (if kd = 5 ∧ o + 1 < l then o + 1 else o).toNatClampNeg = m then -1 else nm (if kd = 5 ∧ o + 1 < l then o + 1 else o).toNatClampNeg) else -1
def sThick (L : lW) (r : rR) (j : Nat) : Int32 := thOf (kK r j) (kM r j) (L 0 (kM r j) (kK r j) (kL r j))
def sOut (L : lW) (r : rR) (j : Nat) : Int32 := kW r j / sThick L r j
def sShow (L : lW) (r : rR) (j : Nat) : Int32 := shOf (kK r j) (kM r j) (kL r j) (sOut L r j) (kN r j)
def sHands (r : rR) (h : Nat) : Int32 := r (8 + 2 * h)
def sWater (r : rR) (h : Nat) : Int32 := r (8 + 2 * h + 1)
def sWear (L : lW) (r : rR) (j : Nat) : Int32 := wrOf (kK r j) (sHands r (kH r j).toNatClampNeg * L 1 (sWater r (kH r j).toNatClampNeg) (kM r j) (r 0))
def sHeld (v : Int32) : Int32 := if 0 ≤ v then (if v ≤ 9999 then v else 9999) else 0
def sNew (L : lW) (r : rR) (j : Nat) : Int32 := if sOut L r j < kL r j then sHeld (kW r j + sWear L r j) else kW r j
def sDayTo (L : lW) (r : rR) : Nat → rR
  | 0 => r
  | n + 1 => rup (sDayTo L r n) (16 + 13 * n + 4) (sNew L r n)
def sDay (L : lW) (r : rR) (nc : Nat) : rR := rup (sDayTo L r nc) 0 (r 0 + 1)
/-- the cakes' numbers are as they should be -/
def cOk (r : rR) (nh j : Nat) : Prop := (∃ a, a ≤ 6 ∧ kK r j = nI a) ∧ (∃ a, a ≤ 9 ∧ kM r j = nI a) ∧ (∃ a, a < nh ∧ kH r j = nI a) ∧ (∃ a, a ≤ 8 ∧ kL r j = nI a ∧ ∀ i, i < a → (kN r j i = -1 ∨ ∃ b, b ≤ 9 ∧ kN r j i = nI b)) ∧ ∃ a, a ≤ 9999 ∧ kW r j = nI a
def hOk (r : rR) (h : Nat) : Prop := (∃ a, a ≤ 18 ∧ sHands r h = nI a) ∧ ∃ a, a ≤ 9 ∧ sWater r h = nI a
def rOk (r : rR) (nh nc : Nat) : Prop := nh ≤ 4 ∧ nc ≤ 6 ∧ r 2 = nI nh ∧ r 3 = nI nc ∧ (∀ h, h < nh → hOk r h) ∧ ∀ j, j < nc → cOk r nh j
def lOk (L : lW) : Prop := ∀ a b c, (∃ n, 1 ≤ n ∧ n ≤ 99 ∧ L 0 a b c = nI n) ∧ ∃ n, n ≤ 99 ∧ L 1 a b c = nI n
theorem thOf_ok {a m n : Nat} (ha : a ≤ 6) (hm : m ≤ 9) (h1 : 1 ≤ n) (hn : n ≤ 99) : ∃ t, 1 ≤ t ∧ t ≤ 157 ∧ thOf (nI a) (nI m) (nI n) = nI t := by
  have e2 : (nI n : Int32) / 2 = nI (n / 2) := pk_div (d := 2) (by omega) (by decide) (by decide)
  have e1 : nI n ≤ 1 ↔ n ≤ 1 := nI_leI (b := 1) (by omega) (by decide)
  unfold thOf
  rw [e2, nI_add, nI_add]
  have r1 : ∃ t, 1 ≤ t ∧ t ≤ 157 ∧ (if nI n ≤ 1 then (1 : Int32) else nI (n / 2)) = nI t := by
    by_cases h : n ≤ 1
    · exact ⟨1, by omega, by omega, by rw [if_pos (e1.mpr h)]; rfl⟩
    · exact ⟨n / 2, by omega, by omega, by rw [if_neg (fun q => h (e1.mp q))]⟩
  split
  · exact ⟨_, by omega, by omega, rfl⟩
  · split
    · exact r1
    · split
      · exact ⟨_, by omega, by omega, rfl⟩
      · split
        · exact ⟨_, by omega, by omega, rfl⟩
        · split
          · exact r1
          · exact ⟨_, by omega, by omega, rfl⟩
theorem sThick_ok {L : lW} {r : rR} {nh j : Nat} (hL : lOk L) (hc : cOk r nh j) : ∃ t, 1 ≤ t ∧ t ≤ 157 ∧ sThick L r j = nI t := by
  obtain ⟨⟨a, ha, ea⟩, ⟨m, hm, em⟩, -⟩ := hc
  obtain ⟨n, h1, hn, en⟩ := (hL (kM r j) (kK r j) (kL r j)).1
  unfold sThick
  rw [en, ea, em]
  exact thOf_ok ha hm h1 hn
theorem sOut_ok {L : lW} {r : rR} {nh j : Nat} (hL : lOk L) (hc : cOk r nh j) : ∃ o, o ≤ 9999 ∧ sOut L r j = nI o := by
  obtain ⟨t, h1, ht, et⟩ := sThick_ok hL hc
  obtain ⟨-, -, -, -, w, hw, ew⟩ := hc
  refine ⟨w / t, by have := Nat.div_le_self w t; omega, ?_⟩
  unfold sOut
  rw [et, ew]
  exact pk_div (by omega) (by omega) (by omega)
theorem wrOf_ok {a v : Nat} (ha : a ≤ 6) (hv : v ≤ 1782) : ∃ w, w ≤ 1783 ∧ wrOf (nI a) (nI v) = nI w := by
  have e2 : (nI v : Int32) / 2 = nI (v / 2) := pk_div (d := 2) (by omega) (by decide) (by decide)
  have e1 : nI v ≤ 0 ↔ v ≤ 0 := nI_leI (b := 0) (by omega) (by decide)
  have r1 : ∃ w, w ≤ 1783 ∧ (if nI v ≤ 0 then (0 : Int32) else nI v - 1) = nI w := by
    by_cases h : v ≤ 0
    · exact ⟨0, by omega, by rw [if_pos (e1.mpr h)]; rfl⟩
    · exact ⟨v - 1, by omega, by rw [if_neg (fun q => h (e1.mp q))]; exact pk_sub (b := 1) (by omega)⟩
  unfold wrOf
  rw [e2]
  split
  · exact r1
  · split
    · exact ⟨v, by omega, rfl⟩
    · split
      · exact ⟨v, by omega, rfl⟩
      · split
        · exact r1
        · split
          · exact ⟨v + 1, by omega, nI_1 v⟩
          · split
            · exact ⟨v / 2, by omega, rfl⟩
            · exact ⟨v, by omega, rfl⟩
theorem sWear_ok {L : lW} {r : rR} {nh j : Nat} (hL : lOk L) (hn : nh ≤ 4) (hc : cOk r nh j) (hh : ∀ h, h < nh → hOk r h) : ∃ w, w ≤ 1783 ∧ sWear L r j = nI w := by
  obtain ⟨⟨a, ha, ea⟩, -, ⟨h, hh2, eh⟩, -⟩ := hc
  obtain ⟨⟨x, hx, ex⟩, -⟩ := hh h hh2
  unfold sWear
  rw [eh, nI_clamp (by omega), ea, ex]
  obtain ⟨n, hn, en⟩ := (hL (sWater r h) (kM r j) (r 0)).2
  rw [en, pk_mul]
  refine wrOf_ok ha ?_
  have := Nat.mul_le_mul hx hn
  omega
theorem sHeld_ok {v : Nat} (hv : v < 2 ^ 31) : sHeld (nI v) = nI (min v 9999) := by
  unfold sHeld
  rw [if_pos (nI_pos' hv)]
  have e1 : nI v ≤ 9999 ↔ v ≤ 9999 := nI_leI (b := 9999) hv (by decide)
  by_cases h : v ≤ 9999
  · rw [if_pos (e1.mpr h), Nat.min_eq_left h]
  · rw [if_neg (fun q => h (e1.mp q)), Nat.min_eq_right (by omega)]
    rfl
theorem sNew_ok {L : lW} {r : rR} {nh j : Nat} (hL : lOk L) (hn : nh ≤ 4) (hc : cOk r nh j) (hh : ∀ h, h < nh → hOk r h) : ∃ w, w ≤ 9999 ∧ sNew L r j = nI w := by
  obtain ⟨d, hd, ed⟩ := sWear_ok hL hn hc hh
  obtain ⟨-, -, -, -, w, hw, ew⟩ := hc
  unfold sNew
  split
  · rw [ed, ew, nI_add, sHeld_ok (by omega)]
    exact ⟨_, by omega, rfl⟩
  · exact ⟨w, hw, ew⟩

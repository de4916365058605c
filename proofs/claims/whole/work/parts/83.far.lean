/-! ===== PURE: howFar ===== -/
/-- who shows on cake c, were it worn so far -/
def sAtW (L : lW) (r : rR) (c w : Nat) : Int32 := shOf (kK r c) (kM r c) (kL r c) (nI w / sThick L r c) (kN r c)
theorem sAtW_congr {L : lW} {r r' : rR} {c w : Nat} (e : ∀ k, k < 13 → k ≠ 4 → r' (16 + 13 * c + k) = r (16 + 13 * c + k)) (hl : ∃ a, a ≤ 8 ∧ kL r c = nI a) (hT : ∃ t, 1 ≤ t ∧ t ≤ 157 ∧ sThick L r c = nI t) (hw : w < 2 ^ 30) : sAtW L r' c w = sAtW L r c w := by
  obtain ⟨n, hn, en⟩ := hl
  obtain ⟨T, t1, t2, eT⟩ := hT
  unfold sAtW
  rw [sThick_congr (fun k hk => e k (by omega) (by omega)), show kK r' c = kK r c from e 0 (by omega) (by omega), show kM r' c = kM r c from e 1 (by omega) (by omega), show kL r' c = kL r c from e 3 (by omega) (by omega), en, eT, pk_div (by omega) (by omega) (by omega)]
  refine shOf_congr hn (by have := Nat.div_le_self w T; omega) (fun i hi => e (5 + i) (by omega) (by omega))
theorem sShow_at {L : lW} {r : rR} {c w : Nat} : sShow L (rup r (16 + 13 * c + 4) (nI w)) c = sAtW L r c w := by
  have e : ∀ k, k ≠ 16 + 13 * c + 4 → rup r (16 + 13 * c + 4) (nI w) k = r k := fun k h => rup_ne _ _ h
  unfold sShow sAtW sOut
  rw [sThick_congr (r := r) (fun k hk => e _ (by omega)), show kK (rup r (16 + 13 * c + 4) (nI w)) c = kK r c from e _ (by omega), show kM (rup r (16 + 13 * c + 4) (nI w)) c = kM r c from e _ (by omega), show kL (rup r (16 + 13 * c + 4) (nI w)) c = kL r c from e _ (by omega), show kW (rup r (16 + 13 * c + 4) (nI w)) c = nI w from rup_at _ _ _, show kN (rup r (16 + 13 * c + 4) (nI w)) c = kN r c from funext fun i => e _ (by omega)]
theorem x_would {V0 V : gV} {r : rR} {L : lW} {nh nc c w : Nat} {g : Int32} (hC : CO V0 61 r L nh nc) (hc : c < nc) (hw : w < 2 ^ 30) (hV : ∀ x k, ¬ (x = 61 + 18 + 2 * c ∧ k = 5) → V x k = V0 x k) : fX0_wouldShow V (61 + 18 + 2 * c) (nI w) g = some (if sAtW L r c w = g then 1 else 0, gup V (61 + 18 + 2 * c) 5 (nI w)) := by
  obtain ⟨c1, c2, c3, c4, c5, c6, c7⟩ := hC.2.2.2.2.1 c hc
  obtain ⟨T, t1, t2, eT⟩ := sThick_ok hC.1 (hC.2.1.2.2.2.2.2 c hc)
  obtain ⟨-, -, -, ⟨n, hn, en, -⟩, -⟩ := hC.2.1.2.2.2.2.2 c hc
  have q : ∀ k, k ≠ 5 → gup V (61 + 18 + 2 * c) 5 (nI w) (61 + 18 + 2 * c) k = V0 (61 + 18 + 2 * c) k := fun k hk => (gup_ne _ _ (by omega)).trans (hV _ _ (by omega))
  have e : shOf (kK r c) (kM r c) (kL r c) (nI (w / T)) (gup V (61 + 18 + 2 * c) 5 (nI w) (61 + 18 + 2 * c + 1)) = sAtW L r c w := by
    unfold sAtW
    rw [eT, pk_div (by omega) (by omega) (by omega), en]
    refine shOf_congr hn (by have := Nat.div_le_self w T; omega) (fun i hi => ?_)
    rw [gup_ne _ _ (by omega), hV _ _ (by omega)]
    exact c7 i n hn en hi
  unfold fX0_wouldShow
  rw [gpu_eq, x_shown (w := w) (t := T) (n := n) (gup_at _ _ _ _) ((q 6 (by omega)).trans (c6.trans eT)) t1 (by omega) hw hn ((q 4 (by omega)).trans (c4.trans en)), gbi_some, q 1 (by omega), q 2 (by omega), q 4 (by omega), c1, c2, c4, e]
  by_cases h : sAtW L r c w = g
  · rw [if_pos h, if_pos h]
  · rw [if_neg h, if_neg h]
def dayR (r : rR) : rR := rup r 0 (r 0 + 1)
def dayN : Nat → rR → rR
  | 0, r => r
  | m + 1, r => dayN m (dayR r)
theorem dayN_oth {k : Nat} (hk : k ≠ 0) : ∀ (m : Nat) (r : rR), dayN m r k = r k
  | 0, _ => rfl
  | m + 1, r => (dayN_oth hk m (dayR r)).trans (rup_ne _ _ hk)
/-- how much m days bring to cake c -/
def sM (L : lW) (c : Nat) : Nat → rR → Nat
  | 0, _ => 0
  | m + 1, r => (sWear L r c).toNatClampNeg + sM L c m (dayR r)
theorem rOk_dayR {r : rR} {nh nc : Nat} (h : rOk r nh nc) : rOk (dayR r) nh nc := by
  obtain ⟨r1, r2, r3, r4, r5, r6⟩ := h
  exact ⟨r1, r2, (rup_ne _ _ (by omega)).trans r3, (rup_ne _ _ (by omega)).trans r4, fun k hk => hOk_congr (rup_ne _ _ (by omega)) (rup_ne _ _ (by omega)) (r5 k hk), fun j hj => cOk_rcongr (fun k hk => rup_ne _ _ (by omega)) (r6 j hj)⟩
theorem sM_le {L : lW} {nh nc c : Nat} (hL : lOk L) (hc : c < nc) : ∀ (m : Nat) (r : rR), rOk r nh nc → sM L c m r ≤ 1783 * m
  | 0, _, _ => Nat.zero_le _
  | m + 1, r, h => by
    obtain ⟨d, hd, ed⟩ := sWear_ok hL h.1 (h.2.2.2.2.2 c hc) h.2.2.2.2.1
    have := sM_le (c := c) hL hc m (dayR r) (rOk_dayR h)
    unfold sM
    rw [ed, nI_clamp (by omega)]
    omega
theorem x_wod_L {L : lW} {nh nc c n : Nat} (hc : c < nc) (hn : n ≤ 20) : ∀ (m f k s : Nat) (V : gV) (r : rR), k + m = n → m < f → CO V 61 r L nh nc → ∃ V', fX6_wearOfDays_L1 61 (61 + 18 + 2 * c) (nI n) f V (nI s) (nI k) = some (nI (s + sM L c m r), V') ∧ CO V' 61 (dayN m r) L nh nc ∧ O61 V V' := by
  intro m
  induction m with
  | zero =>
    intro f k s V r h1 h2 hC
    obtain ⟨f, rfl⟩ : ∃ f', f = f' + 1 := ⟨f - 1, by omega⟩
    refine ⟨V, ?_, hC, O61.rf⟩
    show fX6_wearOfDays_L1b _ _ _ _ V (nI s) (nI k) = _
    unfold fX6_wearOfDays_L1b
    rw [if_pos (nI_le (by omega) (by omega))]
    rfl
  | succ m ih =>
    intro f k s V r h1 h2 hC
    obtain ⟨f, rfl⟩ : ∃ f', f = f' + 1 := ⟨f - 1, by omega⟩
    show ∃ V', fX6_wearOfDays_L1b _ _ _ _ V (nI s) (nI k) = _ ∧ _
    unfold fX6_wearOfDays_L1b
    simp only [Nat.reduceAdd, gbi_some, gbr_some, gbv_some, gpu_eq, glt_eq, gjn_eq, r1_0, r1_1, r1_2, r1_3, r1_4, r1_5, w1_0, w1_1, w1_2, w1_3, w1_4, w1_5]
    obtain ⟨d, hd, ed⟩ := sWear_ok hC.1 hC.2.1.1 (hC.2.1.2.2.2.2.2 c hc) hC.2.1.2.2.2.2.1
    obtain ⟨V1, e1, hS1⟩ := hC.wear hc
    have hC1 := hC.stk hS1
    have e12 : V1 61 12 = r 0 := hC1.2.2.1.2.2.1
    have hC2 : CO (gup V1 61 12 (V1 61 12 + 1)) 61 (dayR r) L nh nc := hC1.gen (fun x _ _ _ _ _ _ => gup_row _ _ _ (by omega)) (gup_ne _ _ (by omega)) (gup_ne _ _ (by omega)) (by rw [gup_at, e12]; exact (rup_at _ _ _).symm) (by rw [gup_ne _ _ (by omega)]; exact hC1.2.2.1.2.2.2.trans (rup_ne _ _ (by omega)).symm) (fun k _ _ _ _ => rup_ne _ _ (by omega))
    obtain ⟨V2, e2, q2, hO2⟩ := ih f (k + 1) (s + d) _ _ (by omega) (by omega) hC2
    rw [if_neg (nI_ge (by omega) (by omega)), e1, gbi_some, ed, pI_add, nI_1, e2]
    refine ⟨V2, ?_, q2, ((O61.stk hS1).tr (O61.gup (by omega) (by omega) _ _)).tr hO2⟩
    show _ = some (nI (s + ((sWear L r c).toNatClampNeg + sM L c m (dayR r))), V2)
    rw [ed, nI_clamp (by omega), Nat.add_assoc]
/-- the model's row behind days, seen from cake c -/
def Sim (r ρ : rR) (c w T l : Nat) : Prop := (∀ k, k < 16 → ρ k = r k) ∧ (∀ k, k < 13 → k ≠ 4 → ρ (16 + 13 * c + k) = r (16 + 13 * c + k)) ∧ ((kW ρ c = nI w ∧ w ≤ 9999) ∨ (l ≤ w / T ∧ ∃ w', w' ≤ 9999 ∧ kW ρ c = nI w' ∧ l ≤ w' / T))
theorem Sim.day {L : lW} {r ρ : rR} {nh nc c w T l d : Nat} (hL : lOk L) (hr : rOk r nh nc) (hc : c < nc) (h6 : nc ≤ 6) (t1 : 1 ≤ T) (t2 : T ≤ 157) (eT : sThick L r c = nI T) (hl : l ≤ 8) (el : kL r c = nI l) (hd : d ≤ 1783) (ed : sWear L r c = nI d) (h : Sim r ρ c w T l) (hw : w < 2 ^ 20) : Sim (dayR r) (sDay L ρ nc) c (w + d) T l := by
  obtain ⟨h1, h2, h3⟩ := h
  have eT' : sThick L ρ c = nI T := (sThick_congr (fun k hk => h2 k (by omega) (by omega))).trans eT
  have el' : kL ρ c = nI l := (h2 3 (by omega) (by omega)).trans el
  have eH : kH ρ c = kH r c := h2 2 (by omega) (by omega)
  obtain ⟨-, -, ⟨a, ha, ea⟩, -⟩ := hr.2.2.2.2.2 c hc
  have n4 := hr.1
  have ed' : sWear L ρ c = nI d := by
    rw [← ed]
    unfold sWear sHands sWater
    rw [eH, show kK ρ c = kK r c from h2 0 (by omega) (by omega), show kM ρ c = kM r c from h2 1 (by omega) (by omega), ea, nI_clamp (by omega), h1 _ (by omega), h1 _ (by omega), h1 0 (by omega)]
  have gm : l ≤ w / T → l ≤ (w + d) / T := fun q => Nat.le_trans q (Nat.div_le_div_right (by omega))
  refine ⟨fun k hk => ?_, fun k hk k4 => ?_, ?_⟩
  · by_cases h0 : k = 0
    · subst h0
      rw [sDay_0, h1 0 (by omega)]
      exact (rup_at _ _ _).symm
    · rw [sDay_oth h0 (fun j hj => by omega), h1 k hk]
      exact (rup_ne _ _ h0).symm
  · rw [sDay_oth (by omega) (fun j hj => by omega), h2 k hk k4]
    exact (rup_ne _ _ (by omega)).symm
  · have eN : kW (sDay L ρ nc) c = sNew L ρ c := by
      show rup (sDayTo L ρ nc) 0 (ρ 0 + 1) (16 + 13 * c + 4) = _
      rw [rup_ne _ _ (by omega)]
      exact sDayTo_at nc hc
    rw [eN]
    unfold sNew sOut
    rw [eT', el', ed']
    have stay : ∀ w', w' ≤ 9999 → kW ρ c = nI w' → l ≤ w' / T → (if kW ρ c / nI T < nI l then sHeld (kW ρ c + nI d) else kW ρ c) = nI w' := fun w' q1 q2 q3 => by
      rw [q2, pk_div (by omega) (by omega) (by omega), if_neg (nI_nlt q3 (by have := Nat.div_le_self w' T; omega))]
    rcases h3 with ⟨q1, q2⟩ | ⟨q1, w', q2, q3, q4⟩
    · by_cases hg : l ≤ w / T
      · exact Or.inr ⟨gm hg, w, q2, stay w q2 q1 hg, hg⟩
      · have e9 : l ≤ 9999 / T := by
          have := Nat.div_le_div_left (c := T) (a := 9999) t2 (by omega)
          omega
        rw [q1, pk_div (by omega) (by omega) (by omega), if_pos (nI_lt (by omega) (by omega)), pI_add, sHeld_ok (by omega)]
        by_cases h9 : w + d ≤ 9999
        · exact Or.inl ⟨by rw [Nat.min_eq_left h9], h9⟩
        · exact Or.inr ⟨Nat.le_trans e9 (Nat.div_le_div_right (by omega)), 9999, by omega, by rw [Nat.min_eq_right (by omega)], e9⟩
    · exact Or.inr ⟨gm q1, w', q2, stay w' q2 q3 q4, q4⟩
theorem shOf_gone {kd m : Int32} {l o : Nat} {nm : Nat → Int32} (h : l ≤ o) (ho : o < 2 ^ 31) : shOf kd m (nI l) (nI o) nm = -1 := by
  unfold shOf
  rw [if_neg (nI_nlt h ho)]
theorem Sim.shows {L : lW} {r ρ : rR} {c w T l : Nat} (t1 : 1 ≤ T) (t2 : T ≤ 157) (eT : sThick L r c = nI T) (hl : l ≤ 8) (el : kL r c = nI l) (h : Sim r ρ c w T l) (hw : w < 2 ^ 20) : sShow L ρ c = sAtW L r c w := by
  obtain ⟨h1, h2, h3⟩ := h
  have eT' : sThick L ρ c = nI T := (sThick_congr (fun k hk => h2 k (by omega) (by omega))).trans eT
  have el' : kL ρ c = nI l := (h2 3 (by omega) (by omega)).trans el
  unfold sShow sAtW sOut
  rw [eT', el', eT, el, show kK ρ c = kK r c from h2 0 (by omega) (by omega), show kM ρ c = kM r c from h2 1 (by omega) (by omega)]
  have hdl : ∀ x, x / T ≤ x := fun x => Nat.div_le_self x T
  have := hdl w
  rcases h3 with ⟨q1, q2⟩ | ⟨q1, w', q2, q3, q4⟩
  · rw [q1, pk_div (by omega) (by omega) (by omega)]
    exact shOf_congr hl (by omega) (fun i hi => h2 (5 + i) (by omega) (by omega))
  · have := hdl w'
    rw [q3, pk_div (by omega) (by omega) (by omega), pk_div (by omega) (by omega) (by omega), shOf_gone q4 (by omega), shOf_gone q1 (by omega)]
theorem far_days {L : lW} {nh nc c T l : Nat} (hL : lOk L) (hc : c < nc) (h6 : nc ≤ 6) (t1 : 1 ≤ T) (t2 : T ≤ 157) (hl : l ≤ 8) : ∀ (n w : Nat) (r ρ : rR), rOk r nh nc → sThick L r c = nI T → kL r c = nI l → Sim r ρ c w T l → w + 1783 * n < 2 ^ 20 → sShow L (sDays L nc n ρ) c = sAtW L r c (w + sM L c n r)
  | 0, w, r, ρ, hr, eT, el, h, hw => h.shows t1 t2 eT hl el (show w < 2 ^ 20 by omega)
  | n + 1, w, r, ρ, hr, eT, el, h, hw => by
    obtain ⟨d, hd, ed⟩ := sWear_ok hL hr.1 (hr.2.2.2.2.2 c hc) hr.2.2.2.2.1
    have e : ∀ k, k < 13 → dayR r (16 + 13 * c + k) = r (16 + 13 * c + k) := fun k hk => rup_ne _ _ (by omega)
    have eT' : sThick L (dayR r) c = nI T := (sThick_congr (fun k hk => e k (by omega))).trans eT
    have el' : kL (dayR r) c = nI l := (e 3 (by omega)).trans el
    have := far_days hL hc h6 t1 t2 hl n (w + d) (dayR r) (sDay L ρ nc) (rOk_dayR hr) eT' el' (h.day hL hr hc h6 t1 t2 eT hl el hd ed (by omega)) (by omega)
    have hm := sM_le (c := c) hL hc n (dayR r) (rOk_dayR hr)
    show sShow L (sDays L nc n (sDay L ρ nc)) c = sAtW L r c (w + ((sWear L r c).toNatClampNeg + sM L c n (dayR r)))
    rw [this, ed, nI_clamp (by omega), ← Nat.add_assoc]
    exact sAtW_congr (fun k hk _ => e k hk) ⟨l, hl, el⟩ ⟨T, t1, t2, eT⟩ (by omega)
/-! counting -/
def sCnt (P : Nat → Bool) : Nat → Nat → Nat
  | 0, _ => 0
  | m + 1, i => (if P i = true then 1 else 0) + sCnt P m (i + 1)
def sFst (P : Nat → Bool) : Nat → Nat → Option Nat
  | 0, _ => none
  | m + 1, i => if P i = true then some i else sFst P m (i + 1)
theorem sCnt_le {P : Nat → Bool} : ∀ (m i : Nat), sCnt P m i ≤ m
  | 0, _ => Nat.le_refl _
  | m + 1, i => by
    have := sCnt_le (P := P) m (i + 1)
    unfold sCnt
    split <;> omega
theorem sCnt_top {P : Nat → Bool} : ∀ (m i : Nat), sCnt P (m + 1) i = sCnt P m i + (if P (i + m) = true then 1 else 0)
  | 0, i => by
    show (if P i = true then 1 else 0) + 0 = 0 + (if P i = true then 1 else 0)
    omega
  | m + 1, i => by
    have h := sCnt_top (P := P) m (i + 1)
    rw [show sCnt P (m + 1 + 1) i = (if P i = true then 1 else 0) + sCnt P (m + 1) (i + 1) from rfl, show sCnt P (m + 1) i = (if P i = true then 1 else 0) + sCnt P m (i + 1) from rfl, h, show i + 1 + m = i + (m + 1) by omega]
    omega
theorem sFst_top {P : Nat → Bool} : ∀ (m i : Nat), sFst P (m + 1) i = (sFst P m i).or (if P (i + m) = true then some (i + m) else none)
  | 0, i => rfl
  | m + 1, i => by
    have h := sFst_top (P := P) m (i + 1)
    rw [show sFst P (m + 1 + 1) i = (if P i = true then some i else sFst P (m + 1) (i + 1)) from rfl, show sFst P (m + 1) i = (if P i = true then some i else sFst P m (i + 1)) from rfl, h, show i + 1 + m = i + (m + 1) by omega]
    by_cases hp : P i = true
    · rw [if_pos hp, if_pos hp]; rfl
    · rw [if_neg hp, if_neg hp]
theorem sFst_0 {P : Nat → Bool} : ∀ (m i : Nat), sCnt P m i = 0 ↔ sFst P m i = none
  | 0, _ => ⟨fun _ => rfl, fun _ => rfl⟩
  | m + 1, i => by
    have h := sFst_0 (P := P) m (i + 1)
    unfold sCnt sFst
    by_cases hp : P i = true
    · rw [if_pos hp, if_pos hp]
      exact ⟨fun q => by omega, fun q => nomatch q⟩
    · rw [if_neg hp, if_neg hp, Nat.zero_add]
      exact h

/-! ===== PURE: days, rows moved, houses ===== -/
def sDays (L : lW) (nc : Nat) : Nat → rR → rR
  | 0, r => r
  | n + 1, r => sDays L nc n (sDay L r nc)
theorem rOk_days {L : lW} {nh nc : Nat} (hL : lOk L) : ∀ (n : Nat) (r : rR), rOk r nh nc → rOk (sDays L nc n r) nh nc
  | 0, _, h => h
  | n + 1, r, h => rOk_days hL n (sDay L r nc) (rOk_day hL h)
theorem ML_days {L L2 : lW} {nc : Nat} (hn : nc ≤ 6) : ∀ (n : Nat) (r : rR), ML r L2 → ML (sDays L nc n r) L2
  | 0, _, h => h
  | n + 1, r, h => ML_days hn n (sDay L r nc) (ML_day hn h)
theorem m_passes_L {L : lW} {nh nc k : Nat} (hk : k < 2 ^ 30) : ∀ (m fuel i : Nat) (V : gV), i + m = k → m < fuel → MO V L nh nc → ∃ V', fX8_passes_L1 (nI k) fuel V (nI i) = some V' ∧ Sro V (sDays L nc m (V 1)) V' := by
  intro m
  induction m with
  | zero =>
    intro fuel i V h1 h2 hO
    obtain ⟨fuel, rfl⟩ : ∃ f, fuel = f + 1 := ⟨fuel - 1, by omega⟩
    show ∃ V', fX8_passes_L1b _ _ V (nI i) = _ ∧ _
    unfold fX8_passes_L1b
    rw [if_pos (nI_le (by omega) (by omega))]
    exact ⟨V, rfl, Sro.of Scr.rf⟩
  | succ m ih =>
    intro fuel i V h1 h2 hO
    obtain ⟨fuel, rfl⟩ : ∃ f, fuel = f + 1 := ⟨fuel - 1, by omega⟩
    obtain ⟨V1, e1, hS1⟩ := m_day hO
    obtain ⟨V2, e2, hS2⟩ := ih fuel (i + 1) V1 (by omega) (by omega) (MO_day hO hS1.row)
    show ∃ V', fX8_passes_L1b _ _ V (nI i) = _ ∧ _
    unfold fX8_passes_L1b
    rw [if_neg (nI_ge (by omega) (by omega)), e1, gbv_some, nI_1]
    rw [hS1.row] at hS2
    exact ⟨V2, e2, hS1.tr hS2⟩
theorem m_passes {V : gV} {L : lW} {nh nc k : Nat} (hk : k < 4000) (hO : MO V L nh nc) : ∃ V', fX8_passes V (nI k) = some V' ∧ Sro V (sDays L nc k (V 1)) V' :=
  m_passes_L (by omega) k gFu 0 V (Nat.zero_add _) (by unfold gFu; omega) hO
/-- row a into row b -/
def mvV (V : gV) (a b : Nat) : gV := fun c j => if c = b ∧ j < 264 then V a j else V c j
theorem m_move_L {V : gV} {a b : Nat} (hab : a ≠ b) : ∀ (m fuel i : Nat), i + m = 264 → m < fuel → fX8_moveAll_L1 a 264 b 264 fuel (fun c j => if c = b ∧ j < i then V a j else V c j) (nI i) = some (mvV V a b) := by
  intro m
  induction m with
  | zero =>
    intro fuel i h1 h2
    obtain ⟨fuel, rfl⟩ : ∃ f, fuel = f + 1 := ⟨fuel - 1, by omega⟩
    have hi : i = 264 := by omega
    subst hi
    show fX8_moveAll_L1b _ _ _ _ _ _ (nI 264) = _
    unfold fX8_moveAll_L1b
    rw [if_pos (show (264 : Int32) ≤ nI 264 from by decide)]
    rfl
  | succ m ih =>
    intro fuel i h1 h2
    obtain ⟨fuel, rfl⟩ : ∃ f, fuel = f + 1 := ⟨fuel - 1, by omega⟩
    show fX8_moveAll_L1b _ _ _ _ _ _ (nI i) = _
    unfold fX8_moveAll_L1b
    rw [if_neg (show ¬ (264 : Int32) ≤ nI i from nI_ge (b := 264) (by omega) (by decide)), gal_at i rfl (by omega) (by decide), gas_at i rfl (by omega) (by decide), nI_1, ← ih fuel (i + 1) (by omega) (by omega)]
    congr 1
    funext c j
    unfold gup
    by_cases hc : c = b
    · subst hc
      by_cases hj : j = i
      · subst hj
        simp [hab]
      · have : (j < i + 1) ↔ j < i := by omega
        simp [hj, this]
    · simp [hc]
theorem m_move {V : gV} {a b : Nat} (hab : a ≠ b) : fX8_moveAll V a 264 b 264 = some (mvV V a b) := by
  have h := m_move_L (V := V) hab 264 gFu 0 rfl (by unfold gFu; omega)
  have e : (fun c j => if c = b ∧ j < 0 then V a j else V c j) = V := by
    funext c j
    exact if_neg (fun q => absurd q.2 (Nat.not_lt_zero j))
  rw [e] at h
  exact h
def sHouses (L : lW) (r : rR) (nh nc : Nat) (g : Int32) : Int32 := gfold (fun s h => s ||| (if hasB (sGuests L r nc (nI h)) g then 1 <<< (nI h &&& 31) else 0)) nh 0 0
def sTwice (L : lW) (r : rR) (nh nc : Nat) : Int32 := (gfold (fun (s : Int32 × Int32) h => (s.1 ||| sGuests L r nc (nI h), s.2 ||| (s.1 &&& sGuests L r nc (nI h)))) nh 0 (0, 0)).2
theorem m_houses_L {L : lW} {nh nc : Nat} {g : Int32} : ∀ (m fuel i : Nat) (V : gV) (s : Int32), i + m = nh → m < fuel → MO V L nh nc → ∃ V', fX8_housesOf_L1 g fuel V s (nI i) = some (gfold (fun s h => s ||| (if hasB (sGuests L (V 1) nc (nI h)) g then 1 <<< (nI h &&& 31) else 0)) m i s, V') ∧ Scr V V' := by
  intro m
  induction m with
  | zero =>
    intro fuel i V s h1 h2 hO
    obtain ⟨fuel, rfl⟩ : ∃ f, fuel = f + 1 := ⟨fuel - 1, by omega⟩
    have h4 := hO.2.2.1
    refine ⟨V, ?_, Scr.rf⟩
    show fX8_housesOf_L1b g _ V s (nI i) = _
    unfold fX8_housesOf_L1b
    rw [r_k2, hO.2.2.2.2.1, if_pos (nI_le (by omega) (by omega))]
    rfl
  | succ m ih =>
    intro fuel i V s h1 h2 hO
    obtain ⟨fuel, rfl⟩ : ∃ f, fuel = f + 1 := ⟨fuel - 1, by omega⟩
    have h4 := hO.2.2.1
    obtain ⟨V1, e1, hS1⟩ := m_guests hO (nI i)
    have er : V1 1 = V 1 := hS1.row (by decide)
    show ∃ V', fX8_housesOf_L1b g _ V s (nI i) = _ ∧ _
    unfold fX8_housesOf_L1b
    rw [r_k2, hO.2.2.2.2.1, if_neg (nI_ge (by omega) (by omega)), e1, gbi_some, m_has, gbi_some, nI_1]
    obtain ⟨V2, e2, hS2⟩ := ih fuel (i + 1) V1 (s ||| (if hasB (sGuests L (V 1) nc (nI i)) g then 1 <<< (nI i &&& 31) else 0)) (by omega) (by omega) (hO.scr hS1)
    refine ⟨V2, ?_, hS1.tr hS2⟩
    rw [er] at e2
    show _ = some (gfold _ m (i + 1) (s ||| (if hasB (sGuests L (V 1) nc (nI i)) g then 1 <<< (nI i &&& 31) else 0)), V2)
    rw [← e2]
    by_cases hh : hasB (sGuests L (V 1) nc (nI i)) g
    · rw [if_pos hh, if_pos hh, if_neg (by decide), glt_eq]
    · rw [if_neg hh, if_neg hh, if_pos rfl, glt_eq]
theorem m_houses {V : gV} {L : lW} {nh nc : Nat} (hO : MO V L nh nc) (g : Int32) : ∃ V', fX8_housesOf V g = some (sHouses L (V 1) nh nc g, V') ∧ Scr V V' :=
  m_houses_L nh gFu 0 V 0 (Nat.zero_add _) (by have := hO.2.2.1; unfold gFu; omega) hO
theorem m_twice_L {L : lW} {nh nc : Nat} : ∀ (m fuel i : Nat) (V : gV) (o s : Int32), i + m = nh → m < fuel → MO V L nh nc → ∃ V', fX8_twice_L1 fuel V o s (nI i) = some ((gfold (fun (s : Int32 × Int32) h => (s.1 ||| sGuests L (V 1) nc (nI h), s.2 ||| (s.1 &&& sGuests L (V 1) nc (nI h)))) m i (o, s)).2, V') ∧ Scr V V' := by
  intro m
  induction m with
  | zero =>
    intro fuel i V o s h1 h2 hO
    obtain ⟨fuel, rfl⟩ : ∃ f, fuel = f + 1 := ⟨fuel - 1, by omega⟩
    have h4 := hO.2.2.1
    refine ⟨V, ?_, Scr.rf⟩
    show fX8_twice_L1b _ V o s (nI i) = _
    unfold fX8_twice_L1b
    rw [r_k2, hO.2.2.2.2.1, if_pos (nI_le (by omega) (by omega))]
    rfl
  | succ m ih =>
    intro fuel i V o s h1 h2 hO
    obtain ⟨fuel, rfl⟩ : ∃ f, fuel = f + 1 := ⟨fuel - 1, by omega⟩
    have h4 := hO.2.2.1
    obtain ⟨V1, e1, hS1⟩ := m_guests hO (nI i)
    have er : V1 1 = V 1 := hS1.row (by decide)
    show ∃ V', fX8_twice_L1b _ V o s (nI i) = _ ∧ _
    unfold fX8_twice_L1b
    rw [r_k2, hO.2.2.2.2.1, if_neg (nI_ge (by omega) (by omega)), e1, gbi_some, nI_1, glt_eq, glt_eq]
    obtain ⟨V2, e2, hS2⟩ := ih fuel (i + 1) V1 (o ||| sGuests L (V 1) nc (nI i)) (s ||| (o &&& sGuests L (V 1) nc (nI i))) (by omega) (by omega) (hO.scr hS1)
    refine ⟨V2, ?_, hS1.tr hS2⟩
    rw [er] at e2
    exact e2
theorem m_twice {V : gV} {L : lW} {nh nc : Nat} (hO : MO V L nh nc) : ∃ V', fX8_twice V = some (sTwice L (V 1) nh nc, V') ∧ Scr V V' :=
  m_twice_L nh gFu 0 V 0 0 (Nat.zero_add _) (by have := hO.2.2.1; unfold gFu; omega) hO

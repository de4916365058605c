/-! ===== PURE: the class's sets ===== -/
theorem bit_has : ∀ s, s < 1024 → ∀ k, k < 10 → ((nI s &&& (1 <<< (nI k &&& 31)) = 0) ↔ ¬ hasB (nI s) (nI k)) := by decide +kernel
theorem bit_or : ∀ s, s < 1024 → ∀ k, k < 10 → nI s ||| (1 <<< (nI k &&& 31)) = nI (s ||| 2 ^ k) ∧ s ||| 2 ^ k < 1024 := by decide +kernel
theorem sShow_ok {L : lW} {r : rR} {nh j : Nat} (hL : lOk L) (hc : cOk r nh j) : sShow L r j = -1 ∨ ∃ b, b ≤ 9 ∧ sShow L r j = nI b := by
  obtain ⟨o, ho, eo⟩ := sOut_ok hL hc
  obtain ⟨-, -, -, ⟨n, hn, en, hN⟩, -⟩ := hc
  unfold sShow
  rw [eo, en]
  unfold shOf
  by_cases hl : nI o < nI n
  · rw [if_pos hl]
    have hoa : o < n := (nI_ltI (by omega) (by omega)).mp hl
    have e3 : (nI o).toNatClampNeg = o := nI_clamp (by omega)
    have e4 : (nI (o + 1)).toNatClampNeg = o + 1 := nI_clamp (by omega)
    have c3 : nI o + 1 < nI n ↔ o + 1 < n := by rw [nI_1]; exact nI_ltI (by omega) (by omega)
    have k1 := hN o hoa
    simp only [c3]
    by_cases h5 : o + 1 < n
    · have k2 := hN (o + 1) h5
      rw [nI_1]
      by_cases q : kK r j = 5
      · simp only [q, h5, and_true, if_true, e4]
        split
        · exact Or.inl rfl
        · split
          · exact Or.inl rfl
          · exact k2
      · simp only [q, false_and, if_false, e3]
        split
        · exact Or.inl rfl
        · split
          · exact Or.inl rfl
          · exact k1
    · simp only [h5, and_false, if_false, e3]
      split
      · exact Or.inl rfl
      · split
        · exact Or.inl rfl
        · exact k1
  · rw [if_neg hl]
    exact Or.inl rfl
theorem x_bit (V : gV) {g : Int32} (hg : g = -1 ∨ ∃ b, b ≤ 9 ∧ g = nI b) : fX7_guestBit V g = some (bitOf g, V) := by
  unfold fX7_guestBit bitOf
  rcases hg with rfl | ⟨b, hb, rfl⟩
  · rfl
  · rw [if_neg (nI_pos (by omega)), if_neg (nI_pos (by omega)), if_neg (show ¬ (10 : Int32) ≤ nI b from nI_ge (b := 10) (by omega) (by decide))]
theorem gfold_ok {P : Int32 → Prop} {f : Int32 → Nat → Int32} : ∀ (m i : Nat) (a : Int32), P a → (∀ s c, i ≤ c → c < i + m → P s → P (f s c)) → P (gfold f m i a)
  | 0, _, _, h, _ => h
  | m + 1, i, a, h, hf => gfold_ok m (i + 1) (f a i) (hf a i (by omega) (by omega) h) (fun s c h1 h2 => hf s c (by omega) (by omega))
theorem sGuests_ok {L : lW} {r : rR} {nh nc : Nat} (hL : lOk L) (hr : rOk r nh nc) (h : Int32) : ∃ s, s < 1024 ∧ sGuests L r nc h = nI s := by
  unfold sGuests
  refine gfold_ok (P := fun x => ∃ s, s < 1024 ∧ x = nI s) nc 0 0 ⟨0, by omega, rfl⟩ (fun s c _ hc => ?_)
  rintro ⟨a, ha, rfl⟩
  by_cases hh : kH r c = h
  · rw [if_pos hh]
    rcases sShow_ok hL (hr.2.2.2.2.2 c (by omega)) with e | ⟨b, hb, e⟩
    · rw [e]
      exact ⟨a, ha, by unfold bitOf; rw [if_pos (by decide)]; exact Int32.or_zero⟩
    · rw [e]
      unfold bitOf
      rw [if_neg (nI_pos (by omega))]
      obtain ⟨q1, q2⟩ := bit_or a ha b (by omega)
      exact ⟨_, q2, q1⟩
  · rw [if_neg hh]
    exact ⟨a, ha, Int32.or_zero⟩
theorem x_gone_L {V : gV} {w : Nat} {r : rR} {L : lW} {nh nc : Nat} (hO : CO V w r L nh nc) : ∀ (m fuel i : Nat) (s : Int32), i + m = nc → m < fuel → fX6_goneCakes_L1 w fuel V s (nI i) = some (gfold (fun s c => s + (if sOut L r c < kL r c then 0 else 1)) m i s, V) := by
  intro m
  have h6 := hO.2.1.2.1
  induction m with
  | zero =>
    intro fuel i s h1 h2
    obtain ⟨fuel, rfl⟩ : ∃ f, fuel = f + 1 := ⟨fuel - 1, by omega⟩
    show fX6_goneCakes_L1b w _ V s (nI i) = _
    unfold fX6_goneCakes_L1b
    rw [hO.2.2.1.2.1, if_pos (nI_le (by omega) (by omega))]
    rfl
  | succ m ih =>
    intro fuel i s h1 h2
    obtain ⟨fuel, rfl⟩ : ∃ f, fuel = f + 1 := ⟨fuel - 1, by omega⟩
    show fX6_goneCakes_L1b w _ V s (nI i) = _
    unfold fX6_goneCakes_L1b
    rw [hO.2.2.1.2.1, if_neg (nI_ge (by omega) (by omega)), x_cakeAt (by omega), gbr_some, hO.gone (by omega), gbi_some, nI_1]
    show _ = some (gfold _ m (i + 1) (s + (if sOut L r i < kL r i then 0 else 1)), V)
    rw [← ih fuel (i + 1) _ (by omega) (by omega)]
    by_cases h : sOut L r i < kL r i
    · rw [if_pos h, if_pos rfl, glt_eq]
    · rw [if_neg h, if_neg (by decide), glt_eq]
theorem x_gone {V : gV} {w : Nat} {r : rR} {L : lW} {nh nc : Nat} (hO : CO V w r L nh nc) : fX6_goneCakes V w = some (sGone L r nc, V) :=
  x_gone_L hO nc gFu 0 0 (Nat.zero_add _) (by have := hO.2.1.2.1; unfold gFu; omega)
theorem x_guests_L {V : gV} {w : Nat} {r : rR} {L : lW} {nh nc : Nat} {h : Int32} (hO : CO V w r L nh nc) : ∀ (m fuel i : Nat) (s : Int32), i + m = nc → m < fuel → fX6_guestsIn_L1 w h fuel V s (nI i) = some (gfold (fun s c => s ||| (if kH r c = h then bitOf (sShow L r c) else 0)) m i s, V) := by
  intro m
  have h6 := hO.2.1.2.1
  induction m with
  | zero =>
    intro fuel i s h1 h2
    obtain ⟨fuel, rfl⟩ : ∃ f, fuel = f + 1 := ⟨fuel - 1, by omega⟩
    show fX6_guestsIn_L1b w h _ V s (nI i) = _
    unfold fX6_guestsIn_L1b
    rw [hO.2.2.1.2.1, if_pos (nI_le (by omega) (by omega))]
    rfl
  | succ m ih =>
    intro fuel i s h1 h2
    obtain ⟨fuel, rfl⟩ : ∃ f, fuel = f + 1 := ⟨fuel - 1, by omega⟩
    have hin : i < nc := by omega
    show fX6_guestsIn_L1b w h _ V s (nI i) = _
    unfold fX6_guestsIn_L1b
    rw [hO.2.2.1.2.1, if_neg (nI_ge (by omega) (by omega)), x_cakeAt (by omega), gbr_some, (hO.2.2.2.2.1 i hin).2.2.1, nI_1]
    show _ = some (gfold _ m (i + 1) (s ||| (if kH r i = h then bitOf (sShow L r i) else 0)), V)
    rw [← ih fuel (i + 1) _ (by omega) (by omega)]
    by_cases hh : kH r i = h
    · rw [if_pos hh, if_pos hh, hO.shows hin, gbi_some, x_bit V (sShow_ok hO.1 (hO.2.1.2.2.2.2.2 i hin)), gbi_some, glt_eq]
    · rw [if_neg hh, if_neg hh, Int32.or_zero]
theorem x_guests {V : gV} {w : Nat} {r : rR} {L : lW} {nh nc : Nat} (hO : CO V w r L nh nc) (h : Int32) : fX6_guestsIn V w h = some (sGuests L r nc h, V) :=
  x_guests_L hO nc gFu 0 0 (Nat.zero_add _) (by have := hO.2.1.2.1; unfold gFu; omega)
theorem x_cakes_L {V : gV} {w : Nat} {r : rR} {L : lW} {nh nc : Nat} {h : Int32} (hO : CO V w r L nh nc) : ∀ (m fuel i : Nat) (s : Int32), i + m = nc → m < fuel → fX6_cakesIn_L1 w h fuel V s (nI i) = some (gfold (fun s c => s ||| (if kH r c = h then 1 <<< (nI c &&& 31) else 0)) m i s, V) := by
  intro m
  have h6 := hO.2.1.2.1
  induction m with
  | zero =>
    intro fuel i s h1 h2
    obtain ⟨fuel, rfl⟩ : ∃ f, fuel = f + 1 := ⟨fuel - 1, by omega⟩
    show fX6_cakesIn_L1b w h _ V s (nI i) = _
    unfold fX6_cakesIn_L1b
    rw [hO.2.2.1.2.1, if_pos (nI_le (by omega) (by omega))]
    rfl
  | succ m ih =>
    intro fuel i s h1 h2
    obtain ⟨fuel, rfl⟩ : ∃ f, fuel = f + 1 := ⟨fuel - 1, by omega⟩
    have hin : i < nc := by omega
    show fX6_cakesIn_L1b w h _ V s (nI i) = _
    unfold fX6_cakesIn_L1b
    rw [hO.2.2.1.2.1, if_neg (nI_ge (by omega) (by omega)), x_cakeAt (by omega), gbr_some, (hO.2.2.2.2.1 i hin).2.2.1, nI_1]
    show _ = some (gfold _ m (i + 1) (s ||| (if kH r i = h then 1 <<< (nI i &&& 31) else 0)), V)
    rw [← ih fuel (i + 1) _ (by omega) (by omega)]
    by_cases hh : kH r i = h
    · rw [if_pos hh, if_pos hh, glt_eq]
    · rw [if_neg hh, if_neg hh, Int32.or_zero]
theorem x_cakes {V : gV} {w : Nat} {r : rR} {L : lW} {nh nc : Nat} (hO : CO V w r L nh nc) (h : Int32) : fX6_cakesIn V w h = some (sCakes r nc h, V) :=
  x_cakes_L hO nc gFu 0 0 (Nat.zero_add _) (by have := hO.2.1.2.1; unfold gFu; omega)
theorem x_isIn {V : gV} {w : Nat} {r : rR} {L : lW} {nh nc k : Nat} (hO : CO V w r L nh nc) (hk : k < 10) (h : Int32) : fX6_isIn V w (nI k) h = some (if hasB (sGuests L r nc h) (nI k) then 1 else 0, V) := by
  unfold fX6_isIn
  obtain ⟨s, hs, es⟩ := sGuests_ok hO.1 hO.2.1 h
  rw [x_guests hO, gbi_some, x_bit V (Or.inr ⟨k, by omega, rfl⟩), gbi_some, es]
  unfold bitOf
  rw [if_neg (nI_pos (by omega))]
  by_cases q : hasB (nI s) (nI k)
  · rw [if_neg (fun z => (bit_has s hs k hk).mp z q), if_pos q]
  · rw [if_pos ((bit_has s hs k hk).mpr q), if_neg q]
theorem x_houses_L {V : gV} {w : Nat} {r : rR} {L : lW} {nh nc k : Nat} (hk : k < 10) (hO : CO V w r L nh nc) : ∀ (m fuel i : Nat) (s : Int32), i + m = nh → m < fuel → fX6_housesOf_L1 w (nI k) fuel V s (nI i) = some (gfold (fun s h => s ||| (if hasB (sGuests L r nc (nI h)) (nI k) then 1 <<< (nI h &&& 31) else 0)) m i s, V) := by
  intro m
  have h4 := hO.2.1.1
  induction m with
  | zero =>
    intro fuel i s h1 h2
    obtain ⟨fuel, rfl⟩ : ∃ f, fuel = f + 1 := ⟨fuel - 1, by omega⟩
    show fX6_housesOf_L1b w _ _ V s (nI i) = _
    unfold fX6_housesOf_L1b
    rw [hO.2.2.1.1, if_pos (nI_le (by omega) (by omega))]
    rfl
  | succ m ih =>
    intro fuel i s h1 h2
    obtain ⟨fuel, rfl⟩ : ∃ f, fuel = f + 1 := ⟨fuel - 1, by omega⟩
    show fX6_housesOf_L1b w _ _ V s (nI i) = _
    unfold fX6_housesOf_L1b
    rw [hO.2.2.1.1, if_neg (nI_ge (by omega) (by omega)), x_isIn hO hk, gbi_some, nI_1]
    show _ = some (gfold _ m (i + 1) (s ||| (if hasB (sGuests L r nc (nI i)) (nI k) then 1 <<< (nI i &&& 31) else 0)), V)
    rw [← ih fuel (i + 1) _ (by omega) (by omega)]
    by_cases q : hasB (sGuests L r nc (nI i)) (nI k)
    · rw [if_pos q, if_pos q, if_neg (by decide), glt_eq]
    · rw [if_neg q, if_neg q, if_pos rfl, Int32.or_zero]
theorem x_houses {V : gV} {w : Nat} {r : rR} {L : lW} {nh nc k : Nat} (hO : CO V w r L nh nc) (hk : k < 10) : fX6_housesOf V w (nI k) = some (sHouses L r nh nc (nI k), V) :=
  x_houses_L hk hO nh gFu 0 0 (Nat.zero_add _) (by have := hO.2.1.1; unfold gFu; omega)
theorem x_twice_L {V : gV} {w : Nat} {r : rR} {L : lW} {nh nc : Nat} (hO : CO V w r L nh nc) : ∀ (m fuel i : Nat) (o s : Int32), i + m = nh → m < fuel → fX6_dueTwice_L1 w fuel V o s (nI i) = some ((gfold (fun (s : Int32 × Int32) h => (s.1 ||| sGuests L r nc (nI h), s.2 ||| (s.1 &&& sGuests L r nc (nI h)))) m i (o, s)).2, V) := by
  intro m
  have h4 := hO.2.1.1
  induction m with
  | zero =>
    intro fuel i o s h1 h2
    obtain ⟨fuel, rfl⟩ : ∃ f, fuel = f + 1 := ⟨fuel - 1, by omega⟩
    show fX6_dueTwice_L1b w _ V o s (nI i) = _
    unfold fX6_dueTwice_L1b
    rw [hO.2.2.1.1, if_pos (nI_le (by omega) (by omega))]
    rfl
  | succ m ih =>
    intro fuel i o s h1 h2
    obtain ⟨fuel, rfl⟩ : ∃ f, fuel = f + 1 := ⟨fuel - 1, by omega⟩
    show fX6_dueTwice_L1b w _ V o s (nI i) = _
    unfold fX6_dueTwice_L1b
    rw [hO.2.2.1.1, if_neg (nI_ge (by omega) (by omega)), x_guests hO, gbi_some, nI_1, glt_eq, glt_eq]
    exact ih fuel (i + 1) _ _ (by omega) (by omega)
theorem x_twice {V : gV} {w : Nat} {r : rR} {L : lW} {nh nc : Nat} (hO : CO V w r L nh nc) : fX6_dueTwice V w = some (sTwice L r nh nc, V) :=
  x_twice_L hO nh gFu 0 0 0 (Nat.zero_add _) (by have := hO.2.1.1; unfold gFu; omega)

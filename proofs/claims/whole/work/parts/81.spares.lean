/-! ===== PURE: spares ===== -/
theorem hasB_nat : ∀ a, a < 1024 → ∀ k, k < 10 → (hasB (nI a) (nI k) ↔ a.testBit k = true) := by decide +kernel
theorem hasB_or (a : Nat) (ha : a < 1024) (x : Nat) (hx : x < 10) (k : Nat) (hk : k < 10) : (hasB (nI a ||| bitOf (nI x)) (nI k) ↔ hasB (nI a) (nI k) ∨ x = k) := by
  obtain ⟨e, h⟩ := bit_or a ha x hx
  rw [show bitOf (nI x) = 1 <<< (nI x &&& 31) from if_neg (nI_pos (by omega)), e, hasB_nat _ h k hk, hasB_nat a ha k hk, Nat.testBit_or, Nat.testBit_two_pow]
  simp
theorem hasB_0 : ∀ k, k < 10 → ¬ hasB 0 (nI k) := by decide +kernel
theorem guests_bit_L {L : lW} {r : rR} {nh nc g : Nat} {h : Int32} (hL : lOk L) (hr : rOk r nh nc) (hg : g < 10) : ∀ (m i s : Nat), s < 1024 → i + m = nc → (hasB (gfold (fun s c => s ||| (if kH r c = h then bitOf (sShow L r c) else 0)) m i (nI s)) (nI g) ↔ hasB (nI s) (nI g) ∨ ∃ c, i ≤ c ∧ c < nc ∧ kH r c = h ∧ sShow L r c = nI g) := by
  intro m
  induction m with
  | zero =>
    intro i s hs h1
    exact ⟨Or.inl, fun q => by
      rcases q with q | ⟨c, q1, q2, _⟩
      · exact q
      · exact absurd q2 (by omega)⟩
  | succ m ih =>
    intro i s hs h1
    show hasB (gfold _ m (i + 1) (nI s ||| (if kH r i = h then bitOf (sShow L r i) else 0))) (nI g) ↔ _
    have stay : (nI s ||| (if kH r i = h then bitOf (sShow L r i) else 0) = nI s) → ¬ (kH r i = h ∧ sShow L r i = nI g) → (hasB (gfold (fun s c => s ||| (if kH r c = h then bitOf (sShow L r c) else 0)) m (i + 1) (nI s ||| (if kH r i = h then bitOf (sShow L r i) else 0))) (nI g) ↔ hasB (nI s) (nI g) ∨ ∃ c, i ≤ c ∧ c < nc ∧ kH r c = h ∧ sShow L r c = nI g) := fun e hn => by
      rw [e]
      refine (ih (i + 1) s hs (by omega)).trans ⟨fun q => ?_, fun q => ?_⟩
      · rcases q with q | ⟨c, q1, q2⟩
        · exact Or.inl q
        · exact Or.inr ⟨c, by omega, q2⟩
      · rcases q with q | ⟨c, q1, q2, q3⟩
        · exact Or.inl q
        · refine Or.inr ⟨c, ?_, q2, q3⟩
          by_cases hci : c = i
          · subst hci
            exact absurd q3 hn
          · omega
    by_cases hk : kH r i = h
    · rcases sShow_ok hL (hr.2.2.2.2.2 i (by omega)) with e | ⟨b, hb, e⟩
      · refine stay ?_ (fun q => ?_)
        · rw [if_pos hk, e, show bitOf (-1) = 0 by decide, Int32.or_zero]
        · have := q.2
          rw [e] at this
          exact nI_pos (show g < 2 ^ 31 by omega) (by rw [← this]; decide)
      · obtain ⟨e2, h2⟩ := bit_or s hs b (by omega)
        have eb : bitOf (nI b) = 1 <<< (nI b &&& 31) := if_neg (nI_pos (by omega))
        rw [if_pos hk, e, eb, e2]
        refine (ih (i + 1) (s ||| 2 ^ b) h2 (by omega)).trans ?_
        rw [← e2, ← eb]
        have ho := hasB_or s hs b (by omega) g hg
        refine ⟨fun q => ?_, fun q => ?_⟩
        · rcases q with q | ⟨c, q1, q2⟩
          · rcases ho.mp q with q | q
            · exact Or.inl q
            · exact Or.inr ⟨i, by omega, by omega, hk, by rw [e, q]⟩
          · exact Or.inr ⟨c, by omega, q2⟩
        · rcases q with q | ⟨c, q1, q2, q3, q4⟩
          · exact Or.inl (ho.mpr (Or.inl q))
          · by_cases hci : c = i
            · subst hci
              refine Or.inl (ho.mpr (Or.inr ?_))
              rw [e] at q4
              exact pI_inj (by omega) (by omega) q4
            · exact Or.inr ⟨c, by omega, q2, q3, q4⟩
    · exact stay (by rw [if_neg hk, Int32.or_zero]) (fun q => hk q.1)
theorem guests_bit {L : lW} {r : rR} {nh nc g : Nat} {h : Int32} (hL : lOk L) (hr : rOk r nh nc) (hg : g < 10) : hasB (sGuests L r nc h) (nI g) ↔ ∃ c, c < nc ∧ kH r c = h ∧ sShow L r c = nI g := by
  refine (guests_bit_L hL hr hg nc 0 0 (by decide) (by omega)).trans ⟨fun q => ?_, fun ⟨c, q⟩ => Or.inr ⟨c, Nat.zero_le _, q⟩⟩
  rcases q with q | ⟨c, _, q⟩
  · exact absurd q (hasB_0 g hg)
  · exact ⟨c, q⟩
/-- somebody is in some house just where some cake shows him -/
theorem soon15 {L : lW} {r : rR} {nh nc g : Nat} (hL : lOk L) (hr : rOk r nh nc) (hg : g < 10) : sHouses L r nh nc (nI g) &&& 15 = 0 ↔ sShowing L r nc (nI g) = 0 := by
  refine (houses_15 hr.1).trans ((?_ : _ ↔ _).trans (showing_0 hr.2.1).symm)
  refine ⟨fun q c hc e => ?_, fun q h hh hb => ?_⟩
  · obtain ⟨-, -, ⟨a, ha, ea⟩, -⟩ := hr.2.2.2.2.2 c hc
    exact q a ha ((guests_bit hL hr hg).mpr ⟨c, hc, ea, e⟩)
  · obtain ⟨c, hc, _, e⟩ := (guests_bit hL hr hg).mp hb
    exact q c hc e
theorem rOk_hands {r : rR} {nh nc h v : Nat} (hr : rOk r nh nc) (hh : h < nh) (hv : v ≤ 18) : rOk (rup r (8 + 2 * h) (nI v)) nh nc := by
  obtain ⟨r1, r2, r3, r4, r5, r6⟩ := hr
  refine ⟨r1, r2, (rup_ne _ _ (by omega)).trans r3, (rup_ne _ _ (by omega)).trans r4, fun k hk => ?_, fun j hj => cOk_rcongr (fun k hk => rup_ne _ _ (by omega)) (r6 j hj)⟩
  by_cases hkh : k = h
  · subst hkh
    obtain ⟨a, ha, ea⟩ := (r5 k hk).2
    exact ⟨⟨v, hv, rup_at _ _ _⟩, a, ha, (rup_ne _ _ (by omega)).trans ea⟩
  · exact hOk_congr (rup_ne _ _ (by omega)) (rup_ne _ _ (by omega)) (r5 k hk)
/-- nobody washes in the first n houses that are in the set -/
def sStill (r : rR) (s : Nat) : Nat → rR
  | 0 => r
  | n + 1 => if hasB (nI s) (nI n) then rup (sStill r s n) (8 + 2 * n) (nI 0) else sStill r s n
theorem x_still_L {s : Nat} {r : rR} {L : lW} {nh nc : Nat} (hs : s < 16) : ∀ (m f k : Nat) (V : gV), k + m = nh → m < f → CO V 61 (sStill r s k) L nh nc → ∃ V', fX6_stillHands_L1 61 (nI s) f V (nI k) = some V' ∧ CO V' 61 (sStill r s nh) L nh nc ∧ O61 V V' := by
  intro m
  induction m with
  | zero =>
    intro f k V h1 h2 hC
    have h4 := hC.2.1.1
    obtain ⟨f, rfl⟩ : ∃ f', f = f' + 1 := ⟨f - 1, by omega⟩
    obtain rfl : k = nh := by omega
    refine ⟨V, ?_, hC, O61.rf⟩
    show fX6_stillHands_L1b _ _ _ V (nI k) = _
    unfold fX6_stillHands_L1b
    rw [hC.2.2.1.1, if_pos (nI_le (by omega) (by omega))]
  | succ m ih =>
    intro f k V h1 h2 hC
    have h4 := hC.2.1.1
    obtain ⟨f, rfl⟩ : ∃ f', f = f' + 1 := ⟨f - 1, by omega⟩
    show ∃ V', fX6_stillHands_L1b _ _ _ V (nI k) = _ ∧ _
    unfold fX6_stillHands_L1b
    rw [hC.2.2.1.1, if_neg (nI_ge (by omega) (by omega)), nI_1]
    have hbh := bit_has s (by omega) k (by omega)
    by_cases hb : hasB (nI s) (nI k)
    · have hC2 := hC.setHands (h := k) (v := 0) (by omega) (by omega)
      have e : rup (sStill r s k) (8 + 2 * k) (nI 0) = sStill r s (k + 1) := (if_pos hb).symm
      rw [e] at hC2
      obtain ⟨V2, e2, q2, hO2⟩ := ih f (k + 1) _ (by omega) (by omega) hC2
      rw [if_neg (fun q => hbh.mp q hb), x_houseAt (by omega), gbr_some, gpu_eq]
      exact ⟨V2, e2, q2, (O61.gup (by omega) (by omega) _ _).tr hO2⟩
    · have e : sStill r s k = sStill r s (k + 1) := (if_neg hb).symm
      rw [e] at hC
      rw [if_pos (hbh.mpr hb)]
      exact ih f (k + 1) V (by omega) (by omega) hC
theorem x_stays_L {g n : Nat} {L : lW} {nh nc : Nat} (hg : g < 10) (hn : n ≤ 30) : ∀ (m f k : Nat) (V : gV) (r : rR), k + m = n → m < f → CO V 61 r L nh nc → ∃ V', fX7_staysAway_L1 (nI g) (nI n) f V (nI k) = some (if sSoon L nh nc (nI g) 15 m r = 0 then 1 else 0, V') ∧ O61 V V' := by
  intro m
  induction m with
  | zero =>
    intro f k V r h1 h2 hC
    obtain ⟨f, rfl⟩ : ∃ f', f = f' + 1 := ⟨f - 1, by omega⟩
    refine ⟨V, ?_, O61.rf⟩
    show fX7_staysAway_L1b _ _ _ V (nI k) = _
    unfold fX7_staysAway_L1b
    rw [if_pos (nI_le (by omega) (by omega))]
    rfl
  | succ m ih =>
    intro f k V r h1 h2 hC
    obtain ⟨f, rfl⟩ : ∃ f', f = f' + 1 := ⟨f - 1, by omega⟩
    show ∃ V', fX7_staysAway_L1b _ _ _ V (nI k) = _ ∧ _
    unfold fX7_staysAway_L1b sSoon
    simp only [Nat.reduceAdd, gbi_some, gbr_some, gbv_some, gpu_eq, glt_eq, gjn_eq, r1_0, r1_1, r1_2, r1_3, r1_4, r1_5, w1_0, w1_1, w1_2, w1_3, w1_4, w1_5]
    have hq := soon15 hC.1 hC.2.1 hg
    rw [if_neg (nI_ge (by omega) (by omega)), x_showing hC, gbi_some, nI_1]
    by_cases hb : sShowing L r nc (nI g) = 0
    · obtain ⟨V1, e1, hC1, hD1⟩ := x_day hC
      rw [if_pos hb, if_pos (hq.mpr hb), e1, gbv_some]
      obtain ⟨V2, e2, hO2⟩ := ih f (k + 1) V1 _ (by omega) (by omega) hC1
      exact ⟨V2, e2, (O61.day hD1).tr hO2⟩
    · rw [if_neg hb, if_neg (fun q => hb (hq.mp q)), if_neg (show ¬ (1 : Int32) = 0 by decide)]
      exact ⟨V, rfl, O61.rf⟩
def sAway (L : lW) (nh nc g n : Nat) (r : rR) (s : Nat) : Prop := sSoon L nh nc (nI g) 15 n (sStill r s nh) = 0
theorem x_stays {i g n s : Nat} {VX VM : gV} {L : lW} {nh nc : Nat} (hR : RW i VX VM L nh nc) (hg : g < 10) (hn : n ≤ 30) (hs : s < 16) : ∃ V', RW i V' VM L nh nc ∧ ((sAway L nh nc g n (VM 1) s ∧ fX7_staysAway VX (nI g) (nI n) (nI s) = some (1, V')) ∨ (¬ sAway L nh nc g n (VM 1) s ∧ fX7_staysAway VX (nI g) (nI n) (nI s) = some (0, V'))) := by
  have h4 := hR.h4
  obtain ⟨V1, e1, hC1, hO1, -, -⟩ := hR.think
  obtain ⟨V2, e2, hC2, hO2⟩ := x_still_L (r := VM 1) (s := s) hs nh gFu 0 V1 (by omega) (by unfold gFu; omega) hC1
  obtain ⟨V3, e3, hO3⟩ := x_stays_L (g := g) (n := n) hg hn n gFu 0 V2 _ (by omega) (by unfold gFu; omega) hC2
  refine ⟨V3, hR.o61 ((hO1.tr hO2).tr hO3), ?_⟩
  unfold fX7_staysAway fX6_stillHands
  simp only [Nat.reduceAdd, gbi_some, gbr_some, gbv_some, gpu_eq, glt_eq, gjn_eq, r1_0, r1_1, r1_2, r1_3, r1_4, r1_5, w1_0, w1_1, w1_2, w1_3, w1_4, w1_5]
  rw [e1, gbv_some, show fX6_stillHands_L1 61 (nI s) gFu V1 0 = _ from e2, gbv_some, show fX7_staysAway_L1 (nI g) (nI n) gFu V2 0 = _ from e3]
  by_cases h : sSoon L nh nc (nI g) 15 n (sStill (VM 1) s nh) = 0
  · exact Or.inl ⟨h, by rw [if_pos h]⟩
  · exact Or.inr ⟨h, by rw [if_neg h]⟩
/-! the least set -/
def pc (s : Nat) : Nat := s % 2 + s / 2 % 2 + s / 4 % 2 + s / 8 % 2
theorem pc_le : ∀ nh, nh < 5 → ∀ t, t < 2 ^ nh → pc t ≤ nh := by decide +kernel
theorem bc_V (V : gV) (x : Int32) : ∃ r, fJ6_bitCount_0f7a4 V x = some (r, V) ∧ fJ6_bitCount_0f7a4 vz x = some (r, vz) := by
  unfold fJ6_bitCount_0f7a4
  simp only [glt_eq]
  exact ⟨_, rfl, rfl⟩
theorem bc_dec : ∀ s, s < 16 → (fJ6_bitCount_0f7a4 vz (nI s)).map Prod.fst = some (nI (pc s)) := by decide +kernel
theorem bc_ok (V : gV) {s : Nat} (hs : s < 16) : fJ6_bitCount_0f7a4 V (nI s) = some (nI (pc s), V) := by
  obtain ⟨r, e1, e2⟩ := bc_V V (nI s)
  have h := bc_dec s hs
  rw [e2] at h
  rw [e1, show r = nI (pc s) from Option.some.inj h]
theorem bits_V (V : gV) : ∀ (n : Nat) (a b : Int32), fX8_bits_L1 V n a b = (fX8_bits_L1 vz n a b).map (fun q => (q.1, V)) := by
  intro n
  induction n with
  | zero => intro a b; rfl
  | succ n ih =>
    intro a b
    show fX8_bits_L1b V _ a b = (fX8_bits_L1b vz _ a b).map _
    unfold fX8_bits_L1b glt
    simp only [ih]
    split <;> rfl
theorem bits_dec : ∀ s, s < 16 → (fX8_bits_L1 vz 5000 0 (nI s)).map (fun q => q.1) = some (nI (pc s)) := by decide +kernel
theorem bits_ok (V : gV) {s : Nat} (hs : s < 16) : fX8_bits V (nI s) = some (nI (pc s), V) := by
  have h := bits_dec s hs
  unfold fX8_bits
  rw [bits_V, show gFu = 5000 from rfl]
  rcases hq : fX8_bits_L1 vz 5000 0 (nI s) with _ | q
  · rw [hq] at h
    exact nomatch h
  · rw [hq] at h
    show some (q.1, V) = _
    rw [show q.1 = nI (pc s) from Option.some.inj h]
theorem pow_ok : ∀ nh, nh < 5 → (1 : Int32) <<< (nI nh &&& 31) = nI (2 ^ nh) := by decide +kernel
def bst (A : Nat → Prop) (N s : Nat) : Prop := s < N ∧ A s ∧ ∀ t, t < N → A t → pc s < pc t ∨ (pc s = pc t ∧ s ≤ t)
theorem x_spares2 {i g n k : Nat} {VM : gV} {L : lW} {nh nc : Nat} {B : gV → Int32 → Option (Int32 × gV)} (hg : g < 10) (hn : n ≤ 30) (hk : k ≤ 4) (hA : ∀ t, t < 2 ^ nh → sAway L nh nc g n (VM 1) t → k ≤ pc t) : ∀ (m f x : Nat) (VX : gV), x + m = 2 ^ nh → m < f → RW i VX VM L nh nc → (∀ t, t < x → pc t = k → ¬ sAway L nh nc g n (VM 1) t) → ∃ VX', RW i VX' VM L nh nc ∧ ((∃ s, bst (sAway L nh nc g n (VM 1)) (2 ^ nh) s ∧ fX7_spares_L2 (nI g) (nI n) (nI k) B f VX (nI x) = some (nI s, VX')) ∨ ((∀ t, t < 2 ^ nh → sAway L nh nc g n (VM 1) t → k + 1 ≤ pc t) ∧ fX7_spares_L2 (nI g) (nI n) (nI k) B f VX (nI x) = B VX' (nI (k + 1)))) := by
  intro m
  induction m with
  | zero =>
    intro f x VX h1 h2 hR hx
    have hp := Nat.pow_le_pow_right (show 0 < 2 by decide) hR.h4
    obtain ⟨f, rfl⟩ : ∃ f', f = f' + 1 := ⟨f - 1, by omega⟩
    obtain rfl : x = 2 ^ nh := by omega
    refine ⟨VX, hR, Or.inr ⟨fun t ht ha => ?_, ?_⟩⟩
    · have := hA t ht ha
      have : pc t ≠ k := fun q => hx t ht q ha
      omega
    · show fX7_spares_L2b _ _ _ _ _ VX (nI (2 ^ nh)) = _
      unfold fX7_spares_L2b
      simp only [Nat.reduceAdd, gbi_some, gbr_some, gbv_some, gpu_eq, glt_eq, gjn_eq, r1_0, r1_1, r1_2, r1_3, r1_4, r1_5, w1_0, w1_1, w1_2, w1_3, w1_4, w1_5]
      rw [hR.nhX, pow_ok nh (by have := hR.h4; omega), if_pos (nI_le (by omega) (by omega)), nI_1]
  | succ m ih =>
    intro f x VX h1 h2 hR hx
    have hp := Nat.pow_le_pow_right (show 0 < 2 by decide) hR.h4
    obtain ⟨f, rfl⟩ : ∃ f', f = f' + 1 := ⟨f - 1, by omega⟩
    show ∃ VX', _ ∧ ((∃ s, _ ∧ fX7_spares_L2b _ _ _ _ _ VX (nI x) = _) ∨ (_ ∧ fX7_spares_L2b _ _ _ _ _ VX (nI x) = _))
    unfold fX7_spares_L2b
    simp only [Nat.reduceAdd, gbi_some, gbr_some, gbv_some, gpu_eq, glt_eq, gjn_eq, r1_0, r1_1, r1_2, r1_3, r1_4, r1_5, w1_0, w1_1, w1_2, w1_3, w1_4, w1_5]
    have hpx := pc_le 4 (by decide) x (show x < 2 ^ 4 by omega)
    rw [hR.nhX, pow_ok nh (by have := hR.h4; omega), if_neg (nI_ge (by omega) (by omega)), bc_ok VX (show x < 16 by omega), gbi_some, nI_1]
    by_cases he : pc x = k
    · obtain ⟨V1, hR1, hq⟩ := x_stays hR hg hn (show x < 16 by omega)
      rw [if_pos (by rw [he])]
      rcases hq with ⟨ha, e1⟩ | ⟨ha, e1⟩
      · rw [e1, gbi_some, if_neg (show ¬ (1 : Int32) = 0 by decide)]
        refine ⟨V1, hR1, Or.inl ⟨x, ⟨by omega, ha, fun t ht hat => ?_⟩, rfl⟩⟩
        have h3 := hA t ht hat
        by_cases hpt : pc t = k
        · have : ¬ t < x := fun q => hx t q hpt hat
          omega
        · omega
      · rw [e1, gbi_some, if_pos rfl]
        exact ih f (x + 1) V1 (by omega) (by omega) hR1 (fun t ht hpt => by
          by_cases htx : t = x
          · subst htx; exact ha
          · exact hx t (by omega) hpt)
    · rw [if_neg (fun q => he (pI_inj (by omega) (by omega) q))]
      exact ih f (x + 1) VX (by omega) (by omega) hR (fun t ht hpt => by
        by_cases htx : t = x
        · subst htx; exact absurd hpt he
        · exact hx t (by omega) hpt)
theorem x_spares1 {i g n : Nat} {VM : gV} {L : lW} {nh nc : Nat} (hg : g < 10) (hn : n ≤ 30) : ∀ (m f k : Nat) (VX : gV), k + m = nh + 1 → m < f → RW i VX VM L nh nc → (∀ t, t < 2 ^ nh → sAway L nh nc g n (VM 1) t → k ≤ pc t) → ∃ VX', RW i VX' VM L nh nc ∧ ((∃ s, bst (sAway L nh nc g n (VM 1)) (2 ^ nh) s ∧ fX7_spares_L1 (nI g) (nI n) f VX (nI k) = some (nI s, VX')) ∨ ((∀ t, t < 2 ^ nh → ¬ sAway L nh nc g n (VM 1) t) ∧ fX7_spares_L1 (nI g) (nI n) f VX (nI k) = gbi (fX7_error VX' 2) fun x V => some (x, V))) := by
  intro m
  induction m with
  | zero =>
    intro f k VX h1 h2 hR hA
    have h4 := hR.h4
    obtain ⟨f, rfl⟩ : ∃ f', f = f' + 1 := ⟨f - 1, by omega⟩
    obtain rfl : k = nh + 1 := by omega
    refine ⟨VX, hR, Or.inr ⟨fun t ht ha => ?_, ?_⟩⟩
    · have := hA t ht ha
      have := pc_le nh (by omega) t ht
      omega
    · show fX7_spares_L1b _ _ _ VX (nI (nh + 1)) = _
      unfold fX7_spares_L1b
      simp only [Nat.reduceAdd, gbi_some, gbr_some, gbv_some, gpu_eq, glt_eq, gjn_eq, r1_0, r1_1, r1_2, r1_3, r1_4, r1_5, w1_0, w1_1, w1_2, w1_3, w1_4, w1_5]
      rw [hR.nhX, if_pos (nI_lt (by omega) (by omega))]
  | succ m ih =>
    intro f k VX h1 h2 hR hA
    have h4 := hR.h4
    have hp := Nat.pow_le_pow_right (show 0 < 2 by decide) hR.h4
    obtain ⟨f, rfl⟩ : ∃ f', f = f' + 1 := ⟨f - 1, by omega⟩
    show ∃ VX', _ ∧ ((∃ s, _ ∧ fX7_spares_L1b _ _ _ VX (nI k) = _) ∨ (_ ∧ fX7_spares_L1b _ _ _ VX (nI k) = _))
    unfold fX7_spares_L1b
    simp only [Nat.reduceAdd, gbi_some, gbr_some, gbv_some, gpu_eq, glt_eq, gjn_eq, r1_0, r1_1, r1_2, r1_3, r1_4, r1_5, w1_0, w1_1, w1_2, w1_3, w1_4, w1_5]
    obtain ⟨V1, hR1, hq⟩ := x_spares2 (i := i) (B := fX7_spares_L1 (nI g) (nI n) f) hg hn (show k ≤ 4 by omega) hA (2 ^ nh) gFu 0 VX (by omega) (by unfold gFu; omega) hR (fun t ht => absurd ht (by omega))
    rw [hR.nhX, if_neg (nI_nlt (by omega) (by omega))]
    rcases hq with ⟨s, hs, e1⟩ | ⟨hA1, e1⟩
    · exact ⟨V1, hR1, Or.inl ⟨s, hs, e1⟩⟩
    · rw [show fX7_spares_L2 (nI g) (nI n) (nI k) (fX7_spares_L1 (nI g) (nI n) f) gFu VX 0 = _ from e1]
      exact ih f (k + 1) V1 (by omega) (by omega) hR1 hA1

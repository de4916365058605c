/-! ===== PURE: clash ===== -/
theorem nI_or (a b : Nat) : nI a ||| nI b = nI (a ||| b) := by
  apply Int32.toBitVec_inj.mp
  show BitVec.ofNat 32 a ||| BitVec.ofNat 32 b = BitVec.ofNat 32 (a ||| b)
  exact BitVec.ofNat_or.symm
theorem nI_and (a b : Nat) : nI a &&& nI b = nI (a &&& b) := by
  apply Int32.toBitVec_inj.mp
  show BitVec.ofNat 32 a &&& BitVec.ofNat 32 b = BitVec.ofNat 32 (a &&& b)
  exact BitVec.ofNat_and.symm
theorem gfold_inv {α : Type} {P : α → Prop} {f : α → Nat → α} : ∀ (m i : Nat) (a : α), P a → (∀ s c, i ≤ c → c < i + m → P s → P (f s c)) → P (gfold f m i a)
  | 0, _, _, h, _ => h
  | m + 1, i, a, h, hs => by
    unfold gfold
    exact gfold_inv m (i + 1) _ (hs a i (by omega) (by omega) h) (fun s c h1 h2 => hs s c (by omega) (by omega))
theorem sTwice_ok {L : lW} {r : rR} {nh nc : Nat} (hL : lOk L) (hr : rOk r nh nc) : ∃ s, s < 1024 ∧ sTwice L r nh nc = nI s := by
  have h : (∃ a, a < 1024 ∧ (gfold (fun (s : Int32 × Int32) h => (s.1 ||| sGuests L r nc (nI h), s.2 ||| (s.1 &&& sGuests L r nc (nI h)))) nh 0 (0, 0)).1 = nI a) ∧ ∃ a, a < 1024 ∧ (gfold (fun (s : Int32 × Int32) h => (s.1 ||| sGuests L r nc (nI h), s.2 ||| (s.1 &&& sGuests L r nc (nI h)))) nh 0 (0, 0)).2 = nI a := by
    refine gfold_inv (P := fun (s : Int32 × Int32) => (∃ a, a < 1024 ∧ s.1 = nI a) ∧ ∃ a, a < 1024 ∧ s.2 = nI a) nh 0 (0, 0) ⟨⟨0, by decide, rfl⟩, ⟨0, by decide, rfl⟩⟩ (fun s c _ _ hs => ?_)
    obtain ⟨⟨a, ha, ea⟩, ⟨b, hb, eb⟩⟩ := hs
    obtain ⟨g, hg, eg⟩ := sGuests_ok hL hr (nI c)
    refine ⟨⟨a ||| g, Nat.or_lt_two_pow (n := 10) ha hg, ?_⟩, ⟨b ||| (a &&& g), Nat.or_lt_two_pow (n := 10) hb (Nat.and_lt_two_pow (n := 10) a hg), ?_⟩⟩
    · show s.1 ||| sGuests L r nc (nI c) = _
      rw [ea, eg, nI_or]
    · show s.2 ||| (s.1 &&& sGuests L r nc (nI c)) = _
      rw [ea, eb, eg, nI_and, nI_or]
  exact h.2
def vz : gV := fun _ _ => 0
theorem ntz_V (V : gV) (x : Int32) : ∃ r, fJ6_numberOfTrailingZeros_0f7a4 V x = some (r, V) ∧ fJ6_numberOfTrailingZeros_0f7a4 vz x = some (r, vz) := by
  unfold fJ6_numberOfTrailingZeros_0f7a4
  simp only [glt_eq, gjn_eq]
  repeat' split
  all_goals exact ⟨_, rfl, rfl⟩
theorem ntz_dec : ∀ s, s < 1024 → s ≠ 0 → ∃ g, g < 10 ∧ (hasB (nI s) (nI g) ∧ (∀ k, k < g → ¬ hasB (nI s) (nI k)) ∧ (fJ6_numberOfTrailingZeros_0f7a4 vz (nI s)).map Prod.fst = some (nI g)) := by decide +kernel
theorem ntz_ok {s : Nat} (h : s < 1024) (h0 : s ≠ 0) : ∃ g, g < 10 ∧ hasB (nI s) (nI g) ∧ (∀ k, k < g → ¬ hasB (nI s) (nI k)) ∧ ∀ V, fJ6_numberOfTrailingZeros_0f7a4 V (nI s) = some (nI g, V) := by
  obtain ⟨g, hg, h1, h2, h3⟩ := ntz_dec s h h0
  refine ⟨g, hg, h1, h2, fun V => ?_⟩
  obtain ⟨r, e1, e2⟩ := ntz_V V (nI s)
  rw [e2] at h3
  rw [e1, show r = nI g from Option.some.inj h3]
theorem m_clash2 {W : gV} {a x6 s : Int32} {g : Nat} (hb : hasB s (nI g)) (hn : ∀ k, k < g → ¬ hasB s (nI k)) : ∀ (m f k : Nat), k + m = g → m < f → fX8_clash_L2 a x6 s f W (nI k) = if a = 0 then some (x6, W) else some (nI g, W) := by
  intro m
  induction m with
  | zero =>
    intro f k h1 h2
    obtain ⟨f, rfl⟩ : ∃ f', f = f' + 1 := ⟨f - 1, by omega⟩
    obtain rfl : k = g := by omega
    show fX8_clash_L2b _ _ _ _ W (nI k) = _
    unfold fX8_clash_L2b
    rw [m_has, gbi_some, if_pos hb, g10]
  | succ m ih =>
    intro f k h1 h2
    obtain ⟨f, rfl⟩ : ∃ f', f = f' + 1 := ⟨f - 1, by omega⟩
    show fX8_clash_L2b _ _ _ _ W (nI k) = _
    unfold fX8_clash_L2b
    rw [m_has, gbi_some, if_neg (hn k (by omega)), g00, nI_1]
    exact ih f (k + 1) (by omega) (by omega)
theorem pr_clash_L {i : Nat} {p : Int32} {L : lW} {nh nc : Nat} {VM : gV} : ∀ (m f f2 v : Nat) (VX V : gV), v + m = 100 → m < f → m < f2 → RW i VX VM L nh nc → CO VX 61 (V 1) L nh nc → MO V L nh nc → Thk VM V → gEq (Rel0 (i + 6)) (fX7_clash_L1 p f VX (nI v)) (fX8_clash_L1 p f2 V (nI v)) := by
  intro m
  induction m with
  | zero =>
    intro f f2 v VX V h1 h2 h3 hR hC hM hT
    obtain ⟨f, rfl⟩ : ∃ f', f = f' + 1 := ⟨f - 1, by omega⟩
    obtain ⟨f2, rfl⟩ : ∃ f', f2 = f' + 1 := ⟨f2 - 1, by omega⟩
    obtain rfl : v = 100 := by omega
    show gEq _ (fX7_clash_L1b _ _ VX (nI 100)) (fX8_clash_L1b _ _ V (nI 100))
    unfold fX7_clash_L1b fX8_clash_L1b
    simp only [Nat.reduceAdd, gbi_some, gbr_some, gbv_some, gpu_eq, glt_eq, gjn_eq, r1_0, r1_1, r1_2, r1_3, r1_4, r1_5, w1_0, w1_1, w1_2, w1_3, w1_4, w1_5]
    obtain ⟨V1, e1, hS1⟩ := m_twice hM
    rw [if_pos (by decide), if_pos (by decide), e1, gbi_some, m_move (by decide), gbv_some, if_neg (by decide)]
    exact ((hT.scr hS1).back hR).e2
  | succ m ih =>
    intro f f2 v VX V h1 h2 h3 hR hC hM hT
    obtain ⟨f, rfl⟩ : ∃ f', f = f' + 1 := ⟨f - 1, by omega⟩
    obtain ⟨f2, rfl⟩ : ∃ f', f2 = f' + 1 := ⟨f2 - 1, by omega⟩
    show gEq _ (fX7_clash_L1b _ _ VX (nI v)) (fX8_clash_L1b _ _ V (nI v))
    unfold fX7_clash_L1b fX8_clash_L1b
    simp only [Nat.reduceAdd, gbi_some, gbr_some, gbv_some, gpu_eq, glt_eq, gjn_eq, r1_0, r1_1, r1_2, r1_3, r1_4, r1_5, w1_0, w1_1, w1_2, w1_3, w1_4, w1_5]
    obtain ⟨V1, e1, hS1⟩ := m_twice hM
    have hM1 := hM.scr hS1
    have r1 : V1 1 = V 1 := hS1.row (by decide)
    obtain ⟨s, hs, es⟩ := sTwice_ok hM.2.1 hM.2.2
    rw [if_neg (show ¬ 99 < nI v from nI_nlt (a := 99) (by omega) (by decide)), if_neg (show ¬ 99 < nI v from nI_nlt (a := 99) (by omega) (by decide)), x_twice hC, gbi_some, e1, gbi_some, es]
    by_cases h0 : s = 0
    · subst h0
      rw [if_pos (by decide), if_pos (by decide)]
      obtain ⟨VX2, x2, hC2, hD2⟩ := x_day hC
      obtain ⟨V2, e2, hS2⟩ := m_day hM1
      have r2 : V2 1 = sDay L (V 1) nc := by rw [hS2.row, r1]
      rw [x2, e2, gbv_some, gbv_some, nI_1]
      exact ih f f2 (v + 1) VX2 V2 (by omega) (by omega) (by omega) (hR.o61 (O61.day hD2)) (by rw [r2]; exact hC2) (MO_day hM r2) ((hT.scr hS1).sro hS2)
    · obtain ⟨V3, e3, hS3⟩ := m_twice hM1
      rw [r1, es] at e3
      obtain ⟨g, hg, hb, hn, hz⟩ := ntz_ok hs h0
      rw [if_neg (nI_ne0 (by omega) (by omega)), if_neg (nI_ne0 (by omega) (by omega)), e3, gbi_some, m_move (by decide), gbv_some, if_pos (show nI v ≤ 99 from nI_le (b := 99) (by omega) (by decide)), hz, gbi_some]
      have hB := ((hT.scr hS1).scr hS3).back hR
      rw [show fX8_clash_L2 p (nI v) (nI s) gFu (mvV V3 3 1) 0 = _ from m_clash2 hb hn g gFu 0 (by omega) (by unfold gFu; omega)]
      by_cases hp : p = 0
      · rw [if_pos hp, if_pos hp]
        exact hB.done
      · rw [if_neg hp, if_neg hp]
        exact hB.done
theorem pr_clash {i : Nat} {VX VM : gV} {L : lW} {nh nc : Nat} (hR : RW i VX VM L nh nc) (a : Int32) : gEq (Rel0 (i + 6)) (fX7_clash VX a) (fX8_clash VM a) := by
  unfold fX7_clash fX8_clash
  simp only [Nat.reduceAdd, gbi_some, gbr_some, gbv_some, gpu_eq, glt_eq, gjn_eq, r1_0, r1_1, r1_2, r1_3, r1_4, r1_5, w1_0, w1_1, w1_2, w1_3, w1_4, w1_5]
  rw [d_within, d_in]
  by_cases ha : 0 ≤ a ∧ a ≤ 1
  · obtain ⟨V1, e1, hC1, hO1, -, -⟩ := hR.think
    rw [if_pos ha, if_pos ha, g10, g10, m_move (by decide), gbv_some, e1, gbv_some]
    exact pr_clash_L (VM := VM) 100 gFu gFu 0 V1 (mvV VM 1 3) (by omega) (by unfold gFu; omega) (by unfold gFu; omega) (hR.o61 hO1) (by rw [mv13]; exact hC1) hR.moT Thk.of
  · rw [if_neg ha, if_neg ha, g00, g00]
    exact hR.e1

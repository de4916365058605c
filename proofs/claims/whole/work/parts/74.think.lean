/-! ===== PURE: what is thought of ===== -/
theorem gTT {β : Type} (A B : Option β) : (if True then A else B) = A := if_pos trivial
theorem MO.row {V V' : gV} {L : lW} {nh nc : Nat} (h : MO V L nh nc) (e : V' 1 = V 1) : MO V' L nh nc := by
  unfold MO
  rw [e]
  exact h
theorem MO.days {V V' : gV} {L : lW} {nh nc n : Nat} (h : MO V L nh nc) (hV : V' 1 = sDays L nc n (V 1)) : MO V' L nh nc := by
  unfold MO
  rw [hV]
  exact ⟨ML_days h.2.2.2.1 n _ h.1, h.2.1, rOk_days h.2.1 n _ h.2.2⟩
/-- the model thinks: its row lies in 'tried' -/
def Thk (VM V : gV) : Prop := (∀ k, k < 264 → V 3 k = VM 1 k) ∧ mRest VM V
theorem Thk.of {VM : gV} : Thk VM (mvV VM 1 3) := ⟨fun k hk => mv_to hk, mRest.cell fun c _ h3 _ _ _ => mv_oth h3⟩
theorem Thk.row {VM V V' : gV} (h : Thk VM V) (e : ∀ c, c ≠ 1 → V' c = V c) : Thk VM V' := ⟨fun k hk => by rw [e 3 (by omega)]; exact h.1 k hk, h.2.tr (mRest.cell fun c c1 _ _ _ _ => e c c1)⟩
theorem Thk.scr {VM V V' : gV} (h : Thk VM V) (hS : Scr V V') : Thk VM V' := ⟨fun k hk => by rw [hS.row (by omega)]; exact h.1 k hk, h.2.tr (mRest.scr hS)⟩
theorem Thk.sro {VM V V' : gV} {r : rR} (h : Thk VM V) (hS : Sro V r V') : Thk VM V' := ⟨fun k hk => by rw [hS.oth (by omega) (by omega)]; exact h.1 k hk, h.2.tr (mRest.sro hS)⟩
theorem Thk.mv {VM V : gV} (h : Thk VM V) : Thk VM (mvV V 3 1) := h.row fun c hc => mv_oth hc
theorem Thk.eq {VM V : gV} (h : Thk VM V) : ∀ k, k < 264 → mvV V 3 1 1 k = VM 1 k := fun k hk => (mv_to hk).trans (h.1 k hk)
theorem Thk.back {i : Nat} {VX VM V : gV} {L : lW} {nh nc : Nat} (hR : RW i VX VM L nh nc) (h : Thk VM V) : RW i VX (mvV V 3 1) L nh nc := ⟨hR.1.rcongr h.eq, hR.2.congr xRest.rf h.mv.2⟩
theorem mv13 {VM : gV} : mvV VM 1 3 1 = VM 1 := mv_oth (by decide)
theorem RW.moT {i : Nat} {VX VM : gV} {L : lW} {nh nc : Nat} (h : RW i VX VM L nh nc) : MO (mvV VM 1 3) L nh nc := h.mo.row mv13
/-- all but the class's 'thought' stays -/
def O61 (V V' : gV) : Prop := ∀ x, (x < 61 ∨ 91 ≤ x) → V' x = V x
theorem O61.rf {V : gV} : O61 V V := fun _ _ => rfl
theorem O61.tr {V V1 V2 : gV} (h1 : O61 V V1) (h2 : O61 V1 V2) : O61 V V2 := fun x h => (h2 x h).trans (h1 x h)
theorem O61.day {V V' : gV} (h : Day 61 V V') : O61 V V' := fun x hx => h.out (by omega)
theorem O61.stk {V V' : gV} (h : Stk 61 V V') : O61 V V' := fun x hx => h x (by omega) (by omega)
theorem O61.gup {V : gV} {c : Nat} (hc : 61 ≤ c) (hc2 : c < 91) (j : Nat) (v : Int32) : O61 V (gup V c j v) := fun x hx => gup_row V j v (by omega)
theorem RW.o61 {i : Nat} {VX VX' VM : gV} {L : lW} {nh nc : Nat} (h : RW i VX VM L nh nc) (hO : O61 VX VX') : RW i VX' VM L nh nc := h.keep (fun x hx _ _ => hO x (by omega)) rfl mRest.rf
theorem RW.think {i : Nat} {VX VM : gV} {L : lW} {nh nc : Nat} (h : RW i VX VM L nh nc) : ∃ V1, fX6_copyFrom VX 61 1 = some V1 ∧ CO V1 61 (VM 1) L nh nc ∧ O61 VX V1 ∧ (∀ k, k < 20 → V1 74 k = VX 14 k) ∧ V1 61 11 = VX 1 11 := by
  obtain ⟨V1, e1, hC1, q12, q13, qW, qF⟩ := x_copy (w1 := 61) h.1.1 (by omega)
  exact ⟨V1, e1, hC1, fun x hx => qF x (by omega), q13, qW 11 (by omega) (by omega)⟩
theorem pr_then {i : Nat} {VX VM : gV} {L : lW} {nh nc : Nat} (hR : RW i VX VM L nh nc) (a b c : Int32) : gEq (Rel0 (i + 6)) (fX7_then VX a b c) (fX8_then VM a b c) := by
  have h6 := hR.h6
  unfold fX7_then fX8_then
  simp only [Nat.reduceAdd, gbi_some, gbr_some, gbv_some, gpu_eq, glt_eq, gjn_eq, r1_0, r1_1, r1_2, r1_3, r1_4, r1_5, w1_0, w1_1, w1_2, w1_3, w1_4, w1_5]
  rw [d_within, d_in]
  by_cases ha : 0 ≤ a ∧ a ≤ 99
  · rw [if_pos ha, if_pos ha, g10, g10, d_isCake hR.ncX, dm_isCake hR.ncM]
    by_cases hb : 0 ≤ b ∧ b ≤ nI nc - 1
    · rw [if_pos hb, if_pos hb, g10, g10, d_within, d_in]
      by_cases hc : 0 ≤ c ∧ c ≤ 1
      · rw [if_pos hc, if_pos hc, g10, g10]
        obtain ⟨n, hn, rfl⟩ := rngc (n := 99) (by decide) ha
        obtain ⟨j, hj, rfl⟩ := rng (by omega) hb
        obtain ⟨k, hk, rfl⟩ := rngc (n := 1) (by decide) hc
        obtain ⟨V1, e1, hC1, hO1, -, -⟩ := hR.think
        obtain ⟨V2, e2, hC2, hD2⟩ := x_days (k := n) (by omega) hC1
        obtain ⟨V3, e3, hS3⟩ := m_passes (k := n) (by omega) hR.moT
        have hM3 : MO V3 L nh nc := hR.moT.days hS3.row
        have r3 : V3 1 = sDays L nc n (VM 1) := by rw [hS3.row, mv13]
        have hB : ∀ V4, Scr V3 V4 → RW i V2 (mvV V4 3 1) L nh nc := fun V4 hS4 => ((Thk.of.sro hS3).scr hS4).back (hR.o61 (hO1.tr (O61.day hD2)))
        rw [e1, gbv_some, m_move (by decide), gbv_some, e2, gbv_some, x_cakeAt (by omega), gbr_some, e3, gbv_some]
        have hck : k = 0 ∨ k = 1 := by omega
        rcases hck with rfl | rfl
        · obtain ⟨V4, e4, hS4⟩ := m_shows (j := j) hM3.1 hM3.2.1 (hM3.2.2.2.2.2.2.2 j hj) (by omega)
          rw [if_pos (by decide), if_pos (by decide), hC2.shows hj, gbi_some, e4, gbi_some, m_move (by decide), gbv_some, r3]
          exact (hB V4 hS4).done
        · rw [if_neg (by decide), if_neg (by decide), m_its4 (by omega), gbi_some, m_move (by decide), gbv_some, r3]
          exact (hB V3 Scr.rf).dones (hC2.2.2.2.2.1 j hj).2.2.2.2.1
      · rw [if_neg hc, if_neg hc, g00, g00]
        exact hR.e1
    · rw [if_neg hb, if_neg hb, g00, g00]
      exact hR.e1
  · rw [if_neg ha, if_neg ha, g00, g00]
    exact hR.e1
/-! the first day on which a guest is in a house -/
def sFirst (L : lW) (nc : Nat) (h g : Int32) : Nat → Nat → rR → Option Nat
  | 0, _, _ => none
  | m + 1, i, r => if hasB (sGuests L r nc h) g then some i else sFirst L nc h g m (i + 1) (sDay L r nc)
def fI (o : Option Nat) : Int32 := match o with
  | none => -1
  | some k => nI k
theorem sFirst_lt {L : lW} {nc : Nat} {h g : Int32} : ∀ (m i : Nat) (r : rR) (k : Nat), sFirst L nc h g m i r = some k → k < i + m
  | 0, _, _, _, q => nomatch q
  | m + 1, i, r, k, q => by
    unfold sFirst at q
    by_cases hb : hasB (sGuests L r nc h) g
    · rw [if_pos hb] at q
      have := Option.some.inj q
      omega
    · rw [if_neg hb] at q
      have := sFirst_lt m (i + 1) _ k q
      omega
theorem x_first_L {w : Nat} {L : lW} {nh nc g n : Nat} {h : Int32} (hg : g < 10) (hn : n < 2 ^ 30) : ∀ (m fuel i : Nat) (V : gV) (r : rR), i + m = n → m < fuel → CO V w r L nh nc → ∃ V', fX6_firstDayIn_L1 w (nI g) h (nI n) fuel V (nI i) = some (fI (sFirst L nc h (nI g) m i r), V') ∧ Day w V V' := by
  intro m
  induction m with
  | zero =>
    intro fuel i V r h1 h2 hC
    obtain ⟨fuel, rfl⟩ : ∃ f, fuel = f + 1 := ⟨fuel - 1, by omega⟩
    refine ⟨V, ?_, Day.rf⟩
    show fX6_firstDayIn_L1b w _ _ _ _ V (nI i) = _
    unfold fX6_firstDayIn_L1b
    rw [if_pos (nI_le (by omega) (by omega))]
    rfl
  | succ m ih =>
    intro fuel i V r h1 h2 hC
    obtain ⟨fuel, rfl⟩ : ∃ f, fuel = f + 1 := ⟨fuel - 1, by omega⟩
    show ∃ V', fX6_firstDayIn_L1b w _ _ _ _ V (nI i) = _ ∧ _
    unfold fX6_firstDayIn_L1b sFirst
    rw [if_neg (nI_ge (by omega) (by omega)), x_isIn hC hg, gbi_some]
    by_cases hb : hasB (sGuests L r nc h) (nI g)
    · rw [if_pos hb, if_pos hb, if_neg (by decide)]
      exact ⟨V, rfl, Day.rf⟩
    · rw [if_neg hb, if_neg hb, if_pos rfl]
      obtain ⟨V1, e1, hC1, hD1⟩ := x_day hC
      rw [e1, gbv_some, nI_1]
      obtain ⟨V2, e2, hD2⟩ := ih fuel (i + 1) V1 _ (by omega) (by omega) hC1
      exact ⟨V2, e2, hD1.tr hD2⟩
theorem x_first {V : gV} {w : Nat} {r : rR} {L : lW} {nh nc g n : Nat} {h : Int32} (hg : g < 10) (hn : n < 4000) (hC : CO V w r L nh nc) : ∃ V', fX6_firstDayIn V w (nI g) h (nI n) = some (fI (sFirst L nc h (nI g) n 0 r), V') ∧ Day w V V' :=
  x_first_L hg (by omega) n gFu 0 V r (Nat.zero_add _) (by unfold gFu; omega) hC
noncomputable def comR (o : Option Nat) (W : gV) : Option (Int32 × gV) := match o with
  | some k => some (nI k, W)
  | none => gbi (fX8_errs W (-1000000002)) fun x V => some (x, V)
theorem m_comes_L {L : lW} {nh nc : Nat} {g h : Int32} {VM : gV} : ∀ (m fuel i : Nat) (V : gV), i + m = 100 → m < fuel → MO V L nh nc → Thk VM V → ∃ V', Thk VM V' ∧ fX8_comes_L1 g h fuel V (nI i) = comR (sFirst L nc h g m i (V 1)) (mvV V' 3 1) := by
  intro m
  induction m with
  | zero =>
    intro fuel i V h1 h2 hC hT
    obtain ⟨fuel, rfl⟩ : ∃ f, fuel = f + 1 := ⟨fuel - 1, by omega⟩
    obtain rfl : i = 100 := by omega
    refine ⟨V, hT, ?_⟩
    show fX8_comes_L1b _ _ _ V (nI 100) = _
    unfold fX8_comes_L1b
    simp only [Nat.reduceAdd, gbi_some, gbr_some, gbv_some, gpu_eq, glt_eq, gjn_eq, r1_0, r1_1, r1_2, r1_3, r1_4, r1_5, w1_0, w1_1, w1_2, w1_3, w1_4, w1_5]
    rw [if_pos (by decide), m_move (by decide), gbv_some, if_neg (by decide)]
    rfl
  | succ m ih =>
    intro fuel i V h1 h2 hC hT
    obtain ⟨fuel, rfl⟩ : ∃ f, fuel = f + 1 := ⟨fuel - 1, by omega⟩
    show ∃ V', _ ∧ fX8_comes_L1b _ _ _ V (nI i) = _
    unfold fX8_comes_L1b sFirst
    simp only [Nat.reduceAdd, gbi_some, gbr_some, gbv_some, gpu_eq, glt_eq, gjn_eq, r1_0, r1_1, r1_2, r1_3, r1_4, r1_5, w1_0, w1_1, w1_2, w1_3, w1_4, w1_5]
    obtain ⟨V1, e1, hS1⟩ := m_guests hC h
    rw [if_neg (show ¬ 99 < nI i from nI_nlt (a := 99) (by omega) (by decide)), e1, gbi_some, m_has, gbi_some]
    by_cases hb : hasB (sGuests L (V 1) nc h) g
    · rw [if_pos hb, if_pos hb, if_neg (by decide), m_move (by decide), gbv_some, if_pos (show nI i ≤ 99 from nI_le (b := 99) (by omega) (by decide))]
      exact ⟨V1, hT.scr hS1, rfl⟩
    · rw [if_neg hb, if_neg hb, if_pos rfl]
      obtain ⟨V2, e2, hS2⟩ := m_day (hC.scr hS1)
      rw [e2, gbv_some, nI_1]
      have hr : V2 1 = sDay L (V 1) nc := by rw [hS2.row, hS1.row (by decide)]
      obtain ⟨V3, hT3, e3⟩ := ih fuel (i + 1) V2 (by omega) (by omega) (MO_day hC hr) ((hT.scr hS1).sro hS2)
      rw [hr] at e3
      exact ⟨V3, hT3, e3⟩
theorem pr_comes {i : Nat} {VX VM : gV} {L : lW} {nh nc : Nat} (hR : RW i VX VM L nh nc) (a b : Int32) : gEq (Rel0 (i + 6)) (fX7_comes VX a b) (fX8_comes VM a b) := by
  unfold fX7_comes fX8_comes
  simp only [Nat.reduceAdd, gbi_some, gbr_some, gbv_some, gpu_eq, glt_eq, gjn_eq, r1_0, r1_1, r1_2, r1_3, r1_4, r1_5, w1_0, w1_1, w1_2, w1_3, w1_4, w1_5]
  rw [d_isGuest, dm_isGuest]
  by_cases ha : 0 ≤ a ∧ a ≤ 9
  · rw [if_pos ha, if_pos ha, g10, g10, d_isHouse hR.nhX, dm_isHouse hR.nhM]
    by_cases hb : 0 ≤ b ∧ b ≤ nI nh - 1
    · rw [if_pos hb, if_pos hb, g10, g10]
      obtain ⟨g, hg, rfl⟩ := rngc (n := 9) (by decide) ha
      obtain ⟨V1, e1, hC1, hO1, -, -⟩ := hR.think
      obtain ⟨V2, e2, hD2⟩ := x_first (g := g) (n := 100) (h := b) (by omega) (by decide) hC1
      obtain ⟨V3, hT3, e3⟩ := m_comes_L (g := nI g) (h := b) 100 gFu 0 (mvV VM 1 3) (by omega) (by unfold gFu; omega) hR.moT Thk.of
      have hB : RW i V2 (mvV V3 3 1) L nh nc := hT3.back (hR.o61 (hO1.tr (O61.day hD2)))
      rw [mv13] at e3
      rw [e1, gbv_some, m_move (by decide), gbv_some, show fX6_firstDayIn V1 61 (nI g) b 100 = _ from e2, gbi_some, show fX8_comes_L1 (nI g) b gFu (mvV VM 1 3) 0 = _ from e3]
      have hlt := sFirst_lt (L := L) (nc := nc) (h := b) (g := nI g) 100 0 (VM 1)
      generalize sFirst L nc b (nI g) 100 0 (VM 1) = o at *
      rcases o with _ | k
      · rw [show fI none = -1 from rfl, if_neg (by decide)]
        exact hB.e2
      · have := hlt k rfl
        rw [show fI (some k) = nI k from rfl, if_pos (nI_pos' (by omega))]
        exact hB.done
    · rw [if_neg hb, if_neg hb, g00, g00]
      exact hR.e1
  · rw [if_neg ha, if_neg ha, g00, g00]
    exact hR.e1

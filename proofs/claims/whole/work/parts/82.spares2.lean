/-! ===== PURE: spares, the model ===== -/
theorem gup_self (V : gV) (c j : Nat) : gup V c j (V c j) = V := by
  funext a b
  unfold gup
  split
  · rename_i h
    rw [h.1, h.2]
  · rfl
theorem Thk.whole {VM V : gV} (h : Thk VM V) (ht : ∀ k, 264 ≤ k → V 1 k = VM 1 k) : mvV V 3 1 1 = VM 1 := by
  funext k
  by_cases hk : k < 264
  · exact h.eq k hk
  · rw [show mvV V 3 1 1 k = V 1 k from if_neg (fun q => hk q.2)]
    exact ht k (by omega)
theorem sStill_oth {r : rR} {s k : Nat} (hk : 16 ≤ k) : ∀ n, n ≤ 4 → sStill r s n k = r k
  | 0, _ => rfl
  | n + 1, h => by
    unfold sStill
    split
    · rw [rup_ne _ _ (by omega)]
      exact sStill_oth hk n (by omega)
    · exact sStill_oth hk n (by omega)
def awI (L : lW) (nh nc g n : Nat) (r : rR) (s : Nat) (x : Int32) : Int32 := if sSoon L nh nc (nI g) 15 n (sStill r s nh) = 0 then nI s else x
theorem m_sp_end {g n s : Nat} {x11 : Int32} {VM V : gV} {L : lW} {nh nc : Nat} (hn : n ≤ 30) (h4 : nh ≤ 4) (hM : MO V L nh nc) (hr : V 1 = sStill (VM 1) s nh) (hT : Thk VM V) (B : gV → Int32 → Int32 → Option (Int32 × gV)) : ∃ V', Thk VM V' ∧ V' 1 = VM 1 ∧ (gbi (fX8_isInSoon V (nI g) 15 (nI n)) fun x25 V26 => if x25 = 0 then gbv (fX8_moveAll V26 3 264 1 264) fun V30 => B V30 (nI s) (nI (s + 1)) else gbv (fX8_moveAll V26 3 264 1 264) fun V30 => B V30 x11 (nI (s + 1))) = B V' (awI L nh nc g n (VM 1) s x11) (nI (s + 1)) := by
  obtain ⟨V1, hT1, t1, e1⟩ := m_soon (n := n) (g := nI g) (mask := 15) (by omega) hM hT
  have ht : ∀ k, 264 ≤ k → V1 1 k = VM 1 k := fun k hk => by rw [t1 k hk, hr]; exact sStill_oth (by omega) nh h4
  refine ⟨mvV V1 3 1, hT1.mv, hT1.whole ht, ?_⟩
  rw [e1, gbi_some, m_move (by decide), gbv_some, gbv_some, hr]
  unfold awI
  by_cases h : sSoon L nh nc (nI g) 15 n (sStill (VM 1) s nh) = 0
  · rw [if_pos h, if_pos h]
  · rw [if_neg h, if_neg h]
theorem m_sp2 {g n s : Nat} {x11 : Int32} {VM : gV} {L : lW} {nh nc : Nat} {B : gV → Int32 → Int32 → Option (Int32 × gV)} (hn : n ≤ 30) : ∀ (m f k : Nat) (V : gV), k + m = nh → m < f → MO V L nh nc → V 1 = sStill (VM 1) s k → Thk VM V → ∃ V', Thk VM V' ∧ V' 1 = VM 1 ∧ fX8_spares_L2 (nI g) (nI n) x11 (nI s) B f V (nI k) = B V' (awI L nh nc g n (VM 1) s x11) (nI (s + 1)) := by
  intro m
  induction m with
  | zero =>
    intro f k V h1 h2 hM hr hT
    have h4 := hM.2.2.1
    obtain ⟨f, rfl⟩ : ∃ f', f = f' + 1 := ⟨f - 1, by omega⟩
    obtain rfl : k = nh := by omega
    show ∃ V', _ ∧ _ ∧ fX8_spares_L2b _ _ _ _ _ _ V (nI k) = _
    unfold fX8_spares_L2b
    simp only [Nat.reduceAdd, gbi_some, gbr_some, gbv_some, gpu_eq, glt_eq, gjn_eq, r1_0, r1_1, r1_2, r1_3, r1_4, r1_5, w1_0, w1_1, w1_2, w1_3, w1_4, w1_5]
    rw [hM.2.2.2.2.1, if_pos (nI_le (by omega) (by omega)), nI_1]
    exact m_sp_end hn h4 hM hr hT B
  | succ m ih =>
    intro f k V h1 h2 hM hr hT
    have h4 := hM.2.2.1
    obtain ⟨f, rfl⟩ : ∃ f', f = f' + 1 := ⟨f - 1, by omega⟩
    show ∃ V', _ ∧ _ ∧ fX8_spares_L2b _ _ _ _ _ _ V (nI k) = _
    unfold fX8_spares_L2b
    simp only [Nat.reduceAdd, gbi_some, gbr_some, gbv_some, gpu_eq, glt_eq, gjn_eq, r1_0, r1_1, r1_2, r1_3, r1_4, r1_5, w1_0, w1_1, w1_2, w1_3, w1_4, w1_5]
    rw [hM.2.2.2.2.1, if_neg (nI_ge (by omega) (by omega)), m_has, gbi_some]
    by_cases hb : hasB (nI s) (nI k)
    · rw [if_pos hb, if_neg (show ¬ (1 : Int32) = 0 by decide), w1_at (8 + 2 * k) (m_hx k) (by omega), nI_1]
      refine ih f (k + 1) _ (by omega) (by omega) ?_ ?_ (hT.row (fun c hc => gup_row _ _ _ hc))
      · exact hM.house (v := 0) (by omega) (rOk_hands (v := 0) hM.2.2 (by omega) (by omega))
      · rw [gup_r, hr]
        exact (if_pos hb).symm
    · rw [if_neg hb, if_pos rfl, r1_at (8 + 2 * k) (m_hx k) (by omega), w1_at (8 + 2 * k) (m_hx k) (by omega), gup_self, nI_1]
      exact ih f (k + 1) V (by omega) (by omega) hM (hr.trans (if_neg hb).symm) hT
theorem m_sp3 {g n s : Nat} {x11 : Int32} {VM : gV} {L : lW} {nh nc : Nat} {B : gV → Int32 → Int32 → Option (Int32 × gV)} (hn : n ≤ 30) : ∀ (m f k : Nat) (V : gV), k + m = nh → m < f → MO V L nh nc → V 1 = sStill (VM 1) s k → Thk VM V → ∃ V', Thk VM V' ∧ V' 1 = VM 1 ∧ fX8_spares_L3 (nI g) (nI n) x11 (nI s) B f V (nI k) = B V' (awI L nh nc g n (VM 1) s x11) (nI (s + 1)) := by
  intro m
  induction m with
  | zero =>
    intro f k V h1 h2 hM hr hT
    have h4 := hM.2.2.1
    obtain ⟨f, rfl⟩ : ∃ f', f = f' + 1 := ⟨f - 1, by omega⟩
    obtain rfl : k = nh := by omega
    show ∃ V', _ ∧ _ ∧ fX8_spares_L3b _ _ _ _ _ _ V (nI k) = _
    unfold fX8_spares_L3b
    simp only [Nat.reduceAdd, gbi_some, gbr_some, gbv_some, gpu_eq, glt_eq, gjn_eq, r1_0, r1_1, r1_2, r1_3, r1_4, r1_5, w1_0, w1_1, w1_2, w1_3, w1_4, w1_5]
    rw [hM.2.2.2.2.1, if_pos (nI_le (by omega) (by omega)), nI_1]
    exact m_sp_end hn h4 hM hr hT B
  | succ m ih =>
    intro f k V h1 h2 hM hr hT
    have h4 := hM.2.2.1
    obtain ⟨f, rfl⟩ : ∃ f', f = f' + 1 := ⟨f - 1, by omega⟩
    show ∃ V', _ ∧ _ ∧ fX8_spares_L3b _ _ _ _ _ _ V (nI k) = _
    unfold fX8_spares_L3b
    simp only [Nat.reduceAdd, gbi_some, gbr_some, gbv_some, gpu_eq, glt_eq, gjn_eq, r1_0, r1_1, r1_2, r1_3, r1_4, r1_5, w1_0, w1_1, w1_2, w1_3, w1_4, w1_5]
    rw [hM.2.2.2.2.1, if_neg (nI_ge (by omega) (by omega)), m_has, gbi_some]
    by_cases hb : hasB (nI s) (nI k)
    · rw [if_pos hb, if_neg (show ¬ (1 : Int32) = 0 by decide), w1_at (8 + 2 * k) (m_hx k) (by omega), nI_1]
      refine ih f (k + 1) _ (by omega) (by omega) ?_ ?_ (hT.row (fun c hc => gup_row _ _ _ hc))
      · exact hM.house (v := 0) (by omega) (rOk_hands (v := 0) hM.2.2 (by omega) (by omega))
      · rw [gup_r, hr]
        exact (if_pos hb).symm
    · rw [if_neg hb, if_pos rfl, r1_at (8 + 2 * k) (m_hx k) (by omega), w1_at (8 + 2 * k) (m_hx k) (by omega), gup_self, nI_1]
      exact ih f (k + 1) V (by omega) (by omega) hM (hr.trans (if_neg hb).symm) hT
def binv (A : Nat → Prop) (x : Nat) (o : Option Nat) : Prop := (o = none → ∀ t, t < x → ¬ A t) ∧ ∀ b, o = some b → bst A x b
theorem binv_none {A : Nat → Prop} {x : Nat} (h : ∀ t, t < x → ¬ A t) : binv A x none := ⟨fun _ => h, fun _ q => nomatch q⟩
theorem binv_some {A : Nat → Prop} {x b : Nat} (h : bst A x b) : binv A x (some b) := ⟨(fun q => by cases q), fun b' q => by cases q; exact h⟩
noncomputable def spR (o : Option Nat) (W : gV) : Option (Int32 × gV) := match o with
  | some b => some (nI b, W)
  | none => gbi (fX8_errs W (-1000000002)) fun x V => some (x, V)
theorem m_sp1 {g n : Nat} {VM : gV} {L : lW} {nh nc : Nat} (hn : n ≤ 30) (hM : MO VM L nh nc) : ∀ (m f s : Nat) (o : Option Nat) (V : gV), s + m = 2 ^ nh → m < f → V 1 = VM 1 → Thk VM V → binv (sAway L nh nc g n (VM 1)) s o → ∃ o' V', Thk VM V' ∧ V' 1 = VM 1 ∧ binv (sAway L nh nc g n (VM 1)) (2 ^ nh) o' ∧ fX8_spares_L1 (nI g) (nI n) f V (fI o) (nI s) = spR o' V' := by
  have h4 := hM.2.2.1
  have hp := Nat.pow_le_pow_right (show 0 < 2 by decide) h4
  intro m
  induction m with
  | zero =>
    intro f s o V h1 h2 hr hT hb
    obtain ⟨f, rfl⟩ : ∃ f', f = f' + 1 := ⟨f - 1, by omega⟩
    obtain rfl : s = 2 ^ nh := by omega
    refine ⟨o, V, hT, hr, hb, ?_⟩
    show fX8_spares_L1b _ _ _ V (fI o) (nI (2 ^ nh)) = _
    unfold fX8_spares_L1b
    simp only [Nat.reduceAdd, gbi_some, gbr_some, gbv_some, gpu_eq, glt_eq, gjn_eq, r1_0, r1_1, r1_2, r1_3, r1_4, r1_5, w1_0, w1_1, w1_2, w1_3, w1_4, w1_5]
    rw [hr, hM.2.2.2.2.1, pow_ok nh (by omega), if_pos (nI_le (by omega) (by omega))]
    rcases o with _ | b
    · rw [show fI none = -1 from rfl, if_neg (by decide)]
      rfl
    · have := (hb.2 b rfl).1
      rw [show fI (some b) = nI b from rfl, if_pos (nI_pos' (by omega))]
      rfl
  | succ m ih =>
    intro f s o V h1 h2 hr hT hb
    obtain ⟨f, rfl⟩ : ∃ f', f = f' + 1 := ⟨f - 1, by omega⟩
    have hMV : MO V L nh nc := hM.row hr
    show ∃ o' V', _ ∧ _ ∧ _ ∧ fX8_spares_L1b _ _ _ V (fI o) (nI s) = _
    unfold fX8_spares_L1b
    simp only [Nat.reduceAdd, gbi_some, gbr_some, gbv_some, gpu_eq, glt_eq, gjn_eq, r1_0, r1_1, r1_2, r1_3, r1_4, r1_5, w1_0, w1_1, w1_2, w1_3, w1_4, w1_5]
    rw [hr, hM.2.2.2.2.1, pow_ok nh (by omega), if_neg (nI_ge (by omega) (by omega))]
    rcases o with _ | b
    · have hb1 := hb.1 rfl
      obtain ⟨V1, hT1, r1, e1⟩ := m_sp2 (g := g) (n := n) (s := s) (x11 := -1) (VM := VM) (B := fX8_spares_L1 (nI g) (nI n) f) hn nh gFu 0 V (by omega) (by unfold gFu; omega) hMV hr hT
      rw [show fI none = -1 from rfl, if_pos (by decide), show fX8_spares_L2 (nI g) (nI n) (-1) (nI s) (fX8_spares_L1 (nI g) (nI n) f) gFu V 0 = _ from e1]
      unfold awI
      by_cases ha : sSoon L nh nc (nI g) 15 n (sStill (VM 1) s nh) = 0
      · rw [if_pos ha]
        refine ih f (s + 1) (some s) V1 (by omega) (by omega) r1 hT1 (binv_some ⟨by omega, ha, fun t ht hat => ?_⟩)
        by_cases hts : t = s
        · subst hts; exact Or.inr ⟨rfl, Nat.le_refl _⟩
        · exact absurd hat (hb1 t (by omega))
      · rw [if_neg ha]
        refine ih f (s + 1) none V1 (by omega) (by omega) r1 hT1 (binv_none (fun t ht => ?_))
        by_cases hts : t = s
        · subst hts; exact ha
        · exact hb1 t (by omega)
    · obtain ⟨b1, b2, b3⟩ := hb.2 b rfl
      have pb := pc_le 4 (by decide) b (show b < 2 ^ 4 by omega)
      have ps := pc_le 4 (by decide) s (show s < 2 ^ 4 by omega)
      rw [show fI (some b) = nI b from rfl, if_neg (nI_pos (by omega)), bits_ok V (show s < 16 by omega), gbi_some, bits_ok V (show b < 16 by omega), gbi_some]
      by_cases hle : pc b ≤ pc s
      · rw [if_pos (nI_le hle (by omega)), nI_1]
        refine ih f (s + 1) (some b) V (by omega) (by omega) hr hT (binv_some ⟨by omega, b2, fun t ht hat => ?_⟩)
        by_cases hts : t = s
        · subst hts; omega
        · exact b3 t (by omega) hat
      · obtain ⟨V1, hT1, r1, e1⟩ := m_sp3 (g := g) (n := n) (s := s) (x11 := nI b) (VM := VM) (B := fX8_spares_L1 (nI g) (nI n) f) hn nh gFu 0 V (by omega) (by unfold gFu; omega) hMV hr hT
        rw [if_neg (nI_ge (by omega) (by omega)), show fX8_spares_L3 (nI g) (nI n) (nI b) (nI s) (fX8_spares_L1 (nI g) (nI n) f) gFu V 0 = _ from e1]
        unfold awI
        by_cases ha : sSoon L nh nc (nI g) 15 n (sStill (VM 1) s nh) = 0
        · rw [if_pos ha]
          refine ih f (s + 1) (some s) V1 (by omega) (by omega) r1 hT1 (binv_some ⟨by omega, ha, fun t ht hat => ?_⟩)
          by_cases hts : t = s
          · subst hts; exact Or.inr ⟨rfl, Nat.le_refl _⟩
          · have := b3 t (by omega) hat
            omega
        · rw [if_neg ha]
          refine ih f (s + 1) (some b) V1 (by omega) (by omega) r1 hT1 (binv_some ⟨by omega, b2, fun t ht hat => ?_⟩)
          by_cases hts : t = s
          · subst hts; exact absurd hat ha
          · exact b3 t (by omega) hat
theorem pr_spares {i : Nat} {VX VM : gV} {L : lW} {nh nc : Nat} (hR : RW i VX VM L nh nc) (a b : Int32) : gEq (Rel0 (i + 6)) (fX7_spares VX a b) (fX8_spares VM a b) := by
  have h4 := hR.h4
  have hp := Nat.pow_le_pow_right (show 0 < 2 by decide) h4
  unfold fX7_spares fX8_spares
  simp only [Nat.reduceAdd, gbi_some, gbr_some, gbv_some, gpu_eq, glt_eq, gjn_eq, r1_0, r1_1, r1_2, r1_3, r1_4, r1_5, w1_0, w1_1, w1_2, w1_3, w1_4, w1_5]
  rw [d_isGuest, dm_isGuest]
  by_cases ha : 0 ≤ a ∧ a ≤ 9
  · rw [if_pos ha, if_pos ha, g10, g10, d_within, d_in]
    by_cases hb : 0 ≤ b ∧ b ≤ 30
    · rw [if_pos hb, if_pos hb, g10, g10, m_move (by decide), gbv_some]
      obtain ⟨g, hg, rfl⟩ := rngc (n := 9) (by decide) ha
      obtain ⟨n, hn, rfl⟩ := rngc (n := 30) (by decide) hb
      have e13 : mvV VM 1 3 1 = VM 1 := mv13
      obtain ⟨VX', hR', hq⟩ := x_spares1 (i := i) (g := g) (n := n) (VM := VM) (by omega) hn (nh + 1) gFu 0 VX (by omega) (by unfold gFu; omega) hR (fun _ _ _ => Nat.zero_le _)
      obtain ⟨o, V', hT', r', hb', e'⟩ := m_sp1 (g := g) (n := n) (VM := VM) hn hR.mo (2 ^ nh) gFu 0 none (mvV VM 1 3) (by omega) (by unfold gFu; omega) mv13 Thk.of (binv_none (fun t ht => absurd ht (by omega)))
      have hR2 : RW i VX' V' L nh nc := hR'.keep (fun _ _ _ _ => rfl) r' hT'.2
      rw [show fX8_spares_L1 (nI g) (nI n) gFu (mvV VM 1 3) (-1) 0 = _ from e']
      rcases hq with ⟨s, hs, e1⟩ | ⟨hn, e1⟩
      · rw [show fX7_spares_L1 (nI g) (nI n) gFu VX 0 = _ from e1]
        rcases o with _ | b
        · exact absurd hs.2.1 (hb'.1 rfl s hs.1)
        · have h1 := hb'.2 b rfl
          have h2 := hs.2.2 b h1.1 h1.2.1
          have h3 := h1.2.2 s hs.1 hs.2.1
          obtain rfl : s = b := by omega
          exact hR2.done
      · rw [show fX7_spares_L1 (nI g) (nI n) gFu VX 0 = _ from e1]
        rcases o with _ | b
        · exact hR2.e2
        · have h1 := hb'.2 b rfl
          exact absurd h1.2.1 (hn b h1.1)
    · rw [if_neg hb, if_neg hb, g00, g00]
      exact hR.e1
  · rw [if_neg ha, if_neg ha, g00, g00]
    exact hR.e1

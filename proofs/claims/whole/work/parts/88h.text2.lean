/-! ===== PURE: text, the pair ===== -/
theorem TK.law {use : Nat} {len : Int32} {T : Nat → Int32} {L L' : lW} (h : TK use len T L) (e : L' use = L use) : TK use len T L' := by
  unfold TK at h ⊢
  rw [e]
  exact h
theorem x_textOf {V : gV} {u : Nat} (hu : u ≤ 1) : fX6_textOf V 1 (nI u) = some (7 + 3 * u, V) := by
  have huc : u = 0 ∨ u = 1 := by omega
  unfold fX6_textOf
  rcases huc with rfl | rfl
  · rw [if_pos (show nI 0 = 0 from rfl)]
  · rw [if_neg (show ¬ nI 1 = 0 by decide)]
/-- the model's text: what it answers, and its world -/
theorem m_text {VM : gV} {t u : Nat} (hu : u ≤ 1) (ht : t ≤ 50) (h4 : VM 1 4 = nI t) : ∃ V', mRest VM V' ∧ ((((sPar (fun k => VM 1 (94 + k)) t (nmU u) 60 0 0 0).1 = true ∧ (sPar (fun k => VM 1 (94 + k)) t (nmU u) 60 0 0 0).2.1 = t) ∧ fX8_text_L1 (nI u) gFu (mvV VM 1 4) 0 = some (1, gup V' 1 4 0) ∧ V' 1 (6 + u) = nI t ∧ (∀ k, k < 50 → V' 1 (164 + 50 * u + k) = VM 1 (94 + k)) ∧ ∀ j, j ≠ 6 + u → ¬ (164 + 50 * u ≤ j ∧ j < 214 + 50 * u) → V' 1 j = VM 1 j) ∨ (¬ ((sPar (fun k => VM 1 (94 + k)) t (nmU u) 60 0 0 0).1 = true ∧ (sPar (fun k => VM 1 (94 + k)) t (nmU u) 60 0 0 0).2.1 = t) ∧ fX8_text_L1 (nI u) gFu (mvV VM 1 4) 0 = some (-10 - nI (sPar (fun k => VM 1 (94 + k)) t (nmU u) 60 0 0 0).2.1, gup V' 1 4 0) ∧ ∀ k, k < 264 → V' 1 k = VM 1 k)) := by
  obtain ⟨V1, e1, q2, q3, q4⟩ := m_copyT hu 50 gFu 0 (mvV VM 1 4) (by omega) (by unfold gFu; omega)
  have o1 : mvV VM 1 4 1 = VM 1 := mv_oth (by decide)
  rw [o1] at q3 q4
  have v4 : V1 1 4 = nI t := (q3 4 (by omega)).trans h4
  obtain ⟨v, V2, e2, hS, s8, hg, hb⟩ := m_walks (V := gup V1 1 (6 + u) (nI t)) (bs := fun k => VM 1 (94 + k)) hu ht (gup_at _ _ _ _) (fun k hk => by rw [gup_ne _ _ (by omega)]; exact q4 k (by omega) (by omega)) 1 1 1
  have r2 : ∀ c, c ≠ 0 → c ≠ 1 → V2 c = mvV VM 1 4 c := fun c c0 c1 => by rw [hS.row c0, gup_row _ _ _ c1, q2 c c1]
  have hrest : mRest VM V2 := by
    have h0 : ∀ j, ¬ (7 ≤ j ∧ j ≤ 14) → V2 0 j = VM 0 j := fun j hj => by
      rw [hS 0 j (by omega), gup_ne _ _ (by omega), q2 0 (by decide), mv_oth (by decide)]
    exact ⟨⟨h0 4 (by omega), h0 5 (by omega), h0 21 (by omega)⟩, (r2 2 (by decide) (by decide)).trans (mv_oth (by decide)), (r2 5 (by decide) (by decide)).trans (mv_oth (by decide)), (r2 6 (by decide) (by decide)).trans (mv_oth (by decide)), (r2 7 (by decide) (by decide)).trans (mv_oth (by decide)), (r2 8 (by decide) (by decide)).trans (mv_oth (by decide)), (r2 11 (by decide) (by decide)).trans (mv_oth (by decide))⟩
  have e3 : fX8_text_L1 (nI u) gFu (mvV VM 1 4) 0 = if V2 0 14 = 0 then gbv (fX8_moveAll V2 4 264 1 264) fun V27 => some (-10 - V2 0 8, gup V27 1 4 0) else some (1, gup V2 1 4 0) := by
    rw [show fX8_text_L1 (nI u) gFu (mvV VM 1 4) 0 = _ from e1]
    unfold fX8_text_L1b
    simp only [Nat.reduceAdd, gbi_some, gbr_some, gbv_some, gpu_eq, glt_eq, gjn_eq, r1_0, r1_1, r1_2, r1_3, r1_4, r1_5, w1_0, w1_1, w1_2, w1_3, w1_4, w1_5]
    rw [if_pos (show (50 : Int32) ≤ nI 50 by decide), v4, show (6 : Int32) + nI u = nI (6 + u) from pI_add 6 u, w1_at (6 + u) rfl (by omega), show fX8_walks (gup V1 1 (6 + u) (nI t)) (nI u) 1 1 1 = _ from e2, gbi_some]
    by_cases h14 : V2 0 14 = 0
    · rw [if_pos h14, if_pos h14]
      simp only [if_true]
    · rw [if_neg h14, if_neg h14]
      simp only [if_true]
      rw [if_neg (show ¬ (1 : Int32) = 0 by decide), if_neg (show ¬ (1 : Int32) = 0 by decide)]
  by_cases ho : (sPar (fun k => VM 1 (94 + k)) t (nmU u) 60 0 0 0).1 = true ∧ (sPar (fun k => VM 1 (94 + k)) t (nmU u) 60 0 0 0).2.1 = t
  · refine ⟨V2, hrest, Or.inl ⟨ho, ?_, ?_, fun k hk => ?_, fun j j1 j2 => ?_⟩⟩
    · rw [e3, (hg ho).1, if_neg (show ¬ (1 : Int32) = 0 by decide)]
    · rw [hS.row (by decide), gup_at]
    · rw [hS.row (by decide), gup_ne _ _ (by omega)]
      exact q4 k (by omega) hk
    · rw [hS.row (by decide), gup_ne _ _ (by omega)]
      exact q3 j (by omega)
  · refine ⟨mvV V2 4 1, hrest.tr (mRest.cell fun c c1 _ _ _ _ => mv_oth c1), Or.inr ⟨ho, ?_, fun k hk => ?_⟩⟩
    · rw [e3, hb ho, if_pos rfl, m_move (by decide), gbv_some, s8]
    · rw [mv_to hk, r2 4 (by decide) (by decide), mv_to hk]
theorem pr_text {i : Nat} {VX VM : gV} {L : lW} {nh nc : Nat} (hR : RW i VX VM L nh nc) (a : Int32) : gEq (Rel0 (i + 6)) (fX7_text VX a) (fX8_text VM a) := by
  unfold fX7_text fX8_text
  simp only [Nat.reduceAdd, gbi_some, gbr_some, gbv_some, gpu_eq, glt_eq, gjn_eq, r1_0, r1_1, r1_2, r1_3, r1_4, r1_5, w1_0, w1_1, w1_2, w1_3, w1_4, w1_5]
  rw [d_within, d_in]
  by_cases ha : 0 ≤ a ∧ a ≤ 1
  · obtain ⟨u, hu, rfl⟩ := rngc (n := 1) (by decide) ha
    rw [if_pos ha, if_pos ha, g10, g10]
    obtain ⟨hC, hM, hn, hd, ⟨t, ht, t1, t2⟩, hw, htp, hwt⟩ := hR.1
    obtain ⟨V9, e9, f9, o9⟩ := x_fault (V := VX) (bs := fun k => VM 1 (94 + k)) (len := t) (cn := 113 + u) hu ht rfl hR.2.2.2.2.2.2.1 hR.2.2.2.2.2.2.2.1 (fun k hk => htp k hk)
    obtain ⟨V', hrest, hq⟩ := m_text (VM := VM) hu ht t2
    have eX : ∀ (K : Int32 → gV → Option (Int32 × gV)), (if nI u = 0 then gbi (fX2_faultOf VX 91 13 50 (VX 1 10) 113 3) K else gbi (fX2_faultOf VX 91 13 50 (VX 1 10) 114 3) K) = gbi (fX2_faultOf VX 91 13 50 (nI t) (113 + u) 3) K := fun K => by
      rw [t1]
      have huc : u = 0 ∨ u = 1 := by omega
      rcases huc with rfl | rfl
      · rw [if_pos (show nI 0 = 0 from rfl)]
      · rw [if_neg (show ¬ nI 1 = 0 by decide)]
    have hR9 : RW i V9 VM L nh nc := hR.keep (fun x hx _ _ => f9 x (by omega)) rfl mRest.rf
    rw [eX, e9, gbi_some, m_move (by decide), gbv_some]
    rcases hq with ⟨ho, e', r6, rt, ro⟩ | ⟨ho, e', ro⟩
    · obtain ⟨o92, o93⟩ := o9 ho
      rw [if_pos ho, if_pos (show (-1 : Int32) < 0 by decide), x_textOf hu, gbr_some, e']
      have hnm : ∀ i, i < 3 → ¬ nmU u i = -1 := (aV_E (bs := fun k => VM 1 (94 + k)) (a := 0) (b := 0) (c := 0) hu ht).nm1
      have hlen := (sPar_B (bs := fun k => VM 1 (94 + k)) hnm 60 0 0 0 (Nat.zero_le t)).2.2 ho.1
      obtain ⟨VA, a0, a1, a2, a3⟩ := x_textCopy (gup V9 1 10 0) (c0 := 7 + 3 * u) (c1 := 92) (by omega)
      have huc : u = 0 ∨ u = 1 := by omega
      have fA : ∀ x, x ≠ 1 → ¬ (91 ≤ x ∧ x < 97) → x ≠ 7 + 3 * u → x ≠ 7 + 3 * u + 1 → VA x = VX x := fun x h1 h2 h3 h4 => by rw [a3 x h3 h4, gup_row _ _ _ h1, f9 x h2]
      have fA1 : ∀ k, k ≠ 10 → VA 1 k = VX 1 k := fun k hk => by rw [a3 1 (by omega) (by omega), gup_ne _ _ (by omega), f9 1 (by omega)]
      have fA10 : VA 1 10 = nI 0 := by
        rw [a3 1 (by omega) (by omega), gup_at]
        rfl
      have hr' : ∀ j, j ≠ 4 → j ≠ 6 + u → ¬ (164 + 50 * u ≤ j ∧ j < 214 + 50 * u) → gup V' 1 4 0 1 j = VM 1 j := fun j j1 j2 j3 => (gup_ne _ _ (by omega)).trans (ro j j2 j3)
      have n4 := hR.h4
      have n6 := hR.h6
      have hTn : TK u (VA (7 + 3 * u) 2) (VA (7 + 3 * u + 1)) (newL L u (sPar (fun k => VM 1 (94 + k)) t (nmU u) 60 0 0 0).2.2) := by
        rw [a1, gup_row _ _ _ (by decide), o92]
        refine TK_new hu ht ho.1 (fun k hk => ?_) (fun a b c => newL_at a b c)
        rw [a2 k (by omega), gup_row _ _ _ (by decide)]
        exact o93 k hk
      have hML : ML (gup V' 1 4 0 1) (newL L u (sPar (fun k => VM 1 (94 + k)) t (nmU u) 60 0 0 0).2.2) := by
        have hnew : ML1 u (gup V' 1 4 0 1) (newL L u (sPar (fun k => VM 1 (94 + k)) t (nmU u) 60 0 0 0).2.2) := ML1_new (bs := fun k => VM 1 (94 + k)) hu ht ((gup_ne _ _ (by omega)).trans r6) (fun k hk => (gup_ne _ _ (by omega)).trans (rt k (by omega))) ho (fun a b c => newL_at a b c)
        rcases huc with rfl | rfl
        · exact ⟨hnew, hM.2.congr (hr' _ (by omega) (by omega) (by omega)) (fun i h1 h2 => hr' _ (by omega) (by omega) (by omega)) (newL_ne (by decide))⟩
        · exact ⟨hM.1.congr (hr' _ (by omega) (by omega) (by omega)) (fun i h1 h2 => hr' _ (by omega) (by omega) (by omega)) (newL_ne (by decide)), hnew⟩
      have hCM : CM VA 1 (gup V' 1 4 0 1) (newL L u (sPar (fun k => VM 1 (94 + k)) t (nmU u) 60 0 0 0).2.2) nh nc := by
        obtain ⟨c1, ⟨r1, r2, r3, r4, r5, r6'⟩, ⟨c8, c9, c12, c13⟩, cH, cC, cT0, cT1⟩ := hC
        have hTK : TK 0 (VA 7 2) (VA 8) (newL L u (sPar (fun k => VM 1 (94 + k)) t (nmU u) 60 0 0 0).2.2) ∧ TK 1 (VA 10 2) (VA 11) (newL L u (sPar (fun k => VM 1 (94 + k)) t (nmU u) 60 0 0 0).2.2) := by
          rcases huc with rfl | rfl
          · refine ⟨hTn, ?_⟩
            rw [fA 10 (by decide) (by decide) (by decide) (by decide), fA 11 (by decide) (by decide) (by decide) (by decide)]
            exact cT1.law (newL_ne (by decide))
          · refine ⟨?_, hTn⟩
            rw [fA 7 (by decide) (by decide) (by decide) (by decide), fA 8 (by decide) (by decide) (by decide) (by decide)]
            exact cT0.law (newL_ne (by decide))
        refine ⟨newL_ok hu c1, ⟨r1, r2, (hr' 2 (by omega) (by omega) (by omega)).trans r3, (hr' 3 (by omega) (by omega) (by omega)).trans r4, fun k hk => hOk_congr (hr' _ (by omega) (by omega) (by omega)) (hr' _ (by omega) (by omega) (by omega)) (r5 k hk), fun j hj => cOk_rcongr (fun k hk => hr' _ (by omega) (by omega) (by omega)) (r6' j hj)⟩, ⟨(fA1 8 (by decide)).trans c8, (fA1 9 (by decide)).trans c9, ?_, ?_⟩, fun k hk => ?_, fun j hj => ?_, hTK.1, hTK.2⟩
        · rw [fA1 12 (by decide), hr' 0 (by omega) (by omega) (by omega)]; exact c12
        · rw [fA1 13 (by decide), hr' 1 (by omega) (by omega) (by omega)]; exact c13
        · rw [fA _ (by omega) (by omega) (by omega) (by omega)]
          unfold sHands sWater
          rw [hr' _ (by omega) (by omega) (by omega), hr' _ (by omega) (by omega) (by omega)]
          exact cH k hk
        · obtain ⟨k1, k2, k3, k4, k5, k6, k7⟩ := cC j hj
          exact cakeM_rcongr (fun k hk => hr' _ (by omega) (by omega) (by omega)) (cakeM_congr (fA _ (by omega) (by omega) (by omega) (by omega)) (fA _ (by omega) (by omega) (by omega) (by omega)) ⟨k1, k2, k3, k4, k5, k7⟩)
      obtain ⟨VB, b0, hCO, hMs⟩ := x_msr hCM
      have fB : ∀ x, x ≠ 9 → x ≠ 12 → (∀ j, j < 6 → x ≠ 19 + 2 * j) → VB x = VA x := fun x h1 h2 h3 => hMs.row (by omega) (by omega) (fun j hj => by have := h3 j hj; omega)
      obtain ⟨w, hw1, hw2, hw3⟩ := hw
      rw [a0, gbv_some, b0, gbv_some]
      refine RW.done (L := newL L u (sPar (fun k => VM 1 (94 + k)) t (nmU u) 60 0 0 0).2.2) (nh := nh) (nc := nc) ⟨⟨hCO, hML, fun h hh => ?_, ?_, ⟨0, by omega, ?_, ?_⟩, ⟨w, hw1, ?_, ?_⟩, fun k hk => ?_, fun k hk => ?_⟩, hR.2.congr (fun x hx => ?_) (hrest.tr (mRest.cell fun c c1 _ _ _ _ => gup_row _ _ _ c1))⟩
      · obtain ⟨x, hx, ex⟩ := hn h hh
        exact ⟨x, hx, (hr' _ (by omega) (by omega) (by omega)).trans ex⟩
      · rw [hr' 0 (by omega) (by omega) (by omega)]; exact hd
      · rw [fB 1 (by omega) (by omega) (fun j _ => by omega)]; exact fA10
      · rw [gup_at]; rfl
      · rw [fB 1 (by omega) (by omega) (fun j _ => by omega), fA1 11 (by decide)]; exact hw2
      · rw [hr' 5 (by omega) (by omega) (by omega)]; exact hw3
      · rw [fB _ (by omega) (by omega) (fun j _ => by omega), fA _ (by omega) (by omega) (by omega) (by omega), hr' _ (by omega) (by omega) (by omega)]; exact htp k hk
      · rw [fB _ (by omega) (by omega) (fun j _ => by omega), fA _ (by omega) (by omega) (by omega) (by omega), hr' _ (by omega) (by omega) (by omega)]; exact hwt k hk
      · rw [fB x (by omega) (by omega) (fun j _ => by omega), fA x (by omega) (by omega) (by omega) (by omega)]
    · rw [if_neg ho, if_neg (nI_pos (by
        have hnm : ∀ i, i < 3 → ¬ nmU u i = -1 := (aV_E (bs := fun k => VM 1 (94 + k)) (a := 0) (b := 0) (c := 0) hu ht).nm1
        have := (sPar_B (bs := fun k => VM 1 (94 + k)) hnm 60 0 0 0 (Nat.zero_le t)).2.1
        omega)), e']
      have hR' : RW i V9 V' L nh nc := ⟨hR9.1.rcongr ro, hR9.2.congr xRest.rf hrest⟩
      exact hR'.tape0.done
  · rw [if_neg ha, if_neg ha, g00, g00]
    exact hR.e1

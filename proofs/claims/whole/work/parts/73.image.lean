/-! ===== PURE: image, restore ===== -/
theorem WR.rcongr {V : gV} {w : Nat} {r r' : rR} {L : lW} {nh nc : Nat} (h : WR V w r L nh nc) (e : ∀ k, k < 264 → r' k = r k) : WR V w r' L nh nc := by
  obtain ⟨h1, h2, h3, h4, h5, h6, h7, h8⟩ := h
  have n4 := h1.2.1.1
  refine ⟨h1.gen (fun _ _ _ _ _ _ _ => rfl) rfl rfl ?_ ?_ (fun k _ b _ _ => e k (by omega)), h2.congr (e 6 (by omega)) (e 7 (by omega)) (fun i a b => e i (by omega)), fun k hk => ?_, ?_, ?_, ?_, fun k hk => ?_, fun k hk => ?_⟩
  · rw [e 0 (by omega)]; exact h1.2.2.1.2.2.1
  · rw [e 1 (by omega)]; exact h1.2.2.1.2.2.2
  · unfold sHands
    rw [e _ (by omega)]
    exact h3 k hk
  · rw [e 0 (by omega)]; exact h4
  · rw [e 4 (by omega)]; exact h5
  · rw [e 5 (by omega)]; exact h6
  · rw [e _ (by omega)]; exact h7 k hk
  · rw [e _ (by omega)]; exact h8 k hk
theorem WR.copy {V V' : gV} {w1 w2 : Nat} {r : rR} {L : lW} {nh nc : Nat} (h : WR V w2 r L nh nc) (hC : CO V' w1 r L nh nc) (e12 : ∀ k, k < 50 → V' (w1 + 12) k = V (w2 + 12) k) (e13 : ∀ k, k < 20 → V' (w1 + 13) k = V (w2 + 13) k) (eW : ∀ k, 8 ≤ k → k ≤ 13 → V' w1 k = V w2 k) : WR V' w1 r L nh nc := by
  obtain ⟨h1, h2, h3, h4, h5, h6, h7, h8⟩ := h
  refine ⟨hC, h2, h3, h4, by rw [eW 10 (by omega) (by omega)]; exact h5, by rw [eW 11 (by omega) (by omega)]; exact h6, fun k hk => (e12 k hk).trans (h7 k hk), fun k hk => (e13 k hk).trans (h8 k hk)⟩
theorem mv_to {V : gV} {a b k : Nat} (hk : k < 264) : mvV V a b b k = V a k := if_pos ⟨rfl, hk⟩
theorem mv_oth {V : gV} {a b c : Nat} (hc : c ≠ b) : mvV V a b c = V c := by
  funext k
  exact if_neg (fun q => hc q.1)
theorem pr_image {i : Nat} {VX VM : gV} {L : lW} {nh nc : Nat} (hR : RW i VX VM L nh nc) : gEq (Rel0 (i + 6)) (fX7_image VX) (fX8_image VM) := by
  obtain ⟨hw, ⟨n, h1, h2, h3, h4, h5⟩, h6, h7, ⟨t, h8, h9, h10, h11⟩, h12, h13, h14, h15⟩ := hR
  obtain ⟨V1, e1, hC1, q12, q13, qW, qF⟩ := x_copy (w1 := 31) hw.1 (by omega)
  unfold fX7_image fX8_image
  rw [e1, gbv_some, m_move (by decide), gbv_some]
  simp only [Nat.reduceAdd, gbi_some, gbr_some, gbv_some, gpu_eq, glt_eq, gjn_eq, r1_0, r1_1, r1_2, r1_3, r1_4, r1_5, w1_0, w1_1, w1_2, w1_3, w1_4, w1_5]
  have e9 : V1 0 9 = nI n := by rw [qF 0 (by omega)]; exact h2
  have em : gup (mvV VM 1 2) 0 4 1 0 5 = nI n := by rw [gup_ne _ _ (by omega), mv_oth (by omega)]; exact h3
  rw [gup_at, gup_at, e9, em, nI_1]
  refine ⟨_, _, _, rfl, rfl, L, nh, nc, ?_, ⟨n + 1, by omega, gup_at _ _ _ _, gup_at _ _ _ _, ?_, fun _ => ⟨L, nh, nc, ?_⟩⟩, fun k hk => ?_, fun s hs => (h7 s hs).congr ?_ ?_ ?_ ?_ ?_, ⟨t, h8, ?_, ?_, fun k hk => ?_⟩, ?_, ?_, ?_, ?_⟩
  · have : gup (gup (mvV VM 1 2) 0 4 1) 0 5 (nI (n + 1)) 1 = VM 1 := by rw [gup_row _ _ _ (by omega), gup_row _ _ _ (by omega), mv_oth (by omega)]
    rw [this]
    exact hw.congr (fun x a b _ _ => by rw [gup_row _ _ _ (by omega), qF x (by omega)])
  · rw [gup_ne _ _ (by omega), gup_at, if_neg (by omega)]
  · refine ((hw.copy hC1 q12 q13 qW).congr (fun x a b _ _ => gup_row _ _ _ (by omega))).rcongr (fun k hk => ?_)
    rw [gup_row _ _ _ (by omega), gup_row _ _ _ (by omega), mv_to hk]
  · rw [gup_row _ _ _ (by omega), gup_row _ _ _ (by omega), gup_row _ _ _ (by omega), mv_oth (by omega), qF _ (by omega)]; exact h6 k hk
  · rw [gup_row _ _ _ (by omega), qF _ (by omega)]
  · rw [gup_row _ _ _ (by omega), qF _ (by omega)]
  · rw [gup_row _ _ _ (by omega), gup_row _ _ _ (by omega), mv_oth (by omega)]
  · rw [gup_row _ _ _ (by omega), gup_row _ _ _ (by omega), mv_oth (by omega)]
  · rw [gup_row _ _ _ (by omega), gup_row _ _ _ (by omega), mv_oth (by omega)]
  · rw [gup_row _ _ _ (by omega), qF _ (by omega)]; exact h9
  · rw [gup_ne _ _ (by omega), gup_ne _ _ (by omega), mv_oth (by omega)]; exact h10
  · rw [gup_row _ _ _ (by omega), gup_row _ _ _ (by omega), gup_row _ _ _ (by omega), mv_oth (by omega), qF _ (by omega)]; exact h11 k hk
  · rw [gup_row _ _ _ (by omega), qF _ (by omega)]; exact h12
  · rw [gup_row _ _ _ (by omega), qF _ (by omega)]; exact h13
  · rw [gup_row _ _ _ (by omega), qF _ (by omega)]; exact h14
  · rw [gup_row _ _ _ (by omega), qF _ (by omega)]; exact h15
theorem pr_restore {i : Nat} {VX VM : gV} {L : lW} {nh nc : Nat} (hi : i ≤ 3072) (hR : RW i VX VM L nh nc) : gEq (Rel0 (i + 6)) (fX7_restore VX) (fX8_restore VM) := by
  obtain ⟨n, h1, h2, h3, h4, h5⟩ := hR.2.1
  unfold fX7_restore fX8_restore
  rw [h2, h4]
  by_cases hn : n = 0
  · subst hn
    rw [if_pos (by decide), if_pos rfl, if_pos rfl]
    exact hR.e2
  · rw [if_neg (nI_ne0 (by omega) (by omega)), if_neg hn, if_neg (by decide)]
    obtain ⟨L', nh', nc', hw⟩ := h5 hn
    obtain ⟨V1, e1, hC1, q12, q13, qW, qF⟩ := x_copy (w1 := 1) hw.1 (by omega)
    rw [show fX6_copyFrom VX (0 + 1) (0 + 31) = some V1 from e1, gbv_some, m_move (by decide), gbv_some]
    simp only [Nat.reduceAdd, gbi_some, gbr_some, gbv_some, gpu_eq, glt_eq, gjn_eq, r1_0, r1_1, r1_2, r1_3, r1_4, r1_5, w1_0, w1_1, w1_2, w1_3, w1_4, w1_5]
    refine RW.dones (L := L') (nh := nh') (nc := nc') ⟨?_, hR.2.congr (fun x hx => qF x (by omega)) (mRest.cell fun c c1 _ _ _ _ => mv_oth c1)⟩ ?_
    · exact (hw.copy hC1 q12 q13 qW).rcongr (fun k hk => mv_to hk)
    · rw [mv_to (by omega)]
      exact hC1.2.2.1.2.2.1

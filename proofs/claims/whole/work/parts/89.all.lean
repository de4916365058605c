/-! ===== PURE: all pairs; the beginning ===== -/
theorem hAll : ∀ i, i ≤ 3072 → lAll (Rel0 i) (Rel0 (i + 6)) := fun i hi => ⟨
  fun _ _ a0 ⟨_, _, _, h⟩ => pr_house h a0,
  fun _ _ a0 a1 ⟨_, _, _, h⟩ => pr_ofHouse h a0 a1,
  fun _ _ a0 a1 a2 ⟨_, _, _, h⟩ => pr_change h a0 a1 a2,
  fun _ _ a0 a1 ⟨_, _, _, h⟩ => pr_cake h a0 a1,
  fun _ _ a0 a1 ⟨_, _, _, h⟩ => pr_ofCake h a0 a1,
  fun _ _ a0 a1 ⟨_, _, _, h⟩ => pr_layer h a0 a1,
  fun _ _ a0 a1 ⟨_, _, _, h⟩ => pr_named h a0 a1,
  fun _ _ a0 a1 a2 ⟨_, _, _, h⟩ => pr_shift h a0 a1 a2,
  fun _ _ a0 a1 ⟨_, _, _, h⟩ => pr_press h a0 a1,
  fun _ _ a0 a1 ⟨_, _, _, h⟩ => pr_become h a0 a1,
  fun _ _ a0 a1 ⟨_, _, _, h⟩ => pr_as h a0 a1,
  fun _ _ a0 a1 ⟨_, _, _, h⟩ => pr_feed h a0 a1,
  fun _ _ a0 ⟨_, _, _, h⟩ => pr_text h a0,
  fun _ _ a0 a1 a2 a3 ⟨_, _, _, h⟩ => pr_law h a0 a1 a2 a3,
  fun _ _ a0 ⟨_, _, _, h⟩ => pr_days h a0,
  fun _ _ a0 ⟨_, _, _, h⟩ => pr_loose h a0,
  fun _ _ a0 ⟨_, _, _, h⟩ => pr_where h a0,
  fun _ _ ⟨_, _, _, h⟩ => pr_twice h,
  fun _ _ a0 a1 a2 ⟨_, _, _, h⟩ => pr_then h a0 a1 a2,
  fun _ _ a0 a1 ⟨_, _, _, h⟩ => pr_comes h a0 a1,
  fun _ _ a0 ⟨_, _, _, h⟩ => pr_clash h a0,
  fun _ _ a0 a1 ⟨_, _, _, h⟩ => pr_spares h a0 a1,
  fun _ _ a0 a1 a2 ⟨_, _, _, h⟩ => pr_hurry h a0 a1 a2,
  fun _ _ a0 ⟨_, _, _, h⟩ => pr_fits h a0,
  fun _ _ a0 a1 a2 a3 a4 ⟨_, _, _, h⟩ => pr_howFar h a0 a1 a2 a3 a4,
  fun _ _ a0 ⟨_, _, _, h⟩ => pr_lends h a0,
  fun _ _ a0 a1 a2 a3 ⟨_, _, _, h⟩ => pr_odds h a0 a1 a2 a3,
  fun _ _ a0 ⟨_, _, _, h⟩ => pr_seed h a0,
  fun _ _ a0 a1 a2 ⟨_, _, _, h⟩ => pr_voice h a0 a1 a2,
  fun _ _ a0 ⟨_, _, _, h⟩ => pr_trace h a0,
  fun _ _ a0 a1 a2 ⟨_, _, _, h⟩ => pr_sheet h a0 a1 a2,
  fun _ _ a0 a1 a2 ⟨_, _, _, h⟩ => pr_put h a0 a1 a2,
  fun _ _ a0 a1 a2 a3 a4 ⟨_, _, _, h⟩ => pr_move h a0 a1 a2 a3 a4,
  fun _ _ a0 ⟨_, _, _, h⟩ => pr_worns h a0,
  fun _ _ a0 ⟨_, _, _, h⟩ => pr_judge h a0,
  fun _ _ ⟨_, _, _, h⟩ => pr_image h,
  fun _ _ ⟨_, _, _, h⟩ => pr_restore hi h,
  fun _ _ a0 ⟨_, _, _, h⟩ => pr_tell h a0,
  fun _ _ ⟨_, _, _, h⟩ => pr_check h,
  fun _ _ a0 ⟨_, _, _, h⟩ => pr_count h a0,
  fun _ _ a0 ⟨_, _, _, h⟩ => pr_told h a0⟩
def L0 : lW := fun u a _ _ => hold u (dflt u a)
theorem L0_ok : lOk L0 := fun a b c => ⟨(hold_ok _).1, (hold_ok _).2⟩
theorem b_tape : ∀ k, k < 50 → V0X 13 k = V0M 1 (94 + k) := by decide +kernel
theorem b_wait : ∀ k, k < 20 → V0X 14 k = V0M 1 (144 + k) := by decide +kernel
theorem b_errs : ∀ k, k < 6 → V0X 103 k = V0M 5 k := by decide +kernel
theorem b_sheets : ∀ s, s < 4 → V0X (104 + 2 * s) 1 = nI 0 ∧ V0M 6 s = nI 0 ∧ V0X (104 + 2 * s) 2 = nI 0 ∧ V0M 7 s = nI 0 ∧ ∀ k, k < 40 → V0X (104 + 2 * s + 1) k = V0M 8 (40 * s + k) := by decide +kernel
theorem b_heads : (V0X 1 8 = nI 0 ∧ V0X 1 9 = nI 0 ∧ V0X 1 12 = V0M 1 0 ∧ V0X 1 13 = V0M 1 1) ∧ (V0M 1 2 = nI 0 ∧ V0M 1 3 = nI 0 ∧ V0M 1 6 = -1 ∧ V0M 1 7 = -1) ∧ (V0X 7 2 = 0 ∧ V0X 10 2 = 0) ∧ V0M 1 0 = nI 0 ∧ (V0X 1 10 = nI 0 ∧ V0M 1 4 = nI 0) ∧ (V0X 1 11 = nI 0 ∧ V0M 1 5 = nI 0) ∧ (V0X 0 9 = nI 0 ∧ V0M 0 5 = nI 0 ∧ V0M 0 4 = 0) ∧ V0X 97 1 = nI 0 ∧ V0M 0 21 = nI 0 := by decide +kernel
theorem b_ML : ML (V0M 1) L0 := by
  obtain ⟨-, ⟨-, -, s6, s7⟩, -⟩ := b_heads
  refine ⟨fun V q1 _ a b c => ⟨V, ?_, Scr.rf⟩, fun V q1 _ a b c => ⟨V, ?_, Scr.rf⟩⟩
  · unfold fX8_lawOf
    simp only [Nat.reduceAdd, gbi_some, gbr_some, gbv_some, gpu_eq, glt_eq, gjn_eq, r1_0, r1_1, r1_2, r1_3, r1_4, r1_5, w1_0, w1_1, w1_2, w1_3, w1_4, w1_5]
    rw [if_pos (show nI 0 = 0 from rfl), show (6 : Int32) + nI 0 = nI (6 + 0) from pI_add 6 0, r1_at (6 + 0) rfl (by omega), q1, s6, if_pos (show (-1 : Int32) < 0 by decide), if_pos (show nI 0 = 0 from rfl)]
    have e : L0 0 a b c = 5 := by
      show hold 0 (dflt 0 a) = 5
      rw [← hold_0]
      rfl
    rw [e]
  · unfold fX8_lawOf
    simp only [Nat.reduceAdd, gbi_some, gbr_some, gbv_some, gpu_eq, glt_eq, gjn_eq, r1_0, r1_1, r1_2, r1_3, r1_4, r1_5, w1_0, w1_1, w1_2, w1_3, w1_4, w1_5]
    rw [if_neg (show ¬ nI 1 = 0 by decide), show (6 : Int32) + nI 1 = nI (6 + 1) from pI_add 6 1, r1_at (6 + 1) rfl (by omega), q1, s7, if_pos (show (-1 : Int32) < 0 by decide), if_neg (show ¬ nI 1 = 0 by decide), gdv_ne (show ¬ (3 : Int32) = 0 by decide), m_held, gbi_some, hold_1]
    rfl
theorem hRel0 : Rel0 0 V0X V0M := by
  obtain ⟨⟨x8, x9, x12, x13⟩, ⟨m2, m3, s6, s7⟩, ⟨t0, t1⟩, hd, ⟨p1, p2⟩, ⟨w1, w2⟩, ⟨i1, i2, i3⟩, v1, v2⟩ := b_heads
  have tk : ∀ u T, TK u 0 T L0 := fun u T => ⟨fun _ a b c => rfl, fun q => absurd rfl q⟩
  refine ⟨L0, 0, 0, ⟨⟨L0_ok, ⟨by omega, by omega, m2, m3, fun h hh => absurd hh (by omega), fun j hj => absurd hj (by omega)⟩, ⟨x8, x9, x12, x13⟩, fun h hh => absurd hh (by omega), fun j hj => absurd hj (by omega), ?_, ?_⟩, b_ML, fun h hh => absurd hh (by omega), ⟨0, by omega, hd⟩, ⟨0, by omega, p1, p2⟩, ⟨0, by omega, w1, w2⟩, b_tape, b_wait⟩, ⟨0, by omega, i1, i2, i3, fun q => absurd rfl q⟩, b_errs, fun s hs => ?_, ⟨0, by omega, v1, v2, fun k hk => absurd hk (by omega)⟩, rfl, rfl, rfl, rfl⟩
  · rw [show V0X (1 + 6) 2 = 0 from t0]
    exact tk 0 _
  · rw [show V0X (1 + 9) 2 = 0 from t1]
    exact tk 1 _
  · obtain ⟨q1, q2, q3, q4, q5⟩ := b_sheets s hs
    exact ⟨⟨0, by omega, q1, q2⟩, ⟨0, by omega, q3, q4⟩, q5⟩

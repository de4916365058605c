/-! ===== PURE: the model reads, whole ===== -/
section MW
variable {V0 : gV} {bs nm : Nat → Int32} {len u : Nat}
theorem ME.nm1 (hE : ME V0 bs len u nm) : ∀ i, i < 3 → ¬ nm i = -1 := fun i hi => by
  obtain ⟨-, -, hu, -, -, n0, n1, n2⟩ := hE
  have hc : i = 0 ∨ i = 1 ∨ i = 2 := by omega
  have huc : u = 0 ∨ u = 1 := by omega
  rcases hc with rfl | rfl | rfl <;> rcases huc with rfl | rfl
  · rw [n0]; decide
  · rw [n0]; decide
  · rw [n1]; decide
  · rw [n1]; decide
  · rw [n2]; decide
  · rw [n2]; decide
theorem m_num_L (hE : ME V0 bs len u nm) : ∀ (k fu i p op : Nat) (x : Int32) (V : gV), i + k = 4 → k < fu → p ≤ len → MS V0 V p op → ∃ V', fX8_number_L1 fu V x (nI i) = some ((sNum bs len k p x).2, V') ∧ MS V0 V' (sNum bs len k p x).1 op := by
  have h50 := hE.2.2.2.1
  intro k
  induction k with
  | zero =>
    intro fu i p op x V h1 h2 hp h
    obtain ⟨fu, rfl⟩ : ∃ f', fu = f' + 1 := ⟨fu - 1, by omega⟩
    refine ⟨V, ?_, h⟩
    show fX8_number_L1b _ V x (nI i) = _
    unfold fX8_number_L1b
    rw [if_pos (show 4 ≤ nI i from nI_le (a := 4) (by omega) (by omega))]
    rfl
  | succ k ih =>
    intro fu i p op x V h1 h2 hp h
    obtain ⟨fu, rfl⟩ : ∃ f', fu = f' + 1 := ⟨fu - 1, by omega⟩
    show ∃ V', fX8_number_L1b _ V x (nI i) = _ ∧ _
    unfold fX8_number_L1b sNum
    simp only [gpu_eq, glt_eq]
    rw [if_neg (show ¬ 4 ≤ nI i from nI_ge (b := 4) (by omega) (by decide)), h.2.1, m_byte hE h.1 (by omega), gbi_some, m_isDigit, gbi_some]
    by_cases hd : 48 ≤ pby bs len p ∧ pby bs len p ≤ 57
    · have hplt := dig_lt hd
      rw [if_pos hd, if_pos hd, g10, h.2.1, m_byte hE h.1 (by omega), gbi_some, h.2.1, nI_1 i]
      exact ih fu (i + 1) (p + 1) op _ _ (by omega) (by omega) (by omega) h.step
    · rw [if_neg hd, if_neg hd, g00]
      exact ⟨V, rfl, h⟩
theorem m_named_p {V : gV} {p op : Nat} {B : Int32} (hE : ME V0 bs len u nm) (h : MS V0 V p op) : ∃ v V', fX8_named_ V B = some (v, V') ∧ mPost V0 op (if nm 0 = B then (true, p + 1, [-1]) else if nm 1 = B then (true, p + 1, [-2]) else if nm 2 = B then (true, p + 1, [-3]) else (false, p, [])) V' v := by
  obtain ⟨e7, -, hu, -, -, n0, n1, n2⟩ := hE
  have h7 : V 0 7 = nI u := (h.1 0 7 (by omega)).trans e7
  have h11 : V 0 11 = V0 0 11 := h.1 0 11 (by omega)
  have h12 : V 0 12 = V0 0 12 := h.1 0 12 (by omega)
  have h13 : V 0 13 = V0 0 13 := h.1 0 13 (by omega)
  have g8 : ∀ (v : Int32) (j : Nat), j ≠ 8 → gup V 0 8 v 0 j = V 0 j := fun v j hj => gup_ne _ _ (by omega)
  have huc : u = 0 ∨ u = 1 := by omega
  unfold fX8_named_
  rw [n0, n1, n2]
  rcases huc with rfl | rfl
  · rw [if_pos rfl, if_pos rfl, if_pos rfl]
    by_cases q0 : (109 : Int32) = B
    · have q1 : ¬ (107 : Int32) = B := fun w => absurd (q0.trans w.symm) (by decide)
      have q2 : ¬ (110 : Int32) = B := fun w => absurd (q0.trans w.symm) (by decide)
      rw [if_pos q0]
      rw [gjn_eq, h7, if_pos (show nI 0 = 0 from rfl)]
      dsimp only
      rw [gjn_eq, if_pos q0.symm]
      dsimp only
      rw [gjn_eq, if_pos (show nI 0 = 0 from rfl)]
      dsimp only
      rw [gjn_eq, if_neg (fun w => q1 w.symm)]
      dsimp only
      rw [gjn_eq, if_pos (show nI 0 = 0 from rfl)]
      dsimp only
      rw [gjn_eq, if_neg (fun w => q2 w.symm)]
      dsimp only
      rw [gjn_eq]
      rw [if_neg (show ¬ (1 : Int32) = 0 by decide), gpu_eq, if_neg (show ¬ (1 : Int32) = 0 by decide), g8 _ 11 (by decide), h11, h.2.1]
      exact ⟨_, _, rfl, mP_t h.step val_1⟩
    · rw [if_neg q0]
      by_cases q1 : (107 : Int32) = B
      · have q2 : ¬ (110 : Int32) = B := fun w => absurd (q1.trans w.symm) (by decide)
        rw [if_pos q1]
        rw [gjn_eq, h7, if_pos (show nI 0 = 0 from rfl)]
        dsimp only
        rw [gjn_eq, if_neg (fun w => q0 w.symm)]
        dsimp only
        rw [gjn_eq, if_pos (show nI 0 = 0 from rfl)]
        dsimp only
        rw [gjn_eq, if_pos q1.symm]
        dsimp only
        rw [gjn_eq, if_pos (show nI 0 = 0 from rfl)]
        dsimp only
        rw [gjn_eq, if_neg (fun w => q2 w.symm)]
        dsimp only
        rw [gjn_eq]
        rw [if_pos rfl, if_neg (show ¬ (1 : Int32) = 0 by decide), gpu_eq, if_pos rfl, if_neg (show ¬ (1 : Int32) = 0 by decide), g8 _ 12 (by decide), h12, h.2.1]
        exact ⟨_, _, rfl, mP_t h.step val_2⟩
      · rw [if_neg q1]
        by_cases q2 : (110 : Int32) = B
        · rw [if_pos q2]
          rw [gjn_eq, h7, if_pos (show nI 0 = 0 from rfl)]
          dsimp only
          rw [gjn_eq, if_neg (fun w => q0 w.symm)]
          dsimp only
          rw [gjn_eq, if_pos (show nI 0 = 0 from rfl)]
          dsimp only
          rw [gjn_eq, if_neg (fun w => q1 w.symm)]
          dsimp only
          rw [gjn_eq, if_pos (show nI 0 = 0 from rfl)]
          dsimp only
          rw [gjn_eq, if_pos q2.symm]
          dsimp only
          rw [gjn_eq]
          rw [if_pos rfl, if_pos rfl, if_neg (show ¬ (1 : Int32) = 0 by decide), gpu_eq, if_pos rfl, if_pos rfl, g8 _ 13 (by decide), h13, h.2.1]
          exact ⟨_, _, rfl, mP_t h.step val_3⟩
        · rw [if_neg q2]
          rw [gjn_eq, h7, if_pos (show nI 0 = 0 from rfl)]
          dsimp only
          rw [gjn_eq, if_neg (fun w => q0 w.symm)]
          dsimp only
          rw [gjn_eq, if_pos (show nI 0 = 0 from rfl)]
          dsimp only
          rw [gjn_eq, if_neg (fun w => q1 w.symm)]
          dsimp only
          rw [gjn_eq, if_pos (show nI 0 = 0 from rfl)]
          dsimp only
          rw [gjn_eq, if_neg (fun w => q2 w.symm)]
          dsimp only
          rw [gjn_eq]
          rw [if_pos rfl, if_pos rfl, if_pos rfl, m_fails]
          exact ⟨_, _, rfl, mP_f h.fails⟩
  · rw [if_neg (show ¬ (1 = 0) by decide), if_neg (show ¬ (1 = 0) by decide), if_neg (show ¬ (1 = 0) by decide)]
    by_cases q0 : (119 : Int32) = B
    · have q1 : ¬ (109 : Int32) = B := fun w => absurd (q0.trans w.symm) (by decide)
      have q2 : ¬ (100 : Int32) = B := fun w => absurd (q0.trans w.symm) (by decide)
      rw [if_pos q0]
      rw [gjn_eq, h7, if_neg (show ¬ nI 1 = 0 by decide)]
      dsimp only
      rw [gjn_eq, if_pos q0.symm]
      dsimp only
      rw [gjn_eq, if_neg (show ¬ nI 1 = 0 by decide)]
      dsimp only
      rw [gjn_eq, if_neg (fun w => q1 w.symm)]
      dsimp only
      rw [gjn_eq, if_neg (show ¬ nI 1 = 0 by decide)]
      dsimp only
      rw [gjn_eq, if_neg (fun w => q2 w.symm)]
      dsimp only
      rw [gjn_eq]
      rw [if_neg (show ¬ (1 : Int32) = 0 by decide), gpu_eq, if_neg (show ¬ (1 : Int32) = 0 by decide), g8 _ 11 (by decide), h11, h.2.1]
      exact ⟨_, _, rfl, mP_t h.step val_1⟩
    · rw [if_neg q0]
      by_cases q1 : (109 : Int32) = B
      · have q2 : ¬ (100 : Int32) = B := fun w => absurd (q1.trans w.symm) (by decide)
        rw [if_pos q1]
        rw [gjn_eq, h7, if_neg (show ¬ nI 1 = 0 by decide)]
        dsimp only
        rw [gjn_eq, if_neg (fun w => q0 w.symm)]
        dsimp only
        rw [gjn_eq, if_neg (show ¬ nI 1 = 0 by decide)]
        dsimp only
        rw [gjn_eq, if_pos q1.symm]
        dsimp only
        rw [gjn_eq, if_neg (show ¬ nI 1 = 0 by decide)]
        dsimp only
        rw [gjn_eq, if_neg (fun w => q2 w.symm)]
        dsimp only
        rw [gjn_eq]
        rw [if_pos rfl, if_neg (show ¬ (1 : Int32) = 0 by decide), gpu_eq, if_pos rfl, if_neg (show ¬ (1 : Int32) = 0 by decide), g8 _ 12 (by decide), h12, h.2.1]
        exact ⟨_, _, rfl, mP_t h.step val_2⟩
      · rw [if_neg q1]
        by_cases q2 : (100 : Int32) = B
        · rw [if_pos q2]
          rw [gjn_eq, h7, if_neg (show ¬ nI 1 = 0 by decide)]
          dsimp only
          rw [gjn_eq, if_neg (fun w => q0 w.symm)]
          dsimp only
          rw [gjn_eq, if_neg (show ¬ nI 1 = 0 by decide)]
          dsimp only
          rw [gjn_eq, if_neg (fun w => q1 w.symm)]
          dsimp only
          rw [gjn_eq, if_neg (show ¬ nI 1 = 0 by decide)]
          dsimp only
          rw [gjn_eq, if_pos q2.symm]
          dsimp only
          rw [gjn_eq]
          rw [if_pos rfl, if_pos rfl, if_neg (show ¬ (1 : Int32) = 0 by decide), gpu_eq, if_pos rfl, if_pos rfl, g8 _ 13 (by decide), h13, h.2.1]
          exact ⟨_, _, rfl, mP_t h.step val_3⟩
        · rw [if_neg q2]
          rw [gjn_eq, h7, if_neg (show ¬ nI 1 = 0 by decide)]
          dsimp only
          rw [gjn_eq, if_neg (fun w => q0 w.symm)]
          dsimp only
          rw [gjn_eq, if_neg (show ¬ nI 1 = 0 by decide)]
          dsimp only
          rw [gjn_eq, if_neg (fun w => q1 w.symm)]
          dsimp only
          rw [gjn_eq, if_neg (show ¬ nI 1 = 0 by decide)]
          dsimp only
          rw [gjn_eq, if_neg (fun w => q2 w.symm)]
          dsimp only
          rw [gjn_eq]
          rw [if_pos rfl, if_pos rfl, if_pos rfl, m_fails]
          exact ⟨_, _, rfl, mP_f h.fails⟩
theorem m_par (hE : ME V0 bs len u nm) : ∀ (d rk op p : Nat) (V : gV), rk ≤ 5 → op ≤ 5 → 6 - rk + 6 * (5 - op) ≤ d → p ≤ len → MS V0 V p op → ∃ v V', fpaX8 d (5 - rk) V = some (v, V') ∧ mPost V0 op (sPar bs len nm d rk op p) V' v := by
  have h50 := hE.2.2.2.1
  have hnm := hE.nm1
  intro d
  induction d with
  | zero =>
    intro rk op p V h1 h2 h3
    exact absurd h3 (by omega)
  | succ d ih =>
    intro rk op p V h1 h2 h3 hp h
    have hpB : ∀ rk' op' p', p' ≤ len → pB len p' (sPar bs len nm d rk' op' p') := fun rk' op' p' hp' => sPar_B hnm d rk' op' p' hp'
    by_cases hrk : rk ≤ 4
    · obtain ⟨x, V1, e1, q1⟩ := ih (rk + 1) op p V (by omega) h2 (by omega) hp h
      obtain ⟨b1, b2, b3⟩ := hpB (rk + 1) op p hp
      have hf : ∀ (p : Nat) (V : gV), p ≤ len → MS V0 V p op → ∃ v V', fpaX8 d (5 - (rk + 1)) V = some (v, V') ∧ mPost V0 op (sPar bs len nm d (rk + 1) op p) V' v := fun p V w1 w2 => ih (rk + 1) op p V (by omega) h2 (by omega) w1 w2
      unfold sPar
      rw [if_pos hrk]
      have hc : rk = 0 ∨ rk = 1 ∨ rk = 2 ∨ rk = 3 ∨ rk = 4 := by omega
      rcases hc with rfl | rfl | rfl | rfl | rfl
      · show ∃ v V', fX8_whole_B (fpaX8 d) V = _ ∧ _
        unfold fX8_whole_B
        rw [show fpaX8 d 4 V = _ from e1, gbi_some]
        by_cases ho : (sPar bs len nm d (0 + 1) op p).1 = true
        · unfold mPost at q1
          rw [if_pos ho] at q1
          rw [if_pos ho, if_neg (show ¬ (0 = 2) by decide)]
          exact m_whole_L hE (fun p' hp' => hpB _ _ p' hp') hf 50 gFu _ _ x V1 (by omega) (by unfold gFu; omega) b2 q1.1 q1.2
        · unfold mPost at q1
          rw [if_neg ho] at q1
          rw [if_neg ho]
          refine ⟨x, V1, ?_, mP_f q1⟩
          show fX8_whole_L1b _ _ V1 x = _
          unfold fX8_whole_L1b
          rw [q1.2.2, if_pos rfl]
      · show ∃ v V', fX8_both_B (fpaX8 d) V = _ ∧ _
        unfold fX8_both_B
        rw [show fpaX8 d 3 V = _ from e1, gbi_some]
        by_cases ho : (sPar bs len nm d (1 + 1) op p).1 = true
        · unfold mPost at q1
          rw [if_pos ho] at q1
          rw [if_pos ho, if_neg (show ¬ (1 = 2) by decide)]
          exact m_both_L hE (fun p' hp' => hpB _ _ p' hp') hf 50 gFu _ _ x V1 (by omega) (by unfold gFu; omega) b2 q1.1 q1.2
        · unfold mPost at q1
          rw [if_neg ho] at q1
          rw [if_neg ho]
          refine ⟨x, V1, ?_, mP_f q1⟩
          show fX8_both_L1b _ _ V1 x = _
          unfold fX8_both_L1b
          rw [q1.2.2, if_pos rfl]
      · show ∃ v V', fX8_compared_B (fpaX8 d) V = _ ∧ _
        unfold fX8_compared_B
        rw [show fpaX8 d 2 V = _ from e1, gbi_some]
        simp only [gjn_eq, gpu_eq]
        by_cases ho : (sPar bs len nm d (2 + 1) op p).1 = true
        · unfold mPost at q1
          rw [if_pos ho] at q1
          obtain ⟨h', hv⟩ := q1
          generalize hp1 : (sPar bs len nm d (2 + 1) op p).2.1 = p1 at *
          generalize (sPar bs len nm d (2 + 1) op p).2.2 = l1 at *
          rw [if_pos ho, show (if True then (1 : Nat) else 50) = 1 from rfl, h'.2.2.2, if_neg (show ¬ (1 : Int32) = 0 by decide), h'.2.1]
          show ∃ v V', _ ∧ mPost V0 op (if rkB (pby bs len p1) = nI 2 then (if (sPar bs len nm d (2 + 1) op (p1 + 1)).1 = true then (true, (sPar bs len nm d (2 + 1) op (p1 + 1)).2.1, (l1 ++ ((sPar bs len nm d (2 + 1) op (p1 + 1)).2.2 ++ [-(pby bs len p1)]))) else (false, (sPar bs len nm d (2 + 1) op (p1 + 1)).2.1, [])) else (true, p1, l1)) V' v
          have hB' := m_byte (V := V1) hE h'.1 (show p1 ≤ 50 by omega)
          by_cases hq : rkB (pby bs len p1) = nI 2
          · have hplt := rk_lt (by decide) hq
            obtain ⟨w, V2, e2, q2⟩ := hf (p1 + 1) _ (by omega) h'.step
            rw [if_pos hq]
            have done : ∀ (y : Int32), ((sPar bs len nm d (2 + 1) op (p1 + 1)).1 = true → jnd (pby bs len p1) x w = y) → ∃ v V', some (y, V2) = some (v, V') ∧ mPost V0 op (if (sPar bs len nm d (2 + 1) op (p1 + 1)).1 = true then (true, (sPar bs len nm d (2 + 1) op (p1 + 1)).2.1, (l1 ++ ((sPar bs len nm d (2 + 1) op (p1 + 1)).2.2 ++ [-(pby bs len p1)]))) else (false, (sPar bs len nm d (2 + 1) op (p1 + 1)).2.1, [])) V' v := fun y ey => by
              by_cases ho2 : (sPar bs len nm d (2 + 1) op (p1 + 1)).1 = true
              · unfold mPost at q2
                rw [if_pos ho2] at q2
                rw [if_pos ho2]
                refine ⟨y, V2, rfl, mP_t q2.1 ?_⟩
                rw [← ey ho2]
                refine val_bin hv q2.2 ?_ ?_
                · rcases rk_2.mp hq with e | e | e <;> (rw [e]; decide)
                · rcases rk_2.mp hq with e | e | e <;> (rw [e]; decide)
              · unfold mPost at q2
                rw [if_neg ho2] at q2
                rw [if_neg ho2]
                exact ⟨y, V2, rfl, mP_f q2⟩
            have e2' : fpaX8 d 2 (gup V1 0 8 (nI p1 + 1)) = some (w, V2) := e2
            rcases rk_2.mp hq with e | e | e
            · rw [e] at hB' done ⊢
              rw [hB', gbi_some, if_pos rfl, h'.2.1, e2', gbi_some, if_pos rfl]
              have ej : jnd 60 x w = if w ≤ x then 0 else 1 := rfl
              by_cases hc : w ≤ x
              · rw [if_pos hc]
                simp only [if_true]
                exact done _ (fun _ => by rw [ej, if_pos hc])
              · rw [if_neg hc, if_neg (show ¬ (1 : Int32) = 0 by decide)]
                exact done _ (fun _ => by rw [ej, if_neg hc])
            · rw [e] at hB' done ⊢
              rw [hB', gbi_some, if_neg (by decide), if_pos rfl, h'.2.1, e2', gbi_some, if_neg (by decide), if_pos rfl]
              have ej : jnd 61 x w = if x = w then 1 else 0 := rfl
              by_cases hc : x = w
              · rw [if_pos hc, if_neg (show ¬ (1 : Int32) = 0 by decide)]
                exact done _ (fun _ => by rw [ej, if_pos hc])
              · rw [if_neg hc]
                simp only [if_true]
                exact done _ (fun _ => by rw [ej, if_neg hc])
            · rw [e] at hB' done ⊢
              rw [hB', gbi_some, if_neg (by decide), if_neg (by decide), if_pos rfl, h'.2.1, e2', gbi_some, if_neg (by decide), if_neg (by decide)]
              have ej : jnd 62 x w = if x ≤ w then 0 else 1 := rfl
              by_cases hc : x ≤ w
              · rw [if_pos hc]
                simp only [if_true]
                exact done _ (fun _ => by rw [ej, if_pos hc])
              · rw [if_neg hc, if_neg (show ¬ (1 : Int32) = 0 by decide)]
                exact done _ (fun _ => by rw [ej, if_neg hc])
          · have hn : ¬ (pby bs len p1 = 60 ∨ pby bs len p1 = 61 ∨ pby bs len p1 = 62) := fun q => hq (rk_2.mpr q)
            rw [if_neg hq, hB', gbi_some, if_neg (fun q => hn (Or.inl q)), if_neg (fun q => hn (Or.inr (Or.inl q))), if_neg (fun q => hn (Or.inr (Or.inr q)))]
            exact ⟨x, V1, rfl, mP_t h' hv⟩
        · unfold mPost at q1
          rw [if_neg ho] at q1
          rw [if_neg ho, q1.2.2]
          simp only [if_true]
          rw [if_neg (show ¬ (-1 : Int32) = 60 by decide), if_neg (show ¬ (-1 : Int32) = 61 by decide), if_neg (show ¬ (-1 : Int32) = 62 by decide)]
          exact ⟨x, V1, rfl, mP_f q1⟩
      · show ∃ v V', fX8_sum_B (fpaX8 d) V = _ ∧ _
        unfold fX8_sum_B
        rw [show fpaX8 d 1 V = _ from e1, gbi_some]
        by_cases ho : (sPar bs len nm d (3 + 1) op p).1 = true
        · unfold mPost at q1
          rw [if_pos ho] at q1
          rw [if_pos ho, if_neg (show ¬ (3 = 2) by decide)]
          exact m_sum_Lp hE (fun p' hp' => hpB _ _ p' hp') hf 50 gFu _ _ x V1 (by omega) (by unfold gFu; omega) b2 q1.1 q1.2
        · unfold mPost at q1
          rw [if_neg ho] at q1
          rw [if_neg ho]
          refine ⟨x, V1, ?_, mP_f q1⟩
          show fX8_sum_L1b _ _ V1 x = _
          unfold fX8_sum_L1b
          rw [q1.2.2, if_pos rfl]
      · show ∃ v V', fX8_product_B (fpaX8 d) V = _ ∧ _
        unfold fX8_product_B
        rw [show fpaX8 d 0 V = _ from e1, gbi_some]
        by_cases ho : (sPar bs len nm d (4 + 1) op p).1 = true
        · unfold mPost at q1
          rw [if_pos ho] at q1
          rw [if_pos ho, if_neg (show ¬ (4 = 2) by decide)]
          exact m_prod_L hE (fun p' hp' => hpB _ _ p' hp') hf 50 gFu _ _ x V1 (by omega) (by unfold gFu; omega) b2 q1.1 q1.2
        · unfold mPost at q1
          rw [if_neg ho] at q1
          rw [if_neg ho]
          refine ⟨x, V1, ?_, mP_f q1⟩
          show fX8_product_L1b _ _ V1 x = _
          unfold fX8_product_L1b
          rw [q1.2.2, if_pos rfl]
    · obtain rfl : rk = 5 := by omega
      show ∃ v V', fX8_factor_B (fpaX8 d) V = _ ∧ _
      unfold fX8_factor_B sPar
      simp only [gpu_eq]
      rw [if_neg hrk, h.2.1, m_byte hE h.1 (by omega), gbi_some, m_isDigit, gbi_some]
      by_cases hd : 48 ≤ pby bs len p ∧ pby bs len p ≤ 57
      · obtain ⟨p', w', e, q1, q2, q3⟩ := sNum_4 hd
        obtain ⟨V1, e1, r1⟩ := m_num_L hE 4 gFu 0 p op 0 V (by omega) (by unfold gFu; omega) hp h
        rw [if_pos hd, if_pos hd, g10, show fX8_number V = _ from e1, gbi_some]
        rw [e] at r1 ⊢
        exact ⟨_, _, rfl, mP_t r1 (val_num (by omega))⟩
      · rw [if_neg hd, if_neg hd, g00, gjn_eq]
        have hsm : MS V0 (gup (gup V 0 10 (nI op + 1)) 0 8 (nI p + 1)) (p + 1) (op + 1) := ⟨fun c j q => by rw [gup_ne _ _ (by omega), gup_ne _ _ (by omega)]; exact h.1 c j q, by rw [gup_at, nI_1], by rw [gup_ne _ _ (by omega), gup_at, nI_1], by rw [gup_ne _ _ (by omega), gup_ne _ _ (by omega)]; exact h.2.2.2⟩
        have e8 : gup V 0 10 (nI op + 1) 0 8 = nI p := (gup_ne _ _ (by omega)).trans h.2.1
        have back : ∀ {V' : gV} {q : Nat}, MS V0 V' q (op + 1) → MS V0 (gup V' 0 10 (V' 0 10 - 1)) q op := fun {V' q} w => ⟨fun c j z => (gup_ne _ _ (by omega)).trans (w.1 c j z), (gup_ne _ _ (by omega)).trans w.2.1, by rw [gup_at, w.2.2.1, pI_sub1], (gup_ne _ _ (by omega)).trans w.2.2.2⟩
        have backF : ∀ {V' : gV} {q : Nat} {z : Int32}, MF V0 V' q → MF V0 (gup V' 0 10 z) q := fun {V' q z} w => ⟨fun c j z => (gup_ne _ _ (by omega)).trans (w.1 c j z), (gup_ne _ _ (by omega)).trans w.2.1, (gup_ne _ _ (by omega)).trans w.2.2⟩
        by_cases h33 : pby bs len p = 33
        · have hplt : p < len := pby_lt (by rw [h33]; decide)
          rw [h33, if_pos rfl, if_pos rfl, h.2.2.1]
          by_cases ho5 : op = 5
          · subst ho5
            rw [if_pos (show nI 5 = 5 from rfl), if_pos rfl, m_fails]
            exact ⟨_, _, rfl, mP_f h.fails⟩
          · obtain ⟨x, V1, e1, q1⟩ := ih 5 (op + 1) (p + 1) _ (by omega) (by omega) (by omega) (by omega) hsm
            rw [if_neg (show ¬ nI op = 5 from fun q => ho5 (pI_inj (b := 5) (by omega) (by decide) q)), if_neg ho5, gjn_eq, if_pos rfl, e8, show fpaX8 d 0 (gup (gup V 0 10 (nI op + 1)) 0 8 (nI p + 1)) = _ from e1, gbi_some]
            simp only [if_true]
            by_cases ho : (sPar bs len nm d 5 (op + 1) (p + 1)).1 = true
            · unfold mPost at q1
              rw [if_pos ho] at q1
              rw [if_pos ho]
              have vn := val_not q1.2
              by_cases hx : x = 0
              · rw [if_pos hx] at vn ⊢
                exact ⟨_, _, rfl, mP_t (back q1.1) vn⟩
              · rw [if_neg hx] at vn ⊢
                exact ⟨_, _, rfl, mP_t (back q1.1) vn⟩
            · unfold mPost at q1
              rw [if_neg ho] at q1
              rw [if_neg ho]
              by_cases hx : x = 0
              · rw [if_pos hx]
                exact ⟨_, _, rfl, mP_f (backF q1)⟩
              · rw [if_neg hx]
                exact ⟨_, _, rfl, mP_f (backF q1)⟩
        · rw [if_neg h33, if_neg h33]
          by_cases h40 : pby bs len p = 40
          · have hplt : p < len := pby_lt (by rw [h40]; decide)
            rw [h40, if_pos rfl, if_pos rfl, h.2.2.1]
            by_cases ho5 : op = 5
            · subst ho5
              rw [if_pos (show nI 5 = 5 from rfl), if_pos rfl, m_fails]
              exact ⟨_, _, rfl, mP_f h.fails⟩
            · obtain ⟨x, V1, e1, q1⟩ := ih 0 (op + 1) (p + 1) _ (by omega) (by omega) (by omega) (by omega) hsm
              obtain ⟨b1, b2, b3⟩ := hpB 0 (op + 1) (p + 1) (by omega)
              rw [if_neg (show ¬ nI op = 5 from fun q => ho5 (pI_inj (b := 5) (by omega) (by decide) q)), if_neg ho5, gjn_eq, if_neg (show ¬ (40 : Int32) = 33 by decide), e8, show fpaX8 d 5 (gup (gup V 0 10 (nI op + 1)) 0 8 (nI p + 1)) = _ from e1, gbi_some]
              dsimp only
              rw [if_neg (show ¬ (40 : Int32) = 33 by decide)]
              by_cases ho : (sPar bs len nm d 0 (op + 1) (p + 1)).1 = true
              · unfold mPost at q1
                rw [if_pos ho] at q1
                have hb := back q1.1
                rw [if_pos ho, hb.2.2.2, if_neg (show ¬ (1 : Int32) = 0 by decide), hb.2.1, m_byte hE hb.1 (by omega), gbi_some]
                by_cases h41 : pby bs len (sPar bs len nm d 0 (op + 1) (p + 1)).2.1 = 41
                · rw [if_pos h41, if_pos h41, hb.2.1]
                  exact ⟨_, _, rfl, mP_t hb.step q1.2⟩
                · rw [if_neg h41, if_neg h41, m_fails]
                  exact ⟨_, _, rfl, mP_f hb.fails⟩
              · unfold mPost at q1
                rw [if_neg ho] at q1
                have hb : MF V0 (gup V1 0 10 (V1 0 10 - 1)) (sPar bs len nm d 0 (op + 1) (p + 1)).2.1 := backF q1
                rw [if_neg ho, hb.2.2, if_pos rfl, m_fails]
                exact ⟨_, _, rfl, mP_f hb.fails⟩
          · obtain ⟨v, V1, e1, q1⟩ := m_named_p (B := pby bs len p) hE h
            rw [if_neg h40, if_neg h40, e1, gbi_some]
            exact ⟨v, V1, rfl, q1⟩
end MW

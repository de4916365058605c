/-! ===== PURE: move, worns, judge ===== -/
def hpP (sz : Nat) (a n : Int32) : Prop := ∃ a' n', a = nI a' ∧ n = nI n' ∧ a' + n' ≤ sz
theorem hp_1 {sz : Nat} (hs : sz ≤ 40) {a n : Int32} (hn : ¬ n < 0) (ha : ¬ a < 0) : ¬ (nI sz - a < n) ↔ hpP sz a n := by
  obtain ⟨n, hn', rfl⟩ := nI_of hn
  obtain ⟨a, ha', rfl⟩ := nI_of ha
  have e : (nI sz - nI a).toInt = (sz : Int) - a := by
    rw [Int32.toInt_sub, nI_toInt (by omega), nI_toInt ha']
    apply Int.bmod_eq_of_le <;> omega
  rw [Int32.lt_iff_toInt_lt, e, nI_toInt hn']
  constructor
  · intro h
    exact ⟨a, n, rfl, rfl, by omega⟩
  · rintro ⟨a', n', h1, h2, h3⟩
    have h1 := congrArg Int32.toInt h1
    have h2 := congrArg Int32.toInt h2
    rw [nI_toInt ha', nI_toInt (by omega)] at h1
    rw [nI_toInt hn', nI_toInt (by omega)] at h2
    omega
theorem hp_0 {sz : Nat} {a n : Int32} (hs : sz ≤ 40) (h : hpP sz a n) : ¬ n < 0 ∧ ¬ a < 0 := by
  obtain ⟨a', n', rfl, rfl, h3⟩ := h
  exact ⟨nI_pos (by omega), nI_pos (by omega)⟩
theorem hp_2 {sz : Nat} (hs : sz ≤ 40) {a n : Int32} (hn : ¬ n < 0) (ha : ¬ a < 0) : ¬ (nI sz - n < a) ↔ hpP sz a n := by
  rw [hp_1 hs ha hn]
  exact ⟨fun ⟨a', n', h1, h2, h3⟩ => ⟨n', a', h2, h1, by omega⟩, fun ⟨a', n', h1, h2, h3⟩ => ⟨n', a', h2, h1, by omega⟩⟩
theorem x_hasPart {V : gV} {c sz : Nat} {a n : Int32} (hs : sz ≤ 40) (h : V c 2 = nI sz) : (hpP sz a n → fX3_hasPart V c a n = some (1, V)) ∧ (¬ hpP sz a n → fX3_hasPart V c a n = some (0, V)) := by
  unfold fX3_hasPart
  rw [h]
  constructor
  · intro q
    obtain ⟨q1, q2⟩ := hp_0 hs q
    rw [if_neg q1, if_neg q2, if_neg ((hp_1 hs q1 q2).mpr q)]
  · intro q
    by_cases q1 : n < 0
    · rw [if_pos q1]
    · rw [if_neg q1]
      by_cases q2 : a < 0
      · rw [if_pos q2]
      · rw [if_neg q2, if_pos (Classical.not_not.mp (fun z => q ((hp_1 hs q1 q2).mp z)))]
theorem m_move2_L {o j n : Nat} (ho : o < 4) (hjn : j + n ≤ 40) : ∀ (m f k : Nat) (V : gV), k + m = n → m < f → ∃ V', fX8_move_L2 (nI o) (nI j) (nI n) f V (nI k) = some (nI n, V') ∧ (∀ x, k ≤ x → x < n → V' 8 (40 * o + j + x) = V 9 x) ∧ (∀ x, ¬ (40 * o + j + k ≤ x ∧ x < 40 * o + j + n) → V' 8 x = V 8 x) ∧ ∀ c, c ≠ 8 → V' c = V c := by
  intro m
  induction m with
  | zero =>
    intro f k V h1 h2
    obtain ⟨f, rfl⟩ : ∃ f', f = f' + 1 := ⟨f - 1, by omega⟩
    refine ⟨V, ?_, fun x _ _ => absurd h1 (by omega), fun _ _ => rfl, fun _ _ => rfl⟩
    show fX8_move_L2b _ _ _ _ V (nI k) = _
    unfold fX8_move_L2b
    rw [if_pos (nI_le (by omega) (by omega))]
  | succ m ih =>
    intro f k V h1 h2
    obtain ⟨f, rfl⟩ : ∃ f', f = f' + 1 := ⟨f - 1, by omega⟩
    show ∃ V', fX8_move_L2b _ _ _ _ V (nI k) = _ ∧ _
    unfold fX8_move_L2b
    rw [if_neg (nI_ge (by omega) (by omega)), gal_at k rfl (by omega) (by decide), gas_at (40 * o + j + k) (show ((40 : Int32) * nI o + nI j + nI k) = nI (40 * o + j + k) by rw [show (40 : Int32) = nI 40 from rfl, pk_mul, nI_add, nI_add]) (by omega) (by decide), nI_1]
    obtain ⟨V', r1, r2, r3, r4⟩ := ih f (k + 1) (gup V 8 (40 * o + j + k) (V 9 k)) (by omega) (by omega)
    refine ⟨V', r1, fun x hx1 hx2 => ?_, fun x hx => ?_, fun c hc => ?_⟩
    · by_cases hxk : x = k
      · subst hxk; rw [r3 _ (by omega), gup_at]
      · rw [r2 x (by omega) hx2, gup_row _ _ _ (by omega)]
    · rw [r3 _ (by omega), gup_ne _ _ (by omega)]
    · rw [r4 c hc, gup_row _ _ _ hc]
theorem m_move1_L {s a o j n : Nat} (hs : s < 4) (han : a + n ≤ 40) (ho : o < 4) (hjn : j + n ≤ 40) : ∀ (m f k : Nat) (V : gV), k + m = n → m < f → ∃ V1, fX8_move_L1 (nI s) (nI a) (nI o) (nI j) (nI n) f V (nI k) = fX8_move_L2 (nI o) (nI j) (nI n) gFu V1 0 ∧ (∀ x, k ≤ x → x < n → V1 9 x = V 8 (40 * s + a + x)) ∧ (∀ x, ¬ (k ≤ x ∧ x < n) → V1 9 x = V 9 x) ∧ ∀ c, c ≠ 9 → V1 c = V c := by
  intro m
  induction m with
  | zero =>
    intro f k V h1 h2
    obtain ⟨f, rfl⟩ : ∃ f', f = f' + 1 := ⟨f - 1, by omega⟩
    refine ⟨V, ?_, fun x _ _ => absurd h1 (by omega), fun _ _ => rfl, fun _ _ => rfl⟩
    show fX8_move_L1b _ _ _ _ _ _ V (nI k) = _
    unfold fX8_move_L1b
    rw [if_pos (nI_le (by omega) (by omega))]
  | succ m ih =>
    intro f k V h1 h2
    obtain ⟨f, rfl⟩ : ∃ f', f = f' + 1 := ⟨f - 1, by omega⟩
    show ∃ V1, fX8_move_L1b _ _ _ _ _ _ V (nI k) = _ ∧ _
    unfold fX8_move_L1b
    rw [if_neg (nI_ge (by omega) (by omega)), gal_at (40 * s + a + k) (show ((40 : Int32) * nI s + nI a + nI k) = nI (40 * s + a + k) by rw [show (40 : Int32) = nI 40 from rfl, pk_mul, nI_add, nI_add]) (by omega) (by decide), gas_at k rfl (by omega) (by decide), nI_1]
    obtain ⟨V', r1, r2, r3, r4⟩ := ih f (k + 1) (gup V 9 k (V 8 (40 * s + a + k))) (by omega) (by omega)
    refine ⟨V', r1, fun x hx1 hx2 => ?_, fun x hx => ?_, fun c hc => ?_⟩
    · by_cases hxk : x = k
      · subst hxk; rw [r3 _ (by omega), gup_at]
      · rw [r2 x (by omega) hx2, gup_row _ _ _ (by omega)]
    · rw [r3 _ (by omega), gup_ne _ _ (by omega)]
    · rw [r4 c hc, gup_row _ _ _ hc]
theorem x_copyPart {V : gV} {cf ct a j n n0 n1 : Nat} (h0 : n0 < 2 ^ 30) (h1 : n1 < 2 ^ 30) (ha : a + n ≤ n0) (hj : j + n ≤ n1) : fX7_copyPart V cf n0 (nI a) ct n1 (nI j) (nI n) = some (gcV V cf a ct j n) := by
  unfold fX7_copyPart
  have e0 : Int32.ofNat n0 - nI a = nI (n0 - a) := pk_sub (a := n0) (by omega)
  have e1 : Int32.ofNat n1 - nI j = nI (n1 - j) := pk_sub (a := n1) (by omega)
  rw [if_neg (nI_pos (by omega)), if_neg (nI_pos (by omega)), if_neg (nI_pos (by omega)), e0, if_neg (nI_nlt (by omega) (by omega)), e1, if_neg (nI_nlt (by omega) (by omega))]
  unfold gcp
  rw [nI_clamp (by omega), nI_clamp (by omega), nI_clamp (by omega), if_neg]
  rintro (h | h | h | h | h)
  · exact nI_pos (by omega) h
  · exact nI_pos (by omega) h
  · exact nI_pos (by omega) h
  · omega
  · omega
theorem pr_move {i : Nat} {VX VM : gV} {L : lW} {nh nc : Nat} (hR : RW i VX VM L nh nc) (a b c d e : Int32) : gEq (Rel0 (i + 6)) (fX7_move VX a b c d e) (fX8_move VM a b c d e) := by
  unfold fX7_move fX8_move
  simp only [d_isSheet, dm_isSheet]
  by_cases ha : 0 ≤ a ∧ a ≤ 3
  · obtain ⟨s, hs, rfl⟩ := rngc (n := 3) (by decide) ha
    simp only [if_pos ha, g10]
    by_cases hc : 0 ≤ c ∧ c ≤ 3
    · obtain ⟨o, ho, rfl⟩ := rngc (n := 3) (by decide) hc
      obtain ⟨⟨b1, h1, h2, h3⟩, ⟨n1, h4, h5, h6⟩, h7⟩ := hR.2.2.2.1 s (by omega)
      obtain ⟨⟨b2, g1, g2, g3⟩, ⟨n2, g4, g5, g6⟩, g7⟩ := hR.2.2.2.1 o (by omega)
      simp only [if_pos hc, g10, x_sheetAt (show s < 4 by omega), x_sheetAt (show o < 4 by omega), gbr_some]
      unfold fX3_isMissing
      have e6 : ∀ (t : Nat), t < 4 → ∀ {β : Type} (f : Int32 → Option β), gal VM (0 + 6) (nI t) 4 f = f (VM 6 t) := fun t ht _ f => gal_at t rfl ht (by decide) f
      have e7 : ∀ (t : Nat), t < 4 → ∀ {β : Type} (f : Int32 → Option β), gal VM (0 + 7) (nI t) 4 f = f (VM 7 t) := fun t ht _ f => gal_at t rfl ht (by decide) f
      simp only [e6 s (by omega), e6 o (by omega), e7 s (by omega), e7 o (by omega), h3, h2, g2, g3, h5, h6, g5, g6]
      by_cases hb : (nI b1 : Int32) = 0
      · simp only [if_pos hb, gbi_some, g10]
        exact hR.e2
      · simp only [if_neg hb, gbi_some, g00, if_true, h2, g2]
        by_cases hb2 : (nI b2 : Int32) = 0
        · simp only [if_pos hb2, gbi_some, g10]
          exact hR.e2
        · simp only [if_neg hb2, gbi_some, if_true, h2, g2]
          by_cases hbb : (nI b1 : Int32) = nI b2
          · simp only [if_pos hbb]
            by_cases hp : hpP n1 b e ∧ hpP n2 d e
            · obtain ⟨hp1, hp2⟩ := hp
              obtain ⟨q1, q2⟩ := hp_0 h4 hp1
              obtain ⟨q3, q4⟩ := hp_0 g4 hp2
              have q5 : ¬ nI n1 - e < b := (hp_2 h4 q1 q2).mpr hp1
              have q6 : d ≤ nI n2 - e := Int32.not_lt.mp ((hp_2 g4 q1 q4).mpr hp2)
              rw [(x_hasPart h4 h5).1 hp1, gbi_some, g10, (x_hasPart g4 g5).1 hp2, gbi_some, g10, if_neg q1, if_neg q2, if_neg q4, if_neg q5, if_pos q6]
              obtain ⟨b', n', rfl, rfl, h8⟩ := hp1
              obtain ⟨d', n'', rfl, en, h9⟩ := hp2
              have en2 : n'' = n' := pI_inj (by omega) (by omega) en.symm
              subst en2
              rw [x_copyPart (by decide) (by decide) (by omega) (by omega), gbv_some]
              obtain ⟨V1, r1, r2, r3, r4⟩ := m_move1_L (s := s) (a := b') (o := o) (j := d') (n := n'') (by omega) (by omega) (by omega) (by omega) n'' gFu 0 VM (by omega) (by unfold gFu; omega)
              obtain ⟨V2, t1, t2, t3, t4⟩ := m_move2_L (o := o) (j := d') (n := n'') (by omega) (by omega) n'' gFu 0 V1 (by omega) (by unfold gFu; omega)
              rw [show (0 : Int32) = nI 0 from rfl] at r1 ⊢
              rw [r1, t1]
              refine RW.done (hR.sh (VX' := gcV VX (104 + 2 * s + 1) b' (104 + 2 * o + 1) d' n'') (VM' := V2) (fun x hx => ?_) (fun c _ _ h8 h9 => (t4 c h8).trans (r4 c h9)) (fun t ht => ?_))
              · funext k; unfold gcV; rw [if_neg (by omega)]
              · obtain ⟨⟨b3, k1, k2, k3⟩, ⟨n3, k4, k5, k6⟩, k7⟩ := hR.2.2.2.1 t ht
                have z : ∀ x, x ≠ 104 + 2 * o + 1 → gcV VX (104 + 2 * s + 1) b' (104 + 2 * o + 1) d' n'' x = VX x := fun x hx => by funext k; unfold gcV; rw [if_neg (by omega)]
                refine ⟨⟨b3, k1, by rw [z _ (by omega)]; exact k2, by rw [t4 6 (by omega), r4 6 (by omega)]; exact k3⟩, ⟨n3, k4, by rw [z _ (by omega)]; exact k5, by rw [t4 7 (by omega), r4 7 (by omega)]; exact k6⟩, fun k hk => ?_⟩
                by_cases hq : t = o ∧ d' ≤ k ∧ k < d' + n''
                · obtain ⟨rfl, q7, q8⟩ := hq
                  have z1 : gcV VX (104 + 2 * s + 1) b' (104 + 2 * t + 1) d' n'' (104 + 2 * t + 1) k = VX (104 + 2 * s + 1) (b' + (k - d')) := if_pos ⟨rfl, q7, q8⟩
                  have z2 := t2 (k - d') (by omega) (by omega)
                  rw [show 40 * t + d' + (k - d') = 40 * t + k by omega] at z2
                  rw [z1, z2, r2 _ (by omega) (by omega), h7 _ (by omega)]
                  congr 1
                  omega
                · have z1 : gcV VX (104 + 2 * s + 1) b' (104 + 2 * o + 1) d' n'' (104 + 2 * t + 1) k = VX (104 + 2 * t + 1) k := if_neg (by omega)
                  rw [z1, t3 _ (by omega), r4 8 (by omega)]
                  exact k7 k hk
            · have hX : gEq (Rel0 (i + 6)) (gbi (fX7_error VX 1) fun x V => some (x, V)) (gbi (fX8_errs VM (-1000000001)) fun x V => some (x, V)) := hR.e1
              have eX : (gbi (fX3_hasPart VX (104 + 2 * s) b e) fun x24 V25 => if x24 = 0 then gbi (fX7_error V25 1) fun x27 V28 => some (x27, V28) else gbi (fX3_hasPart V25 (104 + 2 * o) d e) fun x29 V30 => if x29 = 0 then gbi (fX7_error V30 1) fun x33 V34 => some (x33, V34) else gbv (fX7_copyPart V30 (104 + 2 * s + 1) 40 b (104 + 2 * o + 1) 40 d e) fun V32 => some (e, V32)) = gbi (fX7_error VX 1) fun x V => some (x, V) := by
                by_cases p1 : hpP n1 b e
                · rw [(x_hasPart h4 h5).1 p1, gbi_some, g10, (x_hasPart g4 g5).2 (fun p2 => hp ⟨p1, p2⟩), gbi_some, g00]
                · rw [(x_hasPart h4 h5).2 p1, gbi_some, g00]
              rw [eX]
              by_cases q1 : e < 0
              · rw [if_pos q1]; exact hX
              · rw [if_neg q1]
                by_cases q2 : b < 0
                · rw [if_pos q2]; exact hX
                · rw [if_neg q2]
                  by_cases q4 : d < 0
                  · rw [if_pos q4]; exact hX
                  · rw [if_neg q4]
                    by_cases q5 : nI n1 - e < b
                    · rw [if_pos q5]; exact hX
                    · rw [if_neg q5]
                      by_cases q6 : d ≤ nI n2 - e
                      · exact absurd ⟨(hp_2 h4 q1 q2).mp q5, (hp_2 g4 q1 q4).mp (Int32.not_lt.mpr q6)⟩ hp
                      · rw [if_neg q6]; exact hX
          · simp only [if_neg hbb]
            exact hR.e5
    · simp only [if_neg hc, g00]
      exact hR.e1
  · simp only [if_neg ha, g00]
    exact hR.e1

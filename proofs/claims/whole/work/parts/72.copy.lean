/-! ===== PURE: worlds copied ===== -/
theorem tat_congr {S T : Nat → Int32} (h : ∀ k, k < 50 → T k = S k) (i : Int32) : tat T i = tat S i := by
  unfold tat
  rcases pk_ix i (n := 50) (by decide) with q | q | ⟨j, hj, rfl⟩
  · rw [if_pos q, if_pos q]
  · simp [q]
  · rw [if_neg (nI_pos (by omega)), if_neg (nI_pos (by omega)), if_neg (nI_ge hj (by decide)), if_neg (nI_ge hj (by decide)), nI_clamp (by omega), h j hj]
theorem tvL_congr {S T : Nat → Int32} (h : ∀ k, k < 50 → T k = S k) (len a b c : Int32) : ∀ (n : Nat) (X : Nat → Int32) (x2 x3 : Int32), tvL T len a b c n X x2 x3 = tvL S len a b c n X x2 x3 := by
  intro n
  induction n with
  | zero => intro X x2 x3; rfl
  | succ n ih =>
    intro X x2 x3
    rw [tvL_succ, tvL_succ, tat_congr h, ih, ih, ih]
theorem TK.congr {use : Nat} {len len' : Int32} {S T : Nat → Int32} {L : lW} (h : TK use len S L) (hl : len' = len) (hs : ∀ k, k < 50 → T k = S k) : TK use len' T L := by
  subst hl
  refine ⟨h.1, fun hn a b c X => ?_⟩
  obtain ⟨r, X', e1, e2⟩ := h.2 hn a b c X
  exact ⟨r, X', by rw [tvL_congr hs]; exact e1, e2⟩
theorem x_copyRow {V : gV} {cf ct n : Nat} (hn : n < 2 ^ 30) : fX7_copyRow V cf n ct n = some (gcV V cf 0 ct 0 n) := by
  unfold fX7_copyRow
  rw [show (0 : Int32) = nI 0 from rfl, show Int32.ofNat n = nI n from rfl, x_copyPart hn hn (by omega) (by omega), gbv_some]
theorem gcV_at {V : gV} {cf ct n k : Nat} (hk : k < n) : gcV V cf 0 ct 0 n ct k = V cf k := by
  unfold gcV
  rw [if_pos ⟨rfl, by omega, by omega⟩, Nat.sub_zero, Nat.zero_add]
theorem gcV_row {V : gV} {cf ct n x : Nat} (hx : x ≠ ct) : gcV V cf 0 ct 0 n x = V x := by
  funext k
  unfold gcV
  rw [if_neg (fun q => hx q.1)]
theorem x_cakeCopy (V : gV) {c0 c1 : Nat} (h1 : c0 ≠ c1) (h2 : c0 + 1 ≠ c1) (h3 : c0 ≠ c1 + 1) : ∃ V', fX0_copyFrom V c0 c1 = some V' ∧ (∀ k, 1 ≤ k → k ≤ 6 → V' c0 k = V c1 k) ∧ (∀ k, k < 8 → V' (c0 + 1) k = V (c1 + 1) k) ∧ ∀ x, x ≠ c0 → x ≠ c0 + 1 → V' x = V x := by
  unfold fX0_copyFrom
  rw [x_copyRow (by decide), gbv_some]
  simp only [gpu_eq]
  refine ⟨_, rfl, fun k k1 k6 => ?_, fun k hk => ?_, fun x hx hx2 => ?_⟩
  · have hc : k = 1 ∨ k = 2 ∨ k = 3 ∨ k = 4 ∨ k = 5 ∨ k = 6 := by omega
    have e : ∀ j, gcV V (c1 + 1) 0 (c0 + 1) 0 8 c1 j = V c1 j := fun j => congrFun (gcV_row (by omega)) j
    rcases hc with rfl | rfl | rfl | rfl | rfl | rfl <;> simp only [gup] <;> grind
  · rw [gup_row _ _ _ (by omega), gup_row _ _ _ (by omega), gup_row _ _ _ (by omega), gup_row _ _ _ (by omega), gup_row _ _ _ (by omega), gup_row _ _ _ (by omega), gcV_at hk]
  · rw [gup_row _ _ _ hx, gup_row _ _ _ hx, gup_row _ _ _ hx, gup_row _ _ _ hx, gup_row _ _ _ hx, gup_row _ _ _ hx, gcV_row hx2]
theorem x_textCopy (V : gV) {c0 c1 : Nat} (h2 : c0 + 1 ≠ c1) : ∃ V', fX4_copyFrom V c0 c1 = some V' ∧ V' c0 2 = V c1 2 ∧ (∀ k, k < 50 → V' (c0 + 1) k = V (c1 + 1) k) ∧ ∀ x, x ≠ c0 → x ≠ c0 + 1 → V' x = V x := by
  unfold fX4_copyFrom
  rw [x_copyRow (by decide), gbv_some]
  simp only [gpu_eq]
  refine ⟨_, rfl, ?_, fun k hk => ?_, fun x hx hx2 => ?_⟩
  · rw [gup_at, gcV_row (fun q => h2 q.symm)]
  · rw [gup_row _ _ _ (by omega), gcV_at hk]
  · rw [gup_row _ _ _ hx, gcV_row hx2]
theorem x_copyH {w1 w2 nh : Nat} (hw : w1 + 30 ≤ w2 ∨ w2 + 30 ≤ w1) (h4 : nh ≤ 4) : ∀ (m f i : Nat) (V : gV), i + m = nh → m < f → V w2 8 = nI nh → ∃ V1, fX6_copyFrom_L1 w1 w2 f V (nI i) = fX6_copyFrom_L2 w1 w2 gFu V1 0 ∧ (∀ h, i ≤ h → h < nh → V1 (w1 + 14 + h) 0 = V (w2 + 14 + h) 0 ∧ V1 (w1 + 14 + h) 1 = V (w2 + 14 + h) 1) ∧ ∀ x, ¬ (w1 + 14 + i ≤ x ∧ x < w1 + 14 + nh) → V1 x = V x := by
  intro m
  induction m with
  | zero =>
    intro f i V h1 h2 h8
    obtain ⟨f, rfl⟩ : ∃ f', f = f' + 1 := ⟨f - 1, by omega⟩
    refine ⟨V, ?_, fun h _ _ => absurd h1 (by omega), fun _ _ => rfl⟩
    show fX6_copyFrom_L1b w1 w2 _ V (nI i) = _
    unfold fX6_copyFrom_L1b
    rw [h8, if_pos (nI_le (by omega) (by omega))]
  | succ m ih =>
    intro f i V h1 h2 h8
    obtain ⟨f, rfl⟩ : ∃ f', f = f' + 1 := ⟨f - 1, by omega⟩
    show ∃ V1, fX6_copyFrom_L1b w1 w2 _ V (nI i) = _ ∧ _
    unfold fX6_copyFrom_L1b fX1_copyFrom
    rw [h8, if_neg (nI_ge (by omega) (by omega)), x_houseAt (by omega), gbr_some, x_houseAt (by omega), gbr_some, nI_1]
    simp only [gpu_eq, gbv_some, Nat.one_mul]
    obtain ⟨V1, r1, r2, r3⟩ := ih f (i + 1) (gup (gup V (w1 + 14 + i) 0 (V (w2 + 14 + i) 0)) (w1 + 14 + i) 1 (gup V (w1 + 14 + i) 0 (V (w2 + 14 + i) 0) (w2 + 14 + i) 1)) (by omega) (by omega) (by rw [gup_ne _ _ (by omega), gup_ne _ _ (by omega)]; exact h8)
    refine ⟨V1, r1, fun h ha hb => ?_, fun x hx => ?_⟩
    · by_cases hi : h = i
      · subst hi
        rw [r3 _ (by omega), gup_ne _ _ (by omega), gup_at, gup_at, gup_ne _ _ (by omega)]
        exact ⟨rfl, rfl⟩
      · obtain ⟨q1, q2⟩ := r2 h (by omega) hb
        rw [q1, q2, gup_ne _ _ (by omega), gup_ne _ _ (by omega), gup_ne _ _ (by omega), gup_ne _ _ (by omega)]
        exact ⟨rfl, rfl⟩
    · rw [r3 x (by omega), gup_row _ _ _ (by omega), gup_row _ _ _ (by omega)]
theorem x_copyC {w1 w2 nc : Nat} (hw : w1 + 30 ≤ w2 ∨ w2 + 30 ≤ w1) (h6 : nc ≤ 6) : ∀ (m f i : Nat) (V : gV), i + m = nc → m < f → V w2 9 = nI nc → ∃ V1, fX6_copyFrom_L2 w1 w2 f V (nI i) = fX6_copyFrom_L2b w1 w2 (fun _ _ => none) V1 (nI nc) ∧ (∀ j, i ≤ j → j < nc → (∀ k, 1 ≤ k → k ≤ 6 → V1 (w1 + 18 + 2 * j) k = V (w2 + 18 + 2 * j) k) ∧ ∀ k, k < 8 → V1 (w1 + 18 + 2 * j + 1) k = V (w2 + 18 + 2 * j + 1) k) ∧ ∀ x, ¬ (w1 + 18 + 2 * i ≤ x ∧ x < w1 + 18 + 2 * nc) → V1 x = V x := by
  intro m
  induction m with
  | zero =>
    intro f i V h1 h2 h8
    obtain ⟨f, rfl⟩ : ∃ f', f = f' + 1 := ⟨f - 1, by omega⟩
    refine ⟨V, ?_, fun h _ _ => absurd h1 (by omega), fun _ _ => rfl⟩
    show fX6_copyFrom_L2b w1 w2 _ V (nI i) = _
    unfold fX6_copyFrom_L2b
    rw [h8, if_pos (nI_le (by omega) (by omega)), if_pos (nI_le (by omega) (by omega))]
  | succ m ih =>
    intro f i V h1 h2 h8
    obtain ⟨f, rfl⟩ : ∃ f', f = f' + 1 := ⟨f - 1, by omega⟩
    show ∃ V1, fX6_copyFrom_L2b w1 w2 _ V (nI i) = _ ∧ _
    unfold fX6_copyFrom_L2b
    obtain ⟨V0, e0, e1, e2, e3⟩ := x_cakeCopy V (c0 := w1 + 18 + 2 * i) (c1 := w2 + 18 + 2 * i) (by omega) (by omega) (by omega)
    rw [h8, if_neg (nI_ge (by omega) (by omega)), x_cakeAt (by omega), gbr_some, x_cakeAt (by omega), gbr_some, nI_1, e0, gbv_some]
    obtain ⟨V1, r1, r2, r3⟩ := ih f (i + 1) V0 (by omega) (by omega) (by rw [e3 _ (by omega) (by omega)]; exact h8)
    refine ⟨V1, r1, fun h ha hb => ?_, fun x hx => ?_⟩
    · by_cases hi : h = i
      · subst hi
        rw [r3 _ (by omega), r3 _ (by omega)]
        exact ⟨e1, e2⟩
      · obtain ⟨q1, q2⟩ := r2 h (by omega) hb
        refine ⟨fun k k1 k2 => ?_, fun k k1 => ?_⟩
        · rw [q1 k k1 k2, e3 _ (by omega) (by omega)]
        · rw [q2 k k1, e3 _ (by omega) (by omega)]
    · rw [r3 x (by omega), e3 x (by omega) (by omega)]
theorem x_copyT {w1 w2 nc : Nat} (hw : w1 + 30 ≤ w2 ∨ w2 + 30 ≤ w1) (h6 : nc ≤ 6) (V : gV) (h9 : V w2 9 = nI nc) (B : gV → Int32 → Option gV) : ∃ V1, fX6_copyFrom_L2b w1 w2 B V (nI nc) = some V1 ∧ V1 (w1 + 6) 2 = V (w2 + 6) 2 ∧ (∀ k, k < 50 → V1 (w1 + 7) k = V (w2 + 7) k) ∧ V1 (w1 + 9) 2 = V (w2 + 9) 2 ∧ (∀ k, k < 50 → V1 (w1 + 10) k = V (w2 + 10) k) ∧ (∀ k, k < 50 → V1 (w1 + 12) k = V (w2 + 12) k) ∧ (∀ k, k < 20 → V1 (w1 + 13) k = V (w2 + 13) k) ∧ (∀ k, 8 ≤ k → k ≤ 13 → V1 w1 k = V w2 k) ∧ ∀ x, x ≠ w1 → x ≠ w1 + 6 → x ≠ w1 + 7 → x ≠ w1 + 9 → x ≠ w1 + 10 → x ≠ w1 + 12 → x ≠ w1 + 13 → V1 x = V x := by
  unfold fX6_copyFrom_L2b
  obtain ⟨Va, a0, a1, a2, a3⟩ := x_textCopy V (c0 := w1 + 6) (c1 := w2 + 6) (by omega)
  obtain ⟨Vb, b0, b1, b2, b3⟩ := x_textCopy Va (c0 := w1 + 9) (c1 := w2 + 9) (by omega)
  rw [h9, if_pos (nI_le (by omega) (by omega)), a0, gbv_some, b0, gbv_some, x_copyRow (by decide), gbv_some, x_copyRow (by decide), gbv_some]
  simp only [gpu_eq]
  have f : ∀ x, x ≠ w1 → x ≠ w1 + 6 → x ≠ w1 + 7 → x ≠ w1 + 9 → x ≠ w1 + 10 → x ≠ w1 + 12 → x ≠ w1 + 13 → gcV (gcV Vb (w2 + 12) 0 (w1 + 12) 0 50) (w2 + 13) 0 (w1 + 13) 0 20 x = V x := fun x h0 h6 h7 h9 h10 h12 h13 => by
    rw [gcV_row h13, gcV_row h12, b3 x h9 h10, a3 x h6 h7]
  have g : ∀ x, x ≠ w1 → ∀ v1 v2 v3 v4 v5 v6, gup (gup (gup (gup (gup (gup (gcV (gcV Vb (w2 + 12) 0 (w1 + 12) 0 50) (w2 + 13) 0 (w1 + 13) 0 20) w1 8 v1) w1 9 v2) w1 10 v3) w1 11 v4) w1 12 v5) w1 13 v6 x = gcV (gcV Vb (w2 + 12) 0 (w1 + 12) 0 50) (w2 + 13) 0 (w1 + 13) 0 20 x := fun x h0 v1 v2 v3 v4 v5 v6 => by
    rw [gup_row _ _ _ h0, gup_row _ _ _ h0, gup_row _ _ _ h0, gup_row _ _ _ h0, gup_row _ _ _ h0, gup_row _ _ _ h0]
  refine ⟨_, rfl, ?_, fun k hk => ?_, ?_, fun k hk => ?_, fun k hk => ?_, fun k hk => ?_, fun k k8 k13 => ?_, fun x h0 h6 h7 h9 h10 h12 h13 => ?_⟩
  · rw [g _ (by omega), gcV_row (by omega), gcV_row (by omega), b3 _ (by omega) (by omega), a1]
  · rw [g _ (by omega), gcV_row (by omega), gcV_row (by omega), b3 _ (by omega) (by omega), a2 k hk]
  · rw [g _ (by omega), gcV_row (by omega), gcV_row (by omega), b1, a3 _ (by omega) (by omega)]
  · rw [g _ (by omega), gcV_row (by omega), gcV_row (by omega), b2 k hk, a3 _ (by omega) (by omega)]
  · rw [g _ (by omega), gcV_row (by omega), gcV_at hk, b3 _ (by omega) (by omega), a3 _ (by omega) (by omega)]
  · rw [g _ (by omega), gcV_at hk, gcV_row (by omega), b3 _ (by omega) (by omega), a3 _ (by omega) (by omega)]
  · have e : ∀ j, gcV (gcV Vb (w2 + 12) 0 (w1 + 12) 0 50) (w2 + 13) 0 (w1 + 13) 0 20 w2 j = V w2 j := fun j => congrFun (f w2 (by omega) (by omega) (by omega) (by omega) (by omega) (by omega) (by omega)) j
    generalize gcV (gcV Vb (w2 + 12) 0 (w1 + 12) 0 50) (w2 + 13) 0 (w1 + 13) 0 20 = W at *
    have hc : k = 8 ∨ k = 9 ∨ k = 10 ∨ k = 11 ∨ k = 12 ∨ k = 13 := by omega
    have hne : w1 ≠ w2 := by omega
    rcases hc with rfl | rfl | rfl | rfl | rfl | rfl <;> simp only [gup] <;> grind
  · rw [g x h0]
    exact f x h0 h6 h7 h9 h10 h12 h13
/-- a world copied holds the same row -/
theorem x_copy {V : gV} {w1 w2 : Nat} {r : rR} {L : lW} {nh nc : Nat} (h : CO V w2 r L nh nc) (hw : w1 + 30 ≤ w2 ∨ w2 + 30 ≤ w1) : ∃ V', fX6_copyFrom V w1 w2 = some V' ∧ CO V' w1 r L nh nc ∧ (∀ k, k < 50 → V' (w1 + 12) k = V (w2 + 12) k) ∧ (∀ k, k < 20 → V' (w1 + 13) k = V (w2 + 13) k) ∧ (∀ k, 8 ≤ k → k ≤ 13 → V' w1 k = V w2 k) ∧ ∀ x, ¬ (w1 ≤ x ∧ x < w1 + 30) → V' x = V x := by
  obtain ⟨hL, hr, ⟨w8, w9, w12, w13⟩, hH, hC, hT0, hT1⟩ := h
  have h4 := hr.1
  have h6 := hr.2.1
  obtain ⟨Va, a1, a2, a3⟩ := x_copyH hw h4 nh gFu 0 V (by omega) (by unfold gFu; omega) w8
  obtain ⟨Vb, b1, b2, b3⟩ := x_copyC hw h6 nc gFu 0 Va (by omega) (by unfold gFu; omega) (by rw [a3 _ (by omega)]; exact w9)
  obtain ⟨Vc, c1, c2, c3, c4, c5, c6, c7, c8, c9⟩ := x_copyT hw h6 Vb (by rw [b3 _ (by omega), a3 _ (by omega)]; exact w9) (fun _ _ => none)
  have eb : ∀ x, w2 ≤ x → x < w2 + 30 → Vb x = V x := fun x h1 h2 => by rw [b3 _ (by omega), a3 _ (by omega)]
  refine ⟨Vc, ?_, ⟨hL, hr, ⟨?_, ?_, ?_, ?_⟩, fun k hk => ?_, fun j hj => ?_, hT0.congr ?_ ?_, hT1.congr ?_ ?_⟩, fun k hk => ?_, fun k hk => ?_, fun k k1 k2 => ?_, fun x hx => ?_⟩
  · unfold fX6_copyFrom
    rw [show (0 : Int32) = nI 0 from rfl, a1, show (0 : Int32) = nI 0 from rfl, b1, c1]
  · rw [c8 8 (by omega) (by omega), eb _ (by omega) (by omega)]; exact w8
  · rw [c8 9 (by omega) (by omega), eb _ (by omega) (by omega)]; exact w9
  · rw [c8 12 (by omega) (by omega), eb _ (by omega) (by omega)]; exact w12
  · rw [c8 13 (by omega) (by omega), eb _ (by omega) (by omega)]; exact w13
  · have := a2 k (by omega) hk
    have q := hH k hk
    rw [Nat.one_mul] at *
    rw [c9 _ (by omega) (by omega) (by omega) (by omega) (by omega) (by omega) (by omega), b3 _ (by omega), this.1, this.2]
    exact q
  · obtain ⟨q1, q2⟩ := b2 j (by omega) hj
    obtain ⟨c1, c2, c3, c4, c5, c6, c7⟩ := hC j hj
    unfold cakeC
    rw [c9 (w1 + 18 + 2 * j) (by omega) (by omega) (by omega) (by omega) (by omega) (by omega) (by omega), c9 (w1 + 18 + 2 * j + 1) (by omega) (by omega) (by omega) (by omega) (by omega) (by omega) (by omega)]
    rw [q1 1 (by omega) (by omega), q1 2 (by omega) (by omega), q1 3 (by omega) (by omega), q1 4 (by omega) (by omega), q1 5 (by omega) (by omega), q1 6 (by omega) (by omega), a3 (w2 + 18 + 2 * j) (by omega)]
    refine ⟨c1, c2, c3, c4, c5, c6, fun i a h1 h2 h3 => ?_⟩
    rw [q2 i (by omega), a3 _ (by omega)]
    exact c7 i a h1 h2 h3
  · rw [c2, eb _ (by omega) (by omega)]
  · intro k hk; rw [c3 k hk, eb _ (by omega) (by omega)]
  · rw [c4, eb _ (by omega) (by omega)]
  · intro k hk; rw [c5 k hk, eb _ (by omega) (by omega)]
  · rw [c6 k hk, eb _ (by omega) (by omega)]
  · rw [c7 k hk, eb _ (by omega) (by omega)]
  · rw [c8 k k1 k2, eb _ (by omega) (by omega)]
  · rw [c9 x (by omega) (by omega) (by omega) (by omega) (by omega) (by omega) (by omega), b3 x (by omega), a3 x (by omega)]

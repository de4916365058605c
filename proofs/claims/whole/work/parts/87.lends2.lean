/-! ===== PURE: lends, the model ===== -/
theorem RW.c10 {i : Nat} {VX VM : gV} {L : lW} {nh nc k : Nat} {v : Int32} (h : RW i VX VM L nh nc) : RW i VX (gup VM 10 k v) L nh nc := h.keep (fun _ _ _ _ => rfl) (gup_row _ _ _ (by omega)) (mRest.cell fun c _ _ _ _ h10 => gup_row _ _ _ h10)
theorem cake_in : ∀ c, c < 6 → ∀ nc, nc < 7 → ((0 ≤ nI c ∧ nI c ≤ nI nc - 1) ↔ c < nc) := by decide +kernel
theorem getD_app_l {l l' : List Nat} {k : Nat} (h : k < l.length) : (l ++ l').getD k 0 = l.getD k 0 := by
  rw [List.getD_eq_getElem?_getD, List.getD_eq_getElem?_getD, List.getElem?_append_left h]
theorem getD_app_r {l : List Nat} {c : Nat} : (l ++ [c]).getD l.length 0 = c := by
  rw [List.getD_eq_getElem?_getD, List.getElem?_append_right (Nat.le_refl _), Nat.sub_self]
  rfl
theorem m_row_step {i j c left t s : Nat} {b : Int32} {q : List Nat} {VX V : gV} {r : rR} {L : lW} {nh nc : Nat} (hj : j < 4) (hc6 : c < 6) (hc : left % 6 = c) (hl : left < 2 ^ 30) (hR : RW i VX V L nh nc) (hr : V 1 = r) (ht : cb t q) (hs : gb (sShow L r) nc s q) (hb : (b = 1 ∧ goodS (sShow L r) nc q) ∨ (b = 0 ∧ ¬ goodS (sShow L r) nc q)) (B : gV → Int32 → Int32 → Int32 → Int32 → Int32 → Option (Int32 × gV)) : ∃ V2 s' b2, RW i VX V2 L nh nc ∧ V2 1 = r ∧ V2 10 = gup V 10 j (nI c) 10 ∧ gb (sShow L r) nc s' (c :: q) ∧ ((b2 = 1 ∧ goodS (sShow L r) nc (c :: q)) ∨ (b2 = 0 ∧ ¬ goodS (sShow L r) nc (c :: q))) ∧ fX8_isRow_L1b B V (nI left) (nI t) (nI s) b (nI j) = B V2 (nI (left / 6)) (nI (t ||| 2 ^ c)) (nI s') b2 (nI j + -1) := by
  have h6 := hR.h6
  obtain ⟨et, ht'⟩ := ht.cons hc6
  have hR1 : RW i VX (gup V 10 j (nI c)) L nh nc := hR.c10
  have r1 : gup V 10 j (nI c) 1 = r := (gup_row _ _ _ (by omega)).trans hr
  have hci := cake_in c hc6 nc (by omega)
  have e6 : grm (nI left) 6 = nI c := by
    rw [← hc]
    exact grm_nI (d := 6) (by omega) (by decide) (by decide)
  have d6 : nI left / 6 = nI (left / 6) := pk_div (d := 6) (by omega) (by decide) (by decide)
  unfold fX8_isRow_L1b
  simp only [Nat.reduceAdd, glt_eq]
  rw [if_neg (nI_pos (by omega)), gdv_ne (by decide), gdv_ne (by decide), e6, d6, gas_at j rfl (by omega) (by decide), dm_isCake hR1.ncM, et]
  by_cases hcn : c < nc
  · have hcok := hR1.mo.2.2.2.2.2.2.2 c hcn
    obtain ⟨V2, e2, hS2⟩ := m_shows (j := c) hR1.mo.1 hR1.mo.2.1 hcok (by omega)
    have hR2 := hR1.scr hS2
    have r2 : V2 1 = r := (hS2.row (by decide)).trans r1
    have t2 : V2 10 = gup V 10 j (nI c) 10 := hS2.row (by decide)
    rw [r1] at e2
    have hsh : sShow L r c = -1 ∨ ∃ b, b ≤ 9 ∧ sShow L r c = nI b := by
      have := sShow_ok hR1.mo.2.1 hcok
      rw [r1] at this
      exact this
    have hfb := fts_bits (c := c) ht hs hcn h6 hsh
    rw [if_pos (hci.mpr hcn)]
    rcases hsh with e | ⟨g, hgl, e⟩
    · have hs' : gb (sShow L r) nc s (c :: q) := hs.skip (Or.inr e)
      rw [e] at e2
      rcases hb with ⟨rfl, hq⟩ | ⟨rfl, hq⟩
      · by_cases hbt : hasB (nI t) (nI c)
        · refine ⟨V2, s, 0, hR2, r2, t2, hs', Or.inr ⟨rfl, fun w => (hfb.mp w.2.1).1 hbt⟩, ?_⟩
          simp only [gjn_eq]
          rw [g10, e2, gbi_some, g10, dm_isCake hR2.ncM, if_pos (hci.mpr hcn), g10, m_has, gbi_some, if_pos hbt, g10, if_neg (by decide), Int32.or_zero]
        · refine ⟨V2, s, 1, hR2, r2, t2, hs', Or.inl ⟨rfl, hcn, hfb.mpr ⟨hbt, Or.inl e⟩, hq⟩, ?_⟩
          simp only [gjn_eq]
          rw [g10, e2, gbi_some, g10, dm_isCake hR2.ncM, if_pos (hci.mpr hcn), g10, m_has, gbi_some, if_neg hbt, g00, if_pos (by decide), if_neg (by decide), Int32.or_zero]
      · refine ⟨V2, s, 0, hR2, r2, t2, hs', Or.inr ⟨rfl, fun w => hq w.2.2⟩, ?_⟩
        simp only [gjn_eq]
        rw [g10, e2, gbi_some, gTT, if_neg (by decide), Int32.or_zero]
    · obtain ⟨es, hs'⟩ := hs.cons (c := c) (b := g) hcn (by omega) e
      rw [e] at e2
      rcases hb with ⟨rfl, hq⟩ | ⟨rfl, hq⟩
      · by_cases hbt : hasB (nI t) (nI c)
        · refine ⟨V2, s ||| 2 ^ g, 0, hR2, r2, t2, hs', Or.inr ⟨rfl, fun w => (hfb.mp w.2.1).1 hbt⟩, ?_⟩
          simp only [gjn_eq]
          rw [g10, e2, gbi_some, g10, dm_isCake hR2.ncM, if_pos (hci.mpr hcn), g10, m_has, gbi_some, if_pos hbt, g10, if_pos (nI_pos' (by omega)), es]
        · by_cases hbs : hasB (nI s) (nI g)
          · refine ⟨V2, s ||| 2 ^ g, 0, hR2, r2, t2, hs', Or.inr ⟨rfl, fun w => ?_⟩, ?_⟩
            · rcases (hfb.mp w.2.1).2 with e' | ⟨b', hb', e', hn⟩
              · rw [e] at e'
                exact nI_pos (show g < 2 ^ 31 by omega) (by rw [e']; decide)
              · rw [e] at e'
                have : g = b' := pI_inj (by omega) (by omega) e'
                subst this
                exact hn hbs
            · simp only [gjn_eq]
              rw [g10, e2, gbi_some, g10, dm_isCake hR2.ncM, if_pos (hci.mpr hcn), g10, m_has, gbi_some, if_neg hbt, g00, if_neg (nI_pos (by omega)), m_has, gbi_some, if_pos hbs, g10, if_pos (nI_pos' (by omega)), es]
          · refine ⟨V2, s ||| 2 ^ g, 1, hR2, r2, t2, hs', Or.inl ⟨rfl, hcn, hfb.mpr ⟨hbt, Or.inr ⟨g, by omega, e, hbs⟩⟩, hq⟩, ?_⟩
            simp only [gjn_eq]
            rw [g10, e2, gbi_some, g10, dm_isCake hR2.ncM, if_pos (hci.mpr hcn), g10, m_has, gbi_some, if_neg hbt, g00, if_neg (nI_pos (by omega)), m_has, gbi_some, if_neg hbs, g00, if_pos (nI_pos' (by omega)), es]
      · refine ⟨V2, s ||| 2 ^ g, 0, hR2, r2, t2, hs', Or.inr ⟨rfl, fun w => hq w.2.2⟩, ?_⟩
        simp only [gjn_eq]
        rw [g10, e2, gbi_some, gTT, if_pos (nI_pos' (by omega)), es]
  · have hs' : gb (sShow L r) nc s (c :: q) := hs.skip (Or.inl hcn)
    have hng : ¬ goodS (sShow L r) nc (c :: q) := fun w => hcn w.1
    rw [if_neg (fun q => hcn (hci.mp q))]
    refine ⟨_, s, 0, hR1, r1, rfl, hs', Or.inr ⟨rfl, hng⟩, ?_⟩
    simp only [gjn_eq]
    rw [gTT]
    rcases hb with ⟨rfl, hq⟩ | ⟨rfl, hq⟩
    · rw [g10, dm_isCake hR1.ncM, if_neg (fun q => hcn (hci.mp q)), g00, if_neg (by decide), Int32.or_zero]
    · rw [g00, if_neg (by decide), Int32.or_zero]
theorem m_row_L {i : Nat} {VX : gV} {r : rR} {L : lW} {nh nc : Nat} : ∀ (j f left t s : Nat) (b : Int32) (q : List Nat) (V : gV), j ≤ nh → j < f → left < 2 ^ 30 → RW i VX V L nh nc → V 1 = r → cb t q → gb (sShow L r) nc s q → ((b = 1 ∧ goodS (sShow L r) nc q) ∨ (b = 0 ∧ ¬ goodS (sShow L r) nc q)) → ∃ V' b', RW i VX V' L nh nc ∧ V' 1 = r ∧ ((b' = 1 ∧ goodS (sShow L r) nc (dgl j left ++ q)) ∨ (b' = 0 ∧ ¬ goodS (sShow L r) nc (dgl j left ++ q))) ∧ (∀ k, j ≤ k → V' 10 k = V 10 k) ∧ (∀ k, k < j → V' 10 k = nI ((dgl j left).getD k 0)) ∧ fX8_isRow_L1 f V (nI left) (nI t) (nI s) b (nI j + -1) = some (b', V') := by
  intro j
  induction j with
  | zero =>
    intro f left t s b q V h1 h2 hl hR hr ht hs hb
    obtain ⟨f, rfl⟩ : ∃ f', f = f' + 1 := ⟨f - 1, by omega⟩
    refine ⟨V, b, hR, hr, hb, fun _ _ => rfl, fun k hk => absurd hk (by omega), ?_⟩
    show fX8_isRow_L1b _ V _ _ _ _ _ = _
    unfold fX8_isRow_L1b
    rw [if_pos (show nI 0 + -1 < 0 by decide)]
    rcases hb with ⟨rfl, -⟩ | ⟨rfl, -⟩
    · exact gzb_1 _
    · exact gzb_0 _
  | succ j ih =>
    intro f left t s b q V h1 h2 hl hR hr ht hs hb
    have h4 := hR.h4
    obtain ⟨f, rfl⟩ : ∃ f', f = f' + 1 := ⟨f - 1, by omega⟩
    generalize hc : left % 6 = c
    have hc6 : c < 6 := by omega
    have ed : dgl (j + 1) left ++ q = dgl j (left / 6) ++ (c :: q) := by
      rw [show dgl (j + 1) left = dgl j (left / 6) ++ [left % 6] from rfl, hc, List.append_assoc]
      rfl
    have eg : ∀ k, k < j → (dgl (j + 1) left).getD k 0 = (dgl j (left / 6)).getD k 0 := fun k hk => by
      rw [show dgl (j + 1) left = dgl j (left / 6) ++ [left % 6] from rfl]
      exact getD_app_l (by rw [dgl_len]; exact hk)
    have eg2 : (dgl (j + 1) left).getD j 0 = c := by
      have := getD_app_r (l := dgl j (left / 6)) (c := left % 6)
      rw [dgl_len, hc] at this
      rw [show dgl (j + 1) left = dgl j (left / 6) ++ [left % 6] from rfl, hc]
      exact this
    obtain ⟨V2, s', b2, q1, q2, q3, q4, q5, q6⟩ := m_row_step (j := j) (by omega) hc6 hc hl hR hr ht hs hb (fX8_isRow_L1 f)
    obtain ⟨V', b', w1, w2, w3, w4, w5, w6⟩ := ih f (left / 6) (t ||| 2 ^ c) s' b2 (c :: q) V2 (by omega) (by omega) (by omega) q1 q2 (ht.cons hc6).2 q4 q5
    refine ⟨V', b', w1, w2, by rw [ed]; exact w3, fun k hk => ?_, fun k hk => ?_, ?_⟩
    · rw [w4 k (by omega), q3, gup_ne _ _ (by omega)]
    · by_cases hkj : k = j
      · subst hkj
        rw [w4 k (Nat.le_refl _), q3, gup_at, eg2]
      · rw [w5 k (by omega), eg k (by omega)]
    · show fX8_isRow_L1b _ V _ _ _ _ _ = _
      rw [nI_m1, q6]
      exact w6
theorem m_row {i k : Nat} {VX V : gV} {r : rR} {L : lW} {nh nc : Nat} (hR : RW i VX V L nh nc) (hr : V 1 = r) (hk : k < 2 ^ 30) : ∃ V' b', RW i VX V' L nh nc ∧ V' 1 = r ∧ ((b' = 1 ∧ goodS (sShow L r) nc (dgl nh k)) ∨ (b' = 0 ∧ ¬ goodS (sShow L r) nc (dgl nh k))) ∧ (∀ j, j < nh → V' 10 j = nI ((dgl nh k).getD j 0)) ∧ fX8_isRow V (nI k) = some (b', V') := by
  have h4 := hR.h4
  obtain ⟨V', b', w1, w2, w3, -, w5, w6⟩ := m_row_L nh gFu k 0 0 1 [] V (Nat.le_refl _) (by unfold gFu; omega) hk hR hr cb.nil gb.nil (Or.inl ⟨rfl, trivial⟩)
  rw [List.append_nil] at w3
  refine ⟨V', b', w1, w2, w3, w5, ?_⟩
  unfold fX8_isRow
  simp only [Nat.reduceAdd, gbi_some, gbr_some, gbv_some, gpu_eq, glt_eq, gjn_eq, r1_0, r1_1, r1_2, r1_3, r1_4, r1_5, w1_0, w1_1, w1_2, w1_3, w1_4, w1_5]
  rw [hR.nhM, Int32.sub_eq_add_neg]
  exact w6
noncomputable def leR (o : Option Int32) (W : gV) : Option (Int32 × gV) := match o with
  | some b => some (b, W)
  | none => gbi (fX8_errs W (-1000000002)) fun x V => some (x, V)
theorem m_lends2 {i h : Nat} {VX : gV} {r : rR} {L : lW} {nh nc : Nat} (hh : h < nh) : ∀ (m f k : Nat) (V : gV), k + m = 6 ^ nh → m < f → RW i VX V L nh nc → V 1 = r → (∀ k', k' < k → ¬ goodS (sShow L r) nc (dgl nh k')) → ∃ V', RW i VX V' L nh nc ∧ ((∃ k0, k0 < 6 ^ nh ∧ goodS (sShow L r) nc (dgl nh k0) ∧ (∀ k', k' < k0 → ¬ goodS (sShow L r) nc (dgl nh k')) ∧ fX8_lends_L2 (nI h) (nI (6 ^ nh)) f V (nI k) = leR (some (nI ((dgl nh k0).getD h 0))) V') ∨ ((∀ k', k' < 6 ^ nh → ¬ goodS (sShow L r) nc (dgl nh k')) ∧ fX8_lends_L2 (nI h) (nI (6 ^ nh)) f V (nI k) = leR none V')) := by
  intro m
  induction m with
  | zero =>
    intro f k V h1 h2 hR hr hk
    have hp := Nat.pow_le_pow_right (show 0 < 6 by decide) hR.h4
    obtain ⟨f, rfl⟩ : ∃ f', f = f' + 1 := ⟨f - 1, by omega⟩
    obtain rfl : k = 6 ^ nh := by omega
    refine ⟨V, hR, Or.inr ⟨hk, ?_⟩⟩
    show fX8_lends_L2b _ _ _ V (nI (6 ^ nh)) = _
    unfold fX8_lends_L2b
    simp only [Nat.reduceAdd, gbi_some, gbr_some, gbv_some, gpu_eq, glt_eq, gjn_eq, r1_0, r1_1, r1_2, r1_3, r1_4, r1_5, w1_0, w1_1, w1_2, w1_3, w1_4, w1_5]
    rw [if_pos (nI_le (by omega) (by omega))]
    simp only [if_true]
    rfl
  | succ m ih =>
    intro f k V h1 h2 hR hr hk
    have hp := Nat.pow_le_pow_right (show 0 < 6 by decide) hR.h4
    have h4 := hR.h4
    obtain ⟨f, rfl⟩ : ∃ f', f = f' + 1 := ⟨f - 1, by omega⟩
    show ∃ V', _ ∧ ((∃ k0, _ ∧ _ ∧ _ ∧ fX8_lends_L2b _ _ _ V (nI k) = _) ∨ (_ ∧ fX8_lends_L2b _ _ _ V (nI k) = _))
    unfold fX8_lends_L2b
    simp only [Nat.reduceAdd, gbi_some, gbr_some, gbv_some, gpu_eq, glt_eq, gjn_eq, r1_0, r1_1, r1_2, r1_3, r1_4, r1_5, w1_0, w1_1, w1_2, w1_3, w1_4, w1_5]
    obtain ⟨V1, b, hR1, r1, hb, hl, e1⟩ := m_row (k := k) hR hr (by omega)
    rw [if_neg (nI_ge (by omega) (by omega)), e1, gbi_some]
    rcases hb with ⟨rfl, hg⟩ | ⟨rfl, hg⟩
    · rw [g10, if_neg (fun q => by have := pI_inj (by omega) (by omega) q; omega), gal_at h rfl (by omega) (by decide), hl h hh]
      exact ⟨V1, hR1, Or.inl ⟨k, by omega, hg, hk, rfl⟩⟩
    · rw [g00, nI_1]
      exact ih f (k + 1) V1 (by omega) (by omega) hR1 r1 (fun k' hk' => by
        by_cases hkk : k' = k
        · subst hkk; exact hg
        · exact hk k' (by omega))
theorem m_lends1 {a : Int32} {V : gV} {L : lW} {nh nc : Nat} (hM : MO V L nh nc) : ∀ (m f k : Nat), k + m = nh → m < f → fX8_lends_L1 a V f (nI (6 ^ k)) (nI k) = fX8_lends_L2 a (nI (6 ^ nh)) gFu V 0 := by
  have h4 := hM.2.2.1
  intro m
  induction m with
  | zero =>
    intro f k h1 h2
    obtain ⟨f, rfl⟩ : ∃ f', f = f' + 1 := ⟨f - 1, by omega⟩
    obtain rfl : k = nh := by omega
    show fX8_lends_L1b _ _ _ _ _ = _
    unfold fX8_lends_L1b
    simp only [Nat.reduceAdd, gbi_some, gbr_some, gbv_some, gpu_eq, glt_eq, gjn_eq, r1_0, r1_1, r1_2, r1_3, r1_4, r1_5, w1_0, w1_1, w1_2, w1_3, w1_4, w1_5]
    rw [hM.2.2.2.2.1, if_pos (nI_le (by omega) (by omega))]
  | succ m ih =>
    intro f k h1 h2
    obtain ⟨f, rfl⟩ : ∃ f', f = f' + 1 := ⟨f - 1, by omega⟩
    show fX8_lends_L1b _ _ _ _ _ = _
    unfold fX8_lends_L1b
    simp only [Nat.reduceAdd, gbi_some, gbr_some, gbv_some, gpu_eq, glt_eq, gjn_eq, r1_0, r1_1, r1_2, r1_3, r1_4, r1_5, w1_0, w1_1, w1_2, w1_3, w1_4, w1_5]
    rw [hM.2.2.2.2.1, if_neg (nI_ge (by omega) (by omega)), nI_1, show nI (6 ^ k) * 6 = nI (6 ^ (k + 1)) from (pI_mul _ 6).trans (by rw [Nat.pow_succ])]
    exact ih f (k + 1) (by omega) (by omega)
theorem pr_lends {i : Nat} {VX VM : gV} {L : lW} {nh nc : Nat} (hR : RW i VX VM L nh nc) (a : Int32) : gEq (Rel0 (i + 6)) (fX7_lends VX a) (fX8_lends VM a) := by
  have h4 := hR.h4
  have h6 := hR.h6
  unfold fX7_lends fX8_lends
  simp only [Nat.reduceAdd, gbi_some, gbr_some, gbv_some, gpu_eq, glt_eq, gjn_eq, r1_0, r1_1, r1_2, r1_3, r1_4, r1_5, w1_0, w1_1, w1_2, w1_3, w1_4, w1_5]
  rw [d_isHouse hR.nhX, dm_isHouse hR.nhM]
  by_cases ha : 0 ≤ a ∧ a ≤ nI nh - 1
  · obtain ⟨h, hh, rfl⟩ := rng (by omega) ha
    have hp := Nat.pow_le_pow_right (show 0 < 6 by decide) h4
    rw [if_pos ha, if_pos ha, g10, g10]
    obtain ⟨V1, hR1, -, hq⟩ := x_lend nh 8 0 0 0 [] VX (by omega) (by omega) hR cb.nil gb.nil
    obtain ⟨V2, hR2, hw⟩ := m_lends2 (h := h) hh (6 ^ nh) gFu 0 VM (by omega) (by unfold gFu; omega) hR1 rfl (fun k' hk' => absurd hk' (by omega))
    rw [show fX8_lends_L1 (nI h) VM gFu 1 0 = _ from m_lends1 hR.mo nh gFu 0 (by omega) (by unfold gFu; omega)]
    have gd : ∀ l, good (sShow L (VM 1)) nc [] l ↔ goodS (sShow L (VM 1)) nc l := fun l => (good_S l []).trans ⟨fun q => q.1, fun q => ⟨q, fun c _ c' h' => nomatch h'⟩⟩
    rcases hq with ⟨l, l1, l2, l3, l4, e1⟩ | ⟨l1, e1⟩
    · have g1 := (gd l).mp l2
      have l6 : ∀ c, c ∈ l → c < 6 := fun c hc => by have := goodS_lt l g1 c hc; omega
      have cl := cod_lt l l6
      have dl := dgl_cod l 0 0 l6
      rw [Nat.zero_add, l1] at dl
      rw [l1] at cl
      rw [show fleX7 8 0 VX 0 0 0 = _ from e1, gbi_some, g10, eX_at h rfl (by omega) (by decide), gbi_some]
      rcases hw with ⟨k0, w1, w2, w3, w4⟩ | ⟨w1, w4⟩
      · rw [show fX8_lends_L2 (nI h) (nI (6 ^ nh)) gFu VM 0 = _ from w4]
        have ek : k0 = cod 0 l := by
          have q1 := l3 (dgl nh k0) (dgl_len nh k0) ((gd _).mpr w2)
          rw [cod_dgl nh k0 w1] at q1
          have q2 : ¬ cod 0 l < k0 := fun q => w3 _ q (by rw [dl]; exact g1)
          omega
        rw [ek, dl]
        refine hR2.dones ?_
        rw [show dgl 0 0 ++ l = l from rfl]
        have := l4 h hh
        rw [Nat.zero_add] at this
        exact this
      · exact absurd (by rw [dl]; exact g1) (w1 (cod 0 l) cl)
    · rw [show fleX7 8 0 VX 0 0 0 = _ from e1, gbi_some, g00]
      rcases hw with ⟨k0, w1, w2, w3, w4⟩ | ⟨w1, w4⟩
      · exact absurd ((gd _).mpr w2) (l1 _ (dgl_len nh k0))
      · rw [show fX8_lends_L2 (nI h) (nI (6 ^ nh)) gFu VM 0 = _ from w4]
        exact hR2.e2
  · rw [if_neg ha, if_neg ha, g00, g00]
    exact hR.e1

/-! ===== PURE: the class's steps, worked out ===== -/
theorem tat_nI {S : Nat → Int32} {k : Nat} (hk : k < 50) : tat S (nI k) = S k := by
  unfold tat
  rw [if_neg (nI_pos (by omega)), if_neg (nI_ge hk (by decide)), nI_clamp (by omega)]
theorem tset_nI {S : Nat → Int32} {k : Nat} {v : Int32} (hk : k < 50) : tset S (nI k) v = fun j => if j = k then v else S j := by
  unfold tset
  rw [if_neg (nI_pos (by omega)), if_neg (nI_ge hk (by decide)), nI_clamp (by omega)]
def stk (S : Nat → Int32) (st : List Int32) : Prop := ∀ k, k < st.length → S (st.length - 1 - k) = st.getD k 0
theorem stk.push {S : Nat → Int32} {st : List Int32} {v : Int32} (h : stk S st) : stk (fun j => if j = st.length then v else S j) (v :: st) := fun k hk => by
  rw [List.length_cons] at hk ⊢
  rcases k with _ | k
  · show (if st.length + 1 - 1 - 0 = st.length then v else S (st.length + 1 - 1 - 0)) = v
    rw [if_pos (by omega)]
  · show (if st.length + 1 - 1 - (k + 1) = st.length then v else S (st.length + 1 - 1 - (k + 1))) = st.getD k 0
    rw [if_neg (by omega), show st.length + 1 - 1 - (k + 1) = st.length - 1 - k by omega, h k (by omega)]
theorem stk.tl {S : Nat → Int32} {x : Int32} {r : List Int32} (h : stk S (x :: r)) : S r.length = x ∧ stk S r := by
  refine ⟨?_, fun k hk => ?_⟩
  · have := h 0 (by rw [List.length_cons]; omega)
    rw [List.length_cons, show r.length + 1 - 1 - 0 = r.length by omega] at this
    exact this
  · have := h (k + 1) (by rw [List.length_cons]; omega)
    rw [List.length_cons, show r.length + 1 - 1 - (k + 1) = r.length - 1 - k by omega] at this
    exact this
theorem tv_L {a b c : Int32} {T : Nat → Int32} {n : Nat} (hn : n ≤ 50) : ∀ (l st : List Int32) (i fu : Nat) (S : Nat → Int32) (v : Int32) (st' : List Int32), (∀ j, j < l.length → T (i + j) = l.getD j 0) → n = i + l.length → st.length ≤ i → l.length < fu → stk S st → evS a b c l st = some (v :: st') → ∃ S', tvL T (nI n) a b c fu S (nI st.length + -1) (nI i) = some (v, S') := by
  intro l
  induction l with
  | nil =>
    intro st i fu S v st' hT hni hst hfu hs he
    obtain ⟨fu, rfl⟩ : ∃ f', fu = f' + 1 := ⟨fu - 1, by omega⟩
    have e : st = v :: st' := Option.some.inj he
    subst e
    rw [List.length_nil] at hni
    rw [List.length_cons] at hst ⊢
    refine ⟨S, ?_⟩
    rw [tvL_succ, if_pos (nI_le (by omega) (by omega)), nI_m1, tat_nI (by omega), hs.tl.1]
  | cons s l ih =>
    intro st i fu S v st' hT hni hst hfu hs he
    obtain ⟨fu, rfl⟩ : ∃ f', fu = f' + 1 := ⟨fu - 1, by omega⟩
    rw [List.length_cons] at hni hfu
    have hTs : T i = s := hT 0 (by rw [List.length_cons]; omega)
    have hT' : ∀ j, j < l.length → T (i + 1 + j) = l.getD j 0 := fun j hj => by
      rw [show i + 1 + j = i + (j + 1) by omega]
      exact hT (j + 1) (by rw [List.length_cons]; omega)
    have he' : (ev1 a b c s st).bind (evS a b c l) = some (v :: st') := he
    rw [tvL_succ, if_neg (nI_ge (by omega) (by omega)), tat_nI (by omega), hTs, nI_1]
    unfold ev1 at he'
    by_cases h3 : s < -3
    · rw [if_pos h3] at he' ⊢
      by_cases h33 : s = -33
      · rw [if_pos h33] at he' ⊢
        rcases st with _ | ⟨x, r⟩
        · exact nomatch he'
        · obtain ⟨q1, q2⟩ := hs.tl
          rw [List.length_cons] at hst ⊢
          rw [nI_m1, tat_nI (by omega), q1, tset_nI (by omega)]
          have := ih ((if x = 0 then 1 else 0) :: r) (i + 1) fu (fun j => if j = r.length then (if x = 0 then 1 else 0) else S j) v st' hT' (by omega) (by rw [List.length_cons]; omega) (by omega) q2.push he'
          rw [List.length_cons, nI_m1] at this
          exact this
      · rw [if_neg h33] at he' ⊢
        rcases st with _ | ⟨y, _ | ⟨x, r⟩⟩
        · exact nomatch he'
        · exact nomatch he'
        · obtain ⟨q1, q2⟩ := hs.tl
          obtain ⟨q3, q4⟩ := q2.tl
          rw [List.length_cons] at q1
          rw [List.length_cons, List.length_cons] at hst ⊢
          rw [nI_m1, nI_m1, nI_1, tat_nI (by omega), tat_nI (by omega), q1, q3, tset_nI (by omega)]
          have := ih (jnd (-s) x y :: r) (i + 1) fu (fun j => if j = r.length then jnd (-s) x y else S j) v st' hT' (by omega) (by rw [List.length_cons]; omega) (by omega) q4.push he'
          rw [List.length_cons, nI_m1] at this
          exact this
    · rw [if_neg h3] at he' ⊢
      have e1 : nI st.length + -1 + 1 = nI st.length := by rw [Int32.add_assoc, show (-1 : Int32) + 1 = 0 by decide, Int32.add_zero]
      rw [e1, tset_nI (by omega)]
      have := ih (_ :: st) (i + 1) fu (fun j => if j = st.length then (if s < 0 then (if s = -1 then a else if s = -2 then b else c) else s) else S j) v st' hT' (by omega) (by rw [List.length_cons]; omega) (by omega) hs.push he'
      rw [List.length_cons, nI_m1] at this
      exact this
def lawV (a b c : Int32) (l : List Int32) : Int32 := match evS a b c l [] with
  | some (v :: _) => v
  | _ => 0
theorem lawV_eq {a b c v : Int32} {l : List Int32} (h : Val a b c l v) : lawV a b c l = v := by
  unfold lawV
  rw [h []]
def nmU (u i : Nat) : Int32 := if i = 0 then (if u = 0 then 109 else 119) else if i = 1 then (if u = 0 then 107 else 109) else (if u = 0 then 110 else 100)
/-- some world of the model that reads these bytes -/
def aV (bs : Nat → Int32) (len u : Nat) (a b c : Int32) : gV := fun x j => if x = 0 then (if j = 7 then nI u else if j = 9 then nI len else if j = 14 then 1 else if j = 11 then a else if j = 12 then b else if j = 13 then c else 0) else bs (j - (164 + 50 * u))
theorem aV_E {bs : Nat → Int32} {len u : Nat} {a b c : Int32} (hu : u ≤ 1) (hl : len ≤ 50) : ME (aV bs len u a b c) bs len u (nmU u) := ⟨rfl, rfl, hu, hl, fun k _ => by
  show bs (164 + 50 * u + k - (164 + 50 * u)) = bs k
  congr 1
  omega, rfl, rfl, rfl⟩
theorem val_all {bs : Nat → Int32} {len u : Nat} (hu : u ≤ 1) (hl : len ≤ 50) (ho : (sPar bs len (nmU u) 60 0 0 0).1 = true) (a b c : Int32) : ∃ v, Val a b c (sPar bs len (nmU u) 60 0 0 0).2.2 v := by
  obtain ⟨v, V', -, q⟩ := m_par (aV_E (a := a) (b := b) (c := c) hu hl) 60 0 0 0 (aV bs len u a b c) (by omega) (by omega) (by omega) (by omega) ⟨fun _ _ _ => rfl, rfl, rfl, rfl⟩
  unfold mPost at q
  rw [if_pos ho] at q
  exact ⟨v, q.2⟩
theorem val_ne {a b c v : Int32} {l : List Int32} (h : Val a b c l v) : l ≠ [] := fun q => by
  subst q
  have := Option.some.inj (h [])
  exact nomatch this
/-- the steps of a good text stand for their law -/
theorem TK_new {bs T : Nat → Int32} {len u : Nat} {L : lW} (hu : u ≤ 1) (hl : len ≤ 50) (ho : (sPar bs len (nmU u) 60 0 0 0).1 = true) (hT : ∀ k, k < (sPar bs len (nmU u) 60 0 0 0).2.2.length → T k = (sPar bs len (nmU u) 60 0 0 0).2.2.getD k 0) (hL : ∀ a b c, L u a b c = hold u (lawV a b c (sPar bs len (nmU u) 60 0 0 0).2.2)) : TK u (nI (sPar bs len (nmU u) 60 0 0 0).2.2.length) T L := by
  have hnm : ∀ i, i < 3 → ¬ nmU u i = -1 := (aV_E (bs := bs) (a := 0) (b := 0) (c := 0) hu hl).nm1
  obtain ⟨b1, b2, b3⟩ := sPar_B (bs := bs) hnm 60 0 0 0 (Nat.zero_le len)
  have b4 := b3 ho
  refine ⟨fun q => ?_, fun _ a b c S => ?_⟩
  · obtain ⟨v, hv⟩ := val_all hu hl ho 0 0 0
    have h0 : (sPar bs len (nmU u) 60 0 0 0).2.2.length = 0 := pI_inj (b := 0) (by omega) (by decide) q
    exact absurd (List.eq_nil_of_length_eq_zero h0) (val_ne hv)
  · obtain ⟨v, hv⟩ := val_all hu hl ho a b c
    obtain ⟨S', e⟩ := tv_L (a := a) (b := b) (c := c) (T := T) (n := (sPar bs len (nmU u) 60 0 0 0).2.2.length) (by omega) (sPar bs len (nmU u) 60 0 0 0).2.2 [] 0 gFu S v [] (fun j hj => by rw [Nat.zero_add]; exact hT j hj) (by omega) (Nat.le_refl _) (by unfold gFu; omega) (fun k hk => absurd hk (by simp)) (hv [])
    exact ⟨v, S', e, by rw [hL, lawV_eq hv]⟩
/-! the model's walk -/
theorem m_walks {V : gV} {bs : Nat → Int32} {len u : Nat} (hu : u ≤ 1) (hl : len ≤ 50) (h6 : V 1 (6 + u) = nI len) (hb : ∀ k, k < len → V 1 (164 + 50 * u + k) = bs k) (a b c : Int32) : ∃ v V', fX8_walks V (nI u) a b c = some (v, V') ∧ Scr V V' ∧ V' 0 8 = nI (sPar bs len (nmU u) 60 0 0 0).2.1 ∧ (((sPar bs len (nmU u) 60 0 0 0).1 = true ∧ (sPar bs len (nmU u) 60 0 0 0).2.1 = len → V' 0 14 = 1 ∧ Val a b c (sPar bs len (nmU u) 60 0 0 0).2.2 v)) ∧ (¬ ((sPar bs len (nmU u) 60 0 0 0).1 = true ∧ (sPar bs len (nmU u) 60 0 0 0).2.1 = len) → V' 0 14 = 0) := by
  unfold fX8_walks
  simp only [Nat.reduceAdd, gbi_some, gbr_some, gbv_some, gpu_eq, glt_eq, gjn_eq, r1_0, r1_1, r1_2, r1_3, r1_4, r1_5, w1_0, w1_1, w1_2, w1_3, w1_4, w1_5]
  rw [show (6 : Int32) + nI u = nI (6 + u) from pI_add 6 u, r1_at (6 + u) rfl (by omega), gup_row _ _ _ (by omega), gup_row _ _ _ (by omega), h6]
  generalize hW : gup (gup (gup (gup (gup (gup (gup (gup V 0 7 (nI u)) 0 8 0) 0 9 (nI len)) 0 10 0) 0 14 1) 0 11 a) 0 12 b) 0 13 c = W
  have w7 : W 0 7 = nI u := by rw [← hW]; simp [gup]
  have w8 : W 0 8 = 0 := by rw [← hW]; simp [gup]
  have w9 : W 0 9 = nI len := by rw [← hW]; simp [gup]
  have w10 : W 0 10 = 0 := by rw [← hW]; simp [gup]
  have w11 : W 0 11 = a := by rw [← hW]; simp [gup]
  have w12 : W 0 12 = b := by rw [← hW]; simp [gup]
  have w13 : W 0 13 = c := by rw [← hW]; simp [gup]
  have w14 : W 0 14 = 1 := by rw [← hW]; simp [gup]
  have wS : Scr V W := fun x j q => by
    rw [← hW, gup_ne _ _ (by omega), gup_ne _ _ (by omega), gup_ne _ _ (by omega), gup_ne _ _ (by omega), gup_ne _ _ (by omega), gup_ne _ _ (by omega), gup_ne _ _ (by omega), gup_ne _ _ (by omega)]
  have hE : ME W bs len u (nmU u) := ⟨w7, w9, hu, hl, fun k hk => by rw [wS.row (by decide)]; exact hb k hk, rfl, rfl, rfl⟩
  obtain ⟨b1, b2, b3⟩ := sPar_B (bs := bs) hE.nm1 60 0 0 0 (Nat.zero_le len)
  obtain ⟨v, V1, e1, q1⟩ := m_par hE 60 0 0 0 W (by omega) (by omega) (by omega) (by omega) ⟨fun _ _ _ => rfl, w8, w10, w14⟩
  rw [show fpaX8 60 5 W = _ from e1, gbi_some]
  unfold mPost at q1
  rw [w11, w12, w13] at q1
  have scr : ∀ (V2 : gV) (z : Int32), MR W V2 → Scr V (gup V2 0 14 z) := fun V2 z h x j q => by
    rw [gup_ne _ _ (by omega), h x j (by omega)]
    exact wS x j q
  by_cases ho : (sPar bs len (nmU u) 60 0 0 0).1 = true
  · rw [if_pos ho] at q1
    obtain ⟨h, hv⟩ := q1
    rw [h.2.2.2, if_neg (show ¬ (1 : Int32) = 0 by decide), h.2.1, show V1 0 9 = nI len from (h.1 0 9 (by omega)).trans w9]
    by_cases hq : (sPar bs len (nmU u) 60 0 0 0).2.1 = len
    · rw [if_pos (by rw [hq])]
      exact ⟨v, _, rfl, scr _ _ h.1, (gup_ne _ _ (by omega)).trans h.2.1, fun _ => ⟨gup_at _ _ _ _, hv⟩, fun w => absurd ⟨ho, hq⟩ w⟩
    · rw [if_neg (fun w => hq (pI_inj (by omega) (by omega) w))]
      exact ⟨v, _, rfl, scr _ _ h.1, (gup_ne _ _ (by omega)).trans h.2.1, fun w => absurd w.2 hq, fun _ => gup_at _ _ _ _⟩
  · rw [if_neg ho] at q1
    rw [q1.2.2, if_pos rfl]
    exact ⟨v, _, rfl, scr _ _ q1.1, (gup_ne _ _ (by omega)).trans q1.2.1, fun w => absurd w.1 ho, fun _ => gup_at _ _ _ _⟩
theorem hold_0 (v : Int32) : (if (1 : Int32) ≤ v then (if v ≤ 99 then v else 99) else 1) = hold 0 v := by
  unfold hold gmx gmn
  rw [if_pos rfl]
  by_cases h2 : v < 99
  · rw [if_pos h2]
    by_cases h1 : (1 : Int32) ≤ v
    · rw [if_pos h1, if_pos (Int32.le_of_lt h2)]
      by_cases h3 : (1 : Int32) < v
      · rw [if_pos h3]
      · rw [if_neg h3]
        exact Int32.le_antisymm (Int32.not_lt.mp h3) h1
    · rw [if_neg h1, if_neg (fun q => h1 (Int32.le_of_lt q))]
  · have h4 : (99 : Int32) ≤ v := Int32.not_lt.mp h2
    rw [if_neg h2, if_pos (show (1 : Int32) < 99 by decide), if_pos (Int32.le_trans (by decide) h4)]
    by_cases h5 : v ≤ 99
    · rw [if_pos h5]
      exact Int32.le_antisymm h5 h4
    · rw [if_neg h5]
theorem hold_1 (v : Int32) : (if (0 : Int32) ≤ v then (if v ≤ 99 then v else 99) else 0) = hold 1 v := by
  unfold hold gmx gmn
  rw [if_neg (show ¬ (1 = 0) by decide)]
  by_cases h2 : v < 99
  · rw [if_pos h2]
    by_cases h1 : (0 : Int32) ≤ v
    · rw [if_pos h1, if_pos (Int32.le_of_lt h2)]
      by_cases h3 : (0 : Int32) < v
      · rw [if_pos h3]
      · rw [if_neg h3]
        exact Int32.le_antisymm (Int32.not_lt.mp h3) h1
    · rw [if_neg h1, if_neg (fun q => h1 (Int32.le_of_lt q))]
  · have h4 : (99 : Int32) ≤ v := Int32.not_lt.mp h2
    rw [if_neg h2, if_pos (show (0 : Int32) < 99 by decide), if_pos (Int32.le_trans (by decide) h4)]
    by_cases h5 : v ≤ 99
    · rw [if_pos h5]
      exact Int32.le_antisymm h5 h4
    · rw [if_neg h5]
theorem hold_ok (v : Int32) : (∃ n, 1 ≤ n ∧ n ≤ 99 ∧ hold 0 v = nI n) ∧ ∃ n, n ≤ 99 ∧ hold 1 v = nI n := by
  rw [← hold_0, ← hold_1]
  refine ⟨?_, ?_⟩
  · by_cases h1 : 1 ≤ v
    · rw [if_pos h1]
      by_cases h2 : v ≤ 99
      · rw [if_pos h2]
        obtain ⟨n, hn, rfl⟩ := rngc (n := 99) (by decide) (show 0 ≤ v ∧ v ≤ nI 99 from ⟨Int32.le_trans (by decide) h1, h2⟩)
        exact ⟨n, (pI_le_iff (a := 1) (by decide) (by omega)).mp h1, hn, rfl⟩
      · rw [if_neg h2]
        exact ⟨99, by decide, by decide, rfl⟩
    · rw [if_neg h1]
      exact ⟨1, by decide, by decide, rfl⟩
  · by_cases h1 : 0 ≤ v
    · rw [if_pos h1]
      by_cases h2 : v ≤ 99
      · rw [if_pos h2]
        obtain ⟨n, hn, rfl⟩ := rngc (n := 99) (by decide) (show 0 ≤ v ∧ v ≤ nI 99 from ⟨h1, h2⟩)
        exact ⟨n, hn, rfl⟩
      · rw [if_neg h2]
        exact ⟨99, by decide, rfl⟩
    · rw [if_neg h1]
      exact ⟨0, by decide, rfl⟩
/-- a good text of the model stands for its law -/
theorem ML1_new {r : rR} {bs : Nat → Int32} {len u : Nat} {L : lW} (hu : u ≤ 1) (hl : len ≤ 50) (h6 : r (6 + u) = nI len) (hb : ∀ k, k < len → r (164 + 50 * u + k) = bs k) (ho : (sPar bs len (nmU u) 60 0 0 0).1 = true ∧ (sPar bs len (nmU u) 60 0 0 0).2.1 = len) (hL : ∀ a b c, L u a b c = hold u (lawV a b c (sPar bs len (nmU u) 60 0 0 0).2.2)) : ML1 u r L := fun V q1 q2 a b c => by
  obtain ⟨v, V', e, hS, -, hg, -⟩ := m_walks (V := V) (bs := bs) hu hl (q1.trans h6) (fun k hk => (q2 _ (by omega) (by omega)).trans (hb k hk)) a b c
  obtain ⟨-, hv⟩ := hg ho
  refine ⟨V', ?_, hS⟩
  unfold fX8_lawOf
  simp only [Nat.reduceAdd, gbi_some, gbr_some, gbv_some, gpu_eq, glt_eq, gjn_eq, r1_0, r1_1, r1_2, r1_3, r1_4, r1_5, w1_0, w1_1, w1_2, w1_3, w1_4, w1_5]
  rw [show (6 : Int32) + nI u = nI (6 + u) from pI_add 6 u]
  have huc : u = 0 ∨ u = 1 := by omega
  rcases huc with rfl | rfl
  · rw [if_pos (show nI 0 = 0 from rfl), r1_at (6 + 0) rfl (by omega), q1, h6, if_neg (nI_pos (by omega)), e, gbi_some, m_held, gbi_some, hL, lawV_eq hv, hold_0]
  · rw [if_neg (show ¬ nI 1 = 0 by decide), r1_at (6 + 1) rfl (by omega), q1, h6, if_neg (nI_pos (by omega)), e, gbi_some, m_held, gbi_some, hL, lawV_eq hv, hold_1]

/-! ===== PURE: the class reads ===== -/
def CR (V0 V : gV) : Prop := (∀ x, x ≠ 91 → x ≠ 92 → x ≠ 93 → V x = V0 x) ∧ (∀ k, k ≠ 4 → k ≠ 5 → V 91 k = V0 91 k) ∧ ∀ k, k ≠ 2 → V 92 k = V0 92 k
def CS (V0 V : gV) (p : Nat) (l : List Int32) : Prop := CR V0 V ∧ V 91 4 = nI p ∧ V 91 5 = -1 ∧ V 92 2 = nI l.length ∧ ∀ k, k < l.length → V 93 k = l.getD k 0
def CF (V0 V : gV) (q : Nat) : Prop := CR V0 V ∧ V 91 5 = nI q
def CE (V0 : gV) (bs : Nat → Int32) (len : Nat) (nm : Nat → Int32) : Prop := V0 91 3 = nI len ∧ len ≤ 50 ∧ (∀ k, k < 50 → V0 95 k = bs k) ∧ ∀ k, k < 3 → V0 96 k = nm k
def cPost (V0 : gV) (l0 : List Int32) (R : pR) (V' : gV) : Prop := if R.1 = true then CS V0 V' R.2.1 (l0 ++ R.2.2) else CF V0 V' R.2.1
theorem cP_t {V0 V' : gV} {l0 l : List Int32} {p : Nat} (h : CS V0 V' p (l0 ++ l)) : cPost V0 l0 (true, p, l) V' := h
theorem cP_f {V0 V' : gV} {l0 : List Int32} {p : Nat} (h : CF V0 V' p) : cPost V0 l0 (false, p, []) V' := h
section CL
variable {V0 V : gV} {bs nm : Nat → Int32} {len p q : Nat} {l : List Int32} {s : Int32}
theorem c_next (hE : CE V0 bs len nm) (h : CS V0 V p l) (hp : p ≤ 50) : fX2_next V 91 = some (pby bs len p, V) := by
  obtain ⟨e1, e2, e3, e4⟩ := hE
  unfold fX2_next pby
  rw [h.1.2.1 3 (by omega) (by omega), e1, h.2.1]
  by_cases hl : p < len
  · rw [if_neg (nI_ge hl (by omega)), if_pos hl, eX_at p rfl (by omega) (by decide), gbi_some, h.1.1 _ (by omega) (by omega) (by omega), e3 p (by omega)]
  · rw [if_pos (nI_le (by omega) (by omega)), if_neg hl]
theorem c_nextF : ∃ x, fX2_next V 91 = some (x, V) := by
  unfold fX2_next
  by_cases h : V 91 3 ≤ V 91 4
  · rw [if_pos h]
    exact ⟨_, rfl⟩
  · rw [if_neg h, x_at50, gbi_some]
    exact ⟨_, rfl⟩
theorem c_fail (h : CS V0 V p l) : ∃ V', fX2_failHere V 91 = some V' ∧ CF V0 V' p := by
  unfold fX2_failHere
  rw [h.2.2.1, if_neg (by decide), gpu_eq, h.2.1]
  exact ⟨_, rfl, ⟨fun x a b c => (gup_row _ _ _ a).trans (h.1.1 x a b c), fun k a b => (gup_ne _ _ (by omega)).trans (h.1.2.1 k a b), fun k a => (gup_ne _ _ (by omega)).trans (h.1.2.2 k a)⟩, gup_at _ _ _ _⟩
theorem c_failF (hq : q < 2 ^ 31) (h : CF V0 V q) : fX2_failHere V 91 = some V := by
  unfold fX2_failHere
  rw [h.2, if_pos (nI_pos' hq)]
theorem c_rank (b : Int32) : fX2_rankOf V b = some (rkB b, V) := by
  unfold fX2_rankOf rkB
  repeat' split
  all_goals rfl
theorem c_add (h : CS V0 V p l) (hl : l.length < 50) : ∃ V', fX4_add V 92 s = some V' ∧ CS V0 V' p (l ++ [s]) := by
  unfold fX4_add
  simp only [Nat.reduceAdd]
  rw [h.2.2.2.1, eX_setAt l.length rfl hl (by decide), gbv_some, gpu_eq, gup_ne _ _ (by omega), h.2.2.2.1, nI_1]
  refine ⟨_, rfl, ⟨fun x a b c => ?_, fun k a b => ?_, fun k a => ?_⟩, ?_, ?_, ?_, fun k hk => ?_⟩
  · rw [gup_row _ _ _ b, gup_row _ _ _ c]; exact h.1.1 x a b c
  · rw [gup_ne _ _ (by omega), gup_ne _ _ (by omega)]; exact h.1.2.1 k a b
  · rw [gup_ne _ _ (by omega), gup_ne _ _ (by omega)]; exact h.1.2.2 k a
  · rw [gup_ne _ _ (by omega), gup_ne _ _ (by omega)]; exact h.2.1
  · rw [gup_ne _ _ (by omega), gup_ne _ _ (by omega)]; exact h.2.2.1
  · rw [gup_at, List.length_append, List.length_singleton]
  · rw [List.length_append, List.length_singleton] at hk
    rw [gup_row (c := 92) (a := 93) _ _ _ (by omega), List.getD_eq_getElem?_getD]
    by_cases hkl : k = l.length
    · subst hkl
      rw [gup_at, List.getElem?_append_right (Nat.le_refl _), Nat.sub_self]
      rfl
    · rw [gup_ne _ _ (by omega), List.getElem?_append_left (by omega), ← List.getD_eq_getElem?_getD]
      exact h.2.2.2.2 k (by omega)
theorem c_addF (h : CF V0 V q) : ∃ V', fX4_add V 92 s = some V' ∧ CF V0 V' q := by
  unfold fX4_add
  simp only [Nat.reduceAdd]
  rw [x_set50, gbv_some, gpu_eq]
  refine ⟨_, rfl, ⟨fun x a b c => ?_, fun k a b => ?_, fun k a => ?_⟩, ?_⟩
  · rw [gup_row _ _ _ b, cel_ne _ _ c]; exact h.1.1 x a b c
  · rw [gup_ne _ _ (by omega), cel_ne _ _ (by decide)]; exact h.1.2.1 k a b
  · rw [gup_ne _ _ (by omega), cel_ne _ _ (by decide)]; exact h.1.2.2 k a
  · rw [gup_ne _ _ (by omega), cel_ne _ _ (by decide)]; exact h.2
theorem CS.step (h : CS V0 V p l) : CS V0 (gup V 91 4 (V 91 4 + 1)) (p + 1) l := by
  refine ⟨⟨fun x a b c => ?_, fun k a b => ?_, fun k a => ?_⟩, ?_, ?_, ?_, fun k hk => ?_⟩
  · rw [gup_row _ _ _ a]; exact h.1.1 x a b c
  · rw [gup_ne _ _ (by omega)]; exact h.1.2.1 k a b
  · rw [gup_ne _ _ (by omega)]; exact h.1.2.2 k a
  · rw [gup_at, h.2.1, nI_1]
  · rw [gup_ne _ _ (by omega)]; exact h.2.2.1
  · rw [gup_ne _ _ (by omega)]; exact h.2.2.2.1
  · rw [gup_ne _ _ (by omega)]; exact h.2.2.2.2 k hk
theorem CF.step {v : Int32} (h : CF V0 V q) : CF V0 (gup V 91 4 v) q := by
  refine ⟨⟨fun x a b c => ?_, fun k a b => ?_, fun k a => ?_⟩, ?_⟩
  · rw [gup_row _ _ _ a]; exact h.1.1 x a b c
  · rw [gup_ne _ _ (by omega)]; exact h.1.2.1 k a b
  · rw [gup_ne _ _ (by omega)]; exact h.1.2.2 k a
  · rw [gup_ne _ _ (by omega)]; exact h.2
end CL
/-- what a reader behind rank rk owes the loop -/
def cSub (V0 : gV) (bs : Nat → Int32) (len : Nat) (l0 : List Int32) (f : Nat → pR) (g : gV → Option gV) : Prop := ∀ (p : Nat) (l : List Int32) (V : gV), p ≤ len → (l0 ++ l).length ≤ p → CS V0 V p (l0 ++ l) → ∃ V', g V = some V' ∧ cPost V0 (l0 ++ l) (f p) V'
theorem c_loop1 {V0 : gV} {bs nm : Nat → Int32} {len rk op : Nat} {rc : Nat → gV → Nat → Int32 → Int32 → Option gV} {f : Nat → pR} {l0 : List Int32} (hE : CE V0 bs len nm) (hrk : rk ≤ 4) (hB : ∀ p, p ≤ len → pB len p (f p)) (hf : cSub V0 bs len l0 f (fun V => rc 0 V 91 (nI rk + 1) (nI op))) : ∀ (k fu i p : Nat) (l : List Int32) (V : gV), i + k = 50 → k < fu → p ≤ len → (l0 ++ l).length ≤ p → CS V0 V p (l0 ++ l) → ∃ V', fX2_readChain_L1 rc 91 (nI rk) (nI op) fu V (nI i) = some V' ∧ cPost V0 l0 (sLoop bs len f rk k p l) V' := by
  have h50 := hE.2.1
  intro k
  induction k with
  | zero =>
    intro fu i p l V h1 h2 hp hl hC
    obtain ⟨fu, rfl⟩ : ∃ f', fu = f' + 1 := ⟨fu - 1, by omega⟩
    refine ⟨V, ?_, cP_t hC⟩
    show fX2_readChain_L1b _ _ _ _ _ V (nI i) = _
    unfold fX2_readChain_L1b
    rw [if_pos (show 50 ≤ nI i from nI_le (a := 50) (by omega) (by omega))]
  | succ k ih =>
    intro fu i p l V h1 h2 hp hl hC
    obtain ⟨fu, rfl⟩ : ∃ f', fu = f' + 1 := ⟨fu - 1, by omega⟩
    show ∃ V', fX2_readChain_L1b _ _ _ _ _ V (nI i) = _ ∧ _
    unfold fX2_readChain_L1b sLoop
    simp only [Nat.reduceAdd]
    rw [if_neg (show ¬ 50 ≤ nI i from nI_ge (b := 50) (by omega) (by decide)), hC.2.2.1, if_neg (show ¬ (0 : Int32) ≤ -1 by decide), c_next hE hC (by omega), gbi_some, c_rank, gbi_some]
    by_cases hq : rkB (pby bs len p) = nI rk
    · have hplt := rk_lt hrk hq
      obtain ⟨b1, b2, b3⟩ := hB (p + 1) (by omega)
      obtain ⟨V1, e1, q1⟩ := hf (p + 1) l _ (by omega) (by omega) hC.step
      rw [if_pos hq, if_pos hq, c_next hE hC (by omega), gbi_some, gpu_eq, show rc 0 (gup V 91 4 (V 91 4 + 1)) 91 (nI rk + 1) (nI op) = _ from e1, gbv_some, nI_1]
      by_cases ho : (f (p + 1)).1 = true
      · have b4 := b3 ho
        unfold cPost at q1
        rw [if_pos ho] at q1
        rw [if_pos ho]
        obtain ⟨V2, e2, q2⟩ := c_add (s := -(pby bs len p)) q1 (by rw [List.length_append]; omega)
        rw [e2, gbv_some]
        rw [List.append_assoc, List.append_assoc] at q2
        refine ih fu (i + 1) _ _ V2 (by omega) (by omega) b2 ?_ q2
        rw [List.length_append] at hl
        rw [List.length_append, List.length_append, List.length_append, List.length_singleton]
        omega
      · unfold cPost at q1
        rw [if_neg ho] at q1
        rw [if_neg ho]
        obtain ⟨V2, e2, q2⟩ := c_addF (s := -(pby bs len p)) q1
        rw [e2, gbv_some]
        obtain ⟨fu, rfl⟩ : ∃ f', fu = f' + 1 := ⟨fu - 1, by omega⟩
        refine ⟨V2, ?_, cP_f q2⟩
        show fX2_readChain_L1b _ _ _ _ _ V2 _ = _
        unfold fX2_readChain_L1b
        rw [q2.2, if_pos (show 0 ≤ nI (f (p + 1)).2.1 from nI_pos' (by omega)), ite_self]
    · rw [if_neg hq, if_neg hq]
      exact ⟨V, rfl, cP_t hC⟩
theorem c_loop2 {V0 : gV} {bs nm : Nat → Int32} {len rk op : Nat} {rc : Nat → gV → Nat → Int32 → Int32 → Option gV} {f : Nat → pR} {l0 : List Int32} (hE : CE V0 bs len nm) (hrk : rk ≤ 4) (hB : ∀ p, p ≤ len → pB len p (f p)) (hf : cSub V0 bs len l0 f (fun V => rc 0 V 91 (nI rk + 1) (nI op))) : ∀ (k fu i p : Nat) (l : List Int32) (V : gV), i + k = 1 → k < fu → p ≤ len → (l0 ++ l).length ≤ p → CS V0 V p (l0 ++ l) → ∃ V', fX2_readChain_L2 rc 91 (nI rk) (nI op) fu V (nI i) = some V' ∧ cPost V0 l0 (sLoop bs len f rk k p l) V' := by
  have h50 := hE.2.1
  intro k
  induction k with
  | zero =>
    intro fu i p l V h1 h2 hp hl hC
    obtain ⟨fu, rfl⟩ : ∃ f', fu = f' + 1 := ⟨fu - 1, by omega⟩
    refine ⟨V, ?_, cP_t hC⟩
    show fX2_readChain_L2b _ _ _ _ _ V (nI i) = _
    unfold fX2_readChain_L2b
    rw [if_pos (show 1 ≤ nI i from nI_le (a := 1) (by omega) (by omega))]
  | succ k ih =>
    intro fu i p l V h1 h2 hp hl hC
    obtain ⟨fu, rfl⟩ : ∃ f', fu = f' + 1 := ⟨fu - 1, by omega⟩
    show ∃ V', fX2_readChain_L2b _ _ _ _ _ V (nI i) = _ ∧ _
    unfold fX2_readChain_L2b sLoop
    simp only [Nat.reduceAdd]
    rw [if_neg (show ¬ 1 ≤ nI i from nI_ge (b := 1) (by omega) (by decide)), hC.2.2.1, if_neg (show ¬ (0 : Int32) ≤ -1 by decide), c_next hE hC (by omega), gbi_some, c_rank, gbi_some]
    by_cases hq : rkB (pby bs len p) = nI rk
    · have hplt := rk_lt hrk hq
      obtain ⟨b1, b2, b3⟩ := hB (p + 1) (by omega)
      obtain ⟨V1, e1, q1⟩ := hf (p + 1) l _ (by omega) (by omega) hC.step
      rw [if_pos hq, if_pos hq, c_next hE hC (by omega), gbi_some, gpu_eq, show rc 0 (gup V 91 4 (V 91 4 + 1)) 91 (nI rk + 1) (nI op) = _ from e1, gbv_some, nI_1]
      by_cases ho : (f (p + 1)).1 = true
      · have b4 := b3 ho
        unfold cPost at q1
        rw [if_pos ho] at q1
        rw [if_pos ho]
        obtain ⟨V2, e2, q2⟩ := c_add (s := -(pby bs len p)) q1 (by rw [List.length_append]; omega)
        rw [e2, gbv_some]
        rw [List.append_assoc, List.append_assoc] at q2
        refine ih fu (i + 1) _ _ V2 (by omega) (by omega) b2 ?_ q2
        rw [List.length_append] at hl
        rw [List.length_append, List.length_append, List.length_append, List.length_singleton]
        omega
      · unfold cPost at q1
        rw [if_neg ho] at q1
        rw [if_neg ho]
        obtain ⟨V2, e2, q2⟩ := c_addF (s := -(pby bs len p)) q1
        rw [e2, gbv_some]
        obtain ⟨fu, rfl⟩ : ∃ f', fu = f' + 1 := ⟨fu - 1, by omega⟩
        refine ⟨V2, ?_, cP_f q2⟩
        show fX2_readChain_L2b _ _ _ _ _ V2 _ = _
        unfold fX2_readChain_L2b
        rw [q2.2, if_pos (show 0 ≤ nI (f (p + 1)).2.1 from nI_pos' (by omega)), ite_self]
    · rw [if_neg hq, if_neg hq]
      exact ⟨V, rfl, cP_t hC⟩
theorem c_num {V0 : gV} {bs nm : Nat → Int32} {len : Nat} {l : List Int32} (hE : CE V0 bs len nm) (hl : l.length < 50) : ∀ (k fu i p : Nat) (v : Int32) (V : gV), i + k = 4 → k < fu → p ≤ len → CS V0 V p l → ∃ V', fX2_readNumber_L1 91 fu V v (nI i) = some V' ∧ CS V0 V' (sNum bs len k p v).1 (l ++ [(sNum bs len k p v).2]) := by
  have h50 := hE.2.1
  intro k
  induction k with
  | zero =>
    intro fu i p v V h1 h2 hp hC
    obtain ⟨fu, rfl⟩ : ∃ f', fu = f' + 1 := ⟨fu - 1, by omega⟩
    obtain ⟨V2, e2, q2⟩ := c_add (s := v) hC hl
    refine ⟨V2, ?_, q2⟩
    show fX2_readNumber_L1b _ _ V v (nI i) = _
    unfold fX2_readNumber_L1b
    rw [if_pos (show 4 ≤ nI i from nI_le (a := 4) (by omega) (by omega)), show fX4_add V (91 + 1) v = _ from e2, gbv_some]
  | succ k ih =>
    intro fu i p v V h1 h2 hp hC
    obtain ⟨fu, rfl⟩ : ∃ f', fu = f' + 1 := ⟨fu - 1, by omega⟩
    show ∃ V', fX2_readNumber_L1b _ _ V v (nI i) = _ ∧ _
    unfold fX2_readNumber_L1b sNum
    simp only [Nat.reduceAdd]
    rw [if_neg (show ¬ 4 ≤ nI i from nI_ge (b := 4) (by omega) (by decide)), c_next hE hC (by omega), gbi_some, d_within]
    by_cases hd : 48 ≤ pby bs len p ∧ pby bs len p ≤ 57
    · have hplt := dig_lt hd
      rw [if_pos hd, if_pos hd, g10, c_next hE hC (by omega), gbi_some, glt_eq, gpu_eq, nI_1]
      exact ih fu (i + 1) (p + 1) _ _ (by omega) (by omega) (by omega) hC.step
    · obtain ⟨V2, e2, q2⟩ := c_add (s := v) hC hl
      rw [if_neg hd, if_neg hd, g00, e2, gbv_some]
      exact ⟨V2, rfl, q2⟩
theorem c_name {V0 V : gV} {bs nm : Nat → Int32} {len p : Nat} {l : List Int32} {b : Int32} (hE : CE V0 bs len nm) (hl : l.length < 50) (hC : CS V0 V p l) : ∃ V', fX2_readName V 91 b = some V' ∧ cPost V0 l (if nm 0 = b then (true, p + 1, [-1]) else if nm 1 = b then (true, p + 1, [-2]) else if nm 2 = b then (true, p + 1, [-3]) else (false, p, [])) V' := by
  have e4 : ∀ k, k < 3 → V 96 k = nm k := fun k hk => by rw [hC.1.1 _ (by omega) (by omega) (by omega)]; exact hE.2.2.2 k hk
  have hit : ∀ (s : Int32), ∃ V', (gbv (fX4_add V 92 s) fun (V9 : gV) => gpu V9 91 4 ((V9 91 4) + 1) fun (V10 : gV) => some V10) = some V' ∧ cPost V0 l (true, p + 1, [s]) V' := fun s => by
    obtain ⟨V2, e2, q2⟩ := c_add (s := s) hC hl
    rw [e2, gbv_some, gpu_eq]
    exact ⟨_, rfl, cP_t q2.step⟩
  unfold fX2_readName
  have step : ∀ (f i : Nat), i < 3 → fX2_readName_L1 91 b (f + 1) V (nI i) = if nm i = b then (gbv (fX4_add V 92 (-1 - nI i)) fun (V9 : gV) => gpu V9 91 4 ((V9 91 4) + 1) fun (V10 : gV) => some V10) else fX2_readName_L1 91 b f V (nI (i + 1)) := fun f i hi => by
    show fX2_readName_L1b _ _ _ V (nI i) = _
    unfold fX2_readName_L1b
    simp only [Nat.reduceAdd]
    rw [if_neg (show ¬ 3 ≤ nI i from nI_ge (b := 3) hi (by decide)), eX_at i rfl hi (by decide), gbi_some, e4 i hi, nI_1]
  rw [show gFu = 4996 + 1 + 1 + 1 + 1 from rfl, show (0 : Int32) = nI 0 from rfl, step _ 0 (by decide), step _ 1 (by decide), step _ 2 (by decide)]
  by_cases h0 : nm 0 = b
  · rw [if_pos h0, if_pos h0]
    exact hit _
  · rw [if_neg h0, if_neg h0]
    by_cases h1 : nm 1 = b
    · rw [if_pos h1, if_pos h1]
      exact hit _
    · rw [if_neg h1, if_neg h1]
      by_cases h2 : nm 2 = b
      · rw [if_pos h2, if_pos h2]
        exact hit _
      · rw [if_neg h2, if_neg h2]
        obtain ⟨V2, e2, q2⟩ := c_fail hC
        refine ⟨V2, ?_, cP_f q2⟩
        show fX2_readName_L1b _ _ _ V (nI 3) = _
        unfold fX2_readName_L1b
        rw [if_pos (show (3 : Int32) ≤ nI 3 by decide), e2, gbv_some]

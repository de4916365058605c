/-! ===== PURE: the class's texts, by what they hold ===== -/
def tat (S : Nat → Int32) (i : Int32) : Int32 := if i < 0 then 0 else if nI 50 ≤ i then 0 else S i.toNatClampNeg
def tset (S : Nat → Int32) (i v : Int32) : Nat → Int32 := if i < 0 then S else if nI 50 ≤ i then S else fun k => if k = i.toNatClampNeg then v else S k
def jnd (s a b : Int32) : Int32 := if s = 38 then (if a = 0 then 0 else if b = 0 then 0 else 1) else if s = 42 then a * b else if s = 43 then a + b else if s = 45 then a - b else if s = 47 then (if b = 0 then 0 else a / b) else if s = 60 then (if b ≤ a then 0 else 1) else if s = 61 then (if a = b then 1 else 0) else if s = 62 then (if a ≤ b then 0 else 1) else if s = 124 then (if a = 0 then (if b = 0 then 0 else 1) else 1) else if b = 0 then 0 else grm a b
def tvL (st : Nat → Int32) (len a b c : Int32) : Nat → (Nat → Int32) → Int32 → Int32 → Option (Int32 × (Nat → Int32))
  | 0 => fun _ _ _ => none
  | n + 1 => fun S x2 x3 => if len ≤ x3 then some (tat S x2, S) else if tat st x3 < -3 then (if tat st x3 = -33 then tvL st len a b c n (tset S x2 (if tat S x2 = 0 then 1 else 0)) x2 (x3 + 1) else tvL st len a b c n (tset S (x2 + -1) (jnd (-(tat st x3)) (tat S (x2 + -1)) (tat S (x2 + -1 + 1)))) (x2 + -1) (x3 + 1)) else tvL st len a b c n (tset S (x2 + 1) (if tat st x3 < 0 then (if tat st x3 = -1 then a else if tat st x3 = -2 then b else c) else tat st x3)) (x2 + 1) (x3 + 1)
theorem tvL_succ (st : Nat → Int32) (len a b c : Int32) (n : Nat) (S : Nat → Int32) (x2 x3 : Int32) : tvL st len a b c (n + 1) S x2 x3 = (if len ≤ x3 then some (tat S x2, S) else if tat st x3 < -3 then (if tat st x3 = -33 then tvL st len a b c n (tset S x2 (if tat S x2 = 0 then 1 else 0)) x2 (x3 + 1) else tvL st len a b c n (tset S (x2 + -1) (jnd (-(tat st x3)) (tat S (x2 + -1)) (tat S (x2 + -1 + 1)))) (x2 + -1) (x3 + 1)) else tvL st len a b c n (tset S (x2 + 1) (if tat st x3 < 0 then (if tat st x3 = -1 then a else if tat st x3 = -2 then b else c) else tat st x3)) (x2 + 1) (x3 + 1)) := rfl
/-- a cell put whole -/
def cel (V : gV) (c : Nat) (S : Nat → Int32) : gV := fun x => if x = c then S else V x
theorem cel_at (V : gV) (c : Nat) (S : Nat → Int32) : cel V c S c = S := if_pos rfl
theorem cel_ne (V : gV) {c x : Nat} (S : Nat → Int32) (h : x ≠ c) : cel V c S x = V x := if_neg h
theorem cel_cel (V : gV) (c : Nat) (S T : Nat → Int32) : cel (cel V c S) c T = cel V c T := by
  funext x
  unfold cel
  split <;> rfl
theorem x_at50 (V : gV) (c : Nat) (i : Int32) : fX7_at V c 50 i = some (tat (V c) i, V) := by
  unfold tat
  rcases pk_ix i (n := 50) (by decide) with h | h | ⟨j, hj, rfl⟩
  · rw [if_pos h, eX_atOut (Or.inl h)]
  · rw [eX_atOut (Or.inr h)]
    simp [h]
  · rw [eX_at j rfl hj (by decide), if_neg (nI_pos (by omega)), if_neg (nI_ge hj (by decide)), nI_clamp (by omega)]
theorem x_set50 (V : gV) (c : Nat) (i v : Int32) : fX7_setAt V c 50 i v = some (cel V c (tset (V c) i v)) := by
  have e : ∀ S, S = V c → cel V c S = V := fun S h => by
    funext x
    unfold cel
    split
    · rename_i h1; rw [h, h1]
    · rfl
  unfold tset
  rcases pk_ix i (n := 50) (by decide) with h | h | ⟨j, hj, rfl⟩
  · rw [if_pos h, eX_setAtOut (Or.inl h), e _ rfl]
  · rw [eX_setAtOut (Or.inr h)]
    simp [h, e _ rfl]
  · rw [eX_setAt j rfl hj (by decide), if_neg (nI_pos (by omega)), if_neg (nI_ge hj (by decide)), nI_clamp (by omega)]
    congr 1
    funext x k
    unfold gup cel
    by_cases hx : x = c
    · subst hx
      simp
    · simp [hx]
theorem x_joined (V : gV) (s a b : Int32) : fX4_joined V s a b = some (jnd s a b, V) := by
  unfold fX4_joined jnd
  have g : ∀ (k : Option (Int32 × gV)), b ≠ 0 → gdv b k = k := fun k h => gdv_ne h k
  by_cases hb : b = 0
  · subst hb
    simp only [if_true]
    repeat' split
    all_goals rfl
  · rw [g _ hb, g _ hb]
    simp only [if_neg hb]
    repeat' split
    all_goals rfl
theorem x_val_L {V : gV} {c : Nat} {a b d : Int32} : ∀ (n : Nat) (S : Nat → Int32) (x2 x3 : Int32), fX4_valueWith_L1 c a b d n (cel V (c + 2) S) x2 x3 = (tvL (V (c + 1)) (V c 2) a b d n S x2 x3).map (fun q => (q.1, cel V (c + 2) q.2)) := by
  intro n
  induction n with
  | zero => intro S x2 x3; rfl
  | succ n ih =>
    intro S x2 x3
    have e1 : cel V (c + 2) S (c + 1) = V (c + 1) := cel_ne _ _ (by omega)
    have e2 : cel V (c + 2) S c = V c := cel_ne _ _ (by omega)
    show fX4_valueWith_L1b c a b d _ (cel V (c + 2) S) x2 x3 = Option.map _ (tvL (V (c + 1)) (V c 2) a b d (n + 1) S x2 x3)
    unfold fX4_valueWith_L1b
    simp only [x_at50, gbi_some, x_set50, gbv_some, x_joined, e1, e2, cel_at, cel_cel, ih]
    rw [tvL_succ]
    by_cases h1 : V c 2 ≤ x3
    · rw [if_pos h1, if_pos h1]
      rfl
    · rw [if_neg h1, if_neg h1]
      by_cases h2 : tat (V (c + 1)) x3 < -3
      · rw [if_pos h2, if_pos h2]
        by_cases h3 : tat (V (c + 1)) x3 = -33
        · rw [if_pos h3, if_pos h3]
          by_cases h4 : tat S x2 = 0
          · rw [if_pos h4, if_pos h4]
          · rw [if_neg h4, if_neg h4]
        · rw [if_neg h3, if_neg h3]
      · rw [if_neg h2, if_neg h2]
        by_cases h3 : tat (V (c + 1)) x3 < 0
        · rw [if_pos h3, if_pos h3]
          by_cases h4 : tat (V (c + 1)) x3 = -1
          · rw [if_pos h4, if_pos h4]
          · rw [if_neg h4, if_neg h4]
            by_cases h5 : tat (V (c + 1)) x3 = -2
            · rw [if_pos h5, if_pos h5]
            · rw [if_neg h5, if_neg h5]
        · rw [if_neg h3, if_neg h3]
theorem cel_self (V : gV) (c : Nat) : cel V c (V c) = V := by
  funext x
  unfold cel
  split
  · rename_i h; rw [h]
  · rfl
theorem x_val (V : gV) (c : Nat) (a b d : Int32) : fX4_valueWith V c a b d = (tvL (V (c + 1)) (V c 2) a b d gFu (V (c + 2)) (-1) 0).map (fun q => (q.1, cel V (c + 2) q.2)) := by
  unfold fX4_valueWith
  rw [← x_val_L gFu (V (c + 2)) (-1) 0, cel_self]
def hold (use : Nat) (v : Int32) : Int32 := if use = 0 then gmx 1 (gmn 99 v) else gmx 0 (gmn 99 v)
def dflt (use : Nat) (a : Int32) : Int32 := if use = 0 then 5 else 1 + a / 3
/-- a TEXT of the class stands for the law -/
def TK (use : Nat) (len : Int32) (st : Nat → Int32) (L : lW) : Prop := (len = 0 → ∀ a b c, L use a b c = hold use (dflt use a)) ∧ (¬ len = 0 → ∀ a b c S, ∃ r S', tvL st len a b c gFu S (-1) 0 = some (r, S') ∧ L use a b c = hold use r)
/-- the stacks of a world's texts alone differ -/
def Stk (w : Nat) (V V' : gV) : Prop := ∀ c, c ≠ w + 8 → c ≠ w + 11 → V' c = V c
theorem Stk.rf {w : Nat} {V : gV} : Stk w V V := fun _ _ _ => rfl
theorem Stk.tr {w : Nat} {V V1 V2 : gV} (h1 : Stk w V V1) (h2 : Stk w V1 V2) : Stk w V V2 := fun c a b => (h2 c a b).trans (h1 c a b)
theorem x_given0 {V : gV} {w : Nat} {L : lW} (h : TK 0 (V (w + 6) 2) (V (w + 7)) L) (a b c : Int32) : ∃ V', fX6_given V w 0 a b c = some (L 0 a b c, V') ∧ Stk w V V' := by
  unfold fX6_given fX4_isEmpty fX7_held
  rw [if_pos rfl]
  by_cases hl : V (w + 6) 2 = 0
  · rw [if_pos hl, gbi_some, if_neg (by decide), gbi_some]
    exact ⟨V, by rw [h.1 hl a b c]; rfl, Stk.rf⟩
  · obtain ⟨r, S', e, eL⟩ := h.2 hl a b c (V (w + 6 + 2))
    rw [if_neg hl, gbi_some, if_pos rfl, x_val, show V (w + 6 + 1) = V (w + 7) from rfl, e]
    refine ⟨cel V (w + 8) S', ?_, fun x h1 h2 => cel_ne _ _ h1⟩
    rw [eL]
    rfl
theorem x_given1 {V : gV} {w : Nat} {L : lW} (h : TK 1 (V (w + 9) 2) (V (w + 10)) L) (a b c : Int32) : ∃ V', fX6_given V w 1 a b c = some (L 1 a b c, V') ∧ Stk w V V' := by
  unfold fX6_given fX4_isEmpty fX7_held
  rw [if_neg (by decide)]
  by_cases hl : V (w + 9) 2 = 0
  · rw [if_pos hl, gbi_some, if_neg (by decide), gdv_ne (by decide), gbi_some]
    exact ⟨V, by rw [h.1 hl a b c]; rfl, Stk.rf⟩
  · obtain ⟨r, S', e, eL⟩ := h.2 hl a b c (V (w + 9 + 2))
    rw [if_neg hl, gbi_some, if_pos rfl, x_val, show V (w + 9 + 1) = V (w + 10) from rfl, e]
    refine ⟨cel V (w + 11) S', ?_, fun x h1 h2 => cel_ne _ _ h2⟩
    rw [eL]
    rfl

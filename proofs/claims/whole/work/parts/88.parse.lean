/-! ===== PURE: texts, as both sides read them ===== -/
/-- whether it holds, where the reading stands, the steps -/
abbrev pR : Type := Bool × Nat × List Int32
def pby (bs : Nat → Int32) (len p : Nat) : Int32 := if p < len then bs p else -1
def rkB (b : Int32) : Int32 := if b = 37 then 4 else if b = 38 then 1 else if b = 42 then 4 else if b = 43 then 3 else if b = 45 then 3 else if b = 47 then 4 else if b = 60 then 2 else if b = 61 then 2 else if b = 62 then 2 else if b = 124 then 0 else -1
def sLoop (bs : Nat → Int32) (len : Nat) (f : Nat → pR) (rk : Nat) : Nat → Nat → List Int32 → pR
  | 0, p, l => (true, p, l)
  | k + 1, p, l => if rkB (pby bs len p) = nI rk then (if (f (p + 1)).1 = true then sLoop bs len f rk k (f (p + 1)).2.1 (l ++ ((f (p + 1)).2.2 ++ [-(pby bs len p)])) else (false, (f (p + 1)).2.1, [])) else (true, p, l)
def sNum (bs : Nat → Int32) (len : Nat) : Nat → Nat → Int32 → Nat × Int32
  | 0, p, v => (p, v)
  | k + 1, p, v => if 48 ≤ pby bs len p ∧ pby bs len p ≤ 57 then sNum bs len k (p + 1) (10 * v + pby bs len p - 48) else (p, v)
def sPar (bs : Nat → Int32) (len : Nat) (nm : Nat → Int32) : Nat → Nat → Nat → Nat → pR
  | 0 => fun _ _ p => (false, p, [])
  | d + 1 => fun rk op p =>
    if rk ≤ 4 then (if (sPar bs len nm d (rk + 1) op p).1 = true then sLoop bs len (sPar bs len nm d (rk + 1) op) rk (if rk = 2 then 1 else 50) (sPar bs len nm d (rk + 1) op p).2.1 (sPar bs len nm d (rk + 1) op p).2.2 else (false, (sPar bs len nm d (rk + 1) op p).2.1, []))
    else if 48 ≤ pby bs len p ∧ pby bs len p ≤ 57 then (true, (sNum bs len 4 p 0).1, [(sNum bs len 4 p 0).2])
    else if pby bs len p = 33 then (if op = 5 then (false, p, []) else if (sPar bs len nm d 5 (op + 1) (p + 1)).1 = true then (true, (sPar bs len nm d 5 (op + 1) (p + 1)).2.1, (sPar bs len nm d 5 (op + 1) (p + 1)).2.2 ++ [-33]) else (false, (sPar bs len nm d 5 (op + 1) (p + 1)).2.1, []))
    else if pby bs len p = 40 then (if op = 5 then (false, p, []) else if (sPar bs len nm d 0 (op + 1) (p + 1)).1 = true then (if pby bs len (sPar bs len nm d 0 (op + 1) (p + 1)).2.1 = 41 then (true, (sPar bs len nm d 0 (op + 1) (p + 1)).2.1 + 1, (sPar bs len nm d 0 (op + 1) (p + 1)).2.2) else (false, (sPar bs len nm d 0 (op + 1) (p + 1)).2.1, [])) else (false, (sPar bs len nm d 0 (op + 1) (p + 1)).2.1, []))
    else if nm 0 = pby bs len p then (true, p + 1, [-1])
    else if nm 1 = pby bs len p then (true, p + 1, [-2])
    else if nm 2 = pby bs len p then (true, p + 1, [-3])
    else (false, p, [])
theorem pby_lt {bs : Nat → Int32} {len p : Nat} (h : ¬ pby bs len p = -1) : p < len := by
  by_cases q : p < len
  · exact q
  · exact absurd (if_neg q) h
theorem pby_end {bs : Nat → Int32} {len p : Nat} (h : len ≤ p) : pby bs len p = -1 := if_neg (by omega)
theorem rk_lt {bs : Nat → Int32} {len p rk : Nat} (hrk : rk ≤ 4) (h : rkB (pby bs len p) = nI rk) : p < len := pby_lt (fun q => by
  rw [q, show rkB (-1) = -1 by decide] at h
  exact nI_pos (show rk < 2 ^ 31 by omega) (by rw [← h]; decide))
theorem dig_lt {bs : Nat → Int32} {len p : Nat} (h : 48 ≤ pby bs len p ∧ pby bs len p ≤ 57) : p < len := pby_lt (fun q => by
  rw [q] at h
  exact absurd h.1 (by decide))
/-- where a result stands, and how many steps it has at most -/
def pB (len p : Nat) (R : pR) : Prop := p ≤ R.2.1 ∧ R.2.1 ≤ len ∧ (R.1 = true → R.2.2.length ≤ R.2.1 - p)
theorem sLoop_B {bs : Nat → Int32} {len rk : Nat} {f : Nat → pR} (hrk : rk ≤ 4) (hf : ∀ p, p ≤ len → pB len p (f p)) : ∀ (k p p0 : Nat) (l : List Int32), p0 ≤ p → p ≤ len → l.length ≤ p - p0 → pB len p0 (sLoop bs len f rk k p l)
  | 0, p, p0, l, h0, h1, h2 => ⟨h0, h1, fun _ => h2⟩
  | k + 1, p, p0, l, h0, h1, h2 => by
    unfold sLoop
    by_cases hq : rkB (pby bs len p) = nI rk
    · have hp := rk_lt hrk hq
      obtain ⟨b1, b2, b3⟩ := hf (p + 1) (by omega)
      rw [if_pos hq]
      by_cases ho : (f (p + 1)).1 = true
      · rw [if_pos ho]
        have := b3 ho
        refine sLoop_B hrk hf k _ p0 _ (by omega) b2 ?_
        rw [List.length_append, List.length_append, List.length_singleton]
        omega
      · rw [if_neg ho]
        exact ⟨by show p0 ≤ (f (p + 1)).2.1; omega, b2, fun q => (Bool.false_ne_true q).elim⟩
    · rw [if_neg hq]
      exact ⟨h0, h1, fun _ => h2⟩
theorem sNum_ok {bs : Nat → Int32} {len : Nat} : ∀ (k p w : Nat), p ≤ len → (w + 1) * 10 ^ k ≤ 10000 → ∃ p' w', sNum bs len k p (nI w) = (p', nI w') ∧ p ≤ p' ∧ p' ≤ len ∧ w' ≤ 9999
  | 0, p, w, h1, h2 => ⟨p, w, rfl, Nat.le_refl _, h1, by simpa using h2⟩
  | k + 1, p, w, h1, h2 => by
    unfold sNum
    by_cases hd : 48 ≤ pby bs len p ∧ pby bs len p ≤ 57
    · have hp := dig_lt hd
      obtain ⟨x, hx, ex⟩ := rngc (n := 57) (by decide) (show 0 ≤ pby bs len p ∧ pby bs len p ≤ nI 57 from ⟨Int32.le_trans (by decide) hd.1, hd.2⟩)
      have h48 : 48 ≤ x := by
        have := hd.1
        rw [ex] at this
        exact (pI_le_iff (a := 48) (by decide) (by omega)).mp this
      have h10 : 0 < 10 ^ k := Nat.pow_pos (by decide)
      have h3 : (w + 1) * 10 * 10 ^ k ≤ 10000 := by
        rw [Nat.mul_assoc, ← Nat.pow_succ']
        exact h2
      have h4 : (10 * w + (x - 48) + 1) * 10 ^ k ≤ (w + 1) * 10 * 10 ^ k := Nat.mul_le_mul_right _ (by omega)
      have h5 : (w + 1) * 10 ≤ (w + 1) * 10 * 10 ^ k := Nat.le_mul_of_pos_right _ h10
      rw [if_pos hd, ex, show (10 : Int32) * nI w + nI x - 48 = nI (10 * w + (x - 48)) by
        rw [show (10 : Int32) = nI 10 from rfl, pI_mul, pI_add, show nI (10 * w + x) - 48 = nI (10 * w + x - 48) from pk_sub (b := 48) (by omega)]
        congr 1
        omega]
      obtain ⟨p', w', e, q1, q2, q3⟩ := sNum_ok (bs := bs) (len := len) k (p + 1) (10 * w + (x - 48)) (by omega) (by omega)
      exact ⟨p', w', e, by omega, q2, q3⟩
    · rw [if_neg hd]
      have h10 : 0 < 10 ^ (k + 1) := Nat.pow_pos (by decide)
      have := Nat.le_mul_of_pos_right (w + 1) h10
      exact ⟨p, w, rfl, Nat.le_refl _, h1, by omega⟩
theorem sNum_4 {bs : Nat → Int32} {len p : Nat} (h : 48 ≤ pby bs len p ∧ pby bs len p ≤ 57) : ∃ p' w', sNum bs len 4 p 0 = (p', nI w') ∧ p < p' ∧ p' ≤ len ∧ w' ≤ 9999 := by
  have hp := dig_lt h
  obtain ⟨x, hx, ex⟩ := rngc (n := 57) (by decide) (show 0 ≤ pby bs len p ∧ pby bs len p ≤ nI 57 from ⟨Int32.le_trans (by decide) h.1, h.2⟩)
  have h48 : 48 ≤ x := by
    have := h.1
    rw [ex] at this
    exact (pI_le_iff (a := 48) (by decide) (by omega)).mp this
  have e1 : sNum bs len 4 p 0 = sNum bs len 3 (p + 1) (nI (x - 48)) := by
    show (if 48 ≤ pby bs len p ∧ pby bs len p ≤ 57 then sNum bs len 3 (p + 1) (10 * 0 + pby bs len p - 48) else (p, 0)) = _
    rw [if_pos h, ex, show (10 : Int32) * 0 + nI x - 48 = nI (x - 48) by
      rw [show (10 : Int32) * 0 + nI x = nI x by rw [show (10 : Int32) * 0 = 0 by decide, Int32.zero_add]]
      exact pk_sub (b := 48) h48]
  obtain ⟨p', w', e, q1, q2, q3⟩ := sNum_ok (bs := bs) (len := len) 3 (p + 1) (x - 48) (by omega) (by
    have : (x - 48 + 1) * 10 ^ 3 ≤ 10 * 10 ^ 3 := Nat.mul_le_mul_right _ (by omega)
    omega)
  exact ⟨p', w', e1.trans e, by omega, q2, q3⟩
theorem sPar_B {bs : Nat → Int32} {len : Nat} {nm : Nat → Int32} (hnm : ∀ i, i < 3 → ¬ nm i = -1) : ∀ (d rk op p : Nat), p ≤ len → pB len p (sPar bs len nm d rk op p)
  | 0, rk, op, p, h => ⟨Nat.le_refl _, h, fun q => (Bool.false_ne_true q).elim⟩
  | d + 1, rk, op, p, h => by
    have ih := sPar_B (bs := bs) (len := len) (nm := nm) hnm d
    unfold sPar
    by_cases hrk : rk ≤ 4
    · obtain ⟨b1, b2, b3⟩ := ih (rk + 1) op p h
      rw [if_pos hrk]
      by_cases ho : (sPar bs len nm d (rk + 1) op p).1 = true
      · rw [if_pos ho]
        exact sLoop_B hrk (fun p hp => ih (rk + 1) op p hp) _ _ p _ b1 b2 (b3 ho)
      · rw [if_neg ho]
        exact ⟨b1, b2, fun q => (Bool.false_ne_true q).elim⟩
    · rw [if_neg hrk]
      by_cases hd : 48 ≤ pby bs len p ∧ pby bs len p ≤ 57
      · obtain ⟨p', w', e, q1, q2, q3⟩ := sNum_4 hd
        rw [if_pos hd, e]
        exact ⟨by show p ≤ p'; omega, q2, fun _ => by show 1 ≤ p' - p; omega⟩
      · rw [if_neg hd]
        by_cases h33 : pby bs len p = 33
        · have hp : p < len := pby_lt (by rw [h33]; decide)
          obtain ⟨b1, b2, b3⟩ := ih 5 (op + 1) (p + 1) (by omega)
          rw [if_pos h33]
          by_cases ho5 : op = 5
          · rw [if_pos ho5]
            exact ⟨Nat.le_refl _, h, fun q => (Bool.false_ne_true q).elim⟩
          · rw [if_neg ho5]
            by_cases ho : (sPar bs len nm d 5 (op + 1) (p + 1)).1 = true
            · rw [if_pos ho]
              have := b3 ho
              refine ⟨by show p ≤ (sPar bs len nm d 5 (op + 1) (p + 1)).2.1; omega, b2, fun _ => ?_⟩
              show ((sPar bs len nm d 5 (op + 1) (p + 1)).2.2 ++ [-33]).length ≤ (sPar bs len nm d 5 (op + 1) (p + 1)).2.1 - p
              rw [List.length_append, List.length_singleton]
              omega
            · rw [if_neg ho]
              exact ⟨by show p ≤ (sPar bs len nm d 5 (op + 1) (p + 1)).2.1; omega, b2, fun q => (Bool.false_ne_true q).elim⟩
        · rw [if_neg h33]
          by_cases h40 : pby bs len p = 40
          · have hp : p < len := pby_lt (by rw [h40]; decide)
            obtain ⟨b1, b2, b3⟩ := ih 0 (op + 1) (p + 1) (by omega)
            rw [if_pos h40]
            by_cases ho5 : op = 5
            · rw [if_pos ho5]
              exact ⟨Nat.le_refl _, h, fun q => (Bool.false_ne_true q).elim⟩
            · rw [if_neg ho5]
              by_cases ho : (sPar bs len nm d 0 (op + 1) (p + 1)).1 = true
              · rw [if_pos ho]
                have := b3 ho
                by_cases h41 : pby bs len (sPar bs len nm d 0 (op + 1) (p + 1)).2.1 = 41
                · have hp2 : (sPar bs len nm d 0 (op + 1) (p + 1)).2.1 < len := pby_lt (by rw [h41]; decide)
                  rw [if_pos h41]
                  exact ⟨by show p ≤ (sPar bs len nm d 0 (op + 1) (p + 1)).2.1 + 1; omega, hp2, fun _ => by show (sPar bs len nm d 0 (op + 1) (p + 1)).2.2.length ≤ (sPar bs len nm d 0 (op + 1) (p + 1)).2.1 + 1 - p; omega⟩
                · rw [if_neg h41]
                  exact ⟨by show p ≤ (sPar bs len nm d 0 (op + 1) (p + 1)).2.1; omega, b2, fun q => (Bool.false_ne_true q).elim⟩
              · rw [if_neg ho]
                exact ⟨by show p ≤ (sPar bs len nm d 0 (op + 1) (p + 1)).2.1; omega, b2, fun q => (Bool.false_ne_true q).elim⟩
          · have nmc : ∀ i s, i < 3 → nm i = pby bs len p → pB len p (true, p + 1, [s]) := fun i s hi e => by
              have hp : p < len := pby_lt (by rw [← e]; exact hnm i hi)
              exact ⟨by show p ≤ p + 1; omega, hp, fun _ => by show 1 ≤ p + 1 - p; omega⟩
            rw [if_neg h40]
            by_cases e0 : nm 0 = pby bs len p
            · rw [if_pos e0]
              exact nmc 0 _ (by decide) e0
            · rw [if_neg e0]
              by_cases e1 : nm 1 = pby bs len p
              · rw [if_pos e1]
                exact nmc 1 _ (by decide) e1
              · rw [if_neg e1]
                by_cases e2 : nm 2 = pby bs len p
                · rw [if_pos e2]
                  exact nmc 2 _ (by decide) e2
                · rw [if_neg e2]
                  exact ⟨Nat.le_refl _, h, fun q => (Bool.false_ne_true q).elim⟩

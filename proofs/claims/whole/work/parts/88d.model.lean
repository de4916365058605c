/-! ===== PURE: what steps come to ===== -/
def ev1 (a b c s : Int32) (st : List Int32) : Option (List Int32) := if s < -3 then (if s = -33 then (match st with
  | x :: r => some ((if x = 0 then 1 else 0) :: r)
  | [] => none) else (match st with
  | y :: x :: r => some (jnd (-s) x y :: r)
  | _ => none)) else some ((if s < 0 then (if s = -1 then a else if s = -2 then b else c) else s) :: st)
def evS (a b c : Int32) : List Int32 → List Int32 → Option (List Int32)
  | [], st => some st
  | s :: l, st => (ev1 a b c s st).bind (evS a b c l)
theorem evS_app {a b c : Int32} : ∀ (l l' st : List Int32), evS a b c (l ++ l') st = (evS a b c l st).bind (evS a b c l')
  | [], l', st => rfl
  | s :: l, l', st => by
    show (ev1 a b c s st).bind (evS a b c (l ++ l')) = ((ev1 a b c s st).bind (evS a b c l)).bind (evS a b c l')
    rcases ev1 a b c s st with _ | st'
    · rfl
    · exact evS_app l l' st'
def Val (a b c : Int32) (l : List Int32) (v : Int32) : Prop := ∀ st, evS a b c l st = some (v :: st)
theorem val_bin {a b c B x w : Int32} {l l' : List Int32} (h1 : Val a b c l x) (h2 : Val a b c l' w) (k1 : -B < -3) (k2 : ¬ -B = -33) : Val a b c (l ++ (l' ++ [-B])) (jnd B x w) := fun st => by
  rw [evS_app, h1, Option.bind_some, evS_app, h2, Option.bind_some]
  show (ev1 a b c (-B) (w :: x :: st)).bind (evS a b c []) = _
  unfold ev1
  rw [if_pos k1, if_neg k2]
  show some (jnd (- -B) x w :: st) = _
  rw [Int32.neg_neg]
theorem val_not {a b c x : Int32} {l : List Int32} (h1 : Val a b c l x) : Val a b c (l ++ [-33]) (if x = 0 then 1 else 0) := fun st => by
  rw [evS_app, h1, Option.bind_some]
  show (ev1 a b c (-33) (x :: st)).bind (evS a b c []) = _
  unfold ev1
  rw [if_pos (by decide), if_pos rfl]
  rfl
theorem val_num {a b c : Int32} {n : Nat} (h : n < 2 ^ 31) : Val a b c [nI n] (nI n) := fun st => by
  show (ev1 a b c (nI n) st).bind (evS a b c []) = _
  unfold ev1
  have h0 : ¬ nI n < 0 := nI_pos h
  rw [if_neg (fun q => h0 (Int32.lt_trans q (by decide))), if_neg h0]
  rfl
theorem val_1 {a b c : Int32} : Val a b c [-1] a := fun st => by
  show (ev1 a b c (-1) st).bind (evS a b c []) = _
  unfold ev1
  rw [if_neg (by decide), if_pos (by decide), if_pos rfl]
  rfl
theorem val_2 {a b c : Int32} : Val a b c [-2] b := fun st => by
  show (ev1 a b c (-2) st).bind (evS a b c []) = _
  unfold ev1
  rw [if_neg (by decide), if_pos (by decide), if_neg (by decide), if_pos rfl]
  rfl
theorem val_3 {a b c : Int32} : Val a b c [-3] c := fun st => by
  show (ev1 a b c (-3) st).bind (evS a b c []) = _
  unfold ev1
  rw [if_neg (by decide), if_pos (by decide), if_neg (by decide), if_neg (by decide)]
  rfl
theorem rk_of {B k : Int32} (h : rkB B = k) : (B = 37 ∧ k = 4) ∨ (B = 38 ∧ k = 1) ∨ (B = 42 ∧ k = 4) ∨ (B = 43 ∧ k = 3) ∨ (B = 45 ∧ k = 3) ∨ (B = 47 ∧ k = 4) ∨ (B = 60 ∧ k = 2) ∨ (B = 61 ∧ k = 2) ∨ (B = 62 ∧ k = 2) ∨ (B = 124 ∧ k = 0) ∨ k = -1 := by
  unfold rkB at h
  subst h
  repeat' split
  all_goals simp_all
theorem rk_4 {B : Int32} : rkB B = nI 4 ↔ B = 42 ∨ B = 47 ∨ B = 37 := by
  constructor
  · intro h
    rcases rk_of h with q | q | q | q | q | q | q | q | q | q | q
    · exact Or.inr (Or.inr q.1)
    · exact absurd q.2 (by decide)
    · exact Or.inl q.1
    · exact absurd q.2 (by decide)
    · exact absurd q.2 (by decide)
    · exact Or.inr (Or.inl q.1)
    · exact absurd q.2 (by decide)
    · exact absurd q.2 (by decide)
    · exact absurd q.2 (by decide)
    · exact absurd q.2 (by decide)
    · exact absurd q (by decide)
  · rintro (rfl | rfl | rfl) <;> decide
theorem rk_3 {B : Int32} : rkB B = nI 3 ↔ B = 43 ∨ B = 45 := by
  constructor
  · intro h
    rcases rk_of h with q | q | q | q | q | q | q | q | q | q | q
    · exact absurd q.2 (by decide)
    · exact absurd q.2 (by decide)
    · exact absurd q.2 (by decide)
    · exact Or.inl q.1
    · exact Or.inr q.1
    · exact absurd q.2 (by decide)
    · exact absurd q.2 (by decide)
    · exact absurd q.2 (by decide)
    · exact absurd q.2 (by decide)
    · exact absurd q.2 (by decide)
    · exact absurd q (by decide)
  · rintro (rfl | rfl) <;> decide
theorem rk_2 {B : Int32} : rkB B = nI 2 ↔ B = 60 ∨ B = 61 ∨ B = 62 := by
  constructor
  · intro h
    rcases rk_of h with q | q | q | q | q | q | q | q | q | q | q
    · exact absurd q.2 (by decide)
    · exact absurd q.2 (by decide)
    · exact absurd q.2 (by decide)
    · exact absurd q.2 (by decide)
    · exact absurd q.2 (by decide)
    · exact absurd q.2 (by decide)
    · exact Or.inl q.1
    · exact Or.inr (Or.inl q.1)
    · exact Or.inr (Or.inr q.1)
    · exact absurd q.2 (by decide)
    · exact absurd q (by decide)
  · rintro (rfl | rfl | rfl) <;> decide
theorem rk_1 {B : Int32} : rkB B = nI 1 ↔ B = 38 := by
  constructor
  · intro h
    rcases rk_of h with q | q | q | q | q | q | q | q | q | q | q
    · exact absurd q.2 (by decide)
    · exact q.1
    · exact absurd q.2 (by decide)
    · exact absurd q.2 (by decide)
    · exact absurd q.2 (by decide)
    · exact absurd q.2 (by decide)
    · exact absurd q.2 (by decide)
    · exact absurd q.2 (by decide)
    · exact absurd q.2 (by decide)
    · exact absurd q.2 (by decide)
    · exact absurd q (by decide)
  · rintro rfl; decide
theorem rk_0 {B : Int32} : rkB B = nI 0 ↔ B = 124 := by
  constructor
  · intro h
    rcases rk_of h with q | q | q | q | q | q | q | q | q | q | q
    · exact absurd q.2 (by decide)
    · exact absurd q.2 (by decide)
    · exact absurd q.2 (by decide)
    · exact absurd q.2 (by decide)
    · exact absurd q.2 (by decide)
    · exact absurd q.2 (by decide)
    · exact absurd q.2 (by decide)
    · exact absurd q.2 (by decide)
    · exact absurd q.2 (by decide)
    · exact q.1
    · exact absurd q (by decide)
  · rintro rfl; decide
/-! the model reads -/
def MR (V0 V : gV) : Prop := ∀ c j, ¬ (c = 0 ∧ (j = 8 ∨ j = 10 ∨ j = 14)) → V c j = V0 c j
def MS (V0 V : gV) (p op : Nat) : Prop := MR V0 V ∧ V 0 8 = nI p ∧ V 0 10 = nI op ∧ V 0 14 = 1
def MF (V0 V : gV) (q : Nat) : Prop := MR V0 V ∧ V 0 8 = nI q ∧ V 0 14 = 0
def ME (V0 : gV) (bs : Nat → Int32) (len u : Nat) (nm : Nat → Int32) : Prop := V0 0 7 = nI u ∧ V0 0 9 = nI len ∧ u ≤ 1 ∧ len ≤ 50 ∧ (∀ k, k < len → V0 1 (164 + 50 * u + k) = bs k) ∧ nm 0 = (if u = 0 then 109 else 119) ∧ nm 1 = (if u = 0 then 107 else 109) ∧ nm 2 = (if u = 0 then 110 else 100)
def mPost (V0 : gV) (op : Nat) (R : pR) (V' : gV) (v : Int32) : Prop := if R.1 = true then MS V0 V' R.2.1 op ∧ Val (V0 0 11) (V0 0 12) (V0 0 13) R.2.2 v else MF V0 V' R.2.1
theorem mP_t {V0 V' : gV} {op p : Nat} {l : List Int32} {v : Int32} (h : MS V0 V' p op) (hv : Val (V0 0 11) (V0 0 12) (V0 0 13) l v) : mPost V0 op (true, p, l) V' v := ⟨h, hv⟩
theorem mP_f {V0 V' : gV} {op p : Nat} {v : Int32} (h : MF V0 V' p) : mPost V0 op (false, p, []) V' v := h
section MT
variable {V0 V : gV} {bs nm : Nat → Int32} {len u p op : Nat}
theorem m_byte (hE : ME V0 bs len u nm) (h : MR V0 V) (hp : p ≤ 50) : fX8_byteAt V (nI p) = some (pby bs len p, V) := by
  obtain ⟨e7, e9, hu, hl, eb, -⟩ := hE
  unfold fX8_byteAt pby
  simp only [Nat.reduceAdd]
  rw [h 0 9 (by omega), e9]
  by_cases q : p < len
  · rw [if_neg (nI_ge q (by omega)), if_pos q, h 0 7 (by omega), e7, show (164 : Int32) + 50 * nI u + nI p = nI (164 + 50 * u + p) by rw [show (164 : Int32) = nI 164 from rfl, show (50 : Int32) = nI 50 from rfl, pI_mul, pI_add, pI_add], r1_at (164 + 50 * u + p) rfl (by omega), h 1 _ (by omega), eb p q]
  · rw [if_pos (nI_le (by omega) (by omega)), if_neg q]
theorem MS.step (h : MS V0 V p op) : MS V0 (gup V 0 8 (nI p + 1)) (p + 1) op := ⟨fun c j q => (gup_ne _ _ (by omega)).trans (h.1 c j q), by rw [gup_at, nI_1], (gup_ne _ _ (by omega)).trans h.2.2.1, (gup_ne _ _ (by omega)).trans h.2.2.2⟩
theorem m_fails {β : Type} {k : Int32 → gV → Option β} : gbi (fX8_fails V) k = k 0 (gup V 0 14 0) := rfl
theorem MS.fails (h : MS V0 V p op) : MF V0 (gup V 0 14 0) p := ⟨fun c j q => (gup_ne _ _ (by omega)).trans (h.1 c j q), (gup_ne _ _ (by omega)).trans h.2.1, gup_at _ _ _ _⟩
theorem MF.fails (h : MF V0 V p) : MF V0 (gup V 0 14 0) p := ⟨fun c j q => (gup_ne _ _ (by omega)).trans (h.1 c j q), (gup_ne _ _ (by omega)).trans h.2.1, gup_at _ _ _ _⟩
theorem m_isDigit (x : Int32) : fX8_isDigit V x = some (if 48 ≤ x ∧ x ≤ 57 then 1 else 0, V) := by
  unfold fX8_isDigit
  rw [eM_in, gbi_some, gzb_ite]
end MT
def mSub (V0 : gV) (len op : Nat) (f : Nat → pR) (g : gV → Option (Int32 × gV)) : Prop := ∀ (p : Nat) (V : gV), p ≤ len → MS V0 V p op → ∃ v V', g V = some (v, V') ∧ mPost V0 op (f p) V' v
section MLo
variable {V0 : gV} {bs nm : Nat → Int32} {len u op : Nat} {rc : Nat → gV → Option (Int32 × gV)} {f : Nat → pR}
theorem m_prod_L (hE : ME V0 bs len u nm) (hB : ∀ p, p ≤ len → pB len p (f p)) (hf : mSub V0 len op f (rc 0)) : ∀ (k fu p : Nat) (l : List Int32) (x : Int32) (V : gV), 50 ≤ p + k → k + 1 < fu → p ≤ len → MS V0 V p op → Val (V0 0 11) (V0 0 12) (V0 0 13) l x → ∃ v V', fX8_product_L1 rc fu V x = some (v, V') ∧ mPost V0 op (sLoop bs len f 4 k p l) V' v := by
  have h50 := hE.2.2.2.1
  have stop : ∀ (fu : Nat) (V : gV) (x : Int32), V 0 14 = 0 → fX8_product_L1 rc (fu + 1) V x = some (x, V) := fun fu V x h => by
    show fX8_product_L1b _ _ V x = _
    unfold fX8_product_L1b
    rw [h, if_pos rfl]
  have go : ∀ (fu p : Nat) (x : Int32) (V : gV), p ≤ len → MS V0 V p op → ¬ rkB (pby bs len p) = nI 4 → fX8_product_L1 rc (fu + 1) V x = some (x, V) := fun fu p x V hp h hq => by
    have hn : ¬ (pby bs len p = 42 ∨ pby bs len p = 47 ∨ pby bs len p = 37) := fun q => hq (rk_4.mpr q)
    show fX8_product_L1b _ _ V x = _
    unfold fX8_product_L1b
    simp only [gjn_eq]
    rw [h.2.2.2, if_neg (show ¬ (1 : Int32) = 0 by decide), h.2.1, m_byte hE h.1 (by omega), gbi_some, if_neg (fun q => hn (Or.inl q)), h.2.1, m_byte hE h.1 (by omega), gbi_some, if_neg (fun q => hn (Or.inr (Or.inl q))), h.2.1, m_byte hE h.1 (by omega), gbi_some, if_neg (fun q => hn (Or.inr (Or.inr q)))]
  intro k
  induction k with
  | zero =>
    intro fu p l x V h1 h2 hp h hv
    obtain ⟨fu, rfl⟩ : ∃ f', fu = f' + 1 := ⟨fu - 1, by omega⟩
    exact ⟨x, V, go fu p x V hp h (by rw [pby_end (by omega)]; decide), mP_t h hv⟩
  | succ k ih =>
    intro fu p l x V h1 h2 hp h hv
    obtain ⟨fu, rfl⟩ : ∃ f', fu = f' + 1 := ⟨fu - 1, by omega⟩
    unfold sLoop
    by_cases hq : rkB (pby bs len p) = nI 4
    · have hplt := rk_lt (by decide) hq
      obtain ⟨b1, b2, b3⟩ := hB (p + 1) (by omega)
      obtain ⟨w, V1, e1, q1⟩ := hf (p + 1) _ (by omega) h.step
      have hB' := m_byte (V := V) hE h.1 (show p ≤ 50 by omega)
      rw [if_pos hq]
      have done : ∀ (y : Int32), (jnd (pby bs len p) x w = y) → ∃ v V', fX8_product_L1 rc fu V1 y = some (v, V') ∧ mPost V0 op (if (f (p + 1)).1 = true then sLoop bs len f 4 k (f (p + 1)).2.1 (l ++ ((f (p + 1)).2.2 ++ [-(pby bs len p)])) else (false, (f (p + 1)).2.1, [])) V' v := fun y ey => by
        by_cases ho : (f (p + 1)).1 = true
        · unfold mPost at q1
          rw [if_pos ho] at q1
          rw [if_pos ho]
          refine ih fu _ _ y V1 (by omega) (by omega) b2 q1.1 ?_
          rw [← ey]
          refine val_bin hv q1.2 ?_ ?_
          · rcases rk_4.mp hq with e | e | e <;> (rw [e]; decide)
          · rcases rk_4.mp hq with e | e | e <;> (rw [e]; decide)
        · unfold mPost at q1
          rw [if_neg ho] at q1
          rw [if_neg ho]
          obtain ⟨fu, rfl⟩ : ∃ f', fu = f' + 1 := ⟨fu - 1, by omega⟩
          exact ⟨y, V1, stop fu V1 y q1.2.2, mP_f q1⟩
      show ∃ v V', fX8_product_L1b _ _ V x = _ ∧ _
      unfold fX8_product_L1b
      simp only [gjn_eq, gpu_eq, glt_eq]
      rw [h.2.2.2, if_neg (show ¬ (1 : Int32) = 0 by decide), h.2.1]
      rcases rk_4.mp hq with e | e | e
      · rw [e] at hB' done ⊢
        rw [hB', gbi_some, if_pos rfl, h.2.1, hB', gbi_some, h.2.1, e1, gbi_some, if_pos rfl]
        exact done _ rfl
      · rw [e] at hB' done ⊢
        rw [hB', gbi_some, if_neg (by decide), h.2.1, hB', gbi_some, if_pos rfl, h.2.1, hB', gbi_some, h.2.1, e1, gbi_some, if_neg (by decide)]
        have ej : jnd 47 x w = if w = 0 then 0 else x / w := rfl
        by_cases hw : w = 0
        · rw [if_pos hw]
          exact done _ (by rw [ej, if_pos hw])
        · rw [if_neg hw, if_pos rfl, gdv_ne hw]
          exact done _ (by rw [ej, if_neg hw])
      · rw [e] at hB' done ⊢
        rw [hB', gbi_some, if_neg (by decide), h.2.1, hB', gbi_some, if_neg (by decide), h.2.1, hB', gbi_some, if_pos rfl, h.2.1, hB', gbi_some, h.2.1, e1, gbi_some, if_neg (by decide)]
        have ej : jnd 37 x w = if w = 0 then 0 else grm x w := rfl
        by_cases hw : w = 0
        · rw [if_pos hw]
          exact done _ (by rw [ej, if_pos hw])
        · rw [if_neg hw, if_neg (by decide), gdv_ne hw]
          exact done _ (by rw [ej, if_neg hw])
    · rw [if_neg hq]
      exact ⟨x, V, go fu p x V hp h hq, mP_t h hv⟩
theorem m_sum_Lp (hE : ME V0 bs len u nm) (hB : ∀ p, p ≤ len → pB len p (f p)) (hf : mSub V0 len op f (rc 1)) : ∀ (k fu p : Nat) (l : List Int32) (x : Int32) (V : gV), 50 ≤ p + k → k + 1 < fu → p ≤ len → MS V0 V p op → Val (V0 0 11) (V0 0 12) (V0 0 13) l x → ∃ v V', fX8_sum_L1 rc fu V x = some (v, V') ∧ mPost V0 op (sLoop bs len f 3 k p l) V' v := by
  have h50 := hE.2.2.2.1
  have stop : ∀ (fu : Nat) (V : gV) (x : Int32), V 0 14 = 0 → fX8_sum_L1 rc (fu + 1) V x = some (x, V) := fun fu V x h => by
    show fX8_sum_L1b _ _ V x = _
    unfold fX8_sum_L1b
    rw [h, if_pos rfl]
  have go : ∀ (fu p : Nat) (x : Int32) (V : gV), p ≤ len → MS V0 V p op → ¬ rkB (pby bs len p) = nI 3 → fX8_sum_L1 rc (fu + 1) V x = some (x, V) := fun fu p x V hp h hq => by
    have hn : ¬ (pby bs len p = 43 ∨ pby bs len p = 45) := fun q => hq (rk_3.mpr q)
    show fX8_sum_L1b _ _ V x = _
    unfold fX8_sum_L1b
    simp only [gjn_eq]
    rw [h.2.2.2, if_neg (show ¬ (1 : Int32) = 0 by decide), h.2.1, m_byte hE h.1 (by omega), gbi_some, if_neg (fun q => hn (Or.inl q)), h.2.1, m_byte hE h.1 (by omega), gbi_some, if_neg (fun q => hn (Or.inr q))]
  intro k
  induction k with
  | zero =>
    intro fu p l x V h1 h2 hp h hv
    obtain ⟨fu, rfl⟩ : ∃ f', fu = f' + 1 := ⟨fu - 1, by omega⟩
    exact ⟨x, V, go fu p x V hp h (by rw [pby_end (by omega)]; decide), mP_t h hv⟩
  | succ k ih =>
    intro fu p l x V h1 h2 hp h hv
    obtain ⟨fu, rfl⟩ : ∃ f', fu = f' + 1 := ⟨fu - 1, by omega⟩
    unfold sLoop
    by_cases hq : rkB (pby bs len p) = nI 3
    · have hplt := rk_lt (by decide) hq
      obtain ⟨b1, b2, b3⟩ := hB (p + 1) (by omega)
      obtain ⟨w, V1, e1, q1⟩ := hf (p + 1) _ (by omega) h.step
      have hB' := m_byte (V := V) hE h.1 (show p ≤ 50 by omega)
      rw [if_pos hq]
      have done : ∀ (y : Int32), (jnd (pby bs len p) x w = y) → ∃ v V', fX8_sum_L1 rc fu V1 y = some (v, V') ∧ mPost V0 op (if (f (p + 1)).1 = true then sLoop bs len f 3 k (f (p + 1)).2.1 (l ++ ((f (p + 1)).2.2 ++ [-(pby bs len p)])) else (false, (f (p + 1)).2.1, [])) V' v := fun y ey => by
        by_cases ho : (f (p + 1)).1 = true
        · unfold mPost at q1
          rw [if_pos ho] at q1
          rw [if_pos ho]
          refine ih fu _ _ y V1 (by omega) (by omega) b2 q1.1 ?_
          rw [← ey]
          refine val_bin hv q1.2 ?_ ?_
          · rcases rk_3.mp hq with e | e <;> (rw [e]; decide)
          · rcases rk_3.mp hq with e | e <;> (rw [e]; decide)
        · unfold mPost at q1
          rw [if_neg ho] at q1
          rw [if_neg ho]
          obtain ⟨fu, rfl⟩ : ∃ f', fu = f' + 1 := ⟨fu - 1, by omega⟩
          exact ⟨y, V1, stop fu V1 y q1.2.2, mP_f q1⟩
      show ∃ v V', fX8_sum_L1b _ _ V x = _ ∧ _
      unfold fX8_sum_L1b
      simp only [gjn_eq, gpu_eq, glt_eq]
      rw [h.2.2.2, if_neg (show ¬ (1 : Int32) = 0 by decide), h.2.1]
      rcases rk_3.mp hq with e | e
      · rw [e] at hB' done ⊢
        rw [hB', gbi_some, if_pos rfl, h.2.1, hB', gbi_some, h.2.1, e1, gbi_some, if_pos rfl]
        exact done _ rfl
      · rw [e] at hB' done ⊢
        rw [hB', gbi_some, if_neg (by decide), h.2.1, hB', gbi_some, if_pos rfl, h.2.1, hB', gbi_some, h.2.1, e1, gbi_some, if_neg (by decide)]
        exact done _ rfl
    · rw [if_neg hq]
      exact ⟨x, V, go fu p x V hp h hq, mP_t h hv⟩
theorem m_both_L (hE : ME V0 bs len u nm) (hB : ∀ p, p ≤ len → pB len p (f p)) (hf : mSub V0 len op f (rc 3)) : ∀ (k fu p : Nat) (l : List Int32) (x : Int32) (V : gV), 50 ≤ p + k → k + 1 < fu → p ≤ len → MS V0 V p op → Val (V0 0 11) (V0 0 12) (V0 0 13) l x → ∃ v V', fX8_both_L1 rc fu V x = some (v, V') ∧ mPost V0 op (sLoop bs len f 1 k p l) V' v := by
  have h50 := hE.2.2.2.1
  have stop : ∀ (fu : Nat) (V : gV) (x : Int32), V 0 14 = 0 → fX8_both_L1 rc (fu + 1) V x = some (x, V) := fun fu V x h => by
    show fX8_both_L1b _ _ V x = _
    unfold fX8_both_L1b
    rw [h, if_pos rfl]
  have go : ∀ (fu p : Nat) (x : Int32) (V : gV), p ≤ len → MS V0 V p op → ¬ rkB (pby bs len p) = nI 1 → fX8_both_L1 rc (fu + 1) V x = some (x, V) := fun fu p x V hp h hq => by
    have hn : ¬ pby bs len p = 38 := fun q => hq (rk_1.mpr q)
    show fX8_both_L1b _ _ V x = _
    unfold fX8_both_L1b
    rw [h.2.2.2, if_neg (show ¬ (1 : Int32) = 0 by decide), h.2.1, m_byte hE h.1 (by omega), gbi_some, if_neg hn]
  intro k
  induction k with
  | zero =>
    intro fu p l x V h1 h2 hp h hv
    obtain ⟨fu, rfl⟩ : ∃ f', fu = f' + 1 := ⟨fu - 1, by omega⟩
    exact ⟨x, V, go fu p x V hp h (by rw [pby_end (by omega)]; decide), mP_t h hv⟩
  | succ k ih =>
    intro fu p l x V h1 h2 hp h hv
    obtain ⟨fu, rfl⟩ : ∃ f', fu = f' + 1 := ⟨fu - 1, by omega⟩
    unfold sLoop
    by_cases hq : rkB (pby bs len p) = nI 1
    · have hplt := rk_lt (by decide) hq
      obtain ⟨b1, b2, b3⟩ := hB (p + 1) (by omega)
      obtain ⟨w, V1, e1, q1⟩ := hf (p + 1) _ (by omega) h.step
      have hB' := m_byte (V := V) hE h.1 (show p ≤ 50 by omega)
      rw [if_pos hq]
      have done : ∀ (y : Int32), (jnd (pby bs len p) x w = y) → ∃ v V', fX8_both_L1 rc fu V1 y = some (v, V') ∧ mPost V0 op (if (f (p + 1)).1 = true then sLoop bs len f 1 k (f (p + 1)).2.1 (l ++ ((f (p + 1)).2.2 ++ [-(pby bs len p)])) else (false, (f (p + 1)).2.1, [])) V' v := fun y ey => by
        by_cases ho : (f (p + 1)).1 = true
        · unfold mPost at q1
          rw [if_pos ho] at q1
          rw [if_pos ho]
          refine ih fu _ _ y V1 (by omega) (by omega) b2 q1.1 ?_
          rw [← ey]
          refine val_bin hv q1.2 ?_ ?_
          · rw [rk_1.mp hq]; decide
          · rw [rk_1.mp hq]; decide
        · unfold mPost at q1
          rw [if_neg ho] at q1
          rw [if_neg ho]
          obtain ⟨fu, rfl⟩ : ∃ f', fu = f' + 1 := ⟨fu - 1, by omega⟩
          exact ⟨y, V1, stop fu V1 y q1.2.2, mP_f q1⟩
      show ∃ v V', fX8_both_L1b _ _ V x = _ ∧ _
      unfold fX8_both_L1b
      simp only [gpu_eq]
      have e := rk_1.mp hq
      rw [e] at hB' done ⊢
      rw [h.2.2.2, if_neg (show ¬ (1 : Int32) = 0 by decide), h.2.1, hB', gbi_some, if_pos rfl, h.2.1, e1, gbi_some]
      have ej : jnd 38 x w = if x = 0 then 0 else if w = 0 then 0 else 1 := rfl
      by_cases hx : x = 0
      · rw [if_pos hx]
        exact done _ (by rw [ej, if_pos hx])
      · rw [if_neg hx]
        by_cases hw : w = 0
        · rw [if_pos hw]
          exact done _ (by rw [ej, if_neg hx, if_pos hw])
        · rw [if_neg hw]
          exact done _ (by rw [ej, if_neg hx, if_neg hw])
    · rw [if_neg hq]
      exact ⟨x, V, go fu p x V hp h hq, mP_t h hv⟩
theorem m_whole_L (hE : ME V0 bs len u nm) (hB : ∀ p, p ≤ len → pB len p (f p)) (hf : mSub V0 len op f (rc 4)) : ∀ (k fu p : Nat) (l : List Int32) (x : Int32) (V : gV), 50 ≤ p + k → k + 1 < fu → p ≤ len → MS V0 V p op → Val (V0 0 11) (V0 0 12) (V0 0 13) l x → ∃ v V', fX8_whole_L1 rc fu V x = some (v, V') ∧ mPost V0 op (sLoop bs len f 0 k p l) V' v := by
  have h50 := hE.2.2.2.1
  have stop : ∀ (fu : Nat) (V : gV) (x : Int32), V 0 14 = 0 → fX8_whole_L1 rc (fu + 1) V x = some (x, V) := fun fu V x h => by
    show fX8_whole_L1b _ _ V x = _
    unfold fX8_whole_L1b
    rw [h, if_pos rfl]
  have go : ∀ (fu p : Nat) (x : Int32) (V : gV), p ≤ len → MS V0 V p op → ¬ rkB (pby bs len p) = nI 0 → fX8_whole_L1 rc (fu + 1) V x = some (x, V) := fun fu p x V hp h hq => by
    have hn : ¬ pby bs len p = 124 := fun q => hq (rk_0.mpr q)
    show fX8_whole_L1b _ _ V x = _
    unfold fX8_whole_L1b
    rw [h.2.2.2, if_neg (show ¬ (1 : Int32) = 0 by decide), h.2.1, m_byte hE h.1 (by omega), gbi_some, if_neg hn]
  intro k
  induction k with
  | zero =>
    intro fu p l x V h1 h2 hp h hv
    obtain ⟨fu, rfl⟩ : ∃ f', fu = f' + 1 := ⟨fu - 1, by omega⟩
    exact ⟨x, V, go fu p x V hp h (by rw [pby_end (by omega)]; decide), mP_t h hv⟩
  | succ k ih =>
    intro fu p l x V h1 h2 hp h hv
    obtain ⟨fu, rfl⟩ : ∃ f', fu = f' + 1 := ⟨fu - 1, by omega⟩
    unfold sLoop
    by_cases hq : rkB (pby bs len p) = nI 0
    · have hplt := rk_lt (by decide) hq
      obtain ⟨b1, b2, b3⟩ := hB (p + 1) (by omega)
      obtain ⟨w, V1, e1, q1⟩ := hf (p + 1) _ (by omega) h.step
      have hB' := m_byte (V := V) hE h.1 (show p ≤ 50 by omega)
      rw [if_pos hq]
      have done : ∀ (y : Int32), (jnd (pby bs len p) x w = y) → ∃ v V', fX8_whole_L1 rc fu V1 y = some (v, V') ∧ mPost V0 op (if (f (p + 1)).1 = true then sLoop bs len f 0 k (f (p + 1)).2.1 (l ++ ((f (p + 1)).2.2 ++ [-(pby bs len p)])) else (false, (f (p + 1)).2.1, [])) V' v := fun y ey => by
        by_cases ho : (f (p + 1)).1 = true
        · unfold mPost at q1
          rw [if_pos ho] at q1
          rw [if_pos ho]
          refine ih fu _ _ y V1 (by omega) (by omega) b2 q1.1 ?_
          rw [← ey]
          refine val_bin hv q1.2 ?_ ?_
          · rw [rk_0.mp hq]; decide
          · rw [rk_0.mp hq]; decide
        · unfold mPost at q1
          rw [if_neg ho] at q1
          rw [if_neg ho]
          obtain ⟨fu, rfl⟩ : ∃ f', fu = f' + 1 := ⟨fu - 1, by omega⟩
          exact ⟨y, V1, stop fu V1 y q1.2.2, mP_f q1⟩
      show ∃ v V', fX8_whole_L1b _ _ V x = _ ∧ _
      unfold fX8_whole_L1b
      simp only [gpu_eq]
      have e := rk_0.mp hq
      rw [e] at hB' done ⊢
      rw [h.2.2.2, if_neg (show ¬ (1 : Int32) = 0 by decide), h.2.1, hB', gbi_some, if_pos rfl, h.2.1, e1, gbi_some]
      have ej : jnd 124 x w = if x = 0 then (if w = 0 then 0 else 1) else 1 := rfl
      by_cases hx : x = 0
      · rw [if_pos hx]
        by_cases hw : w = 0
        · rw [if_pos hw]
          exact done _ (by rw [ej, if_pos hx, if_pos hw])
        · rw [if_neg hw]
          exact done _ (by rw [ej, if_pos hx, if_neg hw])
      · rw [if_neg hx]
        exact done _ (by rw [ej, if_neg hx])
    · rw [if_neg hq]
      exact ⟨x, V, go fu p x V hp h hq, mP_t h hv⟩
end MLo

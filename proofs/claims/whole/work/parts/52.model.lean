/-! ===== PURE: the model's helpers ===== -/
/-- the model's scratch fields alone differ -/
def Scr (V V' : gV) : Prop := ∀ c j, ¬ (c = 0 ∧ 7 ≤ j ∧ j ≤ 14) → V' c j = V c j
theorem Scr.rf {V : gV} : Scr V V := fun _ _ _ => rfl
theorem Scr.tr {V V1 V2 : gV} (h1 : Scr V V1) (h2 : Scr V1 V2) : Scr V V2 := fun c j h => (h2 c j h).trans (h1 c j h)
theorem Scr.row {V V' : gV} (h : Scr V V') {c : Nat} (hc : c ≠ 0) : V' c = V c := funext fun j => h c j (fun q => hc q.1)
/-- the model's law of a use is L: it hangs on that text's bytes alone -/
def ML1 (u : Nat) (r : rR) (L : lW) : Prop := ∀ V : gV, V 1 (6 + u) = r (6 + u) → (∀ i, 164 + 50 * u ≤ i → i < 214 + 50 * u → V 1 i = r i) → ∀ a b c, ∃ V', fX8_lawOf V (nI u) a b c = some (L u a b c, V') ∧ Scr V V'
def ML (r : rR) (L : lW) : Prop := ML1 0 r L ∧ ML1 1 r L
theorem ML.at {V : gV} {L : lW} (h : ML (V 1) L) (a b c : Int32) : (∃ V', fX8_lawOf V 0 a b c = some (L 0 a b c, V') ∧ Scr V V') ∧ ∃ V', fX8_lawOf V 1 a b c = some (L 1 a b c, V') ∧ Scr V V' := ⟨h.1 V rfl (fun _ _ _ => rfl) a b c, h.2 V rfl (fun _ _ _ => rfl) a b c⟩
theorem ML1.congr {u : Nat} {r r' : rR} {L L' : lW} (h : ML1 u r L) (h6 : r' (6 + u) = r (6 + u)) (ht : ∀ i, 164 + 50 * u ≤ i → i < 214 + 50 * u → r' i = r i) (hL : L' u = L u) : ML1 u r' L' := fun V q1 q2 a b c => by
  rw [hL]
  exact h V (q1.trans h6) (fun i h1 h2 => (q2 i h1 h2).trans (ht i h1 h2)) a b c
theorem ML.congr {r r' : rR} {L : lW} (h : ML r L) (h6 : r' 6 = r 6) (h7 : r' 7 = r 7) (ht : ∀ i, 164 ≤ i → i < 264 → r' i = r i) : ML r' L := ⟨h.1.congr h6 (fun i h1 h2 => ht i (by omega) (by omega)) rfl, h.2.congr h7 (fun i h1 h2 => ht i (by omega) (by omega)) rfl⟩
theorem m_ix (j k : Nat) : (16 + 13 * nI j) + nI k = nI (16 + 13 * j + k) := by
  rw [show (16 : Int32) = nI 16 from rfl, show (13 : Int32) = nI 13 from rfl, pk_mul, nI_add, nI_add]
theorem m_its {V : gV} {j k : Nat} (hj : j < 6) (hk : k < 13) {a : Int32} (ha : a = nI k) : fX8_its V (nI j) a = some (V 1 (16 + 13 * j + k), V) := by
  subst ha
  unfold fX8_its
  rw [gal_at (16 + 13 * j + k) (m_ix j k) (by omega) (by decide)]
theorem m_its0 {V : gV} {j : Nat} (hj : j < 6) : fX8_its V (nI j) 0 = some (kK (V 1) j, V) := m_its (k := 0) hj (by decide) rfl
theorem m_its1 {V : gV} {j : Nat} (hj : j < 6) : fX8_its V (nI j) 1 = some (kM (V 1) j, V) := m_its (k := 1) hj (by decide) rfl
theorem m_its2 {V : gV} {j : Nat} (hj : j < 6) : fX8_its V (nI j) 2 = some (kH (V 1) j, V) := m_its (k := 2) hj (by decide) rfl
theorem m_its3 {V : gV} {j : Nat} (hj : j < 6) : fX8_its V (nI j) 3 = some (kL (V 1) j, V) := m_its (k := 3) hj (by decide) rfl
theorem m_its4 {V : gV} {j : Nat} (hj : j < 6) : fX8_its V (nI j) 4 = some (kW (V 1) j, V) := m_its (k := 4) hj (by decide) rfl
theorem m_itsN {V : gV} {j i : Nat} (hj : j < 6) (hi : i < 8) {a : Int32} (ha : a = nI i) : fX8_its V (nI j) (5 + a) = some (kN (V 1) j i, V) := m_its (k := 5 + i) hj (by omega) (by rw [ha]; exact nI_add 5 i)
theorem m_gets {V : gV} {j k : Nat} (hj : j < 6) (hk : k < 13) {a v : Int32} (ha : a = nI k) : fX8_gets V (nI j) a v = some (gup V 1 (16 + 13 * j + k) v) := by
  subst ha
  unfold fX8_gets
  rw [gas_at (16 + 13 * j + k) (m_ix j k) (by omega) (by decide)]
theorem m_held (V : gV) (a lo hi : Int32) : fX8_held V a lo hi = some (if lo ≤ a then (if a ≤ hi then a else hi) else lo, V) := by
  unfold fX8_held
  split
  · split <;> rfl
  · rfl
theorem m_thick {V : gV} {L : lW} {j : Nat} (hM : ML (V 1) L) (hj : j < 6) : ∃ V', fX8_thick V (nI j) = some (sThick L (V 1) j, V') ∧ Scr V V' := by
  obtain ⟨V', h1, hS⟩ := (hM.at (kM (V 1) j) (kK (V 1) j) (kL (V 1) j)).1
  refine ⟨V', ?_, hS⟩
  have e1 : V' 1 = V 1 := hS.row (by decide)
  unfold fX8_thick
  rw [m_its1 hj, gbi_some, m_its0 hj, gbi_some, m_its3 hj, gbi_some, h1, gbi_some, m_its0 hj, gbi_some, m_its1 hj, e1]
  unfold sThick thOf
  rw [gdv_ne (by decide), gdv_ne (by decide), gdv_ne (by decide)]
  repeat' split
  all_goals rfl
theorem m_out {V : gV} {L : lW} {nh j : Nat} (hM : ML (V 1) L) (hL : lOk L) (hc : cOk (V 1) nh j) (hj : j < 6) : ∃ V', fX8_out V (nI j) = some (sOut L (V 1) j, V') ∧ Scr V V' := by
  obtain ⟨V', h1, hS⟩ := m_thick hM hj
  obtain ⟨t, ht, ht2, et⟩ := sThick_ok hL hc
  refine ⟨V', ?_, hS⟩
  unfold fX8_out
  rw [m_its4 hj, gbi_some, h1, gbi_some, gdv_ne (by rw [et]; exact nI_ne0 (by omega) (by omega))]
  rfl
theorem m_isGone {V : gV} {L : lW} {nh j : Nat} (hM : ML (V 1) L) (hL : lOk L) (hc : cOk (V 1) nh j) (hj : j < 6) : ∃ V', fX8_isGone V (nI j) = some (if sOut L (V 1) j < kL (V 1) j then 0 else 1, V') ∧ Scr V V' := by
  obtain ⟨V', h1, hS⟩ := m_out hM hL hc hj
  have e1 : V' 1 = V 1 := hS.row (by decide)
  refine ⟨V', ?_, hS⟩
  unfold fX8_isGone
  rw [h1, gbi_some, m_its3 hj, gbi_some, e1]
  split <;> rfl
theorem m_shows {V : gV} {L : lW} {nh j : Nat} (hM : ML (V 1) L) (hL : lOk L) (hc : cOk (V 1) nh j) (hj : j < 6) : ∃ V', fX8_shows V (nI j) = some (sShow L (V 1) j, V') ∧ Scr V V' := by
  obtain ⟨V', h1, hS⟩ := m_out hM hL hc hj
  have e1 : V' 1 = V 1 := hS.row (by decide)
  obtain ⟨o, ho, eo⟩ := sOut_ok hL hc
  obtain ⟨-, -, -, ⟨n, hn, en, -⟩, -⟩ := hc
  refine ⟨V', ?_, hS⟩
  unfold fX8_shows
  rw [h1, gbi_some, m_its3 hj, gbi_some, e1]
  unfold sShow shOf
  by_cases hg : sOut L (V 1) j < kL (V 1) j
  · rw [if_pos hg, if_pos hg, m_its0 hj, gbi_some, e1]
    have hon : o < n := by
      rw [eo, en] at hg
      exact (nI_ltI (by omega) (by omega)).mp hg
    have nm : ∀ x, x < 8 → fX8_its V' (nI j) (5 + nI x) = some (kN (V 1) j x, V') := fun x hx => by rw [m_itsN hj hx rfl, e1]
    rw [eo] at hg ⊢
    have e2 : nI o + 1 = nI (o + 1) := nI_1 o
    have e3 : (nI o).toNatClampNeg = o := nI_clamp (by omega)
    have e4 : (nI (o + 1)).toNatClampNeg = o + 1 := nI_clamp (by omega)
    rw [e2]
    by_cases h5 : o + 1 < n
    · have c3 : nI (o + 1) < kL (V 1) j := by rw [en]; exact nI_lt h5 (by omega)
      have c4 : ¬ kL (V 1) j ≤ nI (o + 1) := Int32.not_le.mpr c3
      simp only [gjn_eq, m_its3 hj, m_its1 hj, gbi_some, e1, nm o (by omega), nm (o + 1) (by omega), if_neg c4, c3, and_true]
      generalize kK (V 1) j = kd
      generalize kM (V 1) j = m
      grind
    · have c3 : ¬ nI (o + 1) < kL (V 1) j := by rw [en]; exact nI_nlt (by omega) (by omega)
      have c4 : kL (V 1) j ≤ nI (o + 1) := Int32.not_lt.mp c3
      simp only [gjn_eq, m_its3 hj, m_its1 hj, gbi_some, e1, nm o (by omega), if_pos c4, c3, and_false, if_false, e3]
      generalize kK (V 1) j = kd
      generalize kM (V 1) j = m
      grind
  · rw [if_neg hg, if_neg hg]

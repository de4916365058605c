/-! ===== PURE: how the texts compute ===== -/
section PB
variable {β : Type}
theorem gbi_some (r : Int32) (V : gV) (k : Int32 → gV → Option β) : gbi (some (r, V)) k = k r V := rfl
theorem gbr_some (r : Nat) (V : gV) (k : Nat → gV → Option β) : gbr (some (r, V)) k = k r V := rfl
theorem gbv_some (V : gV) (k : gV → Option β) : gbv (some V) k = k V := rfl
theorem gpu_eq (V : gV) (c j : Nat) (v : Int32) (k : gV → Option β) : gpu V c j v k = k (gup V c j v) := rfl
theorem glt_eq (e : Int32) (k : Int32 → Option β) : glt e k = k e := rfl
theorem gjn_eq {γ : Type} (J : γ) (k : γ → Option β) : gjn J k = k J := rfl
theorem gdv_ne {y : Int32} (h : ¬ y = 0) (k : Option β) : gdv y k = k := if_neg h
theorem gzb_0 (k : Option β) : gzb 0 k = k := if_pos rfl
theorem gzb_1 (k : Option β) : gzb 1 k = k := if_pos (by decide)
theorem gzb_ite {c : Prop} [Decidable c] (k : Option β) : gzb (if c then 1 else 0) k = k := by
  split
  · exact gzb_1 k
  · exact gzb_0 k
end PB
theorem pI_add (a b : Nat) : nI a + nI b = nI (a + b) := (Int32.ofNat_add a b).symm
theorem pI_mul (a b : Nat) : nI a * nI b = nI (a * b) := (Int32.ofNat_mul a b).symm
theorem pI_ok {j n : Nat} (h : j < n) (hn : n < 2 ^ 31) : ¬ (nI j < 0 ∨ n ≤ (nI j).toNatClampNeg) := nI_in h hn
section PB2
variable {β : Type}
theorem gal_at {V : gV} {c n : Nat} {i : Int32} (j : Nat) (h : i = nI j) (hj : j < n) (hn : n < 2 ^ 31) (k : Int32 → Option β) : gal V c i n k = k (V c j) := by
  subst h
  unfold gal
  rw [if_neg (pI_ok hj hn), nI_clamp (by omega)]
theorem gas_at {V : gV} {c n : Nat} {i v : Int32} (j : Nat) (h : i = nI j) (hj : j < n) (hn : n < 2 ^ 31) (k : gV → Option β) : gas V c i n v k = k (gup V c j v) := by
  subst h
  unfold gas
  rw [if_neg (pI_ok hj hn), nI_clamp (by omega)]
theorem gar_at {n : Nat} {i : Int32} (j : Nat) (h : i = nI j) (hj : j < n) (hn : n < 2 ^ 31) (k : Option β) : gar i n k = k := by
  subst h
  unfold gar
  rw [if_neg (pI_ok hj hn)]
end PB2
/-- an int from 0 to n - 1 is a natural -/
theorem pI_of {a : Int32} {n : Nat} (h0 : 0 ≤ a) (h1 : a < nI n) (hn : n < 2 ^ 31) : ∃ j, j < n ∧ a = nI j := by
  have h2 : (0 : Int) ≤ a.toInt := by simpa using Int32.le_iff_toInt_le.mp h0
  have h3 : a.toInt < n := by
    have := Int32.lt_iff_toInt_lt.mp h1
    rwa [nI_toInt hn] at this
  refine ⟨a.toInt.toNat, by omega, ?_⟩
  apply Int32.toInt_inj.mp
  rw [nI_toInt (by omega)]
  omega
theorem pI_inj {a b : Nat} (ha : a < 2 ^ 31) (hb : b < 2 ^ 31) (h : nI a = nI b) : a = b := by
  have := congrArg Int32.toInt h
  rw [nI_toInt ha, nI_toInt hb] at this
  omega
theorem pI_lt_iff {a b : Nat} (ha : a < 2 ^ 31) (hb : b < 2 ^ 31) : nI a < nI b ↔ a < b := by
  rw [Int32.lt_iff_toInt_lt, nI_toInt ha, nI_toInt hb]
  omega
theorem pI_le_iff {a b : Nat} (ha : a < 2 ^ 31) (hb : b < 2 ^ 31) : nI a ≤ nI b ↔ a ≤ b := by
  rw [Int32.le_iff_toInt_le, nI_toInt ha, nI_toInt hb]
  omega
theorem nlI {a b : Nat} (h : b < a) (ha : a < 2 ^ 31) : ¬ nI a ≤ nI b := fun q => by
  have := (pI_le_iff ha (by omega)).mp q
  omega
theorem pI_sub1 {n : Nat} : nI (n + 1) - 1 = nI n := by
  show nI (n + 1) - 1 = nI n
  rw [nI_succ]
  exact Int32.add_sub_cancel _ _
/-- 'within' of both sides -/
theorem eX_within (V : gV) (a lo hi : Int32) : fX7_within V a lo hi = some (if lo ≤ a ∧ a ≤ hi then 1 else 0, V) := by
  unfold fX7_within
  by_cases h1 : a < lo
  · rw [if_pos h1, if_neg (fun q => absurd h1 (Int32.not_lt.mpr q.1))]
  · rw [if_neg h1]
    by_cases h2 : hi < a
    · rw [if_pos h2, if_neg (fun q => absurd h2 (Int32.not_lt.mpr q.2))]
    · rw [if_neg h2, if_pos ⟨Int32.not_lt.mp h1, Int32.not_lt.mp h2⟩]
theorem eM_in (V : gV) (a lo hi : Int32) : fX8_in V a lo hi = some (if lo ≤ a ∧ a ≤ hi then 1 else 0, V) := by
  unfold fX8_in
  by_cases h1 : a < lo
  · rw [if_pos h1, if_neg (fun q => absurd h1 (Int32.not_lt.mpr q.1))]
  · rw [if_neg h1]
    by_cases h2 : hi < a
    · rw [if_pos h2, if_neg (fun q => absurd h2 (Int32.not_lt.mpr q.2))]
    · rw [if_neg h2, if_pos ⟨Int32.not_lt.mp h1, Int32.not_lt.mp h2⟩]
theorem eX_at {V : gV} {c n : Nat} {i : Int32} (j : Nat) (h : i = nI j) (hj : j < n) (hn : n < 2 ^ 31) : fX7_at V c n i = some (V c j, V) := by
  subst h
  unfold fX7_at
  rw [if_neg (nI_pos (by omega)), if_neg (show ¬ Int32.ofNat n ≤ nI j from nI_ge hj hn), gal_at j rfl hj hn]
theorem eX_setAt {V : gV} {c n : Nat} {i v : Int32} (j : Nat) (h : i = nI j) (hj : j < n) (hn : n < 2 ^ 31) : fX7_setAt V c n i v = some (gup V c j v) := by
  subst h
  unfold fX7_setAt
  rw [if_neg (nI_pos (by omega)), if_neg (show ¬ Int32.ofNat n ≤ nI j from nI_ge hj hn), gas_at j rfl hj hn]
theorem eX_atOut {V : gV} {c n : Nat} {i : Int32} (h : i < 0 ∨ nI n ≤ i) : fX7_at V c n i = some (0, V) := by
  unfold fX7_at
  by_cases h1 : i < 0
  · rw [if_pos h1]
  · rw [if_neg h1, if_pos (show Int32.ofNat n ≤ i from h.resolve_left h1)]
theorem eX_setAtOut {V : gV} {c n : Nat} {i v : Int32} (h : i < 0 ∨ nI n ≤ i) : fX7_setAt V c n i v = some V := by
  unfold fX7_setAt
  by_cases h1 : i < 0
  · rw [if_pos h1]
  · rw [if_neg h1, if_pos (show Int32.ofNat n ≤ i from h.resolve_left h1)]
/-! errors -/
def xErr (V : gV) (k : Nat) : gV := gup V 103 k (V 103 k + 1)
def mErr (V : gV) (k : Nat) : gV := gup V 5 k (V 5 k + 1)
theorem eX_error (V : gV) (k : Nat) (hk : k < 6) {a : Int32} (ha : a = nI k) : fX7_error V a = some (-1000000000 - a, xErr V k) := by
  unfold fX7_error
  rw [eX_at k ha hk (by decide), gbi_some, eX_setAt k ha hk (by decide), gbv_some]
  rfl
theorem eM_errs (V : gV) (k : Nat) (hk : k < 6) {e : Int32} (he : -1000000000 - e = nI k) : fX8_errs V e = some (e, mErr V k) := by
  unfold fX8_errs
  rw [gal_at k he hk (by decide), gas_at k he hk (by decide)]
  rfl

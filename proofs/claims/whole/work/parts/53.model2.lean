/-! ===== PURE: the model's days and sets ===== -/
def gfold {α : Type} (f : α → Nat → α) : Nat → Nat → α → α
  | 0, _, a => a
  | m + 1, i, a => gfold f m (i + 1) (f a i)
def bitOf (g : Int32) : Int32 := if g < 0 then 0 else 1 <<< (g &&& 31)
abbrev hasB (s g : Int32) : Prop := (s >>> (g &&& 31)) &&& 1 = 1
def sGuests (L : lW) (r : rR) (nc : Nat) (h : Int32) : Int32 := gfold (fun s c => s ||| (if kH r c = h then bitOf (sShow L r c) else 0)) nc 0 0
def sCakes (r : rR) (nc : Nat) (h : Int32) : Int32 := gfold (fun s c => s ||| (if kH r c = h then 1 <<< (nI c &&& 31) else 0)) nc 0 0
def sGone (L : lW) (r : rR) (nc : Nat) : Int32 := gfold (fun s c => s + (if sOut L r c < kL r c then 0 else 1)) nc 0 0
/-- the model's row, and all that it hangs on -/
def MO (V : gV) (L : lW) (nh nc : Nat) : Prop := ML (V 1) L ∧ lOk L ∧ rOk (V 1) nh nc
theorem MO.scr {V V' : gV} {L : lW} {nh nc : Nat} (h : MO V L nh nc) (hS : Scr V V') : MO V' L nh nc := by
  unfold MO
  rw [hS.row (by decide)]
  exact h
theorem r_at {V : gV} {k : Nat} (hk : k < 264) {a : Int32} (ha : a = nI k) {β : Type} (f : Int32 → Option β) : gal V (0 + 1) a 264 f = f (V 1 k) := gal_at k ha hk (by decide) f
theorem r_set {V : gV} {k : Nat} (hk : k < 264) {a v : Int32} (ha : a = nI k) {β : Type} (f : gV → Option β) : gas V (0 + 1) a 264 v f = f (gup V 1 k v) := gas_at k ha hk (by decide) f
theorem r_k0 {V : gV} {β : Type} (f : Int32 → Option β) : gal V (0 + 1) 0 264 f = f (V 1 0) := r_at (k := 0) (by decide) (show ((0 : Int32)) = nI 0 from rfl) f
theorem r_k1 {V : gV} {β : Type} (f : Int32 → Option β) : gal V (0 + 1) 1 264 f = f (V 1 1) := r_at (k := 1) (by decide) (show ((1 : Int32)) = nI 1 from rfl) f
theorem r_k2 {V : gV} {β : Type} (f : Int32 → Option β) : gal V (0 + 1) 2 264 f = f (V 1 2) := r_at (k := 2) (by decide) (show ((2 : Int32)) = nI 2 from rfl) f
theorem r_k3 {V : gV} {β : Type} (f : Int32 → Option β) : gal V (0 + 1) 3 264 f = f (V 1 3) := r_at (k := 3) (by decide) (show ((3 : Int32)) = nI 3 from rfl) f
theorem r_k4 {V : gV} {β : Type} (f : Int32 → Option β) : gal V (0 + 1) 4 264 f = f (V 1 4) := r_at (k := 4) (by decide) (show ((4 : Int32)) = nI 4 from rfl) f
theorem r_k5 {V : gV} {β : Type} (f : Int32 → Option β) : gal V (0 + 1) 5 264 f = f (V 1 5) := r_at (k := 5) (by decide) (show ((5 : Int32)) = nI 5 from rfl) f
theorem r_k6 {V : gV} {β : Type} (f : Int32 → Option β) : gal V (0 + 1) 6 264 f = f (V 1 6) := r_at (k := 6) (by decide) (show ((6 : Int32)) = nI 6 from rfl) f
theorem r_k7 {V : gV} {β : Type} (f : Int32 → Option β) : gal V (0 + 1) 7 264 f = f (V 1 7) := r_at (k := 7) (by decide) (show ((7 : Int32)) = nI 7 from rfl) f
theorem w_k0 {V : gV} {v : Int32} {β : Type} (f : gV → Option β) : gas V (0 + 1) 0 264 v f = f (gup V 1 0 v) := r_set (k := 0) (by decide) rfl f
theorem w_k1 {V : gV} {v : Int32} {β : Type} (f : gV → Option β) : gas V (0 + 1) 1 264 v f = f (gup V 1 1 v) := r_set (k := 1) (by decide) rfl f
theorem w_k2 {V : gV} {v : Int32} {β : Type} (f : gV → Option β) : gas V (0 + 1) 2 264 v f = f (gup V 1 2 v) := r_set (k := 2) (by decide) rfl f
theorem w_k3 {V : gV} {v : Int32} {β : Type} (f : gV → Option β) : gas V (0 + 1) 3 264 v f = f (gup V 1 3 v) := r_set (k := 3) (by decide) rfl f
theorem w_k4 {V : gV} {v : Int32} {β : Type} (f : gV → Option β) : gas V (0 + 1) 4 264 v f = f (gup V 1 4 v) := r_set (k := 4) (by decide) rfl f
theorem w_k5 {V : gV} {v : Int32} {β : Type} (f : gV → Option β) : gas V (0 + 1) 5 264 v f = f (gup V 1 5 v) := r_set (k := 5) (by decide) rfl f
theorem w_k6 {V : gV} {v : Int32} {β : Type} (f : gV → Option β) : gas V (0 + 1) 6 264 v f = f (gup V 1 6 v) := r_set (k := 6) (by decide) rfl f
theorem w_k7 {V : gV} {v : Int32} {β : Type} (f : gV → Option β) : gas V (0 + 1) 7 264 v f = f (gup V 1 7 v) := r_set (k := 7) (by decide) rfl f
theorem m_hx (h : Nat) : (8 : Int32) + 2 * nI h = nI (8 + 2 * h) := by
  rw [show (8 : Int32) = nI 8 from rfl, show (2 : Int32) = nI 2 from rfl, pk_mul, nI_add]
theorem m_wears {V : gV} {L : lW} {nh nc j : Nat} (h : MO V L nh nc) (hj : j < nc) : ∃ V', fX8_wearsBy V (nI j) = some (sWear L (V 1) j, V') ∧ Scr V V' := by
  obtain ⟨hM, hL, hn, hc, -, -, hH, hC⟩ := h
  have hj6 : j < 6 := by omega
  obtain ⟨a, ha, ea⟩ := (hC j hj).2.2.1
  obtain ⟨V', h1, hS⟩ := (hM.at (V 1 (8 + 2 * a + 1)) (kM (V 1) j) (V 1 0)).2
  have e1 : V' 1 = V 1 := hS.row (by decide)
  refine ⟨V', ?_, hS⟩
  unfold fX8_wearsBy
  rw [m_its2 hj6, gbi_some, glt_eq, ea, m_hx a, r_at (k := 8 + 2 * a) (by omega) rfl, r_at (k := 8 + 2 * a + 1) (by omega) (nI_1 _), m_its1 hj6, gbi_some, r_k0, h1, gbi_some, glt_eq, m_its0 hj6, gbi_some, e1]
  unfold sWear sHands sWater wrOf
  rw [ea, nI_clamp (by omega), gdv_ne (by decide)]
  repeat' split
  all_goals rfl
theorem m_gone_L {L : lW} {nh nc : Nat} (hc6 : nc ≤ 6) : ∀ (m fuel i : Nat) (V : gV) (s : Int32), i + m = nc → m < fuel → MO V L nh nc → ∃ V', fX8_gone_L1 fuel V s (nI i) = some (gfold (fun s c => s + (if sOut L (V 1) c < kL (V 1) c then 0 else 1)) m i s, V') ∧ Scr V V' := by
  intro m
  induction m with
  | zero =>
    intro fuel i V s h1 h2 hO
    obtain ⟨fuel, rfl⟩ : ∃ f, fuel = f + 1 := ⟨fuel - 1, by omega⟩
    refine ⟨V, ?_, Scr.rf⟩
    show fX8_gone_L1b _ V s (nI i) = _
    unfold fX8_gone_L1b
    rw [r_k3, hO.2.2.2.2.2.1, if_pos (nI_le (by omega) (by omega))]
    rfl
  | succ m ih =>
    intro fuel i V s h1 h2 hO
    obtain ⟨fuel, rfl⟩ : ∃ f, fuel = f + 1 := ⟨fuel - 1, by omega⟩
    obtain ⟨V1, e1, hS1⟩ := m_isGone hO.1 hO.2.1 (hO.2.2.2.2.2.2.2 i (by omega)) (show i < 6 by omega)
    have er : V1 1 = V 1 := hS1.row (by decide)
    show ∃ V', fX8_gone_L1b _ V s (nI i) = _ ∧ _
    unfold fX8_gone_L1b
    rw [r_k3, hO.2.2.2.2.2.1, if_neg (nI_ge (by omega) (by omega)), e1, gbi_some, nI_1]
    obtain ⟨V2, e2, hS2⟩ := ih fuel (i + 1) V1 (s + (if sOut L (V 1) i < kL (V 1) i then 0 else 1)) (by omega) (by omega) (hO.scr hS1)
    refine ⟨V2, ?_, hS1.tr hS2⟩
    rw [er] at e2
    show _ = some (gfold _ m (i + 1) (s + (if sOut L (V 1) i < kL (V 1) i then 0 else 1)), V2)
    rw [← e2]
    by_cases h : sOut L (V 1) i < kL (V 1) i
    · rw [if_pos h, if_pos rfl, glt_eq]
    · rw [if_neg h, if_neg (by decide), glt_eq]
theorem m_gone {V : gV} {L : lW} {nh nc : Nat} (hO : MO V L nh nc) : ∃ V', fX8_gone V = some (sGone L (V 1) nc, V') ∧ Scr V V' :=
  m_gone_L hO.2.2.2.1 nc gFu 0 V 0 (Nat.zero_add _) (by have := hO.2.2.2.1; unfold gFu; omega) hO
theorem m_guests_L {L : lW} {nh nc : Nat} {h : Int32} : ∀ (m fuel i : Nat) (V : gV) (s : Int32), i + m = nc → m < fuel → MO V L nh nc → ∃ V', fX8_guestsIn_L1 h fuel V s (nI i) = some (gfold (fun s c => s ||| (if kH (V 1) c = h then bitOf (sShow L (V 1) c) else 0)) m i s, V') ∧ Scr V V' := by
  intro m
  induction m with
  | zero =>
    intro fuel i V s h1 h2 hO
    obtain ⟨fuel, rfl⟩ : ∃ f, fuel = f + 1 := ⟨fuel - 1, by omega⟩
    have h6 := hO.2.2.2.1
    refine ⟨V, ?_, Scr.rf⟩
    show fX8_guestsIn_L1b h _ V s (nI i) = _
    unfold fX8_guestsIn_L1b
    rw [r_k3, hO.2.2.2.2.2.1, if_pos (nI_le (by omega) (by omega))]
    rfl
  | succ m ih =>
    intro fuel i V s h1 h2 hO
    obtain ⟨fuel, rfl⟩ : ∃ f, fuel = f + 1 := ⟨fuel - 1, by omega⟩
    have h6 := hO.2.2.2.1
    obtain ⟨V1, e1, hS1⟩ := m_shows hO.1 hO.2.1 (hO.2.2.2.2.2.2.2 i (by omega)) (show i < 6 by omega)
    have er : V1 1 = V 1 := hS1.row (by decide)
    show ∃ V', fX8_guestsIn_L1b h _ V s (nI i) = _ ∧ _
    unfold fX8_guestsIn_L1b
    rw [r_k3, hO.2.2.2.2.2.1, if_neg (nI_ge (by omega) (by omega)), e1, gbi_some, m_its2 (by omega), gbi_some, nI_1, er]
    obtain ⟨V2, e2, hS2⟩ := ih fuel (i + 1) V1 (s ||| (if kH (V 1) i = h then bitOf (sShow L (V 1) i) else 0)) (by omega) (by omega) (hO.scr hS1)
    refine ⟨V2, ?_, hS1.tr hS2⟩
    rw [er] at e2
    show _ = some (gfold _ m (i + 1) (s ||| (if kH (V 1) i = h then bitOf (sShow L (V 1) i) else 0)), V2)
    rw [← e2]
    unfold bitOf
    by_cases hh : kH (V 1) i = h
    · rw [if_pos hh, if_pos hh]
      by_cases hg : sShow L (V 1) i < 0
      · rw [if_pos hg, if_pos hg, glt_eq]
      · rw [if_neg hg, if_neg hg, glt_eq]
    · rw [if_neg hh, if_neg hh, glt_eq]
theorem m_guests {V : gV} {L : lW} {nh nc : Nat} (hO : MO V L nh nc) (h : Int32) : ∃ V', fX8_guestsIn V h = some (sGuests L (V 1) nc h, V') ∧ Scr V V' :=
  m_guests_L nc gFu 0 V 0 (Nat.zero_add _) (by have := hO.2.2.2.1; unfold gFu; omega) hO
theorem m_cakes_L {V : gV} {nc : Nat} {h : Int32} (h6 : nc ≤ 6) (hn : V 1 3 = nI nc) : ∀ (m fuel i : Nat) (s : Int32), i + m = nc → m < fuel → fX8_cakesIn_L1 h fuel V s (nI i) = some (gfold (fun s c => s ||| (if kH (V 1) c = h then 1 <<< (nI c &&& 31) else 0)) m i s, V) := by
  intro m
  induction m with
  | zero =>
    intro fuel i s h1 h2
    obtain ⟨fuel, rfl⟩ : ∃ f, fuel = f + 1 := ⟨fuel - 1, by omega⟩
    show fX8_cakesIn_L1b h _ V s (nI i) = _
    unfold fX8_cakesIn_L1b
    rw [r_k3, hn, if_pos (nI_le (by omega) (by omega))]
    rfl
  | succ m ih =>
    intro fuel i s h1 h2
    obtain ⟨fuel, rfl⟩ : ∃ f, fuel = f + 1 := ⟨fuel - 1, by omega⟩
    show fX8_cakesIn_L1b h _ V s (nI i) = _
    unfold fX8_cakesIn_L1b
    rw [r_k3, hn, if_neg (nI_ge (by omega) (by omega)), m_its2 (by omega), gbi_some, nI_1]
    show _ = some (gfold _ m (i + 1) (s ||| (if kH (V 1) i = h then 1 <<< (nI i &&& 31) else 0)), V)
    rw [← ih fuel (i + 1) _ (by omega) (by omega)]
    by_cases hh : kH (V 1) i = h
    · rw [if_pos hh, if_pos hh, glt_eq]
    · rw [if_neg hh, if_neg hh, glt_eq]
theorem m_cakes {V : gV} {nc : Nat} (h6 : nc ≤ 6) (hn : V 1 3 = nI nc) (h : Int32) : fX8_cakesIn V h = some (sCakes (V 1) nc h, V) :=
  m_cakes_L h6 hn nc gFu 0 0 (Nat.zero_add _) (by unfold gFu; omega)
theorem m_has (V : gV) (s k : Int32) : fX8_has V s k = some (if hasB s k then 1 else 0, V) := by
  unfold fX8_has
  by_cases h : hasB s k
  · simp only [if_pos h]
  · simp only [if_neg h]

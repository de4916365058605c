/-! ===== PURE: the relation ===== -/
def hnd (r : rR) (nh : Nat) : Prop := ∀ h, h < nh → ∃ a, a ≤ 9 ∧ sHands r h = nI a
/-- world w of the class and row r of the model hold the same -/
def WR (V : gV) (w : Nat) (r : rR) (L : lW) (nh nc : Nat) : Prop := CO V w r L nh nc ∧ ML r L ∧ hnd r nh ∧ (∃ d, d ≤ 9999 ∧ r 0 = nI d) ∧ (∃ t, t ≤ 50 ∧ V w 10 = nI t ∧ r 4 = nI t) ∧ (∃ t, t ≤ 20 ∧ V w 11 = nI t ∧ r 5 = nI t) ∧ (∀ k, k < 50 → V (w + 12) k = r (94 + k)) ∧ ∀ k, k < 20 → V (w + 13) k = r (144 + k)
def shR (VX VM : gV) (s : Nat) : Prop := (∃ b, b ≤ 32 ∧ VX (104 + 2 * s) 1 = nI b ∧ VM 6 s = nI b) ∧ (∃ n, n ≤ 40 ∧ VX (104 + 2 * s) 2 = nI n ∧ VM 7 s = nI n) ∧ ∀ k, k < 40 → VX (104 + 2 * s + 1) k = VM 8 (40 * s + k)
/-- what does not lie in the world that is -/
def RR (i : Nat) (VX VM : gV) : Prop := (∃ n, n ≤ i ∧ VX 0 9 = nI n ∧ VM 0 5 = nI n ∧ VM 0 4 = (if n = 0 then 0 else 1) ∧ (n ≠ 0 → ∃ L nh nc, WR VX 31 (VM 2) L nh nc)) ∧ (∀ k, k < 6 → VX 103 k = VM 5 k) ∧ (∀ s, s < 4 → shR VX VM s) ∧ (∃ n, n ≤ 40 ∧ VX 97 1 = nI n ∧ VM 0 21 = nI n ∧ ∀ k, k < n → VX 98 k = VM 11 k) ∧ VX 112 = V0X 112 ∧ VX 113 = V0X 113 ∧ VX 114 = V0X 114 ∧ VX 115 = V0X 115
def RW (i : Nat) (VX VM : gV) (L : lW) (nh nc : Nat) : Prop := WR VX 1 (VM 1) L nh nc ∧ RR i VX VM
def Rel0 (i : Nat) (VX VM : gV) : Prop := ∃ L nh nc, RW i VX VM L nh nc
theorem WR.congr {V V' : gV} {w : Nat} {r : rR} {L : lW} {nh nc : Nat} (h : WR V w r L nh nc) (e : ∀ x, w ≤ x → x < w + 30 → x ≠ w + 8 → x ≠ w + 11 → V' x = V x) : WR V' w r L nh nc := by
  obtain ⟨h1, h2, h3, h4, h5, h6, h7, h8⟩ := h
  refine ⟨h1.congr e, h2, h3, h4, ?_, ?_, ?_, ?_⟩
  · rw [e w (by omega) (by omega) (by omega) (by omega)]; exact h5
  · rw [e w (by omega) (by omega) (by omega) (by omega)]; exact h6
  · rw [e _ (by omega) (by omega) (by omega) (by omega)]; exact h7
  · rw [e _ (by omega) (by omega) (by omega) (by omega)]; exact h8
/-- the class's rest stays -/
def xRest (V V' : gV) : Prop := ∀ x, (x = 0 ∨ (31 ≤ x ∧ x < 61 ∧ x ≠ 39 ∧ x ≠ 42) ∨ (97 ≤ x ∧ x ≠ 102)) → V' x = V x
def mRest (V V' : gV) : Prop := (V' 0 4 = V 0 4 ∧ V' 0 5 = V 0 5 ∧ V' 0 21 = V 0 21) ∧ V' 2 = V 2 ∧ V' 5 = V 5 ∧ V' 6 = V 6 ∧ V' 7 = V 7 ∧ V' 8 = V 8 ∧ V' 11 = V 11
theorem xRest.rf {V : gV} : xRest V V := fun _ _ => rfl
theorem xRest.tr {V V1 V2 : gV} (h1 : xRest V V1) (h2 : xRest V1 V2) : xRest V V2 := fun x h => (h2 x h).trans (h1 x h)
theorem mRest.rf {V : gV} : mRest V V := ⟨⟨rfl, rfl, rfl⟩, rfl, rfl, rfl, rfl, rfl, rfl⟩
theorem mRest.tr {V V1 V2 : gV} (h1 : mRest V V1) (h2 : mRest V1 V2) : mRest V V2 := ⟨⟨h2.1.1.trans h1.1.1, h2.1.2.1.trans h1.1.2.1, h2.1.2.2.trans h1.1.2.2⟩, h2.2.1.trans h1.2.1, h2.2.2.1.trans h1.2.2.1, h2.2.2.2.1.trans h1.2.2.2.1, h2.2.2.2.2.1.trans h1.2.2.2.2.1, h2.2.2.2.2.2.1.trans h1.2.2.2.2.2.1, h2.2.2.2.2.2.2.trans h1.2.2.2.2.2.2⟩
theorem mRest.scr {V V' : gV} (h : Scr V V') : mRest V V' := ⟨⟨h 0 4 (by omega), h 0 5 (by omega), h 0 21 (by omega)⟩, h.row (by omega), h.row (by omega), h.row (by omega), h.row (by omega), h.row (by omega), h.row (by omega)⟩
theorem mRest.sro {V V' : gV} {r : rR} (h : Sro V r V') : mRest V V' := ⟨⟨(h 0 4 (by omega)).trans (if_neg (by omega)), (h 0 5 (by omega)).trans (if_neg (by omega)), (h 0 21 (by omega)).trans (if_neg (by omega))⟩, h.oth (by omega) (by omega), h.oth (by omega) (by omega), h.oth (by omega) (by omega), h.oth (by omega) (by omega), h.oth (by omega) (by omega), h.oth (by omega) (by omega)⟩
theorem mRest.cell {V V' : gV} (h : ∀ c, c ≠ 1 → c ≠ 3 → c ≠ 4 → c ≠ 9 → c ≠ 10 → V' c = V c) : mRest V V' := by
  have h0 := h 0 (by omega) (by omega) (by omega) (by omega) (by omega)
  exact ⟨⟨congrFun h0 4, congrFun h0 5, congrFun h0 21⟩, h 2 (by omega) (by omega) (by omega) (by omega) (by omega), h 5 (by omega) (by omega) (by omega) (by omega) (by omega), h 6 (by omega) (by omega) (by omega) (by omega) (by omega), h 7 (by omega) (by omega) (by omega) (by omega) (by omega), h 8 (by omega) (by omega) (by omega) (by omega) (by omega), h 11 (by omega) (by omega) (by omega) (by omega) (by omega)⟩
theorem shR.congr {VX VM VX' VM' : gV} {s : Nat} (h : shR VX VM s) (e1 : VX' (104 + 2 * s) = VX (104 + 2 * s)) (e2 : VX' (104 + 2 * s + 1) = VX (104 + 2 * s + 1)) (e6 : VM' 6 = VM 6) (e7 : VM' 7 = VM 7) (e8 : VM' 8 = VM 8) : shR VX' VM' s := by
  unfold shR
  rw [e1, e2, e6, e7, e8]
  exact h
theorem RR.congr {i : Nat} {VX VM VX' VM' : gV} (h : RR i VX VM) (hX : xRest VX VX') (hM : mRest VM VM') : RR i VX' VM' := by
  obtain ⟨⟨n, h1, h2, h3, h4, h5⟩, h6, h7, ⟨t, h8, h9, h10, h11⟩, h12, h13, h14, h15⟩ := h
  obtain ⟨⟨m4, m5, m21⟩, c2, c5, c6, c7, c8, c11⟩ := hM
  refine ⟨⟨n, h1, by rw [hX 0 (by omega)]; exact h2, m5.trans h3, m4.trans h4, fun q => ?_⟩, fun k hk => by rw [hX 103 (by omega), c5]; exact h6 k hk, fun s hs => (h7 s hs).congr (hX _ (by omega)) (hX _ (by omega)) c6 c7 c8, ⟨t, h8, by rw [hX 97 (by omega)]; exact h9, m21.trans h10, fun k hk => by rw [hX 98 (by omega), c11]; exact h11 k hk⟩, (hX 112 (by omega)).trans h12, (hX 113 (by omega)).trans h13, (hX 114 (by omega)).trans h14, (hX 115 (by omega)).trans h15⟩
  obtain ⟨L, nh, nc, hw⟩ := h5 q
  rw [c2]
  exact ⟨L, nh, nc, hw.congr (fun x a b c d => hX x (by omega))⟩
theorem RR.mono {i j : Nat} {VX VM : gV} (h : RR i VX VM) (hij : i ≤ j) : RR j VX VM := by
  obtain ⟨⟨n, h1, h2⟩, h3⟩ := h
  exact ⟨⟨n, by omega, h2⟩, h3⟩
theorem hMono : ∀ i VX VM, Rel0 i VX VM → Rel0 (i + 6) VX VM := fun i VX VM ⟨L, nh, nc, h1, h2⟩ => ⟨L, nh, nc, h1, h2.mono (by omega)⟩
theorem RR.err {i : Nat} {VX VM : gV} (h : RR i VX VM) (k : Nat) : RR i (xErr VX k) (mErr VM k) := by
  obtain ⟨⟨n, h1, h2, h3, h4, h5⟩, h6, h7, ⟨t, h8, h9, h10, h11⟩, h12, h13, h14, h15⟩ := h
  have gx : ∀ x, x ≠ 103 → xErr VX k x = VX x := fun x hx => gup_row VX k _ hx
  have gm : ∀ x, x ≠ 5 → mErr VM k x = VM x := fun x hx => gup_row VM k _ hx
  refine ⟨⟨n, h1, by rw [gx 0 (by omega)]; exact h2, by rw [gm 0 (by omega)]; exact h3, by rw [gm 0 (by omega)]; exact h4, fun q => ?_⟩, fun j hj => ?_, fun s hs => (h7 s hs).congr (gx _ (by omega)) (gx _ (by omega)) (gm _ (by omega)) (gm _ (by omega)) (gm _ (by omega)), ⟨t, h8, by rw [gx 97 (by omega)]; exact h9, by rw [gm 0 (by omega)]; exact h10, fun k hk => by rw [gx 98 (by omega), gm 11 (by omega)]; exact h11 k hk⟩, (gx 112 (by omega)).trans h12, (gx 113 (by omega)).trans h13, (gx 114 (by omega)).trans h14, (gx 115 (by omega)).trans h15⟩
  · obtain ⟨L, nh, nc, hw⟩ := h5 q
    rw [gm 2 (by omega)]
    exact ⟨L, nh, nc, hw.congr (fun x a b c d => gx x (by omega))⟩
  · unfold xErr mErr gup
    by_cases hjk : j = k
    · subst hjk
      simp [h6 j hj]
    · simp [hjk, h6 j hj]
theorem RW.err {i : Nat} {VX VM : gV} {L : lW} {nh nc : Nat} (h : RW i VX VM L nh nc) (k : Nat) : RW i (xErr VX k) (mErr VM k) L nh nc := by
  refine ⟨?_, h.2.err k⟩
  rw [show mErr VM k 1 = VM 1 from gup_row VM k _ (by omega)]
  exact h.1.congr (fun x a b c d => gup_row VX k _ (by omega))
/-- what lies in the world that is and in the rest stays; the row too -/
theorem RW.keep {i : Nat} {VX VM VX' VM' : gV} {L : lW} {nh nc : Nat} (h : RW i VX VM L nh nc) (hX : ∀ x, (x < 61 ∨ (97 ≤ x ∧ x ≠ 102)) → x ≠ 9 → x ≠ 12 → VX' x = VX x) (h1 : VM' 1 = VM 1) (hM : mRest VM VM') : RW i VX' VM' L nh nc := by
  refine ⟨?_, h.2.congr (fun x hx => hX x (by omega) (by omega) (by omega)) hM⟩
  rw [h1]
  exact h.1.congr (fun x a b c d => hX x (by omega) (by omega) (by omega))
theorem RW.done {i : Nat} {VX VM : gV} {L : lW} {nh nc : Nat} (h : RW i VX VM L nh nc) {r : Int32} : gEq (Rel0 (i + 6)) (some (r, VX)) (some (r, VM)) := ⟨r, VX, VM, rfl, rfl, hMono _ _ _ ⟨L, nh, nc, h⟩⟩
theorem RW.dones {i : Nat} {VX VM : gV} {L : lW} {nh nc : Nat} (h : RW i VX VM L nh nc) {r r2 : Int32} (e : r = r2) : gEq (Rel0 (i + 6)) (some (r, VX)) (some (r2, VM)) := by
  subst e
  exact h.done
theorem RW.e_ {i : Nat} {VX VM : gV} {L : lW} {nh nc : Nat} (h : RW i VX VM L nh nc) (k : Nat) (hk : k < 6) {a e : Int32} (ha : a = nI k) (he : -1000000000 - e = nI k) (hae : -1000000000 - a = e) : gEq (Rel0 (i + 6)) (gbi (fX7_error VX a) fun x V => some (x, V)) (gbi (fX8_errs VM e) fun x V => some (x, V)) := by
  rw [eX_error VX k hk ha, eM_errs VM k hk he, gbi_some, gbi_some, hae]
  exact (h.err k).done
theorem RW.e1 {i : Nat} {VX VM : gV} {L : lW} {nh nc : Nat} (h : RW i VX VM L nh nc) : gEq (Rel0 (i + 6)) (gbi (fX7_error VX 1) fun x V => some (x, V)) (gbi (fX8_errs VM (-1000000001)) fun x V => some (x, V)) := h.e_ 1 (by decide) rfl (by decide) (by decide)
theorem RW.e2 {i : Nat} {VX VM : gV} {L : lW} {nh nc : Nat} (h : RW i VX VM L nh nc) : gEq (Rel0 (i + 6)) (gbi (fX7_error VX 2) fun x V => some (x, V)) (gbi (fX8_errs VM (-1000000002)) fun x V => some (x, V)) := h.e_ 2 (by decide) rfl (by decide) (by decide)
theorem RW.e3 {i : Nat} {VX VM : gV} {L : lW} {nh nc : Nat} (h : RW i VX VM L nh nc) : gEq (Rel0 (i + 6)) (gbi (fX7_error VX 3) fun x V => some (x, V)) (gbi (fX8_errs VM (-1000000003)) fun x V => some (x, V)) := h.e_ 3 (by decide) rfl (by decide) (by decide)
theorem RW.e4 {i : Nat} {VX VM : gV} {L : lW} {nh nc : Nat} (h : RW i VX VM L nh nc) : gEq (Rel0 (i + 6)) (gbi (fX7_error VX 4) fun x V => some (x, V)) (gbi (fX8_errs VM (-1000000004)) fun x V => some (x, V)) := h.e_ 4 (by decide) rfl (by decide) (by decide)
theorem RW.e5 {i : Nat} {VX VM : gV} {L : lW} {nh nc : Nat} (h : RW i VX VM L nh nc) : gEq (Rel0 (i + 6)) (gbi (fX7_error VX 5) fun x V => some (x, V)) (gbi (fX8_errs VM (-1000000005)) fun x V => some (x, V)) := h.e_ 5 (by decide) rfl (by decide) (by decide)
/-! guards -/
theorem r1_0 {V : gV} {β : Type} (f : Int32 → Option β) : gal V 1 0 264 f = f (V 1 0) := r_k0 f
theorem w1_0 {V : gV} {v : Int32} {β : Type} (f : gV → Option β) : gas V 1 0 264 v f = f (gup V 1 0 v) := w_k0 f
theorem r1_1 {V : gV} {β : Type} (f : Int32 → Option β) : gal V 1 1 264 f = f (V 1 1) := r_k1 f
theorem w1_1 {V : gV} {v : Int32} {β : Type} (f : gV → Option β) : gas V 1 1 264 v f = f (gup V 1 1 v) := w_k1 f
theorem r1_2 {V : gV} {β : Type} (f : Int32 → Option β) : gal V 1 2 264 f = f (V 1 2) := r_k2 f
theorem w1_2 {V : gV} {v : Int32} {β : Type} (f : gV → Option β) : gas V 1 2 264 v f = f (gup V 1 2 v) := w_k2 f
theorem r1_3 {V : gV} {β : Type} (f : Int32 → Option β) : gal V 1 3 264 f = f (V 1 3) := r_k3 f
theorem w1_3 {V : gV} {v : Int32} {β : Type} (f : gV → Option β) : gas V 1 3 264 v f = f (gup V 1 3 v) := w_k3 f
theorem r1_4 {V : gV} {β : Type} (f : Int32 → Option β) : gal V 1 4 264 f = f (V 1 4) := r_k4 f
theorem w1_4 {V : gV} {v : Int32} {β : Type} (f : gV → Option β) : gas V 1 4 264 v f = f (gup V 1 4 v) := w_k4 f
theorem r1_5 {V : gV} {β : Type} (f : Int32 → Option β) : gal V 1 5 264 f = f (V 1 5) := r_k5 f
theorem w1_5 {V : gV} {v : Int32} {β : Type} (f : gV → Option β) : gas V 1 5 264 v f = f (gup V 1 5 v) := w_k5 f
theorem r1_at {V : gV} (k : Nat) {a : Int32} (ha : a = nI k) (hk : k < 264) {β : Type} (f : Int32 → Option β) : gal V 1 a 264 f = f (V 1 k) := gal_at k ha hk (by decide) f
theorem w1_at {V : gV} (k : Nat) {a v : Int32} (ha : a = nI k) (hk : k < 264) {β : Type} (f : gV → Option β) : gas V 1 a 264 v f = f (gup V 1 k v) := gas_at k ha hk (by decide) f

section GD
variable {β : Type}
theorem d_within (V : gV) (a lo hi : Int32) (k : Int32 → gV → Option β) : gbi (fX7_within V a lo hi) k = if lo ≤ a ∧ a ≤ hi then k 1 V else k 0 V := by
  rw [eX_within, gbi_some]
  split <;> rfl
theorem d_in (V : gV) (a lo hi : Int32) (k : Int32 → gV → Option β) : gbi (fX8_in V a lo hi) k = if lo ≤ a ∧ a ≤ hi then k 1 V else k 0 V := by
  rw [eM_in, gbi_some]
  split <;> rfl
theorem g10 (A B : Option β) : (if (1 : Int32) = 0 then A else B) = B := if_neg (by decide)
theorem g00 (A B : Option β) : (if (0 : Int32) = 0 then A else B) = A := if_pos rfl
theorem d_isHouse {V : gV} {nh : Nat} (h : V 1 8 = nI nh) (a : Int32) (k : Int32 → gV → Option β) : gbi (fX7_isHouse V a) k = if 0 ≤ a ∧ a ≤ nI nh - 1 then k 1 V else k 0 V := by
  unfold fX7_isHouse
  rw [eX_within, gbi_some, gzb_ite, show V (0 + 1) 8 = nI nh from h, gbi_some]
  split <;> rfl
theorem d_isCake {V : gV} {nc : Nat} (h : V 1 9 = nI nc) (a : Int32) (k : Int32 → gV → Option β) : gbi (fX7_isCake V a) k = if 0 ≤ a ∧ a ≤ nI nc - 1 then k 1 V else k 0 V := by
  unfold fX7_isCake
  rw [eX_within, gbi_some, gzb_ite, show V (0 + 1) 9 = nI nc from h, gbi_some]
  split <;> rfl
theorem d_isSheet (V : gV) (a : Int32) (k : Int32 → gV → Option β) : gbi (fX7_isSheet V a) k = if 0 ≤ a ∧ a ≤ 3 then k 1 V else k 0 V := by
  unfold fX7_isSheet
  rw [eX_within, gbi_some, gzb_ite, gbi_some]
  split <;> rfl
theorem d_isGuest (V : gV) (a : Int32) (k : Int32 → gV → Option β) : gbi (fX7_isGuest V a) k = if 0 ≤ a ∧ a ≤ 9 then k 1 V else k 0 V := by
  unfold fX7_isGuest
  rw [eX_within, gbi_some, gzb_ite, gbi_some]
  split <;> rfl
theorem d_isGN (V : gV) (a : Int32) (k : Int32 → gV → Option β) : gbi (fX7_isGuestOrNobody V a) k = if -1 ≤ a ∧ a ≤ 9 then k 1 V else k 0 V := by
  unfold fX7_isGuestOrNobody
  rw [eX_within, gbi_some, gzb_ite, gbi_some]
  split <;> rfl
theorem d_isKm (V : gV) (a : Int32) (k : Int32 → gV → Option β) : gbi (fX7_isKindAndNumber V a) k = if 0 ≤ a ∧ a ≤ 69 then k 1 V else k 0 V := by
  unfold fX7_isKindAndNumber
  rw [eX_within, gbi_some, gzb_ite, gbi_some]
  split <;> rfl
theorem dm_isHouse {V : gV} {nh : Nat} (h : V 1 2 = nI nh) (a : Int32) (k : Int32 → gV → Option β) : gbi (fX8_isHouse V a) k = if 0 ≤ a ∧ a ≤ nI nh - 1 then k 1 V else k 0 V := by
  unfold fX8_isHouse
  rw [r_k2, eM_in, gbi_some, gzb_ite, h, gbi_some]
  split <;> rfl
theorem dm_isCake {V : gV} {nc : Nat} (h : V 1 3 = nI nc) (a : Int32) (k : Int32 → gV → Option β) : gbi (fX8_isCake V a) k = if 0 ≤ a ∧ a ≤ nI nc - 1 then k 1 V else k 0 V := by
  unfold fX8_isCake
  rw [r_k3, eM_in, gbi_some, gzb_ite, h, gbi_some]
  split <;> rfl
theorem dm_isSheet (V : gV) (a : Int32) (k : Int32 → gV → Option β) : gbi (fX8_isSheet V a) k = if 0 ≤ a ∧ a ≤ 3 then k 1 V else k 0 V := by
  unfold fX8_isSheet
  rw [eM_in, gbi_some, gzb_ite, gbi_some]
  split <;> rfl
theorem dm_isGuest (V : gV) (a : Int32) (k : Int32 → gV → Option β) : gbi (fX8_isGuest V a) k = if 0 ≤ a ∧ a ≤ 9 then k 1 V else k 0 V := by
  unfold fX8_isGuest
  rw [eM_in, gbi_some, gzb_ite, gbi_some]
  split <;> rfl
end GD
/-- an int from 0 to below n -/
theorem rng {a : Int32} {n : Nat} (hn : n < 2 ^ 31) (h : 0 ≤ a ∧ a ≤ nI n - 1) : ∃ k, k < n ∧ a = nI k := by
  rcases n with _ | n
  · exfalso
    have h1 := Int32.le_iff_toInt_le.mp h.1
    have h2 := Int32.le_iff_toInt_le.mp h.2
    have : (nI 0 - 1 : Int32).toInt = -1 := by decide
    have : (0 : Int32).toInt = 0 := by decide
    omega
  · rw [pI_sub1] at h
    refine pI_of h.1 ?_ hn
    have h2 := Int32.le_iff_toInt_le.mp h.2
    rw [Int32.lt_iff_toInt_lt, nI_toInt hn]
    rw [nI_toInt (by omega)] at h2
    omega
theorem rngc {a : Int32} {n : Nat} (hn : n < 2 ^ 31) (h : 0 ≤ a ∧ a ≤ nI n) : ∃ k, k ≤ n ∧ a = nI k := by
  have h1 := Int32.le_iff_toInt_le.mp h.1
  have h2 := Int32.le_iff_toInt_le.mp h.2
  rw [nI_toInt hn] at h2
  have : (0 : Int32).toInt = 0 := by decide
  refine ⟨a.toInt.toNat, by omega, ?_⟩
  apply Int32.toInt_inj.mp
  rw [nI_toInt (by omega)]
  omega

/-! ===== worlds of a fixed shape ===== -/
abbrev gV : Type := Nat → Nat → Int32
def gup (V : gV) (c j : Nat) (v : Int32) : gV := fun a b => if a = c ∧ b = j then v else V a b
theorem gup_at (V : gV) (c j : Nat) (v : Int32) : gup V c j v c j = v := if_pos ⟨rfl, rfl⟩
theorem gup_ne (V : gV) {c j a b : Nat} (v : Int32) (h : ¬ (a = c ∧ b = j)) : gup V c j v a b = V a b := if_neg h
theorem gup_row (V : gV) {c a : Nat} (j : Nat) (v : Int32) (h : a ≠ c) : gup V c j v a = V a := by
  funext b
  exact if_neg (fun q => h q.1)
abbrev gK : Type := Option (Nat ⊕ ((Nat × List (Option Nat)) ⊕ (Nat × Nat × Nat × Nat)))
/-- addresses, class numbers, the shape, how many cells may be written, statics that hold a row -/
abbrev gG : Type := (Nat → Nat) × va_G × (Nat → gK) × Nat × List (String × String × Nat)
def gTy (k : Nat) : FieldType := match k with
  | 0 => .object "SoapNames$House"
  | 1 => .object "SoapNames$Cake"
  | _ => .object "SoapNames$Sheet"
abbrev gCl : List vw_C := [(RX0, TX0, 7), (RX1, TX1, 2), (RX2, TX2, 6), (RX3, TX3, 3), (RX4, TX4, 3), (RX5, TX5, 5), (RX6, TX6, 14), (RX7, TX7, 10), (RX8, TX8, 25)]
def gfv (ad : Nat → Nat) (f : Nat → Int32) (j : Nat) (o : Option Nat) : Value := match o with
  | none => .int (f j)
  | some t => .ref (ad t)
def gfs (ad : Nat → Nat) (f : Nat → Int32) (l : List (Option Nat)) : List Value := l.mapIdx (gfv ad f)
theorem gfs_get {ad : Nat → Nat} {f : Nat → Int32} {l : List (Option Nat)} {j : Nat} {o : Option Nat} (h : l[j]? = some o) : (gfs ad f l)[j]? = some (gfv ad f j o) := by
  simp [gfs, h]
theorem gfs_set {ad : Nat → Nat} {V : gV} {c : Nat} {l : List (Option Nat)} {j : Nat} {v : Int32} (h : l[j]? = some none) : (gfs ad (V c) l).set j (.int v) = gfs ad (gup V c j v c) l := by
  apply List.ext_getElem?
  intro i
  have hj : j < l.length := (List.getElem?_eq_some_iff.mp h).1
  by_cases hi : i = j
  · subst hi
    rw [List.getElem?_set_self (by simpa [gfs] using hj), gfs_get h]
    simp [gfv, gup_at]
  · rw [List.getElem?_set_ne (fun q => hi q.symm)]
    simp only [gfs, List.getElem?_mapIdx]
    cases hl : l[i]? with
    | none => rfl
    | some o =>
      cases o with
      | none => simp [gfv, gup, hi]
      | some t => rfl
def gat (G : gG) (V : gV) (U : State) (H : Heap) (k : Nat) : Prop := match G.2.2.1 k with
  | none => True
  | some (.inl n) => ∃ cell : Cell, H[G.1 k]? = some cell ∧ U.isArrayOf cell .int ∧ cell.vm ≠ .unknown ∧ n ≤ cell.slots.size ∧ cell.slots.size.toInt32 = Int32.ofNat n ∧ ∀ j, j < n → cell.slots[j]? = some (.int (V k j))
  | some (.inr (.inl o)) => ∃ r : vw_C, gCl[o.1]? = some r ∧ t_OB (G.1 k) (G.2.1.1 o.1) r.2.2 (G.2.1.2 o.1) H (vp_V (gfs G.1 (V k) o.2))
  | some (.inr (.inr a)) => ∃ cell : Cell, H[G.1 k]? = some cell ∧ U.isArrayOf cell (gTy a.1) ∧ cell.vm ≠ .unknown ∧ cell.slots.size = a.2.1 ∧ ∀ j, j < a.2.1 → cell.slots[j]? = some (.ref (G.1 (a.2.2.1 + a.2.2.2 * j)))
theorem gat_i {G : gG} {V : gV} {U : State} {H : Heap} {k n : Nat} (hs : G.2.2.1 k = some (.inl n)) : gat G V U H k ↔ ∃ cell : Cell, H[G.1 k]? = some cell ∧ U.isArrayOf cell .int ∧ cell.vm ≠ .unknown ∧ n ≤ cell.slots.size ∧ cell.slots.size.toInt32 = Int32.ofNat n ∧ ∀ j, j < n → cell.slots[j]? = some (.int (V k j)) := by
  unfold gat
  rw [hs]
theorem gat_o {G : gG} {V : gV} {U : State} {H : Heap} {k ci : Nat} {l : List (Option Nat)} (hs : G.2.2.1 k = some (.inr (.inl (ci, l)))) : gat G V U H k ↔ ∃ r : vw_C, gCl[ci]? = some r ∧ t_OB (G.1 k) (G.2.1.1 ci) r.2.2 (G.2.1.2 ci) H (vp_V (gfs G.1 (V k) l)) := by
  unfold gat
  rw [hs]
theorem gat_r {G : gG} {V : gV} {U : State} {H : Heap} {k ty n b d : Nat} (hs : G.2.2.1 k = some (.inr (.inr (ty, n, b, d)))) : gat G V U H k ↔ ∃ cell : Cell, H[G.1 k]? = some cell ∧ U.isArrayOf cell (gTy ty) ∧ cell.vm ≠ .unknown ∧ cell.slots.size = n ∧ ∀ j, j < n → cell.slots[j]? = some (.ref (G.1 (b + d * j))) := by
  unfold gat
  rw [hs]
theorem gat_kept {G : gG} {V W : gV} {U : State} {H H1 : Heap} {k : Nat} (h : gat G V U H k) (hq : H1[G.1 k]? = H[G.1 k]?) (hV : W k = V k) : gat G W U H1 k := by
  unfold gat at h ⊢
  rcases hs : G.2.2.1 k with _ | n | o | a
  · rw [hs] at h; exact trivial
  · rw [hs] at h
    obtain ⟨cell, h1, h2⟩ := h
    exact ⟨cell, hq.trans h1, by rw [hV]; exact h2⟩
  · rw [hs] at h
    obtain ⟨r, h1, h2⟩ := h
    exact ⟨r, h1, by rw [hV]; exact h2.kept hq⟩
  · rw [hs] at h
    obtain ⟨cell, h1, h2⟩ := h
    exact ⟨cell, hq.trans h1, h2⟩
theorem gat_moved {G : gG} {V : gV} {u U : State} {H : Heap} {k : Nat} (hvm : u.vm.Alike U.vm) (h : gat G V u H k) : gat G V U H k := by
  unfold gat at h ⊢
  rcases hs : G.2.2.1 k with _ | n | o | a
  · exact trivial
  · rw [hs] at h
    obtain ⟨cell, h1, h2, h3⟩ := h
    exact ⟨cell, h1, State.isArrayOf_alike hvm h2, h3⟩
  · rw [hs] at h
    exact h
  · rw [hs] at h
    obtain ⟨cell, h1, h2, h3⟩ := h
    exact ⟨cell, h1, State.isArrayOf_alike hvm h2, h3⟩
def gP (G : gG) (V : gV) (U : State) (H : Heap) : Prop := ∀ k, gat G V U H k
def gA (G : gG) : Nat → Prop := fun q => ∃ c, c < G.2.2.2.1 ∧ q = G.1 c
theorem gA_of {G : gG} {c : Nat} (h : c < G.2.2.2.1) : gA G (G.1 c) := ⟨c, h, rfl⟩
def gT (G : gG) (U : State) : Prop := va_K G.2.1 gCl [] U ∧ (∀ w ∈ gN, va_Nw w U) ∧ (∀ c k, c < G.2.2.2.1 → k ≠ c → G.1 k ≠ G.1 c) ∧ ∀ c o, G.2.2.1 c = some (.inr (.inl o)) → c < G.2.2.2.1
def gZ (G : gG) (U : State) (H : Heap) : Prop := ∀ q ∈ G.2.2.2.2, va_Z q.1 q.2.1 "[I" (.ref (G.1 q.2.2)) (gA G) U H
def gI (G : gG) (V : gV) (U : State) : Prop := gP G V U U.heap ∧ gT G U ∧ gZ G U U.heap
theorem gnw_warm {s U : State} (hW : s.WarmedH U.vm) {w : Cond} (hw : gnw w = true) (h : va_Nw w s) : va_Nw w U := by
  cases w <;> first | exact va_Nw.warmF hW h | exact va_Nw.warmM hW h | cases hw
theorem gnw_tab {w : Cond} (hw : gnw w = true) : w.onTables = true := by
  cases w <;> first | rfl | cases hw
theorem gT_warm {G : gG} {s U : State} (hW : s.WarmedH U.vm) (h : gT G s) : gT G U := ⟨va_K.moved hW.alike h.1, fun w hw => gnw_warm hW (List.mem_filter.mp hw).2 (h.2.1 w hw), h.2.2⟩
theorem gT_call {G : gG} {U : State} {g : JFrame} {mk : MethodId} {a : Array Value} (h : gT G U) : gT G (U.calling g mk a) := ⟨va_K.moved (u := U) (U := U.calling g mk a) (Vm.Alike.refl U.vm) h.1, fun w hw => va_Nw.same (u := U) (U := U.calling g mk a) (gnw_tab (List.mem_filter.mp hw).2) rfl (h.2.1 w hw), h.2.2⟩
theorem gP_moved {G : gG} {V : gV} {u U : State} {H : Heap} (hvm : u.vm.Alike U.vm) (h : gP G V u H) : gP G V U H := fun k => gat_moved hvm (h k)
theorem gZ_moved {G : gG} {u U : State} {H : Heap} (hvm : u.vm.Alike U.vm) (h : gZ G u H) : gZ G U H := fun q hq => (h q hq).moved hvm
theorem gZ_kept {G : gG} {U : State} {H H1 : Heap} {locs : List Loc} (h : gZ G U H) (hS : va_S (gA G) H H1 locs) : gZ G U H1 := fun q hq => (h q hq).kept hS.2.1
theorem gI_blind {G : gG} {V : gV} {av : List Value} : FrameBlind (va_Pc av (gI G V)) := fun a U g mk q => by
  obtain ⟨q0, qP, qT, qZ⟩ := q
  exact ⟨q0, gP_moved (u := U) (U := U.calling g mk a) (Vm.Alike.refl U.vm) qP, gT_call qT, gZ_moved (u := U) (U := U.calling g mk a) (Vm.Alike.refl U.vm) qZ⟩
/-- a heap in which one mutable cell is another -/
theorem gP_one {G : gG} {V V1 : gV} {U : State} {H H1 : Heap} {c : Nat} (h : gP G V U H) (hT : gT G U) (hc : c < G.2.2.2.1) (oq : ∀ q : Nat, q ≠ G.1 c → H1[q]? = H[q]?) (hV : ∀ k, k ≠ c → V1 k = V k) (h1 : gat G V1 U H1 c) : gP G V1 U H1 := by
  intro k
  by_cases hk : k = c
  · subst hk; exact h1
  · exact gat_kept (h k) (oq _ (hT.2.2.1 c k hc hk)) (hV k hk)
theorem gsz {n : Nat} {i : Int32} {sz : Nat} (h : ¬ (i < 0 ∨ n ≤ i.toNatClampNeg)) (hz : n ≤ sz) : ¬ (i < 0 ∨ sz ≤ i.toNatClampNeg) := by
  intro q
  rcases q with q | q
  · exact h (Or.inl q)
  · exact h (Or.inr (Nat.le_trans hz q))
theorem glt_of {n : Nat} {i : Int32} (h : ¬ (i < 0 ∨ n ≤ i.toNatClampNeg)) : i.toNatClampNeg < n := Nat.not_le.mp fun q => h (Or.inr q)
/-! the words of the pure texts -/
section GW
variable {β : Type}
def gpu (V : gV) (c j : Nat) (v : Int32) (k : gV → Option β) : Option β := k (gup V c j v)
def gal (V : gV) (c : Nat) (i : Int32) (n : Nat) (k : Int32 → Option β) : Option β := if i < 0 ∨ n ≤ i.toNatClampNeg then none else k (V c i.toNatClampNeg)
def gas (V : gV) (c : Nat) (i : Int32) (n : Nat) (v : Int32) (k : gV → Option β) : Option β := if i < 0 ∨ n ≤ i.toNatClampNeg then none else k (gup V c i.toNatClampNeg v)
def gar (i : Int32) (n : Nat) (k : Option β) : Option β := if i < 0 ∨ n ≤ i.toNatClampNeg then none else k
def gdv (y : Int32) (k : Option β) : Option β := if y = 0 then none else k
def glt (e : Int32) (k : Int32 → Option β) : Option β := k e
def gzb (v : Int32) (k : Option β) : Option β := if v &&& 1 = v then k else none
def gbi (f : Option (Int32 × gV)) (k : Int32 → gV → Option β) : Option β := match f with
  | none => none
  | some q => k q.1 q.2
def gbr (f : Option (Nat × gV)) (k : Nat → gV → Option β) : Option β := match f with
  | none => none
  | some q => k q.1 q.2
def gbv (f : Option gV) (k : gV → Option β) : Option β := match f with
  | none => none
  | some q => k q
def gjn {γ : Type} (J : γ) (k : γ → Option β) : Option β := k J
def gcV (V : gV) (cf sp ct dp n : Nat) : gV := fun a b => if a = ct ∧ dp ≤ b ∧ b < dp + n then V cf (sp + (b - dp)) else V a b
def gcp (V : gV) (cf n0 : Nat) (i : Int32) (ct n1 : Nat) (j n : Int32) (k : gV → Option β) : Option β := if i < 0 ∨ j < 0 ∨ n < 0 ∨ n0 < i.toNatClampNeg + n.toNatClampNeg ∨ n1 < j.toNatClampNeg + n.toNatClampNeg then none else k (gcV V cf i.toNatClampNeg ct j.toNatClampNeg n.toNatClampNeg)
end GW
def gmx (x y : Int32) : Int32 := if x < y then y else x
def gmn (x y : Int32) : Int32 := if y < x then y else x
def gus (x y : Int32) : Int32 := (x.toUInt32 >>> (y.toUInt32 &&& Int32.toUInt32 31)).toInt32
def grm (x y : Int32) : Int32 := x - x / y * y
def gR (f lo : Nat) : Room := { frames := f, cells := 0, slots := 0, locals := lo }
def gFu : Nat := 5000
/-! contracts -/
def gQi (G : gG) (r : Int32) (V : gV) : Array Value → State → Outcome → State → Prop := va_Qi (fun x (_ : Unit) => x = r) (fun _ t => gP G V t t.heap) (gA G)
def gQv (G : gG) (V : gV) : Array Value → State → Outcome → State → Prop := va_Qv (fun (_ : Unit) => True) (fun _ t => gP G V t t.heap) (gA G)
def gQr (G : gG) (c : Nat) (V : gV) : Array Value → State → Outcome → State → Prop := va_Qr (fun (_ : Unit) => True) (fun _ a t => a = G.1 c ∧ gP G V t t.heap) (gA G)
def gMi (l : Launch) (G : gG) (y : MethodName) (b : ByteArray) (n : Nat) (ty : FieldType) (rm : Room) (av : List Value) (V : gV) (f : Option (Int32 × gV)) : Prop := ∀ r V', f = some (r, V') → Met l y (.code y b n (some ty) :: gB) rm (va_Pc av (gI G V)) (gQi G r V') 0 0 (gA G)
def gMv (l : Launch) (G : gG) (y : MethodName) (b : ByteArray) (n : Nat) (rm : Room) (av : List Value) (V : gV) (f : Option gV) : Prop := ∀ V', f = some V' → Met l y (.code y b n none :: gB) rm (va_Pc av (gI G V)) (gQv G V') 0 0 (gA G)
def gMr (l : Launch) (G : gG) (y : MethodName) (b : ByteArray) (n : Nat) (ty : FieldType) (rm : Room) (av : List Value) (V : gV) (f : Option (Nat × gV)) : Prop := ∀ c V', f = some (c, V') → Met l y (.code y b n (some ty) :: gB) rm (va_Pc av (gI G V)) (gQr G c V') 0 0 (gA G)
/-! a walk's place: p, e, s, m, args, below, meth, c, Q -/
abbrev gX : Type := Program × Env × State × MethodId × Array Value × List Frame × Method × Code × (State → Prop)
abbrev xs (X : gX) : State := X.2.2.1
abbrev xm (X : gX) : MethodId := X.2.2.2.1
abbrev xa (X : gX) : Array Value := X.2.2.2.2.1
abbrev xb (X : gX) : List Frame := X.2.2.2.2.2.1
abbrev xM (X : gX) : Method := X.2.2.2.2.2.2.1
abbrev xc (X : gX) : Code := X.2.2.2.2.2.2.2.1
abbrev xQ (X : gX) : State → Prop := X.2.2.2.2.2.2.2.2
def gC (cc : ByteArray) (nL : Nat) (own : String) (G : gG) (X : gX) : Prop := X.1.tables.exec = Jvm.exec ∧ (xc X).code = cc ∧ (xc X).maxLocals = nL ∧ (xs X).vm.findClass own = some (xm X).cls ∧ (∀ w ∈ gB, w.before (xa X) (xs X) = true) ∧ gT G (xs X) ∧ gZ G (xs X) (xs X).heap
def gSm {α : Type} (l : Launch) (R : Room) (nL : Nat) (G : gG) (X : gX) (k : Option α) (res : α) (V : gV) (pc : Nat) (L : List (Nat × Value)) (st : List Value) : Prop :=
  k = some res → ∀ (H : Heap) (locs : List Loc) (ls : Array Slot), gP G V (xs X) H → va_S (gA G) (xs X).heap H locs → lv_has ls nL L → W X.1 l X.2.1 R (xs X) (xm X) (xa X) (xb X) (xM X) (xc X) H locs 0 0 (xQ X) (F0 (xm X) pc ls st)
def gFL (own : String) (i : Nat) (a n d : String) : Prop := Cond.fieldLink own i a n d ∈ gB ∨ ∃ h, Cond.fieldLinkNest own i a n d h ∈ gN
def gML (own : String) (i : Nat) (y : MethodName) : Prop := Cond.methodLink own i y ∈ gB ∨ ∃ h, Cond.methodLinkNest own i y h ∈ gN

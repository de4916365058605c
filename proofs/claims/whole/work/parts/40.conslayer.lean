/-! ===== constructors: the cells that are made, one behind another from an address on ===== -/
/-- a row of ints; an object; a row of references -/
abbrev cD : Type := List Value ⊕ ((Nat × List Value) ⊕ (Nat × List Value))
def gCi (t : Nat) : Nat := match t with
  | 0 => 1
  | 1 => 0
  | _ => 3
def cat (D : va_G) (U : State) (H : Heap) (a : Nat) (d : cD) : Prop := match d with
  | .inl vs => ∃ cell : Cell, H[a]? = some cell ∧ U.isArrayOf cell .int ∧ cell.vm ≠ .unknown ∧ cell.slots.size = vs.length ∧ ∀ (j : Nat) (v : Value), vs[j]? = some v → cell.slots[j]? = some v
  | .inr (.inl o) => ∃ r : vw_C, gCl[o.1]? = some r ∧ t_OB a (D.1 o.1) r.2.2 (D.2 o.1) H (vp_V o.2)
  | .inr (.inr o) => ∃ (cell : Cell) (kA : Class), H[a]? = some cell ∧ cell.vm = .none ∧ cell.slots.size = o.2.length ∧ (∀ (j : Nat) (v : Value), o.2[j]? = some v → cell.slots[j]? = some v) ∧ U.vm.classes[cell.cls]? = some kA ∧ kA.kind = .array (D.1 (gCi o.1)) (gTy o.1)
theorem cat_kept {D : va_G} {U : State} {H H1 : Heap} {a : Nat} {d : cD} (h : cat D U H a d) (hq : H1[a]? = H[a]?) : cat D U H1 a d := by
  rcases d with vs | o | o
  · obtain ⟨cell, h1, h2⟩ := h
    exact ⟨cell, hq.trans h1, h2⟩
  · obtain ⟨r, h1, h2⟩ := h
    exact ⟨r, h1, h2.kept hq⟩
  · obtain ⟨cell, kA, h1, h2⟩ := h
    exact ⟨cell, kA, hq.trans h1, h2⟩
theorem cat_moved {D : va_G} {u U : State} {H : Heap} {a : Nat} {d : cD} (hvm : u.vm.Alike U.vm) (h : cat D u H a d) : cat D U H a d := by
  rcases d with vs | o | o
  · obtain ⟨cell, h1, h2, h3⟩ := h
    exact ⟨cell, h1, State.isArrayOf_alike hvm h2, h3⟩
  · exact h
  · obtain ⟨cell, kA, h1, h2, h3, h4, h5, h6⟩ := h
    obtain ⟨k', hk', he⟩ := hvm.2.2 _ _ h5
    exact ⟨cell, k', h1, h2, h3, h4, hk', by rw [he]; exact h6⟩
theorem cat_lt {D : va_G} {U : State} {H : Heap} {a : Nat} {d : cD} (h : cat D U H a d) : a < H.size := by
  rcases d with vs | o | o
  · obtain ⟨cell, h1, -⟩ := h
    exact (Array.getElem?_eq_some_iff.mp h1).1
  · obtain ⟨r, -, cell, h1, -⟩ := h
    exact (Array.getElem?_eq_some_iff.mp h1).1
  · obtain ⟨cell, kA, h1, -⟩ := h
    exact (Array.getElem?_eq_some_iff.mp h1).1
def cP (D : va_G) (a : Nat) (l : List cD) (U : State) (H : Heap) : Prop := H.size = a + l.length ∧ ∀ (k : Nat) (d : cD), l[k]? = some d → cat D U H (a + k) d
def cT (D : va_G) (U : State) : Prop := va_K D gCl [] U ∧ (∀ w ∈ gN, va_Nw w U) ∧ va_AO "SoapNames$House" U ∧ va_AO "SoapNames$Cake" U ∧ va_AO "SoapNames$Sheet" U
def cI (D : va_G) (a : Nat) (l : List cD) (U : State) : Prop := cP D a l U U.heap ∧ cT D U
def cA (a : Nat) : Nat → Prop := fun q => a ≤ q
theorem cP_moved {D : va_G} {a : Nat} {l : List cD} {u U : State} {H : Heap} (hvm : u.vm.Alike U.vm) (h : cP D a l u H) : cP D a l U H := ⟨h.1, fun k d hk => cat_moved hvm (h.2 k d hk)⟩
theorem cT_warm {D : va_G} {s U : State} (hW : s.WarmedH U.vm) (h : cT D s) : cT D U := ⟨va_K.moved hW.alike h.1, fun w hw => gnw_warm hW (List.mem_filter.mp hw).2 (h.2.1 w hw), h.2.2.1.moved hW.alike, h.2.2.2.1.moved hW.alike, h.2.2.2.2.moved hW.alike⟩
theorem cI_blind {D : va_G} {a : Nat} {l : List cD} {av : List Value} : FrameBlind (va_Pc av (cI D a l)) := fun ar U g mk q => by
  obtain ⟨q0, qP, h1, h2, h3, h4, h5⟩ := q
  exact ⟨q0, cP_moved (u := U) (U := U.calling g mk ar) (Vm.Alike.refl U.vm) qP, va_K.moved (u := U) (U := U.calling g mk ar) (Vm.Alike.refl U.vm) h1, fun w hw => va_Nw.same (u := U) (U := U.calling g mk ar) (gnw_tab (List.mem_filter.mp hw).2) rfl (h2 w hw), h3.moved (u := U) (U := U.calling g mk ar) (Vm.Alike.refl U.vm), h4.moved (u := U) (U := U.calling g mk ar) (Vm.Alike.refl U.vm), h5.moved (u := U) (U := U.calling g mk ar) (Vm.Alike.refl U.vm)⟩
/-- one cell more -/
theorem cP_push {D : va_G} {a : Nat} {l : List cD} {U : State} {H H1 : Heap} {d : cD} (h : cP D a l U H) (z : H1.size = H.size + 1) (o : ∀ q, q < H.size → H1[q]? = H[q]?) (hd : cat D U H1 H.size d) : cP D a (l ++ [d]) U H1 := by
  refine ⟨by rw [z, h.1, List.length_append]; rfl, fun k e hk => ?_⟩
  by_cases hl : k < l.length
  · rw [List.getElem?_append_left hl] at hk
    exact cat_kept (h.2 k e hk) (o _ (by rw [h.1]; omega))
  · rw [List.getElem?_append_right (by omega)] at hk
    have hz : k - l.length < 1 := (List.getElem?_eq_some_iff.mp hk).1
    rw [show k - l.length = 0 by omega] at hk
    cases hk
    rw [show a + k = H.size by rw [h.1]; omega]
    exact hd
theorem cP_set {D : va_G} {a k : Nat} {l : List cD} {U : State} {H H1 : Heap} {d d0 : cD} (h : cP D a l U H) (hk : l[k]? = some d0) (z : H1.size = H.size) (o : ∀ q, q ≠ a + k → H1[q]? = H[q]?) (hd : cat D U H1 (a + k) d) : cP D a (l.set k d) U H1 := by
  refine ⟨by rw [z, h.1, List.length_set], fun j e hj => ?_⟩
  by_cases hl : j = k
  · subst hl
    rw [List.getElem?_set_self (List.getElem?_eq_some_iff.mp hk).1] at hj
    cases hj
    exact hd
  · rw [List.getElem?_set_ne (fun q => hl q.symm)] at hj
    exact cat_kept (h.2 j e hj) (o _ (by omega))
def cC (cc : ByteArray) (nL : Nat) (own : String) (D : va_G) (X : gX) : Prop := X.1.tables.exec = Jvm.exec ∧ (xc X).code = cc ∧ (xc X).maxLocals = nL ∧ (xs X).vm.findClass own = some (xm X).cls ∧ (∀ w ∈ gB, w.before (xa X) (xs X) = true) ∧ cT D (xs X)
def cSm (l : Launch) (R : Room) (nL : Nat) (D : va_G) (a : Nat) (X : gX) (lst : List cD) (cells slots : Nat) (pc : Nat) (L : List (Nat × Value)) (st : List Value) : Prop :=
  ∀ (H : Heap) (locs : List Loc) (ls : Array Slot), cP D a lst (xs X) H → va_S (cA a) (xs X).heap H locs → lv_has ls nL L → W X.1 l X.2.1 R (xs X) (xm X) (xa X) (xb X) (xM X) (xc X) H locs cells slots (xQ X) (F0 (xm X) pc ls st)
def cQ (D : va_G) (a : Nat) (lst : List cD) : Array Value → State → Outcome → State → Prop := va_Qv (fun (_ : Unit) => True) (fun _ t => cP D a lst t t.heap) (cA a)
def cR (f mc ms lo : Nat) : Room := { frames := f, cells := mc, slots := ms, locals := lo }
def cM (l : Launch) (D : va_G) (y : MethodName) (b : ByteArray) (n : Nat) (rm : Room) (raw : cD) (blk : Nat → List cD) (mc ms : Nat) : Prop := ∀ a, Met l y (.code y b n none :: gB) rm (va_Pc [.ref a] (cI D a [raw])) (cQ D a (blk a)) mc ms (cA a)
section CR
variable {l : Launch} {R : Room} {nL : Nat} {D : va_G} {a : Nat} {X : gX} {lst lst' : List cD} {cells slots : Nat} {pc q : Nat} {L L' : List (Nat × Value)} {st : List Value} {cc : ByteArray} {own : String}
theorem c_aload_n (C : cC cc nL own D X) {j : Fin 4} {i x : Nat} (p : Nat) (d : decode cc pc = .ok (.aload_n j, 1)) (hq : pc + 1 = q) (hi : (j : Nat) = i) (h : L[p]? = some (i, .ref x)) (kk : cSm l R nL D a X lst cells slots q L (.ref x :: st)) : cSm l R nL D a X lst cells slots pc L st := by
  subst hq
  exact fun H locs ls hP hS hL => lv_aload_n C.1 C.2.1 d hi (lv_at hL p h) (kk H locs ls hP hS hL)
theorem c_iload_n (C : cC cc nL own D X) {j : Fin 4} {i : Nat} {x : Int32} (p : Nat) (d : decode cc pc = .ok (.iload_n j, 1)) (hq : pc + 1 = q) (hi : (j : Nat) = i) (h : L[p]? = some (i, .int x)) (kk : cSm l R nL D a X lst cells slots q L (.int x :: st)) : cSm l R nL D a X lst cells slots pc L st := by
  subst hq
  exact fun H locs ls hP hS hL => lv_iload_n C.1 C.2.1 d hi (lv_at hL p h) (kk H locs ls hP hS hL)
theorem c_iconst (C : cC cc nL own D X) {n : Int} {v : Int32} (d : decode cc pc = .ok (.iconst n, 1)) (hq : pc + 1 = q) (hv : Int32.ofInt n = v) (kk : cSm l R nL D a X lst cells slots q L (.int v :: st)) : cSm l R nL D a X lst cells slots pc L st := by
  subst hq
  exact fun H locs ls hP hS hL => lv_iconst C.1 C.2.1 d hv (kk H locs ls hP hS hL)
theorem c_bipush (C : cC cc nL own D X) {n : Int} {v : Int32} (d : decode cc pc = .ok (.bipush n, 2)) (hq : pc + 2 = q) (hv : (Int8.ofInt n).toInt32 = v) (kk : cSm l R nL D a X lst cells slots q L (.int v :: st)) : cSm l R nL D a X lst cells slots pc L st := by
  subst hq
  exact fun H locs ls hP hS hL => lv_bipush C.1 C.2.1 d hv (kk H locs ls hP hS hL)
theorem c_sipush (C : cC cc nL own D X) {n : Int} {v : Int32} (d : decode cc pc = .ok (.sipush n, 3)) (hq : pc + 3 = q) (hv : (Int16.ofInt n).toInt32 = v) (kk : cSm l R nL D a X lst cells slots q L (.int v :: st)) : cSm l R nL D a X lst cells slots pc L st := by
  subst hq
  exact fun H locs ls hP hS hL => lv_sipush C.1 C.2.1 d hv (kk H locs ls hP hS hL)
theorem c_dup (C : cC cc nL own D X) {v : Value} (d : decode cc pc = .ok (.dup, 1)) (hq : pc + 1 = q) (hv : v.category = 1) (kk : cSm l R nL D a X lst cells slots q L (v :: v :: st)) : cSm l R nL D a X lst cells slots pc L (v :: st) := by
  subst hq
  exact fun H locs ls hP hS hL => lv_dup C.1 C.2.1 d hv (kk H locs ls hP hS hL)
theorem c_goto (C : cC cc nL own D X) {off : Int} (d : decode cc pc = .ok (.goto off, 3)) (ht : (pc : Int) + off = (q : Int)) (kk : cSm l R nL D a X lst cells slots q L st) : cSm l R nL D a X lst cells slots pc L st := fun H locs ls hP hS hL => lv_goto C.1 C.2.1 d ht (kk H locs ls hP hS hL)
theorem c_istore_n (C : cC cc nL own D X) {j : Fin 4} {i : Nat} {x : Int32} (d : decode cc pc = .ok (.istore_n j, 1)) (hq : pc + 1 = q) (hi : (j : Nat) = i) (hn : i < nL) (hl : (i, Value.int x) :: L.filter (fun r => !(r.1 == i) && !(r.1 + 1 == i && r.2.category == 2)) = L') (kk : cSm l R nL D a X lst cells slots q L' st) : cSm l R nL D a X lst cells slots pc L (.int x :: st) := by
  subst hq
  exact fun H locs ls hP hS hL => lv_istore_n C.1 C.2.1 d hi hL hn hl (fun ls' hL' => kk H locs ls' hP hS hL')
theorem c_iinc (C : cC cc nL own D X) {i : Nat} {n : Int} {x v : Int32} (p : Nat) (d : decode cc pc = .ok (.iinc i n, 3)) (hq : pc + 3 = q) (hk : L[p]? = some (i, .int x)) (hv : x + Int32.ofInt n = v) (hn : i < nL) (hl : (i, Value.int v) :: L.filter (fun r => !(r.1 == i) && !(r.1 + 1 == i && r.2.category == 2)) = L') (kk : cSm l R nL D a X lst cells slots q L' st) : cSm l R nL D a X lst cells slots pc L st := by
  subst hq
  exact fun H locs ls hP hS hL => lv_iinc C.1 C.2.1 d hL hk hv hn hl (fun ls' hL' => kk H locs ls' hP hS hL')
theorem c_ge (C : cC cc nL own D X) {x y : Int32} {off : Int} (d : decode cc pc = .ok (.if_icmp .ge off, 3)) (ht : (pc : Int) + off = (q : Int)) (h : y ≤ x) (kk : cSm l R nL D a X lst cells slots q L st) : cSm l R nL D a X lst cells slots pc L (.int y :: .int x :: st) := fun H locs ls hP hS hL => lv_icmp_ge C.1 C.2.1 d ht (fun _ => kk H locs ls hP hS hL) (fun c => absurd h c)
theorem c_nge (C : cC cc nL own D X) {x y : Int32} {off : Int} {tgt : Nat} (d : decode cc pc = .ok (.if_icmp .ge off, 3)) (ht : (pc : Int) + off = (tgt : Int)) (hq : pc + 3 = q) (h : ¬ y ≤ x) (kk : cSm l R nL D a X lst cells slots q L st) : cSm l R nL D a X lst cells slots pc L (.int y :: .int x :: st) := by
  subst hq
  exact fun H locs ls hP hS hL => lv_icmp_ge C.1 C.2.1 d ht (fun c => absurd c h) (fun _ => kk H locs ls hP hS hL)
theorem c_obj (C : cC cc nL own D X) {i x : Nat} (h1 : Cond.methodLink own i Lib.objectInit ∈ gB) (h2 : Cond.instanceMethod Lib.objectInit ∈ gB) (h3 : Cond.code Lib.objectInit ⟨#[0xb1]⟩ 1 none ∈ gB) (hR : 1 ≤ R.frames ∧ (st.map fun v => v.category).sum + 12 ≤ R.locals) (d : decode cc pc = .ok (.invokespecial i, 3)) (hq : pc + 3 = q) (kk : cSm l R nL D a X lst cells slots q L st) : cSm l R nL D a X lst cells slots pc L (.ref x :: st) := by
  subst hq
  intro H locs ls hP hS hL
  have hts := C.2.2.2.2.1
  exact W.objInit C.1 C.2.1 C.2.2.2.1 (hts _ h1) (hts _ h2) (hts _ h3) rfl (by rw [C.2.2.1]; exact hL.1) rfl d hR.1 (by have := hR.2; show 2 * 0 + _ + 12 ≤ _; omega) (kk H locs ls hP hS hL)
theorem c_get (C : cC cc nL own D X) {C0 : String} {T : u_T} {N ci index k : Nat} {vs : List Value} {v : Value} (hc : gCl[ci]? = some (C0, T, N)) (hin : ∀ w ∈ u_ws C0 T N, w ∈ gB) (j : Nat) (hj : j < N) (hl : gFL own index (T j).1 (T j).2.1 (T j).2.2.1) (hk : lst[k]? = some (.inr (.inl (ci, vs)))) (hv : vs[j]? = some v) {x : Nat} (hx : x = a + k) (d : decode cc pc = .ok (.getfield index, 3)) (hq : pc + 3 = q)
    (kk : cSm l R nL D a X lst cells slots q L (v :: st)) : cSm l R nL D a X lst cells slots pc L (.ref x :: st) := by
  subst hq
  subst hx
  intro H locs ls hP hS hL
  have K := kk H locs ls hP hS hL
  obtain ⟨hx, hb, hml, hown, hts, hT⟩ := C
  obtain ⟨r, h1, cell, q1, q2, q3, q4⟩ := hP.2 k _ hk
  have hr : r = (C0, T, N) := Option.some.inj (h1.symm.trans hc)
  subst hr
  obtain ⟨hSl, hfc, kC, hkC, hkind⟩ := hT.1.1 ci _ hc
  obtain ⟨cf, kf, fi, f, hi, hsl⟩ := hSl j hj
  have hst := (u_facts hfc hkC (u_lays hts hin hj) hi).1
  have hv : cell.slots[f.slot]? = some v := by
    rw [hsl, q4 j hj]
    simp [vp_V, hv]
  rcases hl with hl | ⟨h, hl⟩
  · exact W.getf hx hb hown (hts _ hl) hi hst q1 (by rw [q3]; exact fun h => by cases h) hv rfl rfl d K
  · exact va_Wgetf hx hb hown (va_Nw.use rfl (hT.2.1 _ hl)) hi hst q1 (by rw [q3]; exact fun h => by cases h) hv rfl rfl d K
theorem c_put (C : cC cc nL own D X) (hin1 : (xM X).name = "<init>") {C0 : String} {T : u_T} {N ci index k : Nat} {vs : List Value} {v : Value} (hc : gCl[ci]? = some (C0, T, N)) (hin : ∀ w ∈ u_ws C0 T N, w ∈ gB) (ty0 : Nat → FieldType) (hty : ∀ k, k < N → parseFieldDescriptor (T k).2.2.1 = some (ty0 k)) (hnm : ∀ a, a < N → ∀ b, b < N → a ≠ b → (T a).2.1 ≠ (T b).2.1) (j : Nat) (hj : j < N) (hl : Cond.fieldLink own index (T j).1 (T j).2.1 (T j).2.2.1 ∈ gB) (hdecl : (T j).1 = own) (hk : lst[k]? = some (.inr (.inl (ci, vs)))) (hjl : j < vs.length) (hn : narrow (ty0 j) v = v) (hfit : fits (ty0 j) v = true) {x : Nat} (hx : x = a + k) (d : decode cc pc = .ok (.putfield index, 3)) (hq : pc + 3 = q) (hl' : lst.set k (.inr (.inl (ci, vs.set j v))) = lst')
    (kk : cSm l R nL D a X lst' cells slots q L st) : cSm l R nL D a X lst cells slots pc L (v :: .ref x :: st) := by
  subst hq
  subst hx
  subst hl'
  intro H locs ls hP hS hL
  have K := fun H1 locs1 hP1 hS1 => kk H1 locs1 ls hP1 hS1 hL
  obtain ⟨hx, hb, hml, hown, hts, hT⟩ := C
  have hap := va_apart (own := own) hts hin ty0 hty hnm hT.1 hc
  obtain ⟨r, h1, cell, q1, q2, q3, q4⟩ := hP.2 k _ hk
  have hr : r = (C0, T, N) := Option.some.inj (h1.symm.trans hc)
  subst hr
  obtain ⟨hSl, hfc, kC, hkC, hkind⟩ := hT.1.1 ci _ hc
  obtain ⟨cf, kf, fi, f, hi, hsl⟩ := hSl j hj
  have hlay := hts _ (hin _ (u_in_lay hj))
  unfold u_lay at hlay
  have hst := (u_facts hfc hkC (u_lays hts hin hj) hi).1
  have key : ∀ H', H'[a + k]? = some (cell.setSlot f.slot v) → H'.size = H.size → (∀ q, q ≠ a + k → H'[q]? = H[q]?) → W X.1 l X.2.1 R (xs X) (xm X) (xa X) (xb X) (xM X) (xc X) H' (locs ++ [⟨a + k, f.slot⟩]) cells slots (xQ X) (F0 (xm X) (pc + 3) ls st) := by
    intro H' e1 e2 e3
    rw [hsl] at e1 ⊢
    exact K H' _ (cP_set hP hk e2 e3 ⟨_, hc, t_OB.to (V := updV (vp_V vs) j v) ⟨_, e1, q2, q3, t_set q4 hap hj v⟩ (fun i _ => vp_updV_set hjl v i)⟩) (hS.put e2 e3 (Nat.le_add_right a k))
  by_cases hfin : (T j).2.2.2 = true
  · rw [if_pos hfin] at hlay
    have hcf : (xm X).cls = cf := by
      obtain ⟨_, _, c', _, _, _, -, -, hf', -, -, -, hown2, -⟩ := Cond.laysFinal_spec hlay
      have e1 : c' = cf := by have := hi.symm.trans hf'; simp at this; exact this.1.symm
      rw [hdecl] at hown2
      rw [← e1]; exact Option.some.inj (hown.symm.trans hown2)
    have h6 := u_fits hfc hkC hkind (Or.inr hlay) hi (hty j hj) hn hfit
    exact W.putFinK hx hb hown (hts _ hl) hi hst hcf hin1 (by rw [q2]; exact h6) q1 q3 (by rw [hsl]; exact k2_hasslot (q4 j hj)) rfl rfl d key
  · rw [if_neg hfin] at hlay
    have h6 := u_store hfc hkC hkind hlay hi (hty j hj) hn hfit
    exact W.putK hx hb (f := f) ⟨hown, hts _ hl, ⟨_, _, _, hi⟩, hst⟩ (by rw [q2]; exact h6) q1 q3 (by rw [hsl]; exact k2_hasslot (q4 j hj)) rfl rfl d key
theorem c_new (C : cC cc nL own D X) {C0 : String} {T : u_T} {N ci index n : Nat} {vs : List Value} (hc : gCl[ci]? = some (C0, T, N)) (hin : ∀ w ∈ u_ws C0 T N, w ∈ gB) (ty : Nat → FieldType) (hty : ∀ k, k < N → parseFieldDescriptor (T k).2.2.1 = some (ty k)) (h1 : Cond.classLink own index C0 ∈ gB) (h2 : Cond.instantiable C0 N ∈ gB) (h3 : Cond.initialized C0 ∈ gB) (hfs : ∀ j, j < N → defaultValue (ty j) = vp_V vs j) (hn : lst.length = n) (hR : cells + 1 ≤ R.cells ∧ slots + N ≤ R.slots) (d : decode cc pc = .ok (.new index, 3)) (hq : pc + 3 = q) (hl' : lst ++ [.inr (.inl (ci, vs))] = lst')
    (kk : cSm l R nL D a X lst' (cells + 1) (slots + N) q L (.ref (a + n) :: st)) : cSm l R nL D a X lst cells slots pc L st := by
  subst hq
  subst hl'
  subst hn
  intro H locs ls hP hS hL
  have hts := C.2.2.2.2.1
  have hKn := C.2.2.2.2.2.1.1 ci _ hc
  refine W.newcK C.1 C.2.1 C.2.2.2.1 (hts _ h1) (hts _ h2) (hts _ h3) rfl d hR.1 hR.2 hKn.2.1 rfl fun H1 kC hkC e1 z1 o1 => ?_
  have K := kk H1 locs ls (cP_push hP z1 o1 ⟨_, hc, (u_born ty hts hin hKn hkC e1 hty).to hfs⟩) ⟨Nat.le_trans hS.1 (by omega), fun x g1 g2 => (o1 x (Nat.lt_of_lt_of_le g1 hS.1)).trans (hS.2.1 x g1 g2), hS.2.2⟩ hL
  rw [← hP.1] at K
  exact K
theorem c_newa (C : cC cc nL own D X) {v : Int32} {N n : Nat} (h1 : Cond.arrayClass .int ∈ gB) (hv : ¬ v < 0) (hN : v.toNatClampNeg = N) (hbytes : N * 4 ≤ 536870912) (hn : lst.length = n) (hR : cells + 1 ≤ R.cells ∧ slots + N ≤ R.slots) (d : decode cc pc = .ok (.newarray .int, 2)) (hq : pc + 2 = q) (hl' : lst ++ [.inl (List.replicate N (.int 0))] = lst')
    (kk : cSm l R nL D a X lst' (cells + 1) (slots + N) q L (.ref (a + n) :: st)) : cSm l R nL D a X lst cells slots pc L (.int v :: st) := by
  subst hq
  subst hl'
  subst hn
  intro H locs ls hP hS hL
  have hts := C.2.2.2.2.1
  refine va_newaK (atype := .int) C.1 C.2.1 (hts _ h1) rfl d rfl hv hN hbytes hR.1 hR.2 rfl (fun H1 cA e1 z1 o1 hAr hNm => ?_)
  have K := kk H1 locs ls (cP_push hP z1 o1 ⟨_, e1, hAr N _, fun h => (by cases h), by rw [arrV_size, List.length_replicate], fun j w hj => ?_⟩) ⟨Nat.le_trans hS.1 (by omega), fun x g1 g2 => (o1 x (Nat.lt_of_lt_of_le g1 hS.1)).trans (hS.2.1 x g1 g2), hS.2.2⟩ hL
  · rw [← hP.1] at K
    exact K
  · have hlt : j < N := by
      have := (List.getElem?_eq_some_iff.mp hj).1
      simpa using this
    rw [arrV_read _ _ hlt]
    rw [List.getElem?_replicate, if_pos hlt] at hj
    exact hj
theorem c_anewa (C : cC cc nL own D X) {C0 : String} {t index : Nat} {v : Int32} {N n : Nat} {r : vw_C} (hcl : gCl[gCi t]? = some r) (hr : r.1 = C0) (hty : gTy t = .object C0) (h1 : Cond.classLink own index C0 ∈ gB) (hao : va_AO C0 (xs X)) (hv : ¬ v < 0) (hN : v.toNatClampNeg = N) (hbytes : N * 4 ≤ 536870912) (hn : lst.length = n) (hR : cells + 1 ≤ R.cells ∧ slots + N ≤ R.slots) (d : decode cc pc = .ok (.anewarray index, 3)) (hq : pc + 3 = q) (hl' : lst ++ [.inr (.inr (t, List.replicate N .null))] = lst')
    (kk : cSm l R nL D a X lst' (cells + 1) (slots + N) q L (.ref (a + n) :: st)) : cSm l R nL D a X lst cells slots pc L (.int v :: st) := by
  subst hq
  subst hl'
  subst hn
  subst hN
  intro H locs ls hP hS hL
  have hts := C.2.2.2.2.1
  have hcls := (C.2.2.2.2.2.1.1 _ r hcl).2.1
  rw [hr] at hcls
  refine W.anew C.1 C.2.1 C.2.2.2.1 (hts _ h1) (va_AO.use hao) rfl d rfl hv hbytes hR.1 hR.2 fun cA kA comp f1 f2 f3 f4 => ?_
  generalize hH1 : H.push ({ cls := cA, slots := Array.replicate v.toNatClampNeg .null, vm := .none } : Cell) = H1
  have z1 : H1.size = H.size + 1 := by rw [← hH1, Array.size_push]
  have e1 : H1[H.size]? = some ({ cls := cA, slots := Array.replicate v.toNatClampNeg .null, vm := .none } : Cell) := by rw [← hH1, Array.getElem?_push_size]
  have o1 : ∀ q : Nat, q < H.size → H1[q]? = H[q]? := fun q hq => by rw [← hH1, Array.getElem?_push, if_neg (Nat.ne_of_lt hq)]
  have K := kk H1 locs ls (cP_push hP z1 o1 ⟨_, kA, e1, rfl, by simp, fun j w hj => ?_, f2, ?_⟩) ⟨Nat.le_trans hS.1 (by omega), fun x g1 g2 => (o1 x (Nat.lt_of_lt_of_le g1 hS.1)).trans (hS.2.1 x g1 g2), hS.2.2⟩ hL
  · rw [← hP.1] at K
    exact K
  · have hlt : j < v.toNatClampNeg := by
      have := (List.getElem?_eq_some_iff.mp hj).1
      simpa using this
    rw [List.getElem?_replicate, if_pos hlt] at hj
    cases hj
    simp [hlt]
  · rw [f3, show comp = D.1 (gCi t) from Option.some.inj (f4.symm.trans hcls), hty]
theorem c_alen (C : cC cc nL own D X) {k t : Nat} {vs : List Value} {v : Int32} {x : Nat} (hk : lst[k]? = some (.inr (.inr (t, vs)))) (hv : vs.length.toInt32 = v) (hx : x = a + k) (d : decode cc pc = .ok (.arraylength, 1)) (hq : pc + 1 = q) (kk : cSm l R nL D a X lst cells slots q L (.int v :: st)) : cSm l R nL D a X lst cells slots pc L (.ref x :: st) := by
  subst hq
  subst hx
  intro H locs ls hP hS hL
  obtain ⟨cell, kA, h1, h2, h3, h4, h5, h6⟩ := hP.2 k _ hk
  exact W.alen (n := v) (ty := gTy t) C.1 C.2.1 h1 ⟨fun q e => (by rw [h2] at e; cases e), kA, h5, _, h6⟩ (by rw [h3]; exact hv) rfl rfl d (kk H locs ls hP hS hL)
theorem c_iast (C : cC cc nL own D X) {k : Nat} {vs : List Value} {i v : Int32} {x I : Nat} (hk : lst[k]? = some (.inl vs)) (hi : ¬ i < 0) (hI : i.toNatClampNeg = I) (hlt : I < vs.length) (hx : x = a + k) (d : decode cc pc = .ok (.iastore, 1)) (hq : pc + 1 = q) (hl' : lst.set k (.inl (vs.set I (.int v))) = lst') (kk : cSm l R nL D a X lst' cells slots q L st) : cSm l R nL D a X lst cells slots pc L (.int v :: .int i :: .ref x :: st) := by
  subst hq
  subst hx
  subst hl'
  subst hI
  intro H locs ls hP hS hL
  obtain ⟨cell, h1, h2, h3, h4, h5⟩ := hP.2 k _ hk
  refine W.iast C.1 C.2.1 h1 h2 h3 (fun q => q.elim hi (fun q => by omega)) rfl rfl d (fun H' e1 e2 e3 => ?_)
  refine kk H' _ ls (cP_set hP hk e2 e3 ⟨_, e1, h2, h3, by simpa [Cell.setSlot] using h4, fun j w hj => ?_⟩) (hS.put e2 e3 (Nat.le_add_right a k)) hL
  by_cases hji : j = i.toNatClampNeg
  · subst hji
    rw [List.getElem?_set_self hlt] at hj
    simp only [Cell.setSlot]
    rw [Array.getElem?_setIfInBounds_self_of_lt (by omega)]
    exact hj
  · rw [List.getElem?_set_ne (fun q => hji q.symm)] at hj
    simp only [Cell.setSlot]
    rw [Array.getElem?_setIfInBounds_ne (fun q => hji q.symm)]
    exact h5 j w hj
theorem c_aast (C : cC cc nL own D X) {k t kv : Nat} {vs ws : List Value} {i : Int32} {x y I : Nat} {r : vw_C} (hk : lst[k]? = some (.inr (.inr (t, vs)))) (hv : lst[kv]? = some (.inr (.inl (gCi t, ws)))) (hc : gCl[gCi t]? = some r) (hi : ¬ i < 0) (hI : i.toNatClampNeg = I) (hlt : I < vs.length) (hx : x = a + k) (hy : y = a + kv) (d : decode cc pc = .ok (.aastore, 1)) (hq : pc + 1 = q) (hl' : lst.set k (.inr (.inr (t, vs.set I (.ref y)))) = lst') (kk : cSm l R nL D a X lst' cells slots q L st) : cSm l R nL D a X lst cells slots pc L (.ref y :: .int i :: .ref x :: st) := by
  subst hq
  subst hx
  subst hy
  subst hl'
  subst hI
  intro H locs ls hP hS hL
  obtain ⟨cell, kA, h1, h2, h3, h4, h5, h6⟩ := hP.2 k _ hk
  have h3 : cell.slots.size = vs.length := h3
  obtain ⟨r', hr', cellV, g1, g2, g3, -⟩ := hP.2 kv _ hv
  have hcls := (C.2.2.2.2.2.1.1 _ r hc).2
  obtain ⟨kC, hkC, -⟩ := hcls.2
  refine W.aast C.1 C.2.1 h1 (fun q e => by rw [h2] at e; cases e) (fun e => by rw [h2] at e; cases e) h5 h6 (gTy_ref t) hkC ⟨hi, by omega⟩ g1 (fun q e => by rw [g3] at e; cases e) (by rw [g2]; exact hkC) (by rw [g2]; exact va_assign hcls) rfl rfl d (fun H' e1 e2 e3 => ?_)
  refine kk H' _ ls (cP_set hP hk e2 e3 ⟨_, kA, e1, h2, by simpa [Cell.setSlot] using h3, fun j w hj => ?_, h5, h6⟩) (hS.put e2 e3 (Nat.le_add_right a k)) hL
  by_cases hji : j = i.toNatClampNeg
  · subst hji
    rw [List.getElem?_set_self hlt] at hj
    simp only [Cell.setSlot]
    rw [Array.getElem?_setIfInBounds_self_of_lt (by omega)]
    exact hj
  · rw [List.getElem?_set_ne (fun q => hji q.symm)] at hj
    simp only [Cell.setSlot]
    rw [Array.getElem?_setIfInBounds_ne (fun q => hji q.symm)]
    exact h4 j w hj
theorem c_vret (C : cC cc nL own D X) (hr : (xM X).sig.returnType = none) (hlocks : (xM X).locks = false) (hQ : xQ X = MQ (xb X) (cQ D a lst) (xa X) (xs X) cells slots (cA a)) (d : decode cc pc = .ok (.return_, 1)) : cSm l R nL D a X lst cells slots pc L [] := by
  intro H locs ls hP hS hL
  rw [hQ]
  exact W.vret C.1 C.2.1 hr (fun t ht hW => ⟨⟨(), rfl, trivial, by show cP D a lst t t.heap; rw [ht]; exact cP_moved hW.alike hP⟩, hS.F ht⟩) hS.2.2 d hlocks
theorem c_call (C : cC cc nL own D X) {y : MethodName} {b : ByteArray} {n index mc ms k x : Nat} {rm : Room} {l0 : List cD} {raw : cD} {blk : Nat → List cD} (hM : cM l D y b n rm raw blk mc ms) (hw : Cond.instanceMethod y ∈ gB ∧ Cond.initialized y.cls ∈ gB ∧ Cond.code y b n none ∈ gB ∧ gNm y 0) (hni : y.name = "<init>") (hl : gML own index y) (hl0 : lst = l0 ++ [raw]) (hk : l0.length = k) (hx : x = a + k) (hc0 : rm.cells = mc) (hs0 : rm.slots = ms) (hR : rm.frames + 1 ≤ R.frames ∧ 8 + (n + 11) + rm.locals ≤ R.locals) (hst : (st.map fun v => v.category).sum ≤ 8) (hf : cells + mc ≤ R.cells ∧ slots + ms ≤ R.slots) (d : decode cc pc = .ok (.invokespecial index, 3)) (hq : pc + 3 = q) (hl' : l0 ++ blk (a + k) = lst')
    (kk : cSm l R nL D a X lst' (cells + mc) (slots + ms) q L st) : cSm l R nL D a X lst cells slots pc L (.ref x :: st) := by
  subst hq
  subst hx
  subst hl'
  subst hl0
  subst hk
  intro H locs ls hP hS hL
  obtain ⟨hx, hb, hml, hown, hts, hT⟩ := C
  have hp : PreS (xs X) H (va_Pc [.ref (a + l0.length)] (cI D (a + l0.length) [raw])) (.ref (a + l0.length) :: []) := ⟨cI_blind, fun U hU hW => ⟨rfl, ⟨by rw [hU, hP.1]; simp; omega, fun j e hj => by
    have hj0 : j < 1 := (List.getElem?_eq_some_iff.mp hj).1
    have hj1 : j = 0 := by omega
    subst hj1
    rw [hU, Nat.add_zero]
    refine cat_moved hW.alike (hP.2 l0.length e ?_)
    rw [List.getElem?_append_right (Nat.le_refl _), Nat.sub_self]
    exact hj⟩, cT_warm hW hT⟩⟩
  have hS5 : CallFix X.1 (xm X) (xc X) cc nL (xs X) (xa X) gB own := ⟨hx, hb, hml, hown, hts⟩
  have fin : va_Run X.1 l X.2.1 R (xs X) (xm X) (xa X) (xb X) (xM X) (xc X) H locs cells slots mc ms (F0 (xm X) pc ls (.ref (a + l0.length) :: st)) st (cQ D (a + l0.length) (blk (a + l0.length)) (Value.ref (a + l0.length) :: []).toArray) (cA (a + l0.length)) := by
    rcases hl with hl | ⟨h, hl⟩
    · exact va_runI hS5 (hM _) ⟨⟨hc0, hs0, hR.1, hR.2, gB_pay hts hw.2.2.1, List.mem_cons_self, hts _ hw.2.2.1, hts _ hw.2.1, ⟨hw.2.2.2.1, hw.2.2.2.2.1⟩, fun sig h => gnp hw.2.2.2 h, hts _ hl⟩, hni, hts _ hw.1⟩ hp rfl rfl hL.1 rfl (lv_room hst) d hf
    · exact va_runIN hS5 (hM _) ⟨⟨⟨hc0, hs0, hR.1, hR.2, gB_pay hts hw.2.2.1, List.mem_cons_self⟩, hts _ hw.2.2.1, hts _ hw.2.1, ⟨hw.2.2.2.1, hw.2.2.2.2.1⟩, fun sig h => gnp hw.2.2.2 h, va_Nw.use rfl (hT.2.1 _ hl)⟩, hni, hts _ hw.1⟩ hp rfl rfl hL.1 rfl (lv_room hst) d hf
  refine va_callv fin hS (fun q _ h => Nat.le_trans (Nat.le_add_right a _) h) (fun q h => Nat.le_trans (Nat.le_add_right a _) h) (fun u t H1 locs1 ht hvm hw1 hB hz1 hk1 hS1 => ?_)
  refine kk H1 locs1 ls ?_ hS1 hL
  have hB1 : cP D (a + l0.length) (blk (a + l0.length)) (xs X) H1 := by
    rw [← ht]; exact cP_moved hvm.symm hB
  refine ⟨by rw [hB1.1, List.length_append]; omega, fun j e hj => ?_⟩
  by_cases hjl : j < l0.length
  · rw [List.getElem?_append_left hjl] at hj
    refine cat_kept (hP.2 j e (by rw [List.getElem?_append_left hjl]; exact hj)) (hk1 _ ?_ ?_)
    · rw [hP.1]; simp; omega
    · show ¬ a + l0.length ≤ a + j
      omega
  · rw [List.getElem?_append_right (by omega)] at hj
    have := hB1.2 _ e hj
    rwa [show a + l0.length + (j - l0.length) = a + j by omega] at this
end CR
theorem cM_of {l : Launch} {D : va_G} {y : MethodName} {b : ByteArray} {n : Nat} {rm : Room} {raw : cD} {blk : Nat → List cD} {mc ms : Nat} (hp : plainName y.cls = true) (hn : 1 ≤ n) (hi : y.name = "<init>") (body : ∀ (X : gX) (a : Nat), cC b n y.cls D X → (xM X).name = "<init>" → (xM X).sig.returnType = none → (xM X).locks = false → xQ X = MQ (xb X) (cQ D a (blk a)) (xa X) (xs X) mc ms (cA a) → cSm l rm n D a X [raw] 0 0 0 [(0, .ref a)] []) : cM l D y b n rm raw blk mc ms := by
  intro a
  refine Met.ofW (cc := b) (maxL := n) (ret := none) hp rfl ?_
  intro p e s m args below meth c s₁ B hml hv
  obtain ⟨rfl, hP, hT⟩ := hv
  have hts := atoms_spec (ws := .code y b n none :: gB) B.pre
  have hown : s.vm.findClass y.cls = some m.cls := findClass_of_methodNamed B.named
  rw [lg_entry_eq]
  have hl := lv_entry [.ref a] (n := n) hn
  exact body (p, e, s, m, [Value.ref a].toArray, below, meth, c, _) a ⟨B.exec, B.bytes, hml, hown, fun w hw => hts w (List.mem_cons_of_mem _ hw), hT⟩ (by rw [(name_of_methodNamed B.named B.method).1, hi]) B.returns B.notSynchronized rfl s.heap [] _ hP va_S.rf hl

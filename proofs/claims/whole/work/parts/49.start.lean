/-! THE CLAIM OUT OF ONE WALK OF THE LAW'S BODY. Your part is whole_start (and what it stands on); all else here is the same for every law, but numbers. -/
def R_law : String := "SoapNamesLaw"
def lw_P (b : Addr) (xs : List Int32) (args : Array Value) (s : State) : Prop := args = #[.ref b] ∧ s.IntsAt b xs ∧ xs.length ≤ 3072 ∧ (Jvm.Cond.and given_1 narrow_1).before args s = true
def lw_Q (_ : Array Value) (s : State) (o : Outcome) (t : State) : Prop := o = .returned (some (.int 1)) ∧ Framed s o t [] 600000 7302250
def lw_Z (below : List Frame) (a : Array Value) (s : State) : State → Prop := fun t => ∃ o, t.status = .running ∧ Ended t below o ∧ lw_Q a s o t
/-- the law's own end, with 1 on the stack, nothing written that was there before, its room as the claim has it -/
theorem lw_ret {p : Program} {l : Launch} {e : Env} {s : State} {m : MethodId} {below : List Frame} {meth : Method} {c : Code} {b : Nat} (hx : p.tables.exec = Jvm.exec) (hb : c.code = code) (hr : meth.sig.returnType = ret) (hlocks : meth.locks = false) {pc : Nat} {H : Heap} {ls : Array Slot} (hdg : decode code pc = .ok (.ireturn, 1)) : W p l e room_1 s m #[Value.ref b] below meth c H [] 600000 7302250 (lw_Z below #[Value.ref b] s) (F0 m pc ls [.int 1]) := by
  intro T hT X
  obtain ⟨fs, hret, hrun, hended, hW, hframe⟩ := X.leave (v := some (.int 1)) (hlocks := hlocks) (fun h => by rw [hr] at h; cases h)
  have hmeth' : T.vm.method? m = some meth := X.method'
  refine ⟨T.setFrames fs, ?_, .returned (some (.int 1)), hrun, hended, rfl, ⟨_, rfl⟩, hW, hframe⟩
  jvm_step X.here [X.here.top, hx, hb, hdg, hmeth', hr, ret, narrow_b1]
  (try refine ⟨rfl, ?_⟩); (try refine ⟨rfl, ?_⟩)
  first | (intro acts; rw [hret _ acts rfl rfl rfl]) | rw [hret _ _ rfl rfl rfl]
  exact Steps.refl _
/-- what holds at the law's entry: the machine, the code, the tables' words (any of lw_tbl by 'hts w (by decide +kernel)'), the script of L ints xs at the cell b, what the Statement gives of the start (any of its parts by flat_of_before) -/
def lw_At (p : Program) (s : State) (m : MethodId) (meth : Method) (c : Code) (b L : Nat) (xs : Nat → Int32) : Prop :=
  p.tables.exec = Jvm.exec ∧ c.code = code ∧ meth.sig.returnType = ret ∧ c.maxLocals = 4 ∧ s.vm.findClass R_law = some m.cls ∧ (∀ w ∈ lw_tbl, w.before #[Value.ref b] s = true) ∧ va_X b L xs s s.heap ∧ b < s.heap.size ∧ meth.locks = false ∧ (Jvm.Cond.and given_1 narrow_1).before #[Value.ref b] s = true
section LB
variable {l : Launch} {R : Room} {nL : Nat} {D : va_G} {a : Nat} {X : gX} {lst : List cD} {cells slots : Nat} {pc : Nat} {L L' : List (Nat × Value)} {st : List Value} {cc : ByteArray} {own : String}
theorem W_dup_law (C : cC cc nL own D X) {x : Nat} (d : decode cc pc = .ok (.dup, 1)) (kk : cSm l R nL D a X lst cells slots (pc + 1) L (.ref x :: .ref x :: st)) : cSm l R nL D a X lst cells slots pc L (.ref x :: st) := fun H locs ls hP hS hL => lv_dup C.1 C.2.1 d rfl (kk H locs ls hP hS hL)
theorem W_astore_law (C : cC cc nL own D X) {j : Fin 4} {i x q : Nat} (d : decode cc pc = .ok (.astore_n j, 1)) (hq : pc + 1 = q) (hi : (j : Nat) = i) (hn : i < nL) (hl : (i, Value.ref x) :: L.filter (fun r => !(r.1 == i) && !(r.1 + 1 == i && r.2.category == 2)) = L') (kk : cSm l R nL D a X lst cells slots q L' st) : cSm l R nL D a X lst cells slots pc L (.ref x :: st) := by
  subst hq
  exact fun H locs ls hP hS hL => lv_astore_n C.1 C.2.1 d hi hL hn hl (fun ls' hL' => kk H locs ls' hP hS hL')
end LB
/-! the first contents -/
def vVals (d : cD) : List Value := match d with
  | .inl vs => vs
  | .inr (.inl o) => o.2
  | .inr (.inr o) => o.2
def vInt (v : Option Value) : Int32 := match v with
  | some (.int x) => x
  | _ => 0
def V0X : gV := fun c j => if c < 112 then vInt ((vVals (((blkX7 0)[c]?).getD (.inl [])))[j]?) else if c = 112 then ([(-1), 0, 0, 0, 1, 2, 3] : List Int32).getD j 0 else if c = 113 then ([109, 107, 110] : List Int32).getD j 0 else if c = 114 then ([119, 109, 100] : List Int32).getD j 0 else ([10, 11, 12, 13, 20, 0, 0, 0, 0, 30, 0, 0, 0, 0, 40, 0, 0, 0, 0, 50, 0, 60, 0, 0, 0, 0, 70, 71] : List Int32).getD j 0
def V0M : gV := fun c j => vInt ((vVals (((blkX8 0)[c]?).getD (.inl [])))[j]?)
theorem cv_i {G : gG} {V : gV} {D : va_G} {U : State} {H : Heap} {k n : Nat} {vs : List Value} (hs : G.2.2.1 k = some (.inl n)) (hD : G.2.1 = D) (h : cat D U H (G.1 k) (.inl vs)) (hn : n < 2 ^ 31) (hl : vs.length = n) (hv : ∀ j, j < n → vs[j]? = some (.int (V k j))) : gat G V U H k := by
  obtain ⟨cell, h1, h2, h3, h4, h5⟩ := h
  exact (gat_i hs).mpr ⟨cell, h1, h2, h3, by omega, by rw [h4, hl], fun j hj => h5 j _ (hv j hj)⟩
theorem cv_z {G : gG} {V : gV} {D : va_G} {U : State} {H : Heap} {k n : Nat} (hs : G.2.2.1 k = some (.inl n)) (hD : G.2.1 = D) (h : cat D U H (G.1 k) (.inl (List.replicate n (.int 0)))) (hn : n < 2 ^ 31) (hv : ∀ j, j < n → V k j = 0) : gat G V U H k :=
  cv_i hs hD h hn (by simp) (fun j hj => by rw [hv j hj, List.getElem?_replicate, if_pos hj])
def gfr (ad : Nat → Nat) (f : Nat → Int32) : Nat → List (Option Nat) → List Value
  | _, [] => []
  | j, o :: l => gfv ad f j o :: gfr ad f (j + 1) l
theorem gfr_eq (ad : Nat → Nat) (f : Nat → Int32) : ∀ (l : List (Option Nat)) (j : Nat), l.mapIdx (fun i o => gfv ad f (i + j) o) = gfr ad f j l
  | [], _ => rfl
  | o :: l, j => by
    rw [List.mapIdx_cons, Nat.zero_add]
    show _ = gfv ad f j o :: gfr ad f (j + 1) l
    rw [← gfr_eq ad f l (j + 1)]
    congr 1
    congr 1
    funext i o
    rw [show i + 1 + j = i + (j + 1) by omega]
theorem gfs_eq {ad : Nat → Nat} {f : Nat → Int32} {l : List (Option Nat)} {vs : List Value} (h : vs = gfr ad f 0 l) : vs = gfs ad f l := by
  rw [h, ← gfr_eq ad f l 0]
  rfl
theorem cv_o {G : gG} {V : gV} {D : va_G} {U : State} {H : Heap} {k ci : Nat} {fl : List (Option Nat)} {vs : List Value} (hs : G.2.2.1 k = some (.inr (.inl (ci, fl)))) (hD : G.2.1 = D) (h : cat D U H (G.1 k) (.inr (.inl (ci, vs)))) (hv : vs = gfs G.1 (V k) fl) : gat G V U H k := by
  subst hD
  subst hv
  exact (gat_o hs).mpr h
theorem cv_r {G : gG} {V : gV} {D : va_G} {U : State} {H : Heap} {k ty n b d : Nat} {vs : List Value} (hs : G.2.2.1 k = some (.inr (.inr (ty, n, b, d)))) (hD : G.2.1 = D) (h : cat D U H (G.1 k) (.inr (.inr (ty, vs)))) (hl : vs.length = n) (hv : ∀ j, j < n → vs[j]? = some (.ref (G.1 (b + d * j)))) : gat G V U H k := by
  obtain ⟨cell, kA, h1, h2, h3, h4, h5, h6⟩ := h
  refine (gat_r hs).mpr ⟨cell, h1, ⟨fun q e => (by rw [h2] at e; cases e), kA, h5, _, h6⟩, (by rw [h2]; exact fun e => (by cases e)), h3.trans hl, fun j hj => h4 j _ (hv j hj)⟩
def adX (a t1 t2 t3 t4 : Nat) : Nat → Nat := fun k => if k < 112 then a + k else if k = 112 then t1 else if k = 113 then t2 else if k = 114 then t3 else t4
def gGX (a t1 t2 t3 t4 : Nat) (D : va_G) : gG := (adX a t1 t2 t3 t4, D, shX, 112, stX)
def gGM (a : Nat) (D : va_G) : gG := (fun k => a + k, D, shM, 12, [])
theorem z_rep {n j : Nat} : vInt ((List.replicate n (Value.int 0))[j]?) = 0 := by
  rw [List.getElem?_replicate]
  split <;> rfl
set_option maxRecDepth 100000 in
theorem cvX_0 {a t1 t2 t3 t4 : Nat} {D : va_G} {U : State} {H : Heap} (h : ∀ (k : Nat) (d : cD), (blkX7 (a + 0))[k]? = some d → cat D U H ((gGX a t1 t2 t3 t4 D).1 k) d) : gat (gGX a t1 t2 t3 t4 D) V0X U H 0 := cv_o rfl rfl (h 0 _ rfl) (gfs_eq rfl)
set_option maxRecDepth 100000 in
theorem cvX_1 {a t1 t2 t3 t4 : Nat} {D : va_G} {U : State} {H : Heap} (h : ∀ (k : Nat) (d : cD), (blkX7 (a + 0))[k]? = some d → cat D U H ((gGX a t1 t2 t3 t4 D).1 k) d) : gat (gGX a t1 t2 t3 t4 D) V0X U H 1 := cv_o rfl rfl (h 1 _ rfl) (gfs_eq rfl)
set_option maxRecDepth 100000 in
theorem cvX_2 {a t1 t2 t3 t4 : Nat} {D : va_G} {U : State} {H : Heap} (h : ∀ (k : Nat) (d : cD), (blkX7 (a + 0))[k]? = some d → cat D U H ((gGX a t1 t2 t3 t4 D).1 k) d) : gat (gGX a t1 t2 t3 t4 D) V0X U H 2 := cv_r (n := 4) rfl rfl (h 2 _ rfl) rfl (fun j hj => by rcases (show j = 0 ∨ j = 1 ∨ j = 2 ∨ j = 3 by omega) with rfl | rfl | rfl | rfl <;> rfl)
set_option maxRecDepth 100000 in
theorem cvX_3 {a t1 t2 t3 t4 : Nat} {D : va_G} {U : State} {H : Heap} (h : ∀ (k : Nat) (d : cD), (blkX7 (a + 0))[k]? = some d → cat D U H ((gGX a t1 t2 t3 t4 D).1 k) d) : gat (gGX a t1 t2 t3 t4 D) V0X U H 3 := cv_r (n := 6) rfl rfl (h 3 _ rfl) rfl (fun j hj => by rcases (show j = 0 ∨ j = 1 ∨ j = 2 ∨ j = 3 ∨ j = 4 ∨ j = 5 by omega) with rfl | rfl | rfl | rfl | rfl | rfl <;> rfl)
set_option maxRecDepth 100000 in
theorem cvX_4 {a t1 t2 t3 t4 : Nat} {D : va_G} {U : State} {H : Heap} (h : ∀ (k : Nat) (d : cD), (blkX7 (a + 0))[k]? = some d → cat D U H ((gGX a t1 t2 t3 t4 D).1 k) d) : gat (gGX a t1 t2 t3 t4 D) V0X U H 4 := cv_o rfl rfl (h 4 _ rfl) (gfs_eq rfl)
set_option maxRecDepth 100000 in
theorem cvX_5 {a t1 t2 t3 t4 : Nat} {D : va_G} {U : State} {H : Heap} (h : ∀ (k : Nat) (d : cD), (blkX7 (a + 0))[k]? = some d → cat D U H ((gGX a t1 t2 t3 t4 D).1 k) d) : gat (gGX a t1 t2 t3 t4 D) V0X U H 5 := cv_o rfl rfl (h 5 _ rfl) (gfs_eq rfl)
set_option maxRecDepth 100000 in
theorem cvX_6 {a t1 t2 t3 t4 : Nat} {D : va_G} {U : State} {H : Heap} (h : ∀ (k : Nat) (d : cD), (blkX7 (a + 0))[k]? = some d → cat D U H ((gGX a t1 t2 t3 t4 D).1 k) d) : gat (gGX a t1 t2 t3 t4 D) V0X U H 6 := cv_z (n := 8) rfl rfl (h 6 _ rfl) (by decide) (fun j _ => z_rep (n := 8) (j := j))
set_option maxRecDepth 100000 in
theorem cvX_7 {a t1 t2 t3 t4 : Nat} {D : va_G} {U : State} {H : Heap} (h : ∀ (k : Nat) (d : cD), (blkX7 (a + 0))[k]? = some d → cat D U H ((gGX a t1 t2 t3 t4 D).1 k) d) : gat (gGX a t1 t2 t3 t4 D) V0X U H 7 := cv_o rfl rfl (h 7 _ rfl) (gfs_eq rfl)
set_option maxRecDepth 100000 in
theorem cvX_8 {a t1 t2 t3 t4 : Nat} {D : va_G} {U : State} {H : Heap} (h : ∀ (k : Nat) (d : cD), (blkX7 (a + 0))[k]? = some d → cat D U H ((gGX a t1 t2 t3 t4 D).1 k) d) : gat (gGX a t1 t2 t3 t4 D) V0X U H 8 := cv_z (n := 50) rfl rfl (h 8 _ rfl) (by decide) (fun j _ => z_rep (n := 50) (j := j))
set_option maxRecDepth 100000 in
theorem cvX_9 {a t1 t2 t3 t4 : Nat} {D : va_G} {U : State} {H : Heap} (h : ∀ (k : Nat) (d : cD), (blkX7 (a + 0))[k]? = some d → cat D U H ((gGX a t1 t2 t3 t4 D).1 k) d) : gat (gGX a t1 t2 t3 t4 D) V0X U H 9 := cv_z (n := 50) rfl rfl (h 9 _ rfl) (by decide) (fun j _ => z_rep (n := 50) (j := j))
set_option maxRecDepth 100000 in
theorem cvX_10 {a t1 t2 t3 t4 : Nat} {D : va_G} {U : State} {H : Heap} (h : ∀ (k : Nat) (d : cD), (blkX7 (a + 0))[k]? = some d → cat D U H ((gGX a t1 t2 t3 t4 D).1 k) d) : gat (gGX a t1 t2 t3 t4 D) V0X U H 10 := cv_o rfl rfl (h 10 _ rfl) (gfs_eq rfl)
set_option maxRecDepth 100000 in
theorem cvX_11 {a t1 t2 t3 t4 : Nat} {D : va_G} {U : State} {H : Heap} (h : ∀ (k : Nat) (d : cD), (blkX7 (a + 0))[k]? = some d → cat D U H ((gGX a t1 t2 t3 t4 D).1 k) d) : gat (gGX a t1 t2 t3 t4 D) V0X U H 11 := cv_z (n := 50) rfl rfl (h 11 _ rfl) (by decide) (fun j _ => z_rep (n := 50) (j := j))
set_option maxRecDepth 100000 in
theorem cvX_12 {a t1 t2 t3 t4 : Nat} {D : va_G} {U : State} {H : Heap} (h : ∀ (k : Nat) (d : cD), (blkX7 (a + 0))[k]? = some d → cat D U H ((gGX a t1 t2 t3 t4 D).1 k) d) : gat (gGX a t1 t2 t3 t4 D) V0X U H 12 := cv_z (n := 50) rfl rfl (h 12 _ rfl) (by decide) (fun j _ => z_rep (n := 50) (j := j))
set_option maxRecDepth 100000 in
theorem cvX_13 {a t1 t2 t3 t4 : Nat} {D : va_G} {U : State} {H : Heap} (h : ∀ (k : Nat) (d : cD), (blkX7 (a + 0))[k]? = some d → cat D U H ((gGX a t1 t2 t3 t4 D).1 k) d) : gat (gGX a t1 t2 t3 t4 D) V0X U H 13 := cv_z (n := 50) rfl rfl (h 13 _ rfl) (by decide) (fun j _ => z_rep (n := 50) (j := j))
set_option maxRecDepth 100000 in
theorem cvX_14 {a t1 t2 t3 t4 : Nat} {D : va_G} {U : State} {H : Heap} (h : ∀ (k : Nat) (d : cD), (blkX7 (a + 0))[k]? = some d → cat D U H ((gGX a t1 t2 t3 t4 D).1 k) d) : gat (gGX a t1 t2 t3 t4 D) V0X U H 14 := cv_z (n := 20) rfl rfl (h 14 _ rfl) (by decide) (fun j _ => z_rep (n := 20) (j := j))
set_option maxRecDepth 100000 in
theorem cvX_15 {a t1 t2 t3 t4 : Nat} {D : va_G} {U : State} {H : Heap} (h : ∀ (k : Nat) (d : cD), (blkX7 (a + 0))[k]? = some d → cat D U H ((gGX a t1 t2 t3 t4 D).1 k) d) : gat (gGX a t1 t2 t3 t4 D) V0X U H 15 := cv_o rfl rfl (h 15 _ rfl) (gfs_eq rfl)
set_option maxRecDepth 100000 in
theorem cvX_16 {a t1 t2 t3 t4 : Nat} {D : va_G} {U : State} {H : Heap} (h : ∀ (k : Nat) (d : cD), (blkX7 (a + 0))[k]? = some d → cat D U H ((gGX a t1 t2 t3 t4 D).1 k) d) : gat (gGX a t1 t2 t3 t4 D) V0X U H 16 := cv_o rfl rfl (h 16 _ rfl) (gfs_eq rfl)
set_option maxRecDepth 100000 in
theorem cvX_17 {a t1 t2 t3 t4 : Nat} {D : va_G} {U : State} {H : Heap} (h : ∀ (k : Nat) (d : cD), (blkX7 (a + 0))[k]? = some d → cat D U H ((gGX a t1 t2 t3 t4 D).1 k) d) : gat (gGX a t1 t2 t3 t4 D) V0X U H 17 := cv_o rfl rfl (h 17 _ rfl) (gfs_eq rfl)
set_option maxRecDepth 100000 in
theorem cvX_18 {a t1 t2 t3 t4 : Nat} {D : va_G} {U : State} {H : Heap} (h : ∀ (k : Nat) (d : cD), (blkX7 (a + 0))[k]? = some d → cat D U H ((gGX a t1 t2 t3 t4 D).1 k) d) : gat (gGX a t1 t2 t3 t4 D) V0X U H 18 := cv_o rfl rfl (h 18 _ rfl) (gfs_eq rfl)
set_option maxRecDepth 100000 in
theorem cvX_19 {a t1 t2 t3 t4 : Nat} {D : va_G} {U : State} {H : Heap} (h : ∀ (k : Nat) (d : cD), (blkX7 (a + 0))[k]? = some d → cat D U H ((gGX a t1 t2 t3 t4 D).1 k) d) : gat (gGX a t1 t2 t3 t4 D) V0X U H 19 := cv_o rfl rfl (h 19 _ rfl) (gfs_eq rfl)
set_option maxRecDepth 100000 in
theorem cvX_20 {a t1 t2 t3 t4 : Nat} {D : va_G} {U : State} {H : Heap} (h : ∀ (k : Nat) (d : cD), (blkX7 (a + 0))[k]? = some d → cat D U H ((gGX a t1 t2 t3 t4 D).1 k) d) : gat (gGX a t1 t2 t3 t4 D) V0X U H 20 := cv_z (n := 8) rfl rfl (h 20 _ rfl) (by decide) (fun j _ => z_rep (n := 8) (j := j))
set_option maxRecDepth 100000 in
theorem cvX_21 {a t1 t2 t3 t4 : Nat} {D : va_G} {U : State} {H : Heap} (h : ∀ (k : Nat) (d : cD), (blkX7 (a + 0))[k]? = some d → cat D U H ((gGX a t1 t2 t3 t4 D).1 k) d) : gat (gGX a t1 t2 t3 t4 D) V0X U H 21 := cv_o rfl rfl (h 21 _ rfl) (gfs_eq rfl)
set_option maxRecDepth 100000 in
theorem cvX_22 {a t1 t2 t3 t4 : Nat} {D : va_G} {U : State} {H : Heap} (h : ∀ (k : Nat) (d : cD), (blkX7 (a + 0))[k]? = some d → cat D U H ((gGX a t1 t2 t3 t4 D).1 k) d) : gat (gGX a t1 t2 t3 t4 D) V0X U H 22 := cv_z (n := 8) rfl rfl (h 22 _ rfl) (by decide) (fun j _ => z_rep (n := 8) (j := j))
set_option maxRecDepth 100000 in
theorem cvX_23 {a t1 t2 t3 t4 : Nat} {D : va_G} {U : State} {H : Heap} (h : ∀ (k : Nat) (d : cD), (blkX7 (a + 0))[k]? = some d → cat D U H ((gGX a t1 t2 t3 t4 D).1 k) d) : gat (gGX a t1 t2 t3 t4 D) V0X U H 23 := cv_o rfl rfl (h 23 _ rfl) (gfs_eq rfl)
set_option maxRecDepth 100000 in
theorem cvX_24 {a t1 t2 t3 t4 : Nat} {D : va_G} {U : State} {H : Heap} (h : ∀ (k : Nat) (d : cD), (blkX7 (a + 0))[k]? = some d → cat D U H ((gGX a t1 t2 t3 t4 D).1 k) d) : gat (gGX a t1 t2 t3 t4 D) V0X U H 24 := cv_z (n := 8) rfl rfl (h 24 _ rfl) (by decide) (fun j _ => z_rep (n := 8) (j := j))
set_option maxRecDepth 100000 in
theorem cvX_25 {a t1 t2 t3 t4 : Nat} {D : va_G} {U : State} {H : Heap} (h : ∀ (k : Nat) (d : cD), (blkX7 (a + 0))[k]? = some d → cat D U H ((gGX a t1 t2 t3 t4 D).1 k) d) : gat (gGX a t1 t2 t3 t4 D) V0X U H 25 := cv_o rfl rfl (h 25 _ rfl) (gfs_eq rfl)
set_option maxRecDepth 100000 in
theorem cvX_26 {a t1 t2 t3 t4 : Nat} {D : va_G} {U : State} {H : Heap} (h : ∀ (k : Nat) (d : cD), (blkX7 (a + 0))[k]? = some d → cat D U H ((gGX a t1 t2 t3 t4 D).1 k) d) : gat (gGX a t1 t2 t3 t4 D) V0X U H 26 := cv_z (n := 8) rfl rfl (h 26 _ rfl) (by decide) (fun j _ => z_rep (n := 8) (j := j))
set_option maxRecDepth 100000 in
theorem cvX_27 {a t1 t2 t3 t4 : Nat} {D : va_G} {U : State} {H : Heap} (h : ∀ (k : Nat) (d : cD), (blkX7 (a + 0))[k]? = some d → cat D U H ((gGX a t1 t2 t3 t4 D).1 k) d) : gat (gGX a t1 t2 t3 t4 D) V0X U H 27 := cv_o rfl rfl (h 27 _ rfl) (gfs_eq rfl)
set_option maxRecDepth 100000 in
theorem cvX_28 {a t1 t2 t3 t4 : Nat} {D : va_G} {U : State} {H : Heap} (h : ∀ (k : Nat) (d : cD), (blkX7 (a + 0))[k]? = some d → cat D U H ((gGX a t1 t2 t3 t4 D).1 k) d) : gat (gGX a t1 t2 t3 t4 D) V0X U H 28 := cv_z (n := 8) rfl rfl (h 28 _ rfl) (by decide) (fun j _ => z_rep (n := 8) (j := j))
set_option maxRecDepth 100000 in
theorem cvX_29 {a t1 t2 t3 t4 : Nat} {D : va_G} {U : State} {H : Heap} (h : ∀ (k : Nat) (d : cD), (blkX7 (a + 0))[k]? = some d → cat D U H ((gGX a t1 t2 t3 t4 D).1 k) d) : gat (gGX a t1 t2 t3 t4 D) V0X U H 29 := cv_o rfl rfl (h 29 _ rfl) (gfs_eq rfl)
set_option maxRecDepth 100000 in
theorem cvX_30 {a t1 t2 t3 t4 : Nat} {D : va_G} {U : State} {H : Heap} (h : ∀ (k : Nat) (d : cD), (blkX7 (a + 0))[k]? = some d → cat D U H ((gGX a t1 t2 t3 t4 D).1 k) d) : gat (gGX a t1 t2 t3 t4 D) V0X U H 30 := cv_z (n := 8) rfl rfl (h 30 _ rfl) (by decide) (fun j _ => z_rep (n := 8) (j := j))
set_option maxRecDepth 100000 in
theorem cvX_31 {a t1 t2 t3 t4 : Nat} {D : va_G} {U : State} {H : Heap} (h : ∀ (k : Nat) (d : cD), (blkX7 (a + 0))[k]? = some d → cat D U H ((gGX a t1 t2 t3 t4 D).1 k) d) : gat (gGX a t1 t2 t3 t4 D) V0X U H 31 := cv_o rfl rfl (h 31 _ rfl) (gfs_eq rfl)
set_option maxRecDepth 100000 in
theorem cvX_32 {a t1 t2 t3 t4 : Nat} {D : va_G} {U : State} {H : Heap} (h : ∀ (k : Nat) (d : cD), (blkX7 (a + 0))[k]? = some d → cat D U H ((gGX a t1 t2 t3 t4 D).1 k) d) : gat (gGX a t1 t2 t3 t4 D) V0X U H 32 := cv_r (n := 4) rfl rfl (h 32 _ rfl) rfl (fun j hj => by rcases (show j = 0 ∨ j = 1 ∨ j = 2 ∨ j = 3 by omega) with rfl | rfl | rfl | rfl <;> rfl)
set_option maxRecDepth 100000 in
theorem cvX_33 {a t1 t2 t3 t4 : Nat} {D : va_G} {U : State} {H : Heap} (h : ∀ (k : Nat) (d : cD), (blkX7 (a + 0))[k]? = some d → cat D U H ((gGX a t1 t2 t3 t4 D).1 k) d) : gat (gGX a t1 t2 t3 t4 D) V0X U H 33 := cv_r (n := 6) rfl rfl (h 33 _ rfl) rfl (fun j hj => by rcases (show j = 0 ∨ j = 1 ∨ j = 2 ∨ j = 3 ∨ j = 4 ∨ j = 5 by omega) with rfl | rfl | rfl | rfl | rfl | rfl <;> rfl)
set_option maxRecDepth 100000 in
theorem cvX_34 {a t1 t2 t3 t4 : Nat} {D : va_G} {U : State} {H : Heap} (h : ∀ (k : Nat) (d : cD), (blkX7 (a + 0))[k]? = some d → cat D U H ((gGX a t1 t2 t3 t4 D).1 k) d) : gat (gGX a t1 t2 t3 t4 D) V0X U H 34 := cv_o rfl rfl (h 34 _ rfl) (gfs_eq rfl)
set_option maxRecDepth 100000 in
theorem cvX_35 {a t1 t2 t3 t4 : Nat} {D : va_G} {U : State} {H : Heap} (h : ∀ (k : Nat) (d : cD), (blkX7 (a + 0))[k]? = some d → cat D U H ((gGX a t1 t2 t3 t4 D).1 k) d) : gat (gGX a t1 t2 t3 t4 D) V0X U H 35 := cv_o rfl rfl (h 35 _ rfl) (gfs_eq rfl)
set_option maxRecDepth 100000 in
theorem cvX_36 {a t1 t2 t3 t4 : Nat} {D : va_G} {U : State} {H : Heap} (h : ∀ (k : Nat) (d : cD), (blkX7 (a + 0))[k]? = some d → cat D U H ((gGX a t1 t2 t3 t4 D).1 k) d) : gat (gGX a t1 t2 t3 t4 D) V0X U H 36 := cv_z (n := 8) rfl rfl (h 36 _ rfl) (by decide) (fun j _ => z_rep (n := 8) (j := j))
set_option maxRecDepth 100000 in
theorem cvX_37 {a t1 t2 t3 t4 : Nat} {D : va_G} {U : State} {H : Heap} (h : ∀ (k : Nat) (d : cD), (blkX7 (a + 0))[k]? = some d → cat D U H ((gGX a t1 t2 t3 t4 D).1 k) d) : gat (gGX a t1 t2 t3 t4 D) V0X U H 37 := cv_o rfl rfl (h 37 _ rfl) (gfs_eq rfl)
set_option maxRecDepth 100000 in
theorem cvX_38 {a t1 t2 t3 t4 : Nat} {D : va_G} {U : State} {H : Heap} (h : ∀ (k : Nat) (d : cD), (blkX7 (a + 0))[k]? = some d → cat D U H ((gGX a t1 t2 t3 t4 D).1 k) d) : gat (gGX a t1 t2 t3 t4 D) V0X U H 38 := cv_z (n := 50) rfl rfl (h 38 _ rfl) (by decide) (fun j _ => z_rep (n := 50) (j := j))
set_option maxRecDepth 100000 in
theorem cvX_39 {a t1 t2 t3 t4 : Nat} {D : va_G} {U : State} {H : Heap} (h : ∀ (k : Nat) (d : cD), (blkX7 (a + 0))[k]? = some d → cat D U H ((gGX a t1 t2 t3 t4 D).1 k) d) : gat (gGX a t1 t2 t3 t4 D) V0X U H 39 := cv_z (n := 50) rfl rfl (h 39 _ rfl) (by decide) (fun j _ => z_rep (n := 50) (j := j))
set_option maxRecDepth 100000 in
theorem cvX_40 {a t1 t2 t3 t4 : Nat} {D : va_G} {U : State} {H : Heap} (h : ∀ (k : Nat) (d : cD), (blkX7 (a + 0))[k]? = some d → cat D U H ((gGX a t1 t2 t3 t4 D).1 k) d) : gat (gGX a t1 t2 t3 t4 D) V0X U H 40 := cv_o rfl rfl (h 40 _ rfl) (gfs_eq rfl)
set_option maxRecDepth 100000 in
theorem cvX_41 {a t1 t2 t3 t4 : Nat} {D : va_G} {U : State} {H : Heap} (h : ∀ (k : Nat) (d : cD), (blkX7 (a + 0))[k]? = some d → cat D U H ((gGX a t1 t2 t3 t4 D).1 k) d) : gat (gGX a t1 t2 t3 t4 D) V0X U H 41 := cv_z (n := 50) rfl rfl (h 41 _ rfl) (by decide) (fun j _ => z_rep (n := 50) (j := j))
set_option maxRecDepth 100000 in
theorem cvX_42 {a t1 t2 t3 t4 : Nat} {D : va_G} {U : State} {H : Heap} (h : ∀ (k : Nat) (d : cD), (blkX7 (a + 0))[k]? = some d → cat D U H ((gGX a t1 t2 t3 t4 D).1 k) d) : gat (gGX a t1 t2 t3 t4 D) V0X U H 42 := cv_z (n := 50) rfl rfl (h 42 _ rfl) (by decide) (fun j _ => z_rep (n := 50) (j := j))
set_option maxRecDepth 100000 in
theorem cvX_43 {a t1 t2 t3 t4 : Nat} {D : va_G} {U : State} {H : Heap} (h : ∀ (k : Nat) (d : cD), (blkX7 (a + 0))[k]? = some d → cat D U H ((gGX a t1 t2 t3 t4 D).1 k) d) : gat (gGX a t1 t2 t3 t4 D) V0X U H 43 := cv_z (n := 50) rfl rfl (h 43 _ rfl) (by decide) (fun j _ => z_rep (n := 50) (j := j))
set_option maxRecDepth 100000 in
theorem cvX_44 {a t1 t2 t3 t4 : Nat} {D : va_G} {U : State} {H : Heap} (h : ∀ (k : Nat) (d : cD), (blkX7 (a + 0))[k]? = some d → cat D U H ((gGX a t1 t2 t3 t4 D).1 k) d) : gat (gGX a t1 t2 t3 t4 D) V0X U H 44 := cv_z (n := 20) rfl rfl (h 44 _ rfl) (by decide) (fun j _ => z_rep (n := 20) (j := j))
set_option maxRecDepth 100000 in
theorem cvX_45 {a t1 t2 t3 t4 : Nat} {D : va_G} {U : State} {H : Heap} (h : ∀ (k : Nat) (d : cD), (blkX7 (a + 0))[k]? = some d → cat D U H ((gGX a t1 t2 t3 t4 D).1 k) d) : gat (gGX a t1 t2 t3 t4 D) V0X U H 45 := cv_o rfl rfl (h 45 _ rfl) (gfs_eq rfl)
set_option maxRecDepth 100000 in
theorem cvX_46 {a t1 t2 t3 t4 : Nat} {D : va_G} {U : State} {H : Heap} (h : ∀ (k : Nat) (d : cD), (blkX7 (a + 0))[k]? = some d → cat D U H ((gGX a t1 t2 t3 t4 D).1 k) d) : gat (gGX a t1 t2 t3 t4 D) V0X U H 46 := cv_o rfl rfl (h 46 _ rfl) (gfs_eq rfl)
set_option maxRecDepth 100000 in
theorem cvX_47 {a t1 t2 t3 t4 : Nat} {D : va_G} {U : State} {H : Heap} (h : ∀ (k : Nat) (d : cD), (blkX7 (a + 0))[k]? = some d → cat D U H ((gGX a t1 t2 t3 t4 D).1 k) d) : gat (gGX a t1 t2 t3 t4 D) V0X U H 47 := cv_o rfl rfl (h 47 _ rfl) (gfs_eq rfl)
set_option maxRecDepth 100000 in
theorem cvX_48 {a t1 t2 t3 t4 : Nat} {D : va_G} {U : State} {H : Heap} (h : ∀ (k : Nat) (d : cD), (blkX7 (a + 0))[k]? = some d → cat D U H ((gGX a t1 t2 t3 t4 D).1 k) d) : gat (gGX a t1 t2 t3 t4 D) V0X U H 48 := cv_o rfl rfl (h 48 _ rfl) (gfs_eq rfl)
set_option maxRecDepth 100000 in
theorem cvX_49 {a t1 t2 t3 t4 : Nat} {D : va_G} {U : State} {H : Heap} (h : ∀ (k : Nat) (d : cD), (blkX7 (a + 0))[k]? = some d → cat D U H ((gGX a t1 t2 t3 t4 D).1 k) d) : gat (gGX a t1 t2 t3 t4 D) V0X U H 49 := cv_o rfl rfl (h 49 _ rfl) (gfs_eq rfl)
set_option maxRecDepth 100000 in
theorem cvX_50 {a t1 t2 t3 t4 : Nat} {D : va_G} {U : State} {H : Heap} (h : ∀ (k : Nat) (d : cD), (blkX7 (a + 0))[k]? = some d → cat D U H ((gGX a t1 t2 t3 t4 D).1 k) d) : gat (gGX a t1 t2 t3 t4 D) V0X U H 50 := cv_z (n := 8) rfl rfl (h 50 _ rfl) (by decide) (fun j _ => z_rep (n := 8) (j := j))
set_option maxRecDepth 100000 in
theorem cvX_51 {a t1 t2 t3 t4 : Nat} {D : va_G} {U : State} {H : Heap} (h : ∀ (k : Nat) (d : cD), (blkX7 (a + 0))[k]? = some d → cat D U H ((gGX a t1 t2 t3 t4 D).1 k) d) : gat (gGX a t1 t2 t3 t4 D) V0X U H 51 := cv_o rfl rfl (h 51 _ rfl) (gfs_eq rfl)
set_option maxRecDepth 100000 in
theorem cvX_52 {a t1 t2 t3 t4 : Nat} {D : va_G} {U : State} {H : Heap} (h : ∀ (k : Nat) (d : cD), (blkX7 (a + 0))[k]? = some d → cat D U H ((gGX a t1 t2 t3 t4 D).1 k) d) : gat (gGX a t1 t2 t3 t4 D) V0X U H 52 := cv_z (n := 8) rfl rfl (h 52 _ rfl) (by decide) (fun j _ => z_rep (n := 8) (j := j))
set_option maxRecDepth 100000 in
theorem cvX_53 {a t1 t2 t3 t4 : Nat} {D : va_G} {U : State} {H : Heap} (h : ∀ (k : Nat) (d : cD), (blkX7 (a + 0))[k]? = some d → cat D U H ((gGX a t1 t2 t3 t4 D).1 k) d) : gat (gGX a t1 t2 t3 t4 D) V0X U H 53 := cv_o rfl rfl (h 53 _ rfl) (gfs_eq rfl)
set_option maxRecDepth 100000 in
theorem cvX_54 {a t1 t2 t3 t4 : Nat} {D : va_G} {U : State} {H : Heap} (h : ∀ (k : Nat) (d : cD), (blkX7 (a + 0))[k]? = some d → cat D U H ((gGX a t1 t2 t3 t4 D).1 k) d) : gat (gGX a t1 t2 t3 t4 D) V0X U H 54 := cv_z (n := 8) rfl rfl (h 54 _ rfl) (by decide) (fun j _ => z_rep (n := 8) (j := j))
set_option maxRecDepth 100000 in
theorem cvX_55 {a t1 t2 t3 t4 : Nat} {D : va_G} {U : State} {H : Heap} (h : ∀ (k : Nat) (d : cD), (blkX7 (a + 0))[k]? = some d → cat D U H ((gGX a t1 t2 t3 t4 D).1 k) d) : gat (gGX a t1 t2 t3 t4 D) V0X U H 55 := cv_o rfl rfl (h 55 _ rfl) (gfs_eq rfl)
set_option maxRecDepth 100000 in
theorem cvX_56 {a t1 t2 t3 t4 : Nat} {D : va_G} {U : State} {H : Heap} (h : ∀ (k : Nat) (d : cD), (blkX7 (a + 0))[k]? = some d → cat D U H ((gGX a t1 t2 t3 t4 D).1 k) d) : gat (gGX a t1 t2 t3 t4 D) V0X U H 56 := cv_z (n := 8) rfl rfl (h 56 _ rfl) (by decide) (fun j _ => z_rep (n := 8) (j := j))
set_option maxRecDepth 100000 in
theorem cvX_57 {a t1 t2 t3 t4 : Nat} {D : va_G} {U : State} {H : Heap} (h : ∀ (k : Nat) (d : cD), (blkX7 (a + 0))[k]? = some d → cat D U H ((gGX a t1 t2 t3 t4 D).1 k) d) : gat (gGX a t1 t2 t3 t4 D) V0X U H 57 := cv_o rfl rfl (h 57 _ rfl) (gfs_eq rfl)
set_option maxRecDepth 100000 in
theorem cvX_58 {a t1 t2 t3 t4 : Nat} {D : va_G} {U : State} {H : Heap} (h : ∀ (k : Nat) (d : cD), (blkX7 (a + 0))[k]? = some d → cat D U H ((gGX a t1 t2 t3 t4 D).1 k) d) : gat (gGX a t1 t2 t3 t4 D) V0X U H 58 := cv_z (n := 8) rfl rfl (h 58 _ rfl) (by decide) (fun j _ => z_rep (n := 8) (j := j))
set_option maxRecDepth 100000 in
theorem cvX_59 {a t1 t2 t3 t4 : Nat} {D : va_G} {U : State} {H : Heap} (h : ∀ (k : Nat) (d : cD), (blkX7 (a + 0))[k]? = some d → cat D U H ((gGX a t1 t2 t3 t4 D).1 k) d) : gat (gGX a t1 t2 t3 t4 D) V0X U H 59 := cv_o rfl rfl (h 59 _ rfl) (gfs_eq rfl)
set_option maxRecDepth 100000 in
theorem cvX_60 {a t1 t2 t3 t4 : Nat} {D : va_G} {U : State} {H : Heap} (h : ∀ (k : Nat) (d : cD), (blkX7 (a + 0))[k]? = some d → cat D U H ((gGX a t1 t2 t3 t4 D).1 k) d) : gat (gGX a t1 t2 t3 t4 D) V0X U H 60 := cv_z (n := 8) rfl rfl (h 60 _ rfl) (by decide) (fun j _ => z_rep (n := 8) (j := j))
set_option maxRecDepth 100000 in
theorem cvX_61 {a t1 t2 t3 t4 : Nat} {D : va_G} {U : State} {H : Heap} (h : ∀ (k : Nat) (d : cD), (blkX7 (a + 0))[k]? = some d → cat D U H ((gGX a t1 t2 t3 t4 D).1 k) d) : gat (gGX a t1 t2 t3 t4 D) V0X U H 61 := cv_o rfl rfl (h 61 _ rfl) (gfs_eq rfl)
set_option maxRecDepth 100000 in
theorem cvX_62 {a t1 t2 t3 t4 : Nat} {D : va_G} {U : State} {H : Heap} (h : ∀ (k : Nat) (d : cD), (blkX7 (a + 0))[k]? = some d → cat D U H ((gGX a t1 t2 t3 t4 D).1 k) d) : gat (gGX a t1 t2 t3 t4 D) V0X U H 62 := cv_r (n := 4) rfl rfl (h 62 _ rfl) rfl (fun j hj => by rcases (show j = 0 ∨ j = 1 ∨ j = 2 ∨ j = 3 by omega) with rfl | rfl | rfl | rfl <;> rfl)
set_option maxRecDepth 100000 in
theorem cvX_63 {a t1 t2 t3 t4 : Nat} {D : va_G} {U : State} {H : Heap} (h : ∀ (k : Nat) (d : cD), (blkX7 (a + 0))[k]? = some d → cat D U H ((gGX a t1 t2 t3 t4 D).1 k) d) : gat (gGX a t1 t2 t3 t4 D) V0X U H 63 := cv_r (n := 6) rfl rfl (h 63 _ rfl) rfl (fun j hj => by rcases (show j = 0 ∨ j = 1 ∨ j = 2 ∨ j = 3 ∨ j = 4 ∨ j = 5 by omega) with rfl | rfl | rfl | rfl | rfl | rfl <;> rfl)
set_option maxRecDepth 100000 in
theorem cvX_64 {a t1 t2 t3 t4 : Nat} {D : va_G} {U : State} {H : Heap} (h : ∀ (k : Nat) (d : cD), (blkX7 (a + 0))[k]? = some d → cat D U H ((gGX a t1 t2 t3 t4 D).1 k) d) : gat (gGX a t1 t2 t3 t4 D) V0X U H 64 := cv_o rfl rfl (h 64 _ rfl) (gfs_eq rfl)
set_option maxRecDepth 100000 in
theorem cvX_65 {a t1 t2 t3 t4 : Nat} {D : va_G} {U : State} {H : Heap} (h : ∀ (k : Nat) (d : cD), (blkX7 (a + 0))[k]? = some d → cat D U H ((gGX a t1 t2 t3 t4 D).1 k) d) : gat (gGX a t1 t2 t3 t4 D) V0X U H 65 := cv_o rfl rfl (h 65 _ rfl) (gfs_eq rfl)
set_option maxRecDepth 100000 in
theorem cvX_66 {a t1 t2 t3 t4 : Nat} {D : va_G} {U : State} {H : Heap} (h : ∀ (k : Nat) (d : cD), (blkX7 (a + 0))[k]? = some d → cat D U H ((gGX a t1 t2 t3 t4 D).1 k) d) : gat (gGX a t1 t2 t3 t4 D) V0X U H 66 := cv_z (n := 8) rfl rfl (h 66 _ rfl) (by decide) (fun j _ => z_rep (n := 8) (j := j))
set_option maxRecDepth 100000 in
theorem cvX_67 {a t1 t2 t3 t4 : Nat} {D : va_G} {U : State} {H : Heap} (h : ∀ (k : Nat) (d : cD), (blkX7 (a + 0))[k]? = some d → cat D U H ((gGX a t1 t2 t3 t4 D).1 k) d) : gat (gGX a t1 t2 t3 t4 D) V0X U H 67 := cv_o rfl rfl (h 67 _ rfl) (gfs_eq rfl)
set_option maxRecDepth 100000 in
theorem cvX_68 {a t1 t2 t3 t4 : Nat} {D : va_G} {U : State} {H : Heap} (h : ∀ (k : Nat) (d : cD), (blkX7 (a + 0))[k]? = some d → cat D U H ((gGX a t1 t2 t3 t4 D).1 k) d) : gat (gGX a t1 t2 t3 t4 D) V0X U H 68 := cv_z (n := 50) rfl rfl (h 68 _ rfl) (by decide) (fun j _ => z_rep (n := 50) (j := j))
set_option maxRecDepth 100000 in
theorem cvX_69 {a t1 t2 t3 t4 : Nat} {D : va_G} {U : State} {H : Heap} (h : ∀ (k : Nat) (d : cD), (blkX7 (a + 0))[k]? = some d → cat D U H ((gGX a t1 t2 t3 t4 D).1 k) d) : gat (gGX a t1 t2 t3 t4 D) V0X U H 69 := cv_z (n := 50) rfl rfl (h 69 _ rfl) (by decide) (fun j _ => z_rep (n := 50) (j := j))
set_option maxRecDepth 100000 in
theorem cvX_70 {a t1 t2 t3 t4 : Nat} {D : va_G} {U : State} {H : Heap} (h : ∀ (k : Nat) (d : cD), (blkX7 (a + 0))[k]? = some d → cat D U H ((gGX a t1 t2 t3 t4 D).1 k) d) : gat (gGX a t1 t2 t3 t4 D) V0X U H 70 := cv_o rfl rfl (h 70 _ rfl) (gfs_eq rfl)
set_option maxRecDepth 100000 in
theorem cvX_71 {a t1 t2 t3 t4 : Nat} {D : va_G} {U : State} {H : Heap} (h : ∀ (k : Nat) (d : cD), (blkX7 (a + 0))[k]? = some d → cat D U H ((gGX a t1 t2 t3 t4 D).1 k) d) : gat (gGX a t1 t2 t3 t4 D) V0X U H 71 := cv_z (n := 50) rfl rfl (h 71 _ rfl) (by decide) (fun j _ => z_rep (n := 50) (j := j))
set_option maxRecDepth 100000 in
theorem cvX_72 {a t1 t2 t3 t4 : Nat} {D : va_G} {U : State} {H : Heap} (h : ∀ (k : Nat) (d : cD), (blkX7 (a + 0))[k]? = some d → cat D U H ((gGX a t1 t2 t3 t4 D).1 k) d) : gat (gGX a t1 t2 t3 t4 D) V0X U H 72 := cv_z (n := 50) rfl rfl (h 72 _ rfl) (by decide) (fun j _ => z_rep (n := 50) (j := j))
set_option maxRecDepth 100000 in
theorem cvX_73 {a t1 t2 t3 t4 : Nat} {D : va_G} {U : State} {H : Heap} (h : ∀ (k : Nat) (d : cD), (blkX7 (a + 0))[k]? = some d → cat D U H ((gGX a t1 t2 t3 t4 D).1 k) d) : gat (gGX a t1 t2 t3 t4 D) V0X U H 73 := cv_z (n := 50) rfl rfl (h 73 _ rfl) (by decide) (fun j _ => z_rep (n := 50) (j := j))
set_option maxRecDepth 100000 in
theorem cvX_74 {a t1 t2 t3 t4 : Nat} {D : va_G} {U : State} {H : Heap} (h : ∀ (k : Nat) (d : cD), (blkX7 (a + 0))[k]? = some d → cat D U H ((gGX a t1 t2 t3 t4 D).1 k) d) : gat (gGX a t1 t2 t3 t4 D) V0X U H 74 := cv_z (n := 20) rfl rfl (h 74 _ rfl) (by decide) (fun j _ => z_rep (n := 20) (j := j))
set_option maxRecDepth 100000 in
theorem cvX_75 {a t1 t2 t3 t4 : Nat} {D : va_G} {U : State} {H : Heap} (h : ∀ (k : Nat) (d : cD), (blkX7 (a + 0))[k]? = some d → cat D U H ((gGX a t1 t2 t3 t4 D).1 k) d) : gat (gGX a t1 t2 t3 t4 D) V0X U H 75 := cv_o rfl rfl (h 75 _ rfl) (gfs_eq rfl)
set_option maxRecDepth 100000 in
theorem cvX_76 {a t1 t2 t3 t4 : Nat} {D : va_G} {U : State} {H : Heap} (h : ∀ (k : Nat) (d : cD), (blkX7 (a + 0))[k]? = some d → cat D U H ((gGX a t1 t2 t3 t4 D).1 k) d) : gat (gGX a t1 t2 t3 t4 D) V0X U H 76 := cv_o rfl rfl (h 76 _ rfl) (gfs_eq rfl)
set_option maxRecDepth 100000 in
theorem cvX_77 {a t1 t2 t3 t4 : Nat} {D : va_G} {U : State} {H : Heap} (h : ∀ (k : Nat) (d : cD), (blkX7 (a + 0))[k]? = some d → cat D U H ((gGX a t1 t2 t3 t4 D).1 k) d) : gat (gGX a t1 t2 t3 t4 D) V0X U H 77 := cv_o rfl rfl (h 77 _ rfl) (gfs_eq rfl)
set_option maxRecDepth 100000 in
theorem cvX_78 {a t1 t2 t3 t4 : Nat} {D : va_G} {U : State} {H : Heap} (h : ∀ (k : Nat) (d : cD), (blkX7 (a + 0))[k]? = some d → cat D U H ((gGX a t1 t2 t3 t4 D).1 k) d) : gat (gGX a t1 t2 t3 t4 D) V0X U H 78 := cv_o rfl rfl (h 78 _ rfl) (gfs_eq rfl)
set_option maxRecDepth 100000 in
theorem cvX_79 {a t1 t2 t3 t4 : Nat} {D : va_G} {U : State} {H : Heap} (h : ∀ (k : Nat) (d : cD), (blkX7 (a + 0))[k]? = some d → cat D U H ((gGX a t1 t2 t3 t4 D).1 k) d) : gat (gGX a t1 t2 t3 t4 D) V0X U H 79 := cv_o rfl rfl (h 79 _ rfl) (gfs_eq rfl)
set_option maxRecDepth 100000 in
theorem cvX_80 {a t1 t2 t3 t4 : Nat} {D : va_G} {U : State} {H : Heap} (h : ∀ (k : Nat) (d : cD), (blkX7 (a + 0))[k]? = some d → cat D U H ((gGX a t1 t2 t3 t4 D).1 k) d) : gat (gGX a t1 t2 t3 t4 D) V0X U H 80 := cv_z (n := 8) rfl rfl (h 80 _ rfl) (by decide) (fun j _ => z_rep (n := 8) (j := j))
set_option maxRecDepth 100000 in
theorem cvX_81 {a t1 t2 t3 t4 : Nat} {D : va_G} {U : State} {H : Heap} (h : ∀ (k : Nat) (d : cD), (blkX7 (a + 0))[k]? = some d → cat D U H ((gGX a t1 t2 t3 t4 D).1 k) d) : gat (gGX a t1 t2 t3 t4 D) V0X U H 81 := cv_o rfl rfl (h 81 _ rfl) (gfs_eq rfl)
set_option maxRecDepth 100000 in
theorem cvX_82 {a t1 t2 t3 t4 : Nat} {D : va_G} {U : State} {H : Heap} (h : ∀ (k : Nat) (d : cD), (blkX7 (a + 0))[k]? = some d → cat D U H ((gGX a t1 t2 t3 t4 D).1 k) d) : gat (gGX a t1 t2 t3 t4 D) V0X U H 82 := cv_z (n := 8) rfl rfl (h 82 _ rfl) (by decide) (fun j _ => z_rep (n := 8) (j := j))
set_option maxRecDepth 100000 in
theorem cvX_83 {a t1 t2 t3 t4 : Nat} {D : va_G} {U : State} {H : Heap} (h : ∀ (k : Nat) (d : cD), (blkX7 (a + 0))[k]? = some d → cat D U H ((gGX a t1 t2 t3 t4 D).1 k) d) : gat (gGX a t1 t2 t3 t4 D) V0X U H 83 := cv_o rfl rfl (h 83 _ rfl) (gfs_eq rfl)
set_option maxRecDepth 100000 in
theorem cvX_84 {a t1 t2 t3 t4 : Nat} {D : va_G} {U : State} {H : Heap} (h : ∀ (k : Nat) (d : cD), (blkX7 (a + 0))[k]? = some d → cat D U H ((gGX a t1 t2 t3 t4 D).1 k) d) : gat (gGX a t1 t2 t3 t4 D) V0X U H 84 := cv_z (n := 8) rfl rfl (h 84 _ rfl) (by decide) (fun j _ => z_rep (n := 8) (j := j))
set_option maxRecDepth 100000 in
theorem cvX_85 {a t1 t2 t3 t4 : Nat} {D : va_G} {U : State} {H : Heap} (h : ∀ (k : Nat) (d : cD), (blkX7 (a + 0))[k]? = some d → cat D U H ((gGX a t1 t2 t3 t4 D).1 k) d) : gat (gGX a t1 t2 t3 t4 D) V0X U H 85 := cv_o rfl rfl (h 85 _ rfl) (gfs_eq rfl)
set_option maxRecDepth 100000 in
theorem cvX_86 {a t1 t2 t3 t4 : Nat} {D : va_G} {U : State} {H : Heap} (h : ∀ (k : Nat) (d : cD), (blkX7 (a + 0))[k]? = some d → cat D U H ((gGX a t1 t2 t3 t4 D).1 k) d) : gat (gGX a t1 t2 t3 t4 D) V0X U H 86 := cv_z (n := 8) rfl rfl (h 86 _ rfl) (by decide) (fun j _ => z_rep (n := 8) (j := j))
set_option maxRecDepth 100000 in
theorem cvX_87 {a t1 t2 t3 t4 : Nat} {D : va_G} {U : State} {H : Heap} (h : ∀ (k : Nat) (d : cD), (blkX7 (a + 0))[k]? = some d → cat D U H ((gGX a t1 t2 t3 t4 D).1 k) d) : gat (gGX a t1 t2 t3 t4 D) V0X U H 87 := cv_o rfl rfl (h 87 _ rfl) (gfs_eq rfl)
set_option maxRecDepth 100000 in
theorem cvX_88 {a t1 t2 t3 t4 : Nat} {D : va_G} {U : State} {H : Heap} (h : ∀ (k : Nat) (d : cD), (blkX7 (a + 0))[k]? = some d → cat D U H ((gGX a t1 t2 t3 t4 D).1 k) d) : gat (gGX a t1 t2 t3 t4 D) V0X U H 88 := cv_z (n := 8) rfl rfl (h 88 _ rfl) (by decide) (fun j _ => z_rep (n := 8) (j := j))
set_option maxRecDepth 100000 in
theorem cvX_89 {a t1 t2 t3 t4 : Nat} {D : va_G} {U : State} {H : Heap} (h : ∀ (k : Nat) (d : cD), (blkX7 (a + 0))[k]? = some d → cat D U H ((gGX a t1 t2 t3 t4 D).1 k) d) : gat (gGX a t1 t2 t3 t4 D) V0X U H 89 := cv_o rfl rfl (h 89 _ rfl) (gfs_eq rfl)
set_option maxRecDepth 100000 in
theorem cvX_90 {a t1 t2 t3 t4 : Nat} {D : va_G} {U : State} {H : Heap} (h : ∀ (k : Nat) (d : cD), (blkX7 (a + 0))[k]? = some d → cat D U H ((gGX a t1 t2 t3 t4 D).1 k) d) : gat (gGX a t1 t2 t3 t4 D) V0X U H 90 := cv_z (n := 8) rfl rfl (h 90 _ rfl) (by decide) (fun j _ => z_rep (n := 8) (j := j))
set_option maxRecDepth 100000 in
theorem cvX_91 {a t1 t2 t3 t4 : Nat} {D : va_G} {U : State} {H : Heap} (h : ∀ (k : Nat) (d : cD), (blkX7 (a + 0))[k]? = some d → cat D U H ((gGX a t1 t2 t3 t4 D).1 k) d) : gat (gGX a t1 t2 t3 t4 D) V0X U H 91 := cv_o rfl rfl (h 91 _ rfl) (gfs_eq rfl)
set_option maxRecDepth 100000 in
theorem cvX_92 {a t1 t2 t3 t4 : Nat} {D : va_G} {U : State} {H : Heap} (h : ∀ (k : Nat) (d : cD), (blkX7 (a + 0))[k]? = some d → cat D U H ((gGX a t1 t2 t3 t4 D).1 k) d) : gat (gGX a t1 t2 t3 t4 D) V0X U H 92 := cv_o rfl rfl (h 92 _ rfl) (gfs_eq rfl)
set_option maxRecDepth 100000 in
theorem cvX_93 {a t1 t2 t3 t4 : Nat} {D : va_G} {U : State} {H : Heap} (h : ∀ (k : Nat) (d : cD), (blkX7 (a + 0))[k]? = some d → cat D U H ((gGX a t1 t2 t3 t4 D).1 k) d) : gat (gGX a t1 t2 t3 t4 D) V0X U H 93 := cv_z (n := 50) rfl rfl (h 93 _ rfl) (by decide) (fun j _ => z_rep (n := 50) (j := j))
set_option maxRecDepth 100000 in
theorem cvX_94 {a t1 t2 t3 t4 : Nat} {D : va_G} {U : State} {H : Heap} (h : ∀ (k : Nat) (d : cD), (blkX7 (a + 0))[k]? = some d → cat D U H ((gGX a t1 t2 t3 t4 D).1 k) d) : gat (gGX a t1 t2 t3 t4 D) V0X U H 94 := cv_z (n := 50) rfl rfl (h 94 _ rfl) (by decide) (fun j _ => z_rep (n := 50) (j := j))
set_option maxRecDepth 100000 in
theorem cvX_95 {a t1 t2 t3 t4 : Nat} {D : va_G} {U : State} {H : Heap} (h : ∀ (k : Nat) (d : cD), (blkX7 (a + 0))[k]? = some d → cat D U H ((gGX a t1 t2 t3 t4 D).1 k) d) : gat (gGX a t1 t2 t3 t4 D) V0X U H 95 := cv_z (n := 50) rfl rfl (h 95 _ rfl) (by decide) (fun j _ => z_rep (n := 50) (j := j))
set_option maxRecDepth 100000 in
theorem cvX_96 {a t1 t2 t3 t4 : Nat} {D : va_G} {U : State} {H : Heap} (h : ∀ (k : Nat) (d : cD), (blkX7 (a + 0))[k]? = some d → cat D U H ((gGX a t1 t2 t3 t4 D).1 k) d) : gat (gGX a t1 t2 t3 t4 D) V0X U H 96 := cv_z (n := 3) rfl rfl (h 96 _ rfl) (by decide) (fun j _ => z_rep (n := 3) (j := j))
set_option maxRecDepth 100000 in
theorem cvX_97 {a t1 t2 t3 t4 : Nat} {D : va_G} {U : State} {H : Heap} (h : ∀ (k : Nat) (d : cD), (blkX7 (a + 0))[k]? = some d → cat D U H ((gGX a t1 t2 t3 t4 D).1 k) d) : gat (gGX a t1 t2 t3 t4 D) V0X U H 97 := cv_o rfl rfl (h 97 _ rfl) (gfs_eq rfl)
set_option maxRecDepth 100000 in
theorem cvX_98 {a t1 t2 t3 t4 : Nat} {D : va_G} {U : State} {H : Heap} (h : ∀ (k : Nat) (d : cD), (blkX7 (a + 0))[k]? = some d → cat D U H ((gGX a t1 t2 t3 t4 D).1 k) d) : gat (gGX a t1 t2 t3 t4 D) V0X U H 98 := cv_z (n := 40) rfl rfl (h 98 _ rfl) (by decide) (fun j _ => z_rep (n := 40) (j := j))
set_option maxRecDepth 100000 in
theorem cvX_99 {a t1 t2 t3 t4 : Nat} {D : va_G} {U : State} {H : Heap} (h : ∀ (k : Nat) (d : cD), (blkX7 (a + 0))[k]? = some d → cat D U H ((gGX a t1 t2 t3 t4 D).1 k) d) : gat (gGX a t1 t2 t3 t4 D) V0X U H 99 := cv_r (n := 4) rfl rfl (h 99 _ rfl) rfl (fun j hj => by rcases (show j = 0 ∨ j = 1 ∨ j = 2 ∨ j = 3 by omega) with rfl | rfl | rfl | rfl <;> rfl)
set_option maxRecDepth 100000 in
theorem cvX_100 {a t1 t2 t3 t4 : Nat} {D : va_G} {U : State} {H : Heap} (h : ∀ (k : Nat) (d : cD), (blkX7 (a + 0))[k]? = some d → cat D U H ((gGX a t1 t2 t3 t4 D).1 k) d) : gat (gGX a t1 t2 t3 t4 D) V0X U H 100 := cv_o rfl rfl (h 100 _ rfl) (gfs_eq rfl)
set_option maxRecDepth 100000 in
theorem cvX_101 {a t1 t2 t3 t4 : Nat} {D : va_G} {U : State} {H : Heap} (h : ∀ (k : Nat) (d : cD), (blkX7 (a + 0))[k]? = some d → cat D U H ((gGX a t1 t2 t3 t4 D).1 k) d) : gat (gGX a t1 t2 t3 t4 D) V0X U H 101 := cv_z (n := 40) rfl rfl (h 101 _ rfl) (by decide) (fun j _ => z_rep (n := 40) (j := j))
set_option maxRecDepth 100000 in
theorem cvX_102 {a t1 t2 t3 t4 : Nat} {D : va_G} {U : State} {H : Heap} (h : ∀ (k : Nat) (d : cD), (blkX7 (a + 0))[k]? = some d → cat D U H ((gGX a t1 t2 t3 t4 D).1 k) d) : gat (gGX a t1 t2 t3 t4 D) V0X U H 102 := cv_z (n := 4) rfl rfl (h 102 _ rfl) (by decide) (fun j _ => z_rep (n := 4) (j := j))
set_option maxRecDepth 100000 in
theorem cvX_103 {a t1 t2 t3 t4 : Nat} {D : va_G} {U : State} {H : Heap} (h : ∀ (k : Nat) (d : cD), (blkX7 (a + 0))[k]? = some d → cat D U H ((gGX a t1 t2 t3 t4 D).1 k) d) : gat (gGX a t1 t2 t3 t4 D) V0X U H 103 := cv_z (n := 6) rfl rfl (h 103 _ rfl) (by decide) (fun j _ => z_rep (n := 6) (j := j))
set_option maxRecDepth 100000 in
theorem cvX_104 {a t1 t2 t3 t4 : Nat} {D : va_G} {U : State} {H : Heap} (h : ∀ (k : Nat) (d : cD), (blkX7 (a + 0))[k]? = some d → cat D U H ((gGX a t1 t2 t3 t4 D).1 k) d) : gat (gGX a t1 t2 t3 t4 D) V0X U H 104 := cv_o rfl rfl (h 104 _ rfl) (gfs_eq rfl)
set_option maxRecDepth 100000 in
theorem cvX_105 {a t1 t2 t3 t4 : Nat} {D : va_G} {U : State} {H : Heap} (h : ∀ (k : Nat) (d : cD), (blkX7 (a + 0))[k]? = some d → cat D U H ((gGX a t1 t2 t3 t4 D).1 k) d) : gat (gGX a t1 t2 t3 t4 D) V0X U H 105 := cv_z (n := 40) rfl rfl (h 105 _ rfl) (by decide) (fun j _ => z_rep (n := 40) (j := j))
set_option maxRecDepth 100000 in
theorem cvX_106 {a t1 t2 t3 t4 : Nat} {D : va_G} {U : State} {H : Heap} (h : ∀ (k : Nat) (d : cD), (blkX7 (a + 0))[k]? = some d → cat D U H ((gGX a t1 t2 t3 t4 D).1 k) d) : gat (gGX a t1 t2 t3 t4 D) V0X U H 106 := cv_o rfl rfl (h 106 _ rfl) (gfs_eq rfl)
set_option maxRecDepth 100000 in
theorem cvX_107 {a t1 t2 t3 t4 : Nat} {D : va_G} {U : State} {H : Heap} (h : ∀ (k : Nat) (d : cD), (blkX7 (a + 0))[k]? = some d → cat D U H ((gGX a t1 t2 t3 t4 D).1 k) d) : gat (gGX a t1 t2 t3 t4 D) V0X U H 107 := cv_z (n := 40) rfl rfl (h 107 _ rfl) (by decide) (fun j _ => z_rep (n := 40) (j := j))
set_option maxRecDepth 100000 in
theorem cvX_108 {a t1 t2 t3 t4 : Nat} {D : va_G} {U : State} {H : Heap} (h : ∀ (k : Nat) (d : cD), (blkX7 (a + 0))[k]? = some d → cat D U H ((gGX a t1 t2 t3 t4 D).1 k) d) : gat (gGX a t1 t2 t3 t4 D) V0X U H 108 := cv_o rfl rfl (h 108 _ rfl) (gfs_eq rfl)
set_option maxRecDepth 100000 in
theorem cvX_109 {a t1 t2 t3 t4 : Nat} {D : va_G} {U : State} {H : Heap} (h : ∀ (k : Nat) (d : cD), (blkX7 (a + 0))[k]? = some d → cat D U H ((gGX a t1 t2 t3 t4 D).1 k) d) : gat (gGX a t1 t2 t3 t4 D) V0X U H 109 := cv_z (n := 40) rfl rfl (h 109 _ rfl) (by decide) (fun j _ => z_rep (n := 40) (j := j))
set_option maxRecDepth 100000 in
theorem cvX_110 {a t1 t2 t3 t4 : Nat} {D : va_G} {U : State} {H : Heap} (h : ∀ (k : Nat) (d : cD), (blkX7 (a + 0))[k]? = some d → cat D U H ((gGX a t1 t2 t3 t4 D).1 k) d) : gat (gGX a t1 t2 t3 t4 D) V0X U H 110 := cv_o rfl rfl (h 110 _ rfl) (gfs_eq rfl)
set_option maxRecDepth 100000 in
theorem cvX_111 {a t1 t2 t3 t4 : Nat} {D : va_G} {U : State} {H : Heap} (h : ∀ (k : Nat) (d : cD), (blkX7 (a + 0))[k]? = some d → cat D U H ((gGX a t1 t2 t3 t4 D).1 k) d) : gat (gGX a t1 t2 t3 t4 D) V0X U H 111 := cv_z (n := 40) rfl rfl (h 111 _ rfl) (by decide) (fun j _ => z_rep (n := 40) (j := j))
set_option maxRecDepth 100000 in
theorem cvM_0 {a : Nat} {D : va_G} {U : State} {H : Heap} (h : ∀ (k : Nat) (d : cD), (blkX8 a)[k]? = some d → cat D U H ((gGM a D).1 k) d) : gat (gGM a D) V0M U H 0 := cv_o rfl rfl (h 0 _ rfl) (gfs_eq rfl)
set_option maxRecDepth 100000 in
theorem cvM_1 {a : Nat} {D : va_G} {U : State} {H : Heap} (h : ∀ (k : Nat) (d : cD), (blkX8 a)[k]? = some d → cat D U H ((gGM a D).1 k) d) : gat (gGM a D) V0M U H 1 := cv_i (n := 264) rfl rfl (h 1 _ rfl) (by decide) rfl (by decide +kernel)
set_option maxRecDepth 100000 in
theorem cvM_2 {a : Nat} {D : va_G} {U : State} {H : Heap} (h : ∀ (k : Nat) (d : cD), (blkX8 a)[k]? = some d → cat D U H ((gGM a D).1 k) d) : gat (gGM a D) V0M U H 2 := cv_z (n := 264) rfl rfl (h 2 _ rfl) (by decide) (fun j _ => z_rep (n := 264) (j := j))
set_option maxRecDepth 100000 in
theorem cvM_3 {a : Nat} {D : va_G} {U : State} {H : Heap} (h : ∀ (k : Nat) (d : cD), (blkX8 a)[k]? = some d → cat D U H ((gGM a D).1 k) d) : gat (gGM a D) V0M U H 3 := cv_z (n := 264) rfl rfl (h 3 _ rfl) (by decide) (fun j _ => z_rep (n := 264) (j := j))
set_option maxRecDepth 100000 in
theorem cvM_4 {a : Nat} {D : va_G} {U : State} {H : Heap} (h : ∀ (k : Nat) (d : cD), (blkX8 a)[k]? = some d → cat D U H ((gGM a D).1 k) d) : gat (gGM a D) V0M U H 4 := cv_z (n := 264) rfl rfl (h 4 _ rfl) (by decide) (fun j _ => z_rep (n := 264) (j := j))
set_option maxRecDepth 100000 in
theorem cvM_5 {a : Nat} {D : va_G} {U : State} {H : Heap} (h : ∀ (k : Nat) (d : cD), (blkX8 a)[k]? = some d → cat D U H ((gGM a D).1 k) d) : gat (gGM a D) V0M U H 5 := cv_z (n := 6) rfl rfl (h 5 _ rfl) (by decide) (fun j _ => z_rep (n := 6) (j := j))
set_option maxRecDepth 100000 in
theorem cvM_6 {a : Nat} {D : va_G} {U : State} {H : Heap} (h : ∀ (k : Nat) (d : cD), (blkX8 a)[k]? = some d → cat D U H ((gGM a D).1 k) d) : gat (gGM a D) V0M U H 6 := cv_z (n := 4) rfl rfl (h 6 _ rfl) (by decide) (fun j _ => z_rep (n := 4) (j := j))
set_option maxRecDepth 100000 in
theorem cvM_7 {a : Nat} {D : va_G} {U : State} {H : Heap} (h : ∀ (k : Nat) (d : cD), (blkX8 a)[k]? = some d → cat D U H ((gGM a D).1 k) d) : gat (gGM a D) V0M U H 7 := cv_z (n := 4) rfl rfl (h 7 _ rfl) (by decide) (fun j _ => z_rep (n := 4) (j := j))
set_option maxRecDepth 100000 in
theorem cvM_8 {a : Nat} {D : va_G} {U : State} {H : Heap} (h : ∀ (k : Nat) (d : cD), (blkX8 a)[k]? = some d → cat D U H ((gGM a D).1 k) d) : gat (gGM a D) V0M U H 8 := cv_z (n := 160) rfl rfl (h 8 _ rfl) (by decide) (fun j _ => z_rep (n := 160) (j := j))
set_option maxRecDepth 100000 in
theorem cvM_9 {a : Nat} {D : va_G} {U : State} {H : Heap} (h : ∀ (k : Nat) (d : cD), (blkX8 a)[k]? = some d → cat D U H ((gGM a D).1 k) d) : gat (gGM a D) V0M U H 9 := cv_z (n := 40) rfl rfl (h 9 _ rfl) (by decide) (fun j _ => z_rep (n := 40) (j := j))
set_option maxRecDepth 100000 in
theorem cvM_10 {a : Nat} {D : va_G} {U : State} {H : Heap} (h : ∀ (k : Nat) (d : cD), (blkX8 a)[k]? = some d → cat D U H ((gGM a D).1 k) d) : gat (gGM a D) V0M U H 10 := cv_z (n := 4) rfl rfl (h 10 _ rfl) (by decide) (fun j _ => z_rep (n := 4) (j := j))
set_option maxRecDepth 100000 in
theorem cvM_11 {a : Nat} {D : va_G} {U : State} {H : Heap} (h : ∀ (k : Nat) (d : cD), (blkX8 a)[k]? = some d → cat D U H ((gGM a D).1 k) d) : gat (gGM a D) V0M U H 11 := cv_z (n := 40) rfl rfl (h 11 _ rfl) (by decide) (fun j _ => z_rep (n := 40) (j := j))
theorem cvX {a t1 t2 t3 t4 : Nat} {D : va_G} {U : State} {H : Heap} (h : ∀ (k : Nat) (d : cD), (blkX7 (a + 0))[k]? = some d → cat D U H ((gGX a t1 t2 t3 t4 D).1 k) d) : ∀ k, k < 112 → gat (gGX a t1 t2 t3 t4 D) V0X U H k := by
  intro k hk
  match k with
  | 0 => exact cvX_0 h
  | 1 => exact cvX_1 h
  | 2 => exact cvX_2 h
  | 3 => exact cvX_3 h
  | 4 => exact cvX_4 h
  | 5 => exact cvX_5 h
  | 6 => exact cvX_6 h
  | 7 => exact cvX_7 h
  | 8 => exact cvX_8 h
  | 9 => exact cvX_9 h
  | 10 => exact cvX_10 h
  | 11 => exact cvX_11 h
  | 12 => exact cvX_12 h
  | 13 => exact cvX_13 h
  | 14 => exact cvX_14 h
  | 15 => exact cvX_15 h
  | 16 => exact cvX_16 h
  | 17 => exact cvX_17 h
  | 18 => exact cvX_18 h
  | 19 => exact cvX_19 h
  | 20 => exact cvX_20 h
  | 21 => exact cvX_21 h
  | 22 => exact cvX_22 h
  | 23 => exact cvX_23 h
  | 24 => exact cvX_24 h
  | 25 => exact cvX_25 h
  | 26 => exact cvX_26 h
  | 27 => exact cvX_27 h
  | 28 => exact cvX_28 h
  | 29 => exact cvX_29 h
  | 30 => exact cvX_30 h
  | 31 => exact cvX_31 h
  | 32 => exact cvX_32 h
  | 33 => exact cvX_33 h
  | 34 => exact cvX_34 h
  | 35 => exact cvX_35 h
  | 36 => exact cvX_36 h
  | 37 => exact cvX_37 h
  | 38 => exact cvX_38 h
  | 39 => exact cvX_39 h
  | 40 => exact cvX_40 h
  | 41 => exact cvX_41 h
  | 42 => exact cvX_42 h
  | 43 => exact cvX_43 h
  | 44 => exact cvX_44 h
  | 45 => exact cvX_45 h
  | 46 => exact cvX_46 h
  | 47 => exact cvX_47 h
  | 48 => exact cvX_48 h
  | 49 => exact cvX_49 h
  | 50 => exact cvX_50 h
  | 51 => exact cvX_51 h
  | 52 => exact cvX_52 h
  | 53 => exact cvX_53 h
  | 54 => exact cvX_54 h
  | 55 => exact cvX_55 h
  | 56 => exact cvX_56 h
  | 57 => exact cvX_57 h
  | 58 => exact cvX_58 h
  | 59 => exact cvX_59 h
  | 60 => exact cvX_60 h
  | 61 => exact cvX_61 h
  | 62 => exact cvX_62 h
  | 63 => exact cvX_63 h
  | 64 => exact cvX_64 h
  | 65 => exact cvX_65 h
  | 66 => exact cvX_66 h
  | 67 => exact cvX_67 h
  | 68 => exact cvX_68 h
  | 69 => exact cvX_69 h
  | 70 => exact cvX_70 h
  | 71 => exact cvX_71 h
  | 72 => exact cvX_72 h
  | 73 => exact cvX_73 h
  | 74 => exact cvX_74 h
  | 75 => exact cvX_75 h
  | 76 => exact cvX_76 h
  | 77 => exact cvX_77 h
  | 78 => exact cvX_78 h
  | 79 => exact cvX_79 h
  | 80 => exact cvX_80 h
  | 81 => exact cvX_81 h
  | 82 => exact cvX_82 h
  | 83 => exact cvX_83 h
  | 84 => exact cvX_84 h
  | 85 => exact cvX_85 h
  | 86 => exact cvX_86 h
  | 87 => exact cvX_87 h
  | 88 => exact cvX_88 h
  | 89 => exact cvX_89 h
  | 90 => exact cvX_90 h
  | 91 => exact cvX_91 h
  | 92 => exact cvX_92 h
  | 93 => exact cvX_93 h
  | 94 => exact cvX_94 h
  | 95 => exact cvX_95 h
  | 96 => exact cvX_96 h
  | 97 => exact cvX_97 h
  | 98 => exact cvX_98 h
  | 99 => exact cvX_99 h
  | 100 => exact cvX_100 h
  | 101 => exact cvX_101 h
  | 102 => exact cvX_102 h
  | 103 => exact cvX_103 h
  | 104 => exact cvX_104 h
  | 105 => exact cvX_105 h
  | 106 => exact cvX_106 h
  | 107 => exact cvX_107 h
  | 108 => exact cvX_108 h
  | 109 => exact cvX_109 h
  | 110 => exact cvX_110 h
  | 111 => exact cvX_111 h
  | k + 112 => exact absurd hk (by omega)
theorem cvM {a : Nat} {D : va_G} {U : State} {H : Heap} (h : ∀ (k : Nat) (d : cD), (blkX8 a)[k]? = some d → cat D U H ((gGM a D).1 k) d) : ∀ k, k < 12 → gat (gGM a D) V0M U H k := by
  intro k hk
  match k with
  | 0 => exact cvM_0 h
  | 1 => exact cvM_1 h
  | 2 => exact cvM_2 h
  | 3 => exact cvM_3 h
  | 4 => exact cvM_4 h
  | 5 => exact cvM_5 h
  | 6 => exact cvM_6 h
  | 7 => exact cvM_7 h
  | 8 => exact cvM_8 h
  | 9 => exact cvM_9 h
  | 10 => exact cvM_10 h
  | 11 => exact cvM_11 h
  | k + 12 => exact absurd hk (by omega)
theorem tb_112 {s : State} {b : Addr} {A : Nat → Prop} (hgv : (Jvm.Cond.and given_1 narrow_1).before #[Value.ref b] s = true) (hA : ∀ a : Nat, a < s.heap.size → ¬ A a) : ∃ t : Nat, (Term.static "SoapNames" "KIND_ABOVE" "[I").eval #[Value.ref b] s none [] s = some (.ref t) ∧ va_T .int t 7 (fun j => .int (V0X 112 j)) A s s.heap := by
  have hs := flat_of_before _ hgv
  refine va_Tof (by decide) (hs _ (by decide +kernel)) (va_eqt (hs (Cond.eq (.length (.static "SoapNames" "KIND_ABOVE" "[I")) (.int 7)) (by decide +kernel))) (fun j hj => ?_) hA
  rcases (show j = 0 ∨ j = 1 ∨ j = 2 ∨ j = 3 ∨ j = 4 ∨ j = 5 ∨ j = 6 by omega) with rfl | rfl | rfl | rfl | rfl | rfl | rfl
  · exact va_eqt (hs (Cond.eq (.elem (.static "SoapNames" "KIND_ABOVE" "[I") (.int 0)) (.int (-1))) (by decide +kernel))
  · exact va_eqt (hs (Cond.eq (.elem (.static "SoapNames" "KIND_ABOVE" "[I") (.int 1)) (.int 0)) (by decide +kernel))
  · exact va_eqt (hs (Cond.eq (.elem (.static "SoapNames" "KIND_ABOVE" "[I") (.int 2)) (.int 0)) (by decide +kernel))
  · exact va_eqt (hs (Cond.eq (.elem (.static "SoapNames" "KIND_ABOVE" "[I") (.int 3)) (.int 0)) (by decide +kernel))
  · exact va_eqt (hs (Cond.eq (.elem (.static "SoapNames" "KIND_ABOVE" "[I") (.int 4)) (.int 1)) (by decide +kernel))
  · exact va_eqt (hs (Cond.eq (.elem (.static "SoapNames" "KIND_ABOVE" "[I") (.int 5)) (.int 2)) (by decide +kernel))
  · exact va_eqt (hs (Cond.eq (.elem (.static "SoapNames" "KIND_ABOVE" "[I") (.int 6)) (.int 3)) (by decide +kernel))
theorem tb_113 {s : State} {b : Addr} {A : Nat → Prop} (hgv : (Jvm.Cond.and given_1 narrow_1).before #[Value.ref b] s = true) (hA : ∀ a : Nat, a < s.heap.size → ¬ A a) : ∃ t : Nat, (Term.static "SoapNames" "THICK_NAMES" "[I").eval #[Value.ref b] s none [] s = some (.ref t) ∧ va_T .int t 3 (fun j => .int (V0X 113 j)) A s s.heap := by
  have hs := flat_of_before _ hgv
  refine va_Tof (by decide) (hs _ (by decide +kernel)) (va_eqt (hs (Cond.eq (.length (.static "SoapNames" "THICK_NAMES" "[I")) (.int 3)) (by decide +kernel))) (fun j hj => ?_) hA
  rcases (show j = 0 ∨ j = 1 ∨ j = 2 by omega) with rfl | rfl | rfl
  · exact va_eqt (hs (Cond.eq (.elem (.static "SoapNames" "THICK_NAMES" "[I") (.int 0)) (.int 109)) (by decide +kernel))
  · exact va_eqt (hs (Cond.eq (.elem (.static "SoapNames" "THICK_NAMES" "[I") (.int 1)) (.int 107)) (by decide +kernel))
  · exact va_eqt (hs (Cond.eq (.elem (.static "SoapNames" "THICK_NAMES" "[I") (.int 2)) (.int 110)) (by decide +kernel))
theorem tb_114 {s : State} {b : Addr} {A : Nat → Prop} (hgv : (Jvm.Cond.and given_1 narrow_1).before #[Value.ref b] s = true) (hA : ∀ a : Nat, a < s.heap.size → ¬ A a) : ∃ t : Nat, (Term.static "SoapNames" "WEAR_NAMES" "[I").eval #[Value.ref b] s none [] s = some (.ref t) ∧ va_T .int t 3 (fun j => .int (V0X 114 j)) A s s.heap := by
  have hs := flat_of_before _ hgv
  refine va_Tof (by decide) (hs _ (by decide +kernel)) (va_eqt (hs (Cond.eq (.length (.static "SoapNames" "WEAR_NAMES" "[I")) (.int 3)) (by decide +kernel))) (fun j hj => ?_) hA
  rcases (show j = 0 ∨ j = 1 ∨ j = 2 by omega) with rfl | rfl | rfl
  · exact va_eqt (hs (Cond.eq (.elem (.static "SoapNames" "WEAR_NAMES" "[I") (.int 0)) (.int 119)) (by decide +kernel))
  · exact va_eqt (hs (Cond.eq (.elem (.static "SoapNames" "WEAR_NAMES" "[I") (.int 1)) (.int 109)) (by decide +kernel))
  · exact va_eqt (hs (Cond.eq (.elem (.static "SoapNames" "WEAR_NAMES" "[I") (.int 2)) (.int 100)) (by decide +kernel))
theorem tb_115 {s : State} {b : Addr} {A : Nat → Prop} (hgv : (Jvm.Cond.and given_1 narrow_1).before #[Value.ref b] s = true) (hA : ∀ a : Nat, a < s.heap.size → ¬ A a) : ∃ t : Nat, (Term.static "SoapNames$Voice" "BODIES" "[I").eval #[Value.ref b] s none [] s = some (.ref t) ∧ va_T .int t 28 (fun j => .int (V0X 115 j)) A s s.heap := by
  have hs := flat_of_before _ hgv
  refine va_Tof (by decide) (hs _ (by decide +kernel)) (va_eqt (hs (Cond.eq (.length (.static "SoapNames$Voice" "BODIES" "[I")) (.int 28)) (by decide +kernel))) (fun j hj => ?_) hA
  rcases (show j = 0 ∨ j = 1 ∨ j = 2 ∨ j = 3 ∨ j = 4 ∨ j = 5 ∨ j = 6 ∨ j = 7 ∨ j = 8 ∨ j = 9 ∨ j = 10 ∨ j = 11 ∨ j = 12 ∨ j = 13 ∨ j = 14 ∨ j = 15 ∨ j = 16 ∨ j = 17 ∨ j = 18 ∨ j = 19 ∨ j = 20 ∨ j = 21 ∨ j = 22 ∨ j = 23 ∨ j = 24 ∨ j = 25 ∨ j = 26 ∨ j = 27 by omega) with rfl | rfl | rfl | rfl | rfl | rfl | rfl | rfl | rfl | rfl | rfl | rfl | rfl | rfl | rfl | rfl | rfl | rfl | rfl | rfl | rfl | rfl | rfl | rfl | rfl | rfl | rfl | rfl
  · exact va_eqt (hs (Cond.eq (.elem (.static "SoapNames$Voice" "BODIES" "[I") (.int 0)) (.int 10)) (by decide +kernel))
  · exact va_eqt (hs (Cond.eq (.elem (.static "SoapNames$Voice" "BODIES" "[I") (.int 1)) (.int 11)) (by decide +kernel))
  · exact va_eqt (hs (Cond.eq (.elem (.static "SoapNames$Voice" "BODIES" "[I") (.int 2)) (.int 12)) (by decide +kernel))
  · exact va_eqt (hs (Cond.eq (.elem (.static "SoapNames$Voice" "BODIES" "[I") (.int 3)) (.int 13)) (by decide +kernel))
  · exact va_eqt (hs (Cond.eq (.elem (.static "SoapNames$Voice" "BODIES" "[I") (.int 4)) (.int 20)) (by decide +kernel))
  · exact va_eqt (hs (Cond.eq (.elem (.static "SoapNames$Voice" "BODIES" "[I") (.int 5)) (.int 0)) (by decide +kernel))
  · exact va_eqt (hs (Cond.eq (.elem (.static "SoapNames$Voice" "BODIES" "[I") (.int 6)) (.int 0)) (by decide +kernel))
  · exact va_eqt (hs (Cond.eq (.elem (.static "SoapNames$Voice" "BODIES" "[I") (.int 7)) (.int 0)) (by decide +kernel))
  · exact va_eqt (hs (Cond.eq (.elem (.static "SoapNames$Voice" "BODIES" "[I") (.int 8)) (.int 0)) (by decide +kernel))
  · exact va_eqt (hs (Cond.eq (.elem (.static "SoapNames$Voice" "BODIES" "[I") (.int 9)) (.int 30)) (by decide +kernel))
  · exact va_eqt (hs (Cond.eq (.elem (.static "SoapNames$Voice" "BODIES" "[I") (.int 10)) (.int 0)) (by decide +kernel))
  · exact va_eqt (hs (Cond.eq (.elem (.static "SoapNames$Voice" "BODIES" "[I") (.int 11)) (.int 0)) (by decide +kernel))
  · exact va_eqt (hs (Cond.eq (.elem (.static "SoapNames$Voice" "BODIES" "[I") (.int 12)) (.int 0)) (by decide +kernel))
  · exact va_eqt (hs (Cond.eq (.elem (.static "SoapNames$Voice" "BODIES" "[I") (.int 13)) (.int 0)) (by decide +kernel))
  · exact va_eqt (hs (Cond.eq (.elem (.static "SoapNames$Voice" "BODIES" "[I") (.int 14)) (.int 40)) (by decide +kernel))
  · exact va_eqt (hs (Cond.eq (.elem (.static "SoapNames$Voice" "BODIES" "[I") (.int 15)) (.int 0)) (by decide +kernel))
  · exact va_eqt (hs (Cond.eq (.elem (.static "SoapNames$Voice" "BODIES" "[I") (.int 16)) (.int 0)) (by decide +kernel))
  · exact va_eqt (hs (Cond.eq (.elem (.static "SoapNames$Voice" "BODIES" "[I") (.int 17)) (.int 0)) (by decide +kernel))
  · exact va_eqt (hs (Cond.eq (.elem (.static "SoapNames$Voice" "BODIES" "[I") (.int 18)) (.int 0)) (by decide +kernel))
  · exact va_eqt (hs (Cond.eq (.elem (.static "SoapNames$Voice" "BODIES" "[I") (.int 19)) (.int 50)) (by decide +kernel))
  · exact va_eqt (hs (Cond.eq (.elem (.static "SoapNames$Voice" "BODIES" "[I") (.int 20)) (.int 0)) (by decide +kernel))
  · exact va_eqt (hs (Cond.eq (.elem (.static "SoapNames$Voice" "BODIES" "[I") (.int 21)) (.int 60)) (by decide +kernel))
  · exact va_eqt (hs (Cond.eq (.elem (.static "SoapNames$Voice" "BODIES" "[I") (.int 22)) (.int 0)) (by decide +kernel))
  · exact va_eqt (hs (Cond.eq (.elem (.static "SoapNames$Voice" "BODIES" "[I") (.int 23)) (.int 0)) (by decide +kernel))
  · exact va_eqt (hs (Cond.eq (.elem (.static "SoapNames$Voice" "BODIES" "[I") (.int 24)) (.int 0)) (by decide +kernel))
  · exact va_eqt (hs (Cond.eq (.elem (.static "SoapNames$Voice" "BODIES" "[I") (.int 25)) (.int 0)) (by decide +kernel))
  · exact va_eqt (hs (Cond.eq (.elem (.static "SoapNames$Voice" "BODIES" "[I") (.int 26)) (.int 70)) (by decide +kernel))
  · exact va_eqt (hs (Cond.eq (.elem (.static "SoapNames$Voice" "BODIES" "[I") (.int 27)) (.int 71)) (by decide +kernel))
theorem gat_T {G : gG} {V : gV} {U : State} {H : Heap} {k n t : Nat} {A : Nat → Prop} (hs : G.2.2.1 k = some (.inl n)) (ht : G.1 k = t) (h : va_T .int t n (fun j => .int (V k j)) A U H) : gat G V U H k := by
  obtain ⟨cell, h1, h2, h3, h4, h5, h6, h7⟩ := h
  exact (gat_i hs).mpr ⟨cell, by rw [ht]; exact h1, h2, h3, h4, h5, h6⟩
theorem va_T_lt {t n : Nat} {f : Nat → Value} {A : Nat → Prop} {U : State} {H : Heap} (h : va_T .int t n f A U H) : t < H.size := by
  obtain ⟨cell, h1, -⟩ := h
  exact (Array.getElem?_eq_some_iff.mp h1).1
theorem shX_no {k : Nat} (h : 116 ≤ k) : shX k = none := by
  unfold shX
  rw [List.getElem?_eq_none (show shXl.length ≤ k from h)]
  rfl
theorem shM_no {k : Nat} (h : 12 ≤ k) : shM k = none := by
  unfold shM
  rw [List.getElem?_eq_none (show shMl.length ≤ k from h)]
  rfl
theorem shX_obj {c : Nat} {o : Nat × List (Option Nat)} (h : shX c = some (.inr (.inl o))) : c < 112 := by
  have hc : c < 116 := shX_lt (by rw [h]; exact fun q => by cases q)
  have z := List.all_eq_true.mp (show (List.range 116).all (fun c => decide (c < 112) || (match shX c with | some (.inr (.inl _)) => false | _ => true)) = true by decide +kernel) c (List.mem_range.mpr hc)
  rw [h] at z
  simpa using z
theorem shM_obj {c : Nat} {o : Nat × List (Option Nat)} (h : shM c = some (.inr (.inl o))) : c < 12 := by
  rcases Nat.lt_or_ge c 12 with q | q
  · exact q
  · rw [shM_no q] at h
    cases h
set_option maxHeartbeats 8000000 in
set_option maxRecDepth 100000 in
theorem whole_from {Rel : Nat → gV → gV → Prop} (hp : ∀ i, i ≤ 3072 → lAll (Rel i) (Rel (i + 6))) (hmono : ∀ i VX VM, Rel i VX VM → Rel (i + 6) VX VM) (h0 : Rel 0 V0X V0M) {p : Program} {e : Env} {s : State} {m : MethodId} {below : List Frame} {meth : Method} {c : Code} (l : Launch) {b L : Nat} {xs0 : Nat → Int32} (hL : L ≤ 3072) (C0 : lw_At p s m meth c b L xs0) : W p l e room_1 s m #[Value.ref b] below meth c s.heap [] 0 0 (lw_Z below #[Value.ref b] s) (entryFrame m ([Value.ref b] : List Value).toArray 4) := by
  obtain ⟨hx, hb, hr, hml, hown, hts, hX, hbl, hlocks, hgv⟩ := id C0
  obtain ⟨c0, iS0, hKn0⟩ := u_known (C := RX0) (T := TX0) (N := 7) (n := 7) hts (fun w hw => gB_in w (inX0 w hw)) (hts (.instantiable RX0 7) (List.mem_of_getElem? (i := 150) (by decide +kernel)))
  obtain ⟨c1, iS1, hKn1⟩ := u_known (C := RX1) (T := TX1) (N := 2) (n := 2) hts (fun w hw => gB_in w (inX1 w hw)) (hts (.instantiable RX1 2) (List.mem_of_getElem? (i := 134) (by decide +kernel)))
  obtain ⟨c2, iS2, hKn2⟩ := u_known (C := RX2) (T := TX2) (N := 6) (n := 6) hts (fun w hw => gB_in w (inX2 w hw)) (hts (.instantiable RX2 6) (List.mem_of_getElem? (i := 260) (by decide +kernel)))
  obtain ⟨c3, iS3, hKn3⟩ := u_known (C := RX3) (T := TX3) (N := 3) (n := 3) hts (fun w hw => gB_in w (inX3 w hw)) (hts (.instantiable RX3 3) (List.mem_of_getElem? (i := 313) (by decide +kernel)))
  obtain ⟨c4, iS4, hKn4⟩ := u_known (C := RX4) (T := TX4) (N := 3) (n := 3) hts (fun w hw => gB_in w (inX4 w hw)) (hts (.instantiable RX4 3) (List.mem_of_getElem? (i := 192) (by decide +kernel)))
  obtain ⟨c5, iS5, hKn5⟩ := u_known (C := RX5) (T := TX5) (N := 5) (n := 5) hts (fun w hw => gB_in w (inX5 w hw)) (hts (.instantiable RX5 5) (List.mem_of_getElem? (i := 288) (by decide +kernel)))
  obtain ⟨c6, iS6, hKn6⟩ := u_known (C := RX6) (T := TX6) (N := 14) (n := 14) hts (fun w hw => gB_in w (inX6 w hw)) (hts (.instantiable RX6 14) (List.mem_of_getElem? (i := 125) (by decide +kernel)))
  obtain ⟨c7, iS7, hKn7⟩ := u_known (C := RX7) (T := TX7) (N := 10) (n := 10) hts (fun w hw => gB_in w (inX7 w hw)) (hts (.instantiable RX7 10) (List.mem_of_getElem? (i := 117) (by decide +kernel)))
  obtain ⟨c8, iS8, hKn8⟩ := u_known (C := RX8) (T := TX8) (N := 25) (n := 25) hts (fun w hw => gB_in w (inX8 w hw)) (hts (.instantiable RX8 25) (List.mem_of_getElem? (i := 888) (by decide +kernel)))
  obtain ⟨dC, dI, hKc⟩ : ∃ (dC : Nat → ClassId) (dI : Nat → Nat → Nat), ∀ (k : Nat) (q : vw_C), gCl[k]? = some q → u_Kn s q.1 q.2.1 q.2.2 (dC k) (dI k) := by
    refine ⟨fun k => if k = 0 then c0 else if k = 1 then c1 else if k = 2 then c2 else if k = 3 then c3 else if k = 4 then c4 else if k = 5 then c5 else if k = 6 then c6 else if k = 7 then c7 else c8, fun k => if k = 0 then iS0 else if k = 1 then iS1 else if k = 2 then iS2 else if k = 3 then iS3 else if k = 4 then iS4 else if k = 5 then iS5 else if k = 6 then iS6 else if k = 7 then iS7 else iS8, ?_⟩
    intro k q hq
    match k, hq with
    | 0, hq => cases hq; exact hKn0
    | 1, hq => cases hq; exact hKn1
    | 2, hq => cases hq; exact hKn2
    | 3, hq => cases hq; exact hKn3
    | 4, hq => cases hq; exact hKn4
    | 5, hq => cases hq; exact hKn5
    | 6, hq => cases hq; exact hKn6
    | 7, hq => cases hq; exact hKn7
    | 8, hq => cases hq; exact hKn8
    | k + 9, hq => simp [gCl] at hq
  have hK : va_K (dC, dI) gCl [] s := ⟨hKc, fun k q h => by simp at h⟩
  generalize (dC, dI) = D at hK
  have hnest : ∀ w ∈ gN, va_Nw w s := fun w hw => va_Nw.of (gnw_tab (List.mem_filter.mp hw).2) (hts w (gN_in w hw))
  have hcT : cT D s := ⟨hK, hnest, va_AO.of (hts _ (List.mem_of_getElem? (i := 131) (by decide +kernel))), va_AO.of (hts _ (List.mem_of_getElem? (i := 133) (by decide +kernel))), va_AO.of (hts _ (List.mem_of_getElem? (i := 312) (by decide +kernel)))⟩
  obtain ⟨a, ha⟩ : ∃ a, a = s.heap.size := ⟨_, rfl⟩
  obtain ⟨t1, e1, T1⟩ := tb_112 (A := fun q => a ≤ q) hgv (fun q h => by omega)
  obtain ⟨t2, e2, T2⟩ := tb_113 (A := fun q => a ≤ q) hgv (fun q h => by omega)
  obtain ⟨t3, e3, T3⟩ := tb_114 (A := fun q => a ≤ q) hgv (fun q h => by omega)
  obtain ⟨t4, e4, T4⟩ := tb_115 (A := fun q => a ≤ q) hgv (fun q h => by omega)
  have l1 := va_T_lt T1
  have l2 := va_T_lt T2
  have l3 := va_T_lt T3
  have l4 := va_T_lt T4
  have hAX : ∀ q, gA (gGX a t1 t2 t3 t4 D) q → a ≤ q := by
    rintro q ⟨k, hk, rfl⟩
    have hk : k < 112 := hk
    show a ≤ adX a t1 t2 t3 t4 k
    unfold adX
    rw [if_pos hk]
    exact Nat.le_add_right a k
  have hAX2 : ∀ q, gA (gGX a t1 t2 t3 t4 D) q → q < a + 112 := by
    rintro q ⟨k, hk, rfl⟩
    have hk : k < 112 := hk
    show adX a t1 t2 t3 t4 k < a + 112
    unfold adX
    rw [if_pos hk]
    omega
  have hAM : ∀ q, gA (gGM (a + 112) D) q → a + 112 ≤ q := by
    rintro q ⟨k, hk, rfl⟩
    exact Nat.le_add_right _ k
  have hold : ∀ k, 112 ≤ k → adX a t1 t2 t3 t4 k < a := by
    intro k hk
    unfold adX
    rw [if_neg (by omega)]
    split
    · omega
    · split
      · omega
      · split <;> omega
  have hTX : gT (gGX a t1 t2 t3 t4 D) s := by
    refine ⟨hK, hnest, fun k j hk hj => ?_, fun k o h => shX_obj h⟩
    have hk : k < 112 := hk
    show adX a t1 t2 t3 t4 j ≠ adX a t1 t2 t3 t4 k
    rcases Nat.lt_or_ge j 112 with q | q
    · unfold adX
      rw [if_pos q, if_pos hk]
      omega
    · have h1 := hold j q
      have h2 : adX a t1 t2 t3 t4 k = a + k := if_pos hk
      omega
  have hTM : gT (gGM (a + 112) D) s := ⟨hK, hnest, fun k j hk hj => by show a + 112 + j ≠ a + 112 + k; omega, fun k o h => shM_obj h⟩
  have hZX : gZ (gGX a t1 t2 t3 t4 D) s s.heap := by
    intro q hq
    have hno : ∀ q : Nat, q < s.heap.size → ¬ gA (gGX a t1 t2 t3 t4 D) q := fun q h1 h2 => by have := hAX q h2; omega
    have hq : q ∈ stX := hq
    simp only [stX, List.mem_cons, List.not_mem_nil, or_false] at hq
    rcases hq with rfl | rfl | rfl | rfl
    · exact va_Zof (hts (.laysStatic "SoapNames" "KIND_ABOVE" "[I") (List.mem_of_getElem? (i := 541) (by decide +kernel))) (hts (.initialized "SoapNames") (List.mem_of_getElem? (i := 104) (by decide +kernel))) e1 hno
    · exact va_Zof (hts (.laysStatic "SoapNames" "THICK_NAMES" "[I") (List.mem_of_getElem? (i := 551) (by decide +kernel))) (hts (.initialized "SoapNames") (List.mem_of_getElem? (i := 104) (by decide +kernel))) e2 hno
    · exact va_Zof (hts (.laysStatic "SoapNames" "WEAR_NAMES" "[I") (List.mem_of_getElem? (i := 553) (by decide +kernel))) (hts (.initialized "SoapNames") (List.mem_of_getElem? (i := 104) (by decide +kernel))) e3 hno
    · exact va_Zof (hts (.laysStatic "SoapNames$Voice" "BODIES" "[I") (List.mem_of_getElem? (i := 811) (by decide +kernel))) (hts (.initialized "SoapNames$Voice") (List.mem_of_getElem? (i := 110) (by decide +kernel))) e4 hno
  have hZM : gZ (gGM (a + 112) D) s s.heap := fun q hq => by cases hq
  have hgB : ∀ w ∈ gB, w.before #[Value.ref b] s = true := fun w hw => hts w (gB_in w hw)
  let X : gX := (p, e, s, m, #[Value.ref b], below, meth, c, lw_Z below #[Value.ref b] s)
  have CC : cC code 4 RL D X := ⟨hx, hb, hml, hown, hgB, hcT⟩
  have CL : lC (gGX a t1 t2 t3 t4 D) (gGM (a + 112) D) b L xs0 X := by
    refine ⟨hx, hb, hml, hown, hgB, ⟨hTX, hZX⟩, ⟨hTM, hZM⟩, ⟨hX, hbl⟩, ⟨fun q h => by have := hAX q h; show s.heap.size ≤ q; omega, fun q h => by have := hAM q h; show s.heap.size ≤ q; omega⟩, fun k _ h => ?_, fun k _ h => ?_⟩
    · have := hAX2 _ h
      have h2 : (gGM (a + 112) D).1 k = a + 112 + k := rfl
      omega
    · have := hAM _ h
      have h2 : (gGX a t1 t2 t3 t4 D).1 k = adX a t1 t2 t3 t4 k := rfl
      rcases Nat.lt_or_ge k 112 with q | q
      · have h3 : adX a t1 t2 t3 t4 k = a + k := if_pos q
        omega
      · have h3 := hold k q
        omega
  have hsX : gIsX (gGX a t1 t2 t3 t4 D) := ⟨rfl, rfl, rfl⟩
  have hsM : gIsM (gGM (a + 112) D) := ⟨rfl, rfl, rfl⟩
  have kend : ∀ VX VM (x3 : Int32), lSm l (gGX a t1 t2 t3 t4 D) (gGM (a + 112) D) X VX VM 1541 [(0, .ref b), (1, .ref ((gGX a t1 t2 t3 t4 D).1 0)), (2, .ref ((gGM (a + 112) D).1 0)), (3, .int x3)] [] := by
    intro VX VM x3
    refine l_iconst (q := 1542) (v := 1) CL dL_law_1541 rfl (by decide) ?_
    intro H ls h1 h2 h3 h4 hL
    refine W.widen (k := 600000) (n := 7302250) (Nat.le_of_ble_eq_true rfl) (Nat.le_of_ble_eq_true rfl) ?_
    exact lw_ret hx hb hr hlocks dL_law_1542
  have hl := lv_entry ([.ref b]) (n := 4) (Nat.le_of_ble_eq_true rfl)
  rw [lg_entry_eq]
  generalize (lg_sl ([.ref b]) ++ List.replicate (4 - (lg_sl ([.ref b])).length) Slot.unset).toArray = ls at hl ⊢
  have hl : lv_has ls 4 [(0, .ref b)] := hl
  have start : cSm l room_1 4 D a X [] 0 0 0 [(0, .ref b)] [] := by
    refine c_new (q := 3) (ci := 7) (n := 0) (vs := [.null, .null, .null, .null, .null, .null, .null, .null, .null, .int 0]) (lst' := [rawX7]) CC rfl inX7 tyX7 tyX7_ok (gB_of 116 (by decide +kernel) rfl) cn_7 cz_7 (fun j hj => by rcases (show j = 0 ∨ j = 1 ∨ j = 2 ∨ j = 3 ∨ j = 4 ∨ j = 5 ∨ j = 6 ∨ j = 7 ∨ j = 8 ∨ j = 9 by omega) with rfl | rfl | rfl | rfl | rfl | rfl | rfl | rfl | rfl | rfl <;> rfl) rfl ⟨Nat.le_of_ble_eq_true rfl, Nat.le_of_ble_eq_true rfl⟩ dL_law_0 rfl rfl ?_
    refine W_dup_law CC dL_law_3 ?_
    refine c_call (q := 7) (k := 0) (l0 := []) (raw := rawX7) (lst' := blkX7 (a + 0)) CC (uX7_init l D) ci_7 rfl mlL_9 rfl rfl rfl rfl rfl ⟨Nat.le_of_ble_eq_true rfl, Nat.le_of_ble_eq_true rfl⟩ (Nat.le_of_ble_eq_true rfl) ⟨Nat.le_of_ble_eq_true rfl, Nat.le_of_ble_eq_true rfl⟩ dL_law_4 rfl rfl ?_
    refine W_astore_law (x := a + 0) (L' := [(1, .ref (a + 0)), (0, .ref b)]) CC dL_law_7 rfl rfl (by decide) rfl ?_
    refine c_new (q := 11) (ci := 8) (n := 112) (vs := [.null, .null, .null, .null, .int 0, .int 0, .null, .int 0, .int 0, .int 0, .int 0, .int 0, .int 0, .int 0, .int 0, .null, .null, .null, .null, .null, .null, .int 0, .int 0, .int 0, .int 0]) (lst' := blkX7 (a + 0) ++ [rawX8]) CC rfl inX8 tyX8 tyX8_ok (gB_of 887 (by decide +kernel) rfl) cn_8 cz_8 (fun j hj => by rcases (show j = 0 ∨ j = 1 ∨ j = 2 ∨ j = 3 ∨ j = 4 ∨ j = 5 ∨ j = 6 ∨ j = 7 ∨ j = 8 ∨ j = 9 ∨ j = 10 ∨ j = 11 ∨ j = 12 ∨ j = 13 ∨ j = 14 ∨ j = 15 ∨ j = 16 ∨ j = 17 ∨ j = 18 ∨ j = 19 ∨ j = 20 ∨ j = 21 ∨ j = 22 ∨ j = 23 ∨ j = 24 by omega) with rfl | rfl | rfl | rfl | rfl | rfl | rfl | rfl | rfl | rfl | rfl | rfl | rfl | rfl | rfl | rfl | rfl | rfl | rfl | rfl | rfl | rfl | rfl | rfl | rfl <;> rfl) rfl ⟨Nat.le_of_ble_eq_true rfl, Nat.le_of_ble_eq_true rfl⟩ dL_law_8 rfl rfl ?_
    refine W_dup_law CC dL_law_11 ?_
    refine c_call (q := 15) (k := 112) (l0 := blkX7 (a + 0)) (raw := rawX8) (lst' := blkX7 (a + 0) ++ blkX8 (a + 112)) CC (uX8_init l D) ci_8 rfl mlL_12 rfl rfl rfl rfl rfl ⟨Nat.le_of_ble_eq_true rfl, Nat.le_of_ble_eq_true rfl⟩ (Nat.le_of_ble_eq_true rfl) ⟨Nat.le_of_ble_eq_true rfl, Nat.le_of_ble_eq_true rfl⟩ dL_law_12 rfl rfl ?_
    refine W_astore_law (x := a + 112) (L' := [(2, .ref (a + 112)), (1, .ref (a + 0)), (0, .ref b)]) CC dL_law_15 rfl rfl (by decide) rfl ?_
    refine c_iconst (q := 17) (v := 0) CC dL_law_16 rfl (by decide) ?_
    refine c_istore_n (q := 18) (L' := [(3, .int 0), (2, .ref (a + 112)), (1, .ref (a + 0)), (0, .ref b)]) CC dL_law_17 rfl rfl (by decide) rfl ?_
    intro H locs ls hP hS hLs
    refine va_forget (fun q hq => by have := hS.2.2 q hq; show s.heap.size ≤ q.base; have h3 : a ≤ q.base := this; omega) ?_
    refine l_loop hsX hsM CL hL hp hmono kend (L + 7) 0 (Nat.zero_le _) (by omega) V0X V0M h0 0 nI_0.symm H ls ?_ ?_ hS.1 (fun q hq => hS.2.1 q hq (by show ¬ a ≤ q; have : q < s.heap.size := hq; omega)) (lv_sub hLs [3, 2, 1, 0] rfl)
    · intro k
      rcases Nat.lt_or_ge k 112 with hk | hk
      · refine cvX (fun j d hj => ?_) k hk
        have hj2 : j < 112 := (List.getElem?_eq_some_iff.mp hj).1
        have h1 := hP.2 j d (by rw [List.getElem?_append_left (show j < (blkX7 (a + 0)).length from hj2)]; exact hj)
        have h3 : (gGX a t1 t2 t3 t4 D).1 j = a + j := if_pos hj2
        rw [h3]
        exact h1
      · have ho : ∀ q : Nat, q < s.heap.size → ¬ a ≤ q → H[q]? = s.heap[q]? := fun q h1 h2 => hS.2.1 q h1 h2
        have ho2 : ∀ q : Nat, q < s.heap.size → ¬ (fun q => a ≤ q) q → H[q]? = s.heap[q]? := ho
        rcases (show k = 112 ∨ k = 113 ∨ k = 114 ∨ k = 115 ∨ 116 ≤ k by omega) with rfl | rfl | rfl | rfl | h
        · exact gat_T rfl rfl (T1.kept ho2)
        · exact gat_T rfl rfl (T2.kept ho2)
        · exact gat_T rfl rfl (T3.kept ho2)
        · exact gat_T rfl rfl (T4.kept ho2)
        · have hn : (gGX a t1 t2 t3 t4 D).2.2.1 k = none := shX_no h
          unfold gat
          rw [hn]
          exact trivial
    · intro k
      rcases Nat.lt_or_ge k 12 with hk | hk
      · refine cvM (fun j d hj => ?_) k hk
        have hj2 : j < 12 := (List.getElem?_eq_some_iff.mp hj).1
        have hlen : (blkX7 (a + 0)).length = 112 := rfl
        have h1 := hP.2 (112 + j) d (by rw [List.getElem?_append_right (by omega), hlen, Nat.add_sub_cancel_left]; exact hj)
        have h3 : (gGM (a + 112) D).1 j = a + 112 + j := rfl
        rw [h3, Nat.add_assoc]
        exact h1
      · have hn : (gGM (a + 112) D).2.2.1 k = none := shM_no hk
        unfold gat
        rw [hn]
        exact trivial
  exact start s.heap [] ls ⟨ha ▸ rfl, fun k d hk => by simp at hk⟩ va_S.rf hl

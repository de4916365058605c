/-! ===== the law: two worlds side by side ===== -/
theorem gP_frame {G1 G2 : gG} {V : gV} {U : State} {H H1 : Heap} (h : gP G2 V U H) (hk : ∀ q : Nat, q < H.size → ¬ gA G1 q → H1[q]? = H[q]?) (hd : ∀ k, G2.2.2.1 k ≠ none → ¬ gA G1 (G2.1 k)) : gP G2 V U H1 := by
  intro k
  by_cases hs : G2.2.2.1 k = none
  · unfold gat
    rw [hs]
    exact trivial
  · refine gat_kept (h k) (hk _ ?_ (hd k hs)) rfl
    have hg := h k
    unfold gat at hg
    rcases hs' : G2.2.2.1 k with _ | n | o | a
    · exact absurd hs' hs
    · rw [hs'] at hg
      obtain ⟨cell, h1, -⟩ := hg
      exact (Array.getElem?_eq_some_iff.mp h1).1
    · rw [hs'] at hg
      obtain ⟨r, -, cell, h1, -⟩ := hg
      exact (Array.getElem?_eq_some_iff.mp h1).1
    · rw [hs'] at hg
      obtain ⟨cell, h1, -⟩ := hg
      exact (Array.getElem?_eq_some_iff.mp h1).1
def lC (GX GM : gG) (b L : Nat) (sc : Nat → Int32) (X : gX) : Prop := X.1.tables.exec = Jvm.exec ∧ (xc X).code = code ∧ (xc X).maxLocals = 4 ∧ (xs X).vm.findClass RL = some (xm X).cls ∧ (∀ w ∈ gB, w.before (xa X) (xs X) = true) ∧ (gT GX (xs X) ∧ gZ GX (xs X) (xs X).heap) ∧ (gT GM (xs X) ∧ gZ GM (xs X) (xs X).heap) ∧ (va_X b L sc (xs X) (xs X).heap ∧ b < (xs X).heap.size) ∧ ((∀ q, gA GX q → (xs X).heap.size ≤ q) ∧ ∀ q, gA GM q → (xs X).heap.size ≤ q) ∧ (∀ k, GM.2.2.1 k ≠ none → ¬ gA GX (GM.1 k)) ∧ ∀ k, GX.2.2.1 k ≠ none → ¬ gA GM (GX.1 k)
def lSm (l : Launch) (GX GM : gG) (X : gX) (VX VM : gV) (pc : Nat) (L : List (Nat × Value)) (st : List Value) : Prop :=
  ∀ (H : Heap) (ls : Array Slot), gP GX VX (xs X) H → gP GM VM (xs X) H → (xs X).heap.size ≤ H.size → (∀ q : Nat, q < (xs X).heap.size → H[q]? = (xs X).heap[q]?) → lv_has ls 4 L → W X.1 l X.2.1 room_1 (xs X) (xm X) (xa X) (xb X) (xM X) (xc X) H [] 124 3030 (xQ X) (F0 (xm X) pc ls st)
section LR
variable {l : Launch} {GX GM : gG} {b Ln : Nat} {sc : Nat → Int32} {X : gX} {VX VM : gV} {pc q : Nat} {L L' : List (Nat × Value)} {st : List Value}
theorem lC_X (C : lC GX GM b Ln sc X) : gC code 4 RL GX X := ⟨C.1, C.2.1, C.2.2.1, C.2.2.2.1, C.2.2.2.2.1, C.2.2.2.2.2.1.1, C.2.2.2.2.2.1.2⟩
theorem lC_M (C : lC GX GM b Ln sc X) : gC code 4 RL GM X := ⟨C.1, C.2.1, C.2.2.1, C.2.2.2.1, C.2.2.2.2.1, C.2.2.2.2.2.2.1.1, C.2.2.2.2.2.2.1.2⟩
theorem l_aload_n (C : lC GX GM b Ln sc X) {j : Fin 4} {i x : Nat} (p : Nat) (d : decode code pc = .ok (.aload_n j, 1)) (hq : pc + 1 = q) (hi : (j : Nat) = i) (h : L[p]? = some (i, .ref x)) (kk : lSm l GX GM X VX VM q L (.ref x :: st)) : lSm l GX GM X VX VM pc L st := by
  subst hq
  exact fun H ls h1 h2 h3 h4 hL => lv_aload_n C.1 C.2.1 d hi (lv_at hL p h) (kk H ls h1 h2 h3 h4 hL)
theorem l_iload_n (C : lC GX GM b Ln sc X) {j : Fin 4} {i : Nat} {x : Int32} (p : Nat) (d : decode code pc = .ok (.iload_n j, 1)) (hq : pc + 1 = q) (hi : (j : Nat) = i) (h : L[p]? = some (i, .int x)) (kk : lSm l GX GM X VX VM q L (.int x :: st)) : lSm l GX GM X VX VM pc L st := by
  subst hq
  exact fun H ls h1 h2 h3 h4 hL => lv_iload_n C.1 C.2.1 d hi (lv_at hL p h) (kk H ls h1 h2 h3 h4 hL)
theorem l_iconst (C : lC GX GM b Ln sc X) {n : Int} {v : Int32} (d : decode code pc = .ok (.iconst n, 1)) (hq : pc + 1 = q) (hv : Int32.ofInt n = v) (kk : lSm l GX GM X VX VM q L (.int v :: st)) : lSm l GX GM X VX VM pc L st := by
  subst hq
  exact fun H ls h1 h2 h3 h4 hL => lv_iconst C.1 C.2.1 d hv (kk H ls h1 h2 h3 h4 hL)
theorem l_bipush (C : lC GX GM b Ln sc X) {n : Int} {v : Int32} (d : decode code pc = .ok (.bipush n, 2)) (hq : pc + 2 = q) (hv : (Int8.ofInt n).toInt32 = v) (kk : lSm l GX GM X VX VM q L (.int v :: st)) : lSm l GX GM X VX VM pc L st := by
  subst hq
  exact fun H ls h1 h2 h3 h4 hL => lv_bipush C.1 C.2.1 d hv (kk H ls h1 h2 h3 h4 hL)
theorem l_ldc2 (C : lC GX GM b Ln sc X) {i : Nat} {v : Int64} (d : decode code pc = .ok (.ldc2_w i, 3)) (hq : pc + 3 = q) (h : Cond.constantLong RL i v ∈ gB) (kk : lSm l GX GM X VX VM q L (.long v :: st)) : lSm l GX GM X VX VM pc L st := by
  subst hq
  exact fun H ls h1 h2 h3 h4 hL => lv_ldc2 C.1 C.2.1 C.2.2.2.1 (C.2.2.2.2.1 _ h) d (kk H ls h1 h2 h3 h4 hL)
theorem l_iadd (C : lC GX GM b Ln sc X) {x y : Int32} (d : decode code pc = .ok (.iadd, 1)) (hq : pc + 1 = q) (kk : lSm l GX GM X VX VM q L (.int (x + y) :: st)) : lSm l GX GM X VX VM pc L (.int y :: .int x :: st) := by
  subst hq
  exact fun H ls h1 h2 h3 h4 hL => lv_iadd C.1 C.2.1 d (kk H ls h1 h2 h3 h4 hL)
theorem l_isub (C : lC GX GM b Ln sc X) {x y : Int32} (d : decode code pc = .ok (.isub, 1)) (hq : pc + 1 = q) (kk : lSm l GX GM X VX VM q L (.int (x - y) :: st)) : lSm l GX GM X VX VM pc L (.int y :: .int x :: st) := by
  subst hq
  exact fun H ls h1 h2 h3 h4 hL => lv_isub C.1 C.2.1 d (kk H ls h1 h2 h3 h4 hL)
theorem l_iand (C : lC GX GM b Ln sc X) {x y : Int32} (d : decode code pc = .ok (.iand, 1)) (hq : pc + 1 = q) (kk : lSm l GX GM X VX VM q L (.int (x &&& y) :: st)) : lSm l GX GM X VX VM pc L (.int y :: .int x :: st) := by
  subst hq
  exact fun H ls h1 h2 h3 h4 hL => lv_iand C.1 C.2.1 d (kk H ls h1 h2 h3 h4 hL)
theorem l_i2l (C : lC GX GM b Ln sc X) {x : Int32} (d : decode code pc = .ok (.i2l, 1)) (hq : pc + 1 = q) (kk : lSm l GX GM X VX VM q L (.long x.toInt64 :: st)) : lSm l GX GM X VX VM pc L (.int x :: st) := by
  subst hq
  exact fun H ls h1 h2 h3 h4 hL => lv_i2l C.1 C.2.1 d rfl (kk H ls h1 h2 h3 h4 hL)
theorem l_lshl (C : lC GX GM b Ln sc X) {x : Int64} {y : Int32} (d : decode code pc = .ok (.lshl, 1)) (hq : pc + 1 = q) (kk : lSm l GX GM X VX VM q L (.long (x <<< (y.toInt64 &&& 63)) :: st)) : lSm l GX GM X VX VM pc L (.int y :: .long x :: st) := by
  subst hq
  exact fun H ls h1 h2 h3 h4 hL => lv_lshl C.1 C.2.1 d rfl (kk H ls h1 h2 h3 h4 hL)
theorem l_land (C : lC GX GM b Ln sc X) {x y : Int64} (d : decode code pc = .ok (.land, 1)) (hq : pc + 1 = q) (kk : lSm l GX GM X VX VM q L (.long (x &&& y) :: st)) : lSm l GX GM X VX VM pc L (.long y :: .long x :: st) := by
  subst hq
  exact fun H ls h1 h2 h3 h4 hL => lv_land C.1 C.2.1 d (kk H ls h1 h2 h3 h4 hL)
theorem l_lor (C : lC GX GM b Ln sc X) {x y : Int64} (d : decode code pc = .ok (.lor, 1)) (hq : pc + 1 = q) (kk : lSm l GX GM X VX VM q L (.long (x ||| y) :: st)) : lSm l GX GM X VX VM pc L (.long y :: .long x :: st) := by
  subst hq
  exact fun H ls h1 h2 h3 h4 hL => lv_lor C.1 C.2.1 d (kk H ls h1 h2 h3 h4 hL)
theorem l_goto (C : lC GX GM b Ln sc X) {off : Int} (d : decode code pc = .ok (.goto off, 3)) (ht : (pc : Int) + off = (q : Int)) (kk : lSm l GX GM X VX VM q L st) : lSm l GX GM X VX VM pc L st := fun H ls h1 h2 h3 h4 hL => lv_goto C.1 C.2.1 d ht (kk H ls h1 h2 h3 h4 hL)
theorem l_iinc (C : lC GX GM b Ln sc X) {i : Nat} {n : Int} {x v : Int32} (p : Nat) (d : decode code pc = .ok (.iinc i n, 3)) (hq : pc + 3 = q) (hk : L[p]? = some (i, .int x)) (hv : x + Int32.ofInt n = v) (hn : i < 4) (hl : (i, Value.int v) :: L.filter (fun r => !(r.1 == i) && !(r.1 + 1 == i && r.2.category == 2)) = L') (kk : lSm l GX GM X VX VM q L' st) : lSm l GX GM X VX VM pc L st := by
  subst hq
  exact fun H ls h1 h2 h3 h4 hL => lv_iinc C.1 C.2.1 d hL hk hv hn hl (fun ls' hL' => kk H ls' h1 h2 h3 h4 hL')
theorem l_sub (ks : List Nat) (hl : lv_pick L ks = L') (kk : lSm l GX GM X VX VM pc L' st) : lSm l GX GM X VX VM pc L st := fun H ls h1 h2 h3 h4 hL => kk H ls h1 h2 h3 h4 (lv_sub hL ks hl)
theorem l_S {H : Heap} (h3 : (xs X).heap.size ≤ H.size) (h4 : ∀ q : Nat, q < (xs X).heap.size → H[q]? = (xs X).heap[q]?) (A : Nat → Prop) : va_S A (xs X).heap H [] := ⟨h3, fun q h _ => h4 q h, fun _ h => by cases h⟩
theorem l_sld (C : lC GX GM b Ln sc X) {i : Int32} (hin : vp_in i Ln) (d : decode code pc = .ok (.iaload, 1)) (hq : pc + 1 = q) (kk : lSm l GX GM X VX VM q L (.int (sc i.toNatClampNeg) :: st)) : lSm l GX GM X VX VM pc L (.int i :: .ref b :: st) := by
  subst hq
  exact fun H ls h1 h2 h3 h4 hL => va_sld C.1 C.2.1 C.2.2.2.2.2.2.2.1.1 C.2.2.2.2.2.2.2.1.2 (A := cA (xs X).heap.size) (Nat.not_le.mpr C.2.2.2.2.2.2.2.1.2) (l_S h3 h4 _) hin d (kk H ls h1 h2 h3 h4 hL)
theorem l_slen (C : lC GX GM b Ln sc X) (d : decode code pc = .ok (.arraylength, 1)) (hq : pc + 1 = q) (kk : lSm l GX GM X VX VM q L (.int (Int32.ofNat Ln) :: st)) : lSm l GX GM X VX VM pc L (.ref b :: st) := by
  subst hq
  exact fun H ls h1 h2 h3 h4 hL => va_slen C.1 C.2.1 C.2.2.2.2.2.2.2.1.1 C.2.2.2.2.2.2.2.1.2 (A := cA (xs X).heap.size) (Nat.not_le.mpr C.2.2.2.2.2.2.2.1.2) (l_S h3 h4 _) d (kk H ls h1 h2 h3 h4 hL)
theorem l_gt (C : lC GX GM b Ln sc X) {x y : Int32} {off : Int} {tgt : Nat} (d : decode code pc = .ok (.if_icmp .gt off, 3)) (ht : (pc : Int) + off = (tgt : Int)) (hq : pc + 3 = q) (kt : y < x → lSm l GX GM X VX VM tgt L st) (kf : ¬ y < x → lSm l GX GM X VX VM q L st) : lSm l GX GM X VX VM pc L (.int y :: .int x :: st) := by
  subst hq
  exact fun H ls h1 h2 h3 h4 hL => lv_icmp_gt C.1 C.2.1 d ht (fun c => kt c H ls h1 h2 h3 h4 hL) (fun c => kf c H ls h1 h2 h3 h4 hL)
theorem l_eq (C : lC GX GM b Ln sc X) {x : Int32} {off : Int} (d : decode code pc = .ok (.if_icmp .eq off, 3)) (ht : (pc : Int) + off = (q : Int)) (kk : lSm l GX GM X VX VM q L st) : lSm l GX GM X VX VM pc L (.int x :: .int x :: st) := fun H ls h1 h2 h3 h4 hL => lv_icmp_eq C.1 C.2.1 d ht (fun _ => kk H ls h1 h2 h3 h4 hL) (fun c => absurd rfl c)
theorem l_tin (C : lC GX GM b Ln sc X) {dflt lo hi : Int} {offs : Array Int} {len : Nat} {x c : Int32} {off : Int} (hx : x = c) (d : decode code pc = .ok (.tableswitch dflt lo hi offs, len)) (h1 : ¬ c.toInt < lo) (h2 : ¬ hi < c.toInt) (ho : offs[(c.toInt - lo).toNat]? = some off) (ht : (pc : Int) + off = (q : Int)) (kk : lSm l GX GM X VX VM q L st) : lSm l GX GM X VX VM pc L (.int x :: st) := by
  subst hx
  exact fun H ls g1 g2 g3 g4 hL => lv_tableIn C.1 C.2.1 d h1 h2 ho ht (kk H ls g1 g2 g3 g4 hL)
theorem l_tout (C : lC GX GM b Ln sc X) {dflt lo hi : Int} {offs : Array Int} {len : Nat} {x : Int32} (d : decode code pc = .ok (.tableswitch dflt lo hi offs, len)) (h : x.toInt < lo ∨ hi < x.toInt) (ht : (pc : Int) + dflt = (q : Int)) (kk : lSm l GX GM X VX VM q L st) : lSm l GX GM X VX VM pc L (.int x :: st) := fun H ls g1 g2 g3 g4 hL => lv_tableOut C.1 C.2.1 d h ht (kk H ls g1 g2 g3 g4 hL)
end LR
section LRC
variable {l : Launch} {GX GM G : gG} {b Ln : Nat} {sc : Nat → Int32} {X : gX} {VX VM V : gV} {pc q : Nat} {L L' : List (Nat × Value)} {st sk As : List Value} {rm : Room} {y : MethodName} {cb : ByteArray} {n np index : Nat} {ty : FieldType} {Qc : Array Value → State → Outcome → State → Prop}
theorem lRunV (C : gC code 4 RL G X) (hy : gYV y cb n (some ty) np) (hl : gML RL index y) (hM : Met l y (.code y cb n (some ty) :: gB) rm (va_Pc (.ref (G.1 0) :: As) (gI G V)) Qc 0 0 (gA G)) {ci : Nat} {fl : List (Option Nat)} (hs : G.2.2.1 0 = some (.inr (.inl (ci, fl)))) {r : vw_C} (hc : gCl[ci]? = some r) (hr : r.1 = y.cls) (hn : As.length = np) (hc0 : rm.cells = 0) (hs0 : rm.slots = 0) (hR : rm.frames + 1 ≤ room_1.frames ∧ 8 + (n + 11) + rm.locals ≤ room_1.locals) (hst : (st.map fun v => v.category).sum ≤ 8) (d : decode code pc = .ok (.invokevirtual index, 3))
    {H : Heap} {ls : Array Slot} (hP : gP G V (xs X) H) (hS : va_S (gA G) (xs X).heap H []) (hL : lv_has ls 4 L) (hsk : sk = As.reverse ++ .ref (G.1 0) :: st) :
    va_Run X.1 l X.2.1 room_1 (xs X) (xm X) (xa X) (xb X) (xM X) (xc X) H [] 124 3030 0 0 (F0 (xm X) pc ls sk) st (Qc (Value.ref (G.1 0) :: As).toArray) (gA G) := by
  have hts := C.2.2.2.2.1
  have hrecv : ∃ cellB : Cell, H[G.1 0]? = some cellB ∧ cellB.vm.isStatics = false ∧ (xs X).vm.findClass y.cls = some cellB.cls := by
    obtain ⟨r', h1, cell, q1, q2, q3, q4⟩ := (gat_o hs).mp (hP 0)
    refine ⟨cell, q1, by rw [q3]; rfl, ?_⟩
    have h3 := (C.2.2.2.2.2.1.1.1 ci _ hc).2.1
    rw [q2, ← hr]
    exact h3
  have hp : PreV (xs X) H y.cls (G.1 0) (va_Pc (.ref (G.1 0) :: As) (gI G V)) As := ⟨gI_blind, hrecv, fun U hU hW => ⟨rfl, gI_at C hP hS hU hW⟩⟩
  have hS5 : CallFix X.1 (xm X) (xc X) code 4 (xs X) (xa X) gB RL := ⟨C.1, C.2.1, C.2.2.1, C.2.2.2.1, hts⟩
  have hf : 124 + 0 ≤ room_1.cells ∧ 3030 + 0 ≤ room_1.slots := ⟨Nat.le_of_ble_eq_true rfl, Nat.le_of_ble_eq_true rfl⟩
  rcases hl with hl | ⟨h, hl⟩
  · exact va_runV hS5 hM ⟨gB_call C hy.2.2 hl hc0 hs0 hR, hts _ hy.1, hts _ hy.2.1⟩ hp rfl hn hL.1 hsk (lv_room hst) d hf
  · exact va_runVN hS5 hM ⟨gB_callN C hy.2.2 hl hc0 hs0 hR, hts _ hy.1, hts _ hy.2.1⟩ hp rfl hn hL.1 hsk (lv_room hst) d hf
theorem l_callX (C : lC GX GM b Ln sc X) {f : Option (Int32 × gV)} {r : Int32} {VX' : gV} (hf : f = some (r, VX')) (hM : gMi l GX y cb n ty rm (.ref (GX.1 0) :: As) VX f) (hy : gYV y cb n (some ty) np) (hl : gML RL index y) {ci : Nat} {fl : List (Option Nat)} (hs : GX.2.2.1 0 = some (.inr (.inl (ci, fl)))) {rr : vw_C} (hc : gCl[ci]? = some rr) (hr : rr.1 = y.cls) (hsk : sk = As.reverse ++ .ref (GX.1 0) :: st) (hn : As.length = np) (hc0 : rm.cells = 0) (hs0 : rm.slots = 0) (hR : rm.frames + 1 ≤ room_1.frames ∧ 8 + (n + 11) + rm.locals ≤ room_1.locals) (hst : (st.map fun v => v.category).sum ≤ 8) (d : decode code pc = .ok (.invokevirtual index, 3)) (hq : pc + 3 = q)
    (kk : lSm l GX GM X VX' VM q L (.int r :: st)) : lSm l GX GM X VX VM pc L sk := by
  subst hq
  intro H ls h1 h2 h3 h4 hL
  refine va_calli (A0 := cA (xs X).heap.size) (lRunV (lC_X C) hy hl (hM r VX' hf) hs hc hr hn hc0 hs0 hR hst d h1 (l_S h3 h4 _) hL hsk) (l_S h3 h4 _) (fun q _ h => C.2.2.2.2.2.2.2.2.1.1 q h) (fun q h => C.2.2.2.2.2.2.2.2.1.1 q h) (fun r1 u t H1 locs1 ht hvm hw hB hz1 hk1 hS1 => ?_)
  rw [show r1 = r from hw]
  refine va_forget (fun q hq => hS1.2.2 q hq) ?_
  exact kk H1 ls (by rw [← ht]; exact gP_moved hvm.symm hB) (gP_frame h2 hk1 C.2.2.2.2.2.2.2.2.2.1) hS1.1 (fun q h => hS1.2.1 q h (Nat.not_le.mpr h)) hL
theorem l_callM (C : lC GX GM b Ln sc X) {f : Option (Int32 × gV)} {r : Int32} {VM' : gV} (hf : f = some (r, VM')) (hM : gMi l GM y cb n ty rm (.ref (GM.1 0) :: As) VM f) (hy : gYV y cb n (some ty) np) (hl : gML RL index y) {ci : Nat} {fl : List (Option Nat)} (hs : GM.2.2.1 0 = some (.inr (.inl (ci, fl)))) {rr : vw_C} (hc : gCl[ci]? = some rr) (hr : rr.1 = y.cls) (hsk : sk = As.reverse ++ .ref (GM.1 0) :: st) (hn : As.length = np) (hc0 : rm.cells = 0) (hs0 : rm.slots = 0) (hR : rm.frames + 1 ≤ room_1.frames ∧ 8 + (n + 11) + rm.locals ≤ room_1.locals) (hst : (st.map fun v => v.category).sum ≤ 8) (d : decode code pc = .ok (.invokevirtual index, 3)) (hq : pc + 3 = q)
    (kk : lSm l GX GM X VX VM' q L (.int r :: st)) : lSm l GX GM X VX VM pc L sk := by
  subst hq
  intro H ls h1 h2 h3 h4 hL
  refine va_calli (A0 := cA (xs X).heap.size) (lRunV (lC_M C) hy hl (hM r VM' hf) hs hc hr hn hc0 hs0 hR hst d h2 (l_S h3 h4 _) hL hsk) (l_S h3 h4 _) (fun q _ h => C.2.2.2.2.2.2.2.2.1.2 q h) (fun q h => C.2.2.2.2.2.2.2.2.1.2 q h) (fun r1 u t H1 locs1 ht hvm hw hB hz1 hk1 hS1 => ?_)
  rw [show r1 = r from hw]
  refine va_forget (fun q hq => hS1.2.2 q hq) ?_
  exact kk H1 ls (gP_frame h1 hk1 C.2.2.2.2.2.2.2.2.2.2) (by rw [← ht]; exact gP_moved hvm.symm hB) hS1.1 (fun q h => hS1.2.1 q h (Nat.not_le.mpr h)) hL
end LRC
/-- both answer, alike, and the worlds stay related -/
def gEq (Rel : gV → gV → Prop) (f g : Option (Int32 × gV)) : Prop := ∃ (r : Int32) (VX VM : gV), f = some (r, VX) ∧ g = some (r, VM) ∧ Rel VX VM

/-! ===== calls ===== -/
def gNm (y : MethodName) (np : Nat) : Prop := y.cls ≠ "java/lang/invoke/MethodHandle" ∧ y.cls ≠ "java/lang/invoke/VarHandle" ∧ (parseMethodDescriptor y.desc).map (fun d => d.parameters.length) = some np
/-- what the tables say of a method of ours that is called on an object -/
def gYV (y : MethodName) (b : ByteArray) (n : Nat) (ret : Option FieldType) (np : Nat) : Prop := Cond.instanceMethod y ∈ gB ∧ Cond.selects y.cls y y ∈ gB ∧ Cond.initialized y.cls ∈ gB ∧ Cond.code y b n ret ∈ gB ∧ gNm y np
def gYS (y : MethodName) (b : ByteArray) (n : Nat) (ret : Option FieldType) (np : Nat) : Prop := Cond.static y ∈ gB ∧ Cond.initialized y.cls ∈ gB ∧ Cond.code y b n ret ∈ gB ∧ gNm y np
theorem gB_pay {b : ByteArray} {n : Nat} {ret : Option FieldType} {y : MethodName} {args : Array Value} {s : State} (hts : ∀ w ∈ gB, w.before args s = true) (hc : Cond.code y b n ret ∈ gB) : ∀ w ∈ Cond.code y b n ret :: gB, ∀ (a' : Array Value) (U : State), s.WarmedH U.vm → w.before a' U = true := by
  intro w hw a' U hW
  have hw' : w ∈ gB := by
    rcases List.mem_cons.mp hw with rfl | h
    · exact hc
    · exact h
  exact word_at hW (good_of_word (gB_good w hw')) (hts w hw')
section GCALL
variable {α : Type} {l : Launch} {R rm : Room} {nL : Nat} {G : gG} {X : gX} {k : Option α} {res : α} {V : gV} {pc q : Nat} {L : List (Nat × Value)} {st : List Value} {cc b : ByteArray} {own : String} {y : MethodName} {n np index cl : Nat} {ret : Option FieldType} {Qc : Array Value → State → Outcome → State → Prop} {As : List Value}
theorem gnp {sig : MethodDescriptor} (h : gNm y np) (hs : parseMethodDescriptor y.desc = some sig) : np = sig.parameters.length := by
  have h2 := h.2.2
  rw [hs] at h2
  exact (Option.some.inj h2).symm
theorem gB_call (C : gC cc nL own G X) (hy : Cond.initialized y.cls ∈ gB ∧ Cond.code y b n ret ∈ gB ∧ gNm y np) (hl : Cond.methodLink own index y ∈ gB) (hc0 : rm.cells = 0) (hs0 : rm.slots = 0) (hR : rm.frames + 1 ≤ R.frames ∧ 8 + (n + 11) + rm.locals ≤ R.locals) : CallB R (xs X) (xa X) own index y b n ret (Cond.code y b n ret :: gB) rm 0 0 np := by
  have hts := C.2.2.2.2.1
  exact ⟨hc0, hs0, hR.1, hR.2, gB_pay hts hy.2.1, List.mem_cons_self, hts _ hy.2.1, hts _ hy.1, ⟨hy.2.2.1, hy.2.2.2.1⟩, fun sig h => gnp hy.2.2 h, hts _ hl⟩
theorem gB_callN (C : gC cc nL own G X) {host : String} (hy : Cond.initialized y.cls ∈ gB ∧ Cond.code y b n ret ∈ gB ∧ gNm y np) (hl : Cond.methodLinkNest own index y host ∈ gN) (hc0 : rm.cells = 0) (hs0 : rm.slots = 0) (hR : rm.frames + 1 ≤ R.frames ∧ 8 + (n + 11) + rm.locals ≤ R.locals) : va_CN R (xs X) (xa X) own index y host b n ret (Cond.code y b n ret :: gB) rm 0 0 np := by
  have hts := C.2.2.2.2.1
  exact ⟨⟨hc0, hs0, hR.1, hR.2, gB_pay hts hy.2.1, List.mem_cons_self⟩, hts _ hy.2.1, hts _ hy.1, ⟨hy.2.2.1, hy.2.2.2.1⟩, fun sig h => gnp hy.2.2 h, va_Nw.use rfl (C.2.2.2.2.2.1.2.1 _ hl)⟩
/-- the world at a call is a start of the callee's -/
theorem gI_at (C : gC cc nL own G X) {H : Heap} {locs : List Loc} (hP : gP G V (xs X) H) (hS : va_S (gA G) (xs X).heap H locs) {U : State} (hU : U.heap = H) (hW : (xs X).WarmedH U.vm) : gI G V U :=
  ⟨by rw [hU]; exact gP_moved hW.alike hP, gT_warm hW C.2.2.2.2.2.1, by rw [hU]; exact gZ_moved hW.alike (gZ_kept C.2.2.2.2.2.2 hS)⟩
theorem gRunV (C : gC cc nL own G X) (hy : gYV y b n ret np) (hl : gML own index y) (hM : Met l y (.code y b n ret :: gB) rm (va_Pc (.ref (G.1 cl) :: As) (gI G V)) Qc 0 0 (gA G)) {ci : Nat} {fl : List (Option Nat)} (hs : G.2.2.1 cl = some (.inr (.inl (ci, fl)))) {r : vw_C} (hc : gCl[ci]? = some r) (hr : r.1 = y.cls) (hn : As.length = np) (hc0 : rm.cells = 0) (hs0 : rm.slots = 0) (hR : rm.frames + 1 ≤ R.frames ∧ 8 + (n + 11) + rm.locals ≤ R.locals) (hst : (st.map fun v => v.category).sum ≤ 8) (d : decode cc pc = .ok (.invokevirtual index, 3))
    {H : Heap} {locs : List Loc} {ls : Array Slot} (hP : gP G V (xs X) H) (hS : va_S (gA G) (xs X).heap H locs) (hL : lv_has ls nL L) {sk : List Value} (hsk : sk = As.reverse ++ .ref (G.1 cl) :: st) :
    va_Run X.1 l X.2.1 R (xs X) (xm X) (xa X) (xb X) (xM X) (xc X) H locs 0 0 0 0 (F0 (xm X) pc ls sk) st (Qc (Value.ref (G.1 cl) :: As).toArray) (gA G) := by
  have hts := C.2.2.2.2.1
  have hrecv : ∃ cellB : Cell, H[G.1 cl]? = some cellB ∧ cellB.vm.isStatics = false ∧ (xs X).vm.findClass y.cls = some cellB.cls := by
    obtain ⟨r', h1, cell, q1, q2, q3, q4⟩ := (gat_o hs).mp (hP cl)
    refine ⟨cell, q1, by rw [q3]; rfl, ?_⟩
    have h3 := (C.2.2.2.2.2.1.1.1 ci _ hc).2.1
    rw [q2, ← hr]
    exact h3
  have hp : PreV (xs X) H y.cls (G.1 cl) (va_Pc (.ref (G.1 cl) :: As) (gI G V)) As := ⟨gI_blind, hrecv, fun U hU hW => ⟨rfl, gI_at C hP hS hU hW⟩⟩
  have hS5 : CallFix X.1 (xm X) (xc X) cc nL (xs X) (xa X) gB own := ⟨C.1, C.2.1, C.2.2.1, C.2.2.2.1, hts⟩
  rcases hl with hl | ⟨h, hl⟩
  · exact va_runV hS5 hM ⟨gB_call C hy.2.2 hl hc0 hs0 hR, hts _ hy.1, hts _ hy.2.1⟩ hp rfl hn hL.1 hsk (lv_room hst) d ⟨Nat.zero_le _, Nat.zero_le _⟩
  · exact va_runVN hS5 hM ⟨gB_callN C hy.2.2 hl hc0 hs0 hR, hts _ hy.1, hts _ hy.2.1⟩ hp rfl hn hL.1 hsk (lv_room hst) d ⟨Nat.zero_le _, Nat.zero_le _⟩
theorem gRunS (C : gC cc nL own G X) (hy : gYS y b n ret np) (hl : gML own index y) (hM : Met l y (.code y b n ret :: gB) rm (va_Pc As (gI G V)) Qc 0 0 (gA G)) (hn : As.length = np) (hc0 : rm.cells = 0) (hs0 : rm.slots = 0) (hR : rm.frames + 1 ≤ R.frames ∧ 8 + (n + 11) + rm.locals ≤ R.locals) (hst : (st.map fun v => v.category).sum ≤ 8) (d : decode cc pc = .ok (.invokestatic index, 3))
    {H : Heap} {locs : List Loc} {ls : Array Slot} (hP : gP G V (xs X) H) (hS : va_S (gA G) (xs X).heap H locs) (hL : lv_has ls nL L) {sk : List Value} (hsk : sk = As.reverse ++ st) :
    va_Run X.1 l X.2.1 R (xs X) (xm X) (xa X) (xb X) (xM X) (xc X) H locs 0 0 0 0 (F0 (xm X) pc ls sk) st (Qc As.toArray) (gA G) := by
  have hts := C.2.2.2.2.1
  have hp : PreS (xs X) H (va_Pc As (gI G V)) As := ⟨gI_blind, fun U hU hW => ⟨rfl, gI_at C hP hS hU hW⟩⟩
  have hS5 : CallFix X.1 (xm X) (xc X) cc nL (xs X) (xa X) gB own := ⟨C.1, C.2.1, C.2.2.1, C.2.2.2.1, hts⟩
  rcases hl with hl | ⟨h, hl⟩
  · exact va_runS hS5 hM ⟨gB_call C hy.2 hl hc0 hs0 hR, hts _ hy.1⟩ hp rfl hn hL.1 hsk (lv_room hst) d ⟨Nat.zero_le _, Nat.zero_le _⟩
  · exact va_runSN hS5 hM ⟨gB_callN C hy.2 hl hc0 hs0 hR, hts _ hy.1, trivial⟩ hp rfl hn hL.1 hsk (lv_room hst) d ⟨Nat.zero_le _, Nat.zero_le _⟩
end GCALL
section GCALL2
variable {α : Type} {l : Launch} {R rm : Room} {nL : Nat} {G : gG} {X : gX} {res : α} {V : gV} {pc q : Nat} {L : List (Nat × Value)} {st sk : List Value} {cc b : ByteArray} {own : String} {y : MethodName} {n np index cl : Nat} {ty : FieldType} {As : List Value}
theorem s_Vi (C : gC cc nL own G X) {f : Option (Int32 × gV)} (hM : gMi l G y b n ty rm (.ref (G.1 cl) :: As) V f) (hy : gYV y b n (some ty) np) (hl : gML own index y) {ci : Nat} {fl : List (Option Nat)} (hs : G.2.2.1 cl = some (.inr (.inl (ci, fl)))) {r : vw_C} (hc : gCl[ci]? = some r) (hr : r.1 = y.cls) (hsk : sk = As.reverse ++ .ref (G.1 cl) :: st) (hn : As.length = np) (hc0 : rm.cells = 0) (hs0 : rm.slots = 0) (hR : rm.frames + 1 ≤ R.frames ∧ 8 + (n + 11) + rm.locals ≤ R.locals) (hst : (st.map fun v => v.category).sum ≤ 8) (d : decode cc pc = .ok (.invokevirtual index, 3)) (hq : pc + 3 = q)
    {k : Int32 → gV → Option α} (kk : ∀ r V1, gSm l R nL G X (k r V1) res V1 q L (.int r :: st)) : gSm l R nL G X (gbi f k) res V pc L sk := by
  subst hq
  intro hk H locs ls hP hS hL
  cases hf : f with
  | none => rw [hf] at hk; cases hk
  | some p =>
    rw [hf] at hk
    obtain ⟨r0, V0⟩ := p
    refine va_calli (gRunV C hy hl (hM r0 V0 hf) hs hc hr hn hc0 hs0 hR hst d hP hS hL hsk) hS (fun q _ h => h) (fun q h => h) (fun r1 u t H1 locs1 ht hvm hw hB hz1 hk1 hS1 => ?_)
    rw [show r1 = r0 from hw]
    exact kk r0 V0 hk H1 locs1 ls (by rw [← ht]; exact gP_moved hvm.symm hB) hS1 hL
theorem s_Vv (C : gC cc nL own G X) {f : Option gV} (hM : gMv l G y b n rm (.ref (G.1 cl) :: As) V f) (hy : gYV y b n none np) (hl : gML own index y) {ci : Nat} {fl : List (Option Nat)} (hs : G.2.2.1 cl = some (.inr (.inl (ci, fl)))) {r : vw_C} (hc : gCl[ci]? = some r) (hr : r.1 = y.cls) (hsk : sk = As.reverse ++ .ref (G.1 cl) :: st) (hn : As.length = np) (hc0 : rm.cells = 0) (hs0 : rm.slots = 0) (hR : rm.frames + 1 ≤ R.frames ∧ 8 + (n + 11) + rm.locals ≤ R.locals) (hst : (st.map fun v => v.category).sum ≤ 8) (d : decode cc pc = .ok (.invokevirtual index, 3)) (hq : pc + 3 = q)
    {k : gV → Option α} (kk : ∀ V1, gSm l R nL G X (k V1) res V1 q L st) : gSm l R nL G X (gbv f k) res V pc L sk := by
  subst hq
  intro hk H locs ls hP hS hL
  cases hf : f with
  | none => rw [hf] at hk; cases hk
  | some V0 =>
    rw [hf] at hk
    refine va_callv (gRunV C hy hl (hM V0 hf) hs hc hr hn hc0 hs0 hR hst d hP hS hL hsk) hS (fun q _ h => h) (fun q h => h) (fun u t H1 locs1 ht hvm hw hB hz1 hk1 hS1 => ?_)
    exact kk V0 hk H1 locs1 ls (by rw [← ht]; exact gP_moved hvm.symm hB) hS1 hL
theorem s_Vr (C : gC cc nL own G X) {f : Option (Nat × gV)} (hM : gMr l G y b n ty rm (.ref (G.1 cl) :: As) V f) (hy : gYV y b n (some ty) np) (hl : gML own index y) {ci : Nat} {fl : List (Option Nat)} (hs : G.2.2.1 cl = some (.inr (.inl (ci, fl)))) {r : vw_C} (hc : gCl[ci]? = some r) (hr : r.1 = y.cls) (P : Nat → Prop) (hf : ∀ c V', f = some (c, V') → P c) (hsk : sk = As.reverse ++ .ref (G.1 cl) :: st) (hn : As.length = np) (hc0 : rm.cells = 0) (hs0 : rm.slots = 0) (hR : rm.frames + 1 ≤ R.frames ∧ 8 + (n + 11) + rm.locals ≤ R.locals) (hst : (st.map fun v => v.category).sum ≤ 8) (d : decode cc pc = .ok (.invokevirtual index, 3)) (hq : pc + 3 = q)
    {k : Nat → gV → Option α} (kk : ∀ c V1, P c → gSm l R nL G X (k c V1) res V1 q L (.ref (G.1 c) :: st)) : gSm l R nL G X (gbr f k) res V pc L sk := by
  subst hq
  intro hk H locs ls hP hS hL
  cases hf' : f with
  | none => rw [hf'] at hk; cases hk
  | some p =>
    rw [hf'] at hk
    obtain ⟨c0, V0⟩ := p
    refine va_callr (gRunV C hy hl (hM c0 V0 hf') hs hc hr hn hc0 hs0 hR hst d hP hS hL hsk) hS (fun q _ h => h) (fun q h => h) (fun u ra t H1 locs1 ht hvm hw hB hz1 hk1 hS1 => ?_)
    rw [hB.1]
    exact kk c0 V0 (hf c0 V0 hf') hk H1 locs1 ls (by rw [← ht]; exact gP_moved hvm.symm hB.2) hS1 hL
theorem s_Si (C : gC cc nL own G X) {f : Option (Int32 × gV)} (hM : gMi l G y b n ty rm As V f) (hy : gYS y b n (some ty) np) (hl : gML own index y) (hsk : sk = As.reverse ++ st) (hn : As.length = np) (hc0 : rm.cells = 0) (hs0 : rm.slots = 0) (hR : rm.frames + 1 ≤ R.frames ∧ 8 + (n + 11) + rm.locals ≤ R.locals) (hst : (st.map fun v => v.category).sum ≤ 8) (d : decode cc pc = .ok (.invokestatic index, 3)) (hq : pc + 3 = q)
    {k : Int32 → gV → Option α} (kk : ∀ r V1, gSm l R nL G X (k r V1) res V1 q L (.int r :: st)) : gSm l R nL G X (gbi f k) res V pc L sk := by
  subst hq
  intro hk H locs ls hP hS hL
  cases hf : f with
  | none => rw [hf] at hk; cases hk
  | some p =>
    rw [hf] at hk
    obtain ⟨r0, V0⟩ := p
    refine va_calli (gRunS C hy hl (hM r0 V0 hf) hn hc0 hs0 hR hst d hP hS hL hsk) hS (fun q _ h => h) (fun q h => h) (fun r1 u t H1 locs1 ht hvm hw hB hz1 hk1 hS1 => ?_)
    rw [show r1 = r0 from hw]
    exact kk r0 V0 hk H1 locs1 ls (by rw [← ht]; exact gP_moved hvm.symm hB) hS1 hL
theorem s_Sv (C : gC cc nL own G X) {f : Option gV} (hM : gMv l G y b n rm As V f) (hy : gYS y b n none np) (hl : gML own index y) (hsk : sk = As.reverse ++ st) (hn : As.length = np) (hc0 : rm.cells = 0) (hs0 : rm.slots = 0) (hR : rm.frames + 1 ≤ R.frames ∧ 8 + (n + 11) + rm.locals ≤ R.locals) (hst : (st.map fun v => v.category).sum ≤ 8) (d : decode cc pc = .ok (.invokestatic index, 3)) (hq : pc + 3 = q)
    {k : gV → Option α} (kk : ∀ V1, gSm l R nL G X (k V1) res V1 q L st) : gSm l R nL G X (gbv f k) res V pc L sk := by
  subst hq
  intro hk H locs ls hP hS hL
  cases hf : f with
  | none => rw [hf] at hk; cases hk
  | some V0 =>
    rw [hf] at hk
    refine va_callv (gRunS C hy hl (hM V0 hf) hn hc0 hs0 hR hst d hP hS hL hsk) hS (fun q _ h => h) (fun q h => h) (fun u t H1 locs1 ht hvm hw hB hz1 hk1 hS1 => ?_)
    exact kk V0 hk H1 locs1 ls (by rw [← ht]; exact gP_moved hvm.symm hB) hS1 hL
end GCALL2
/-! ===== ends ===== -/
def gEi (G : gG) (X : gX) (ty : FieldType) (r : Int32) (V : gV) : Prop := (xM X).sig.returnType = some ty ∧ (xM X).locks = false ∧ xQ X = MQ (xb X) (gQi G r V) (xa X) (xs X) 0 0 (gA G)
def gEv (G : gG) (X : gX) (V : gV) : Prop := (xM X).sig.returnType = none ∧ (xM X).locks = false ∧ xQ X = MQ (xb X) (gQv G V) (xa X) (xs X) 0 0 (gA G)
def gEr (G : gG) (X : gX) (ty : FieldType) (c : Nat) (V : gV) : Prop := (xM X).sig.returnType = some ty ∧ (xM X).locks = false ∧ xQ X = MQ (xb X) (gQr G c V) (xa X) (xs X) 0 0 (gA G)
section GE
variable {l : Launch} {R : Room} {nL : Nat} {G : gG} {X : gX} {V V' : gV} {pc q : Nat} {L : List (Nat × Value)} {cc : ByteArray} {own : String}
theorem s_zret (C : gC cc nL own G X) {ty : FieldType} {r v : Int32} (E : gEi G X ty r V') (hn : narrow ty (.int v) = .int v) (d : decode cc pc = .ok (.ireturn, 1)) : gSm l R nL G X (some (v, V)) (r, V') V pc L [.int v] := by
  intro hk H locs ls hP hS hL
  cases hk
  obtain ⟨h1, h2, h3⟩ := E
  rw [h3]
  exact W.zret C.1 C.2.1 h1 hn (fun t ht hW => ⟨⟨_, (), rfl, rfl, by show gP G _ t t.heap; rw [ht]; exact gP_moved hW.alike hP⟩, hS.F ht⟩) hS.2.2 d h2
theorem s_iret (C : gC cc nL own G X) {r v : Int32} (E : gEi G X .int r V') (d : decode cc pc = .ok (.ireturn, 1)) : gSm l R nL G X (some (v, V)) (r, V') V pc L [.int v] := s_zret C E rfl d
theorem s_zret2 (C : gC cc nL own G X) {r v : Int32} (E : gEi G X .boolean r V') (d : decode cc pc = .ok (.ireturn, 1)) : gSm l R nL G X (gzb v (some (v, V))) (r, V') V pc L [.int v] := by
  intro hk
  unfold gzb at hk
  by_cases h : v &&& 1 = v
  · rw [if_pos h] at hk
    exact s_zret C E (by show Value.int (v &&& 1) = _; rw [h]) d hk
  · rw [if_neg h] at hk; cases hk
theorem s_vret (C : gC cc nL own G X) (E : gEv G X V') (d : decode cc pc = .ok (.return_, 1)) : gSm l R nL G X (some V) V' V pc L [] := by
  intro hk H locs ls hP hS hL
  cases hk
  obtain ⟨h1, h2, h3⟩ := E
  rw [h3]
  exact W.vret C.1 C.2.1 h1 (fun t ht hW => ⟨⟨(), rfl, trivial, by show gP G _ t t.heap; rw [ht]; exact gP_moved hW.alike hP⟩, hS.F ht⟩) hS.2.2 d h2
theorem s_aret (C : gC cc nL own G X) {ty : FieldType} {c c' : Nat} (hty : (∃ n, ty = .object n) ∨ ∃ t, ty = .array t) (E : gEr G X ty c' V') (d : decode cc pc = .ok (.areturn, 1)) : gSm l R nL G X (some (c, V)) (c', V') V pc L [.ref (G.1 c)] := by
  intro hk H locs ls hP hS hL
  cases hk
  obtain ⟨h1, h2, h3⟩ := E
  rw [h3]
  exact W.aret C.1 C.2.1 h1 hty (Or.inr ⟨_, rfl⟩) (fun t ht hW => ⟨⟨(), G.1 _, rfl, trivial, rfl, by show gP G _ t t.heap; rw [ht]; exact gP_moved hW.alike hP⟩, hS.F ht⟩) hS.2.2 d h2
end GE
/-! ===== beginnings ===== -/
section GBEG
variable {l : Launch} {G : gG} {V : gV} {y : MethodName} {b : ByteArray} {n : Nat} {ty : FieldType} {rm : Room} {av : List Value}
theorem gM_i {f : Option (Int32 × gV)} (hp : plainName y.cls = true) (hc0 : rm.cells = 0) (hs0 : rm.slots = 0) (ha : (lg_sl av).length ≤ n) (body : ∀ (X : gX) (r : Int32) (V' : gV), gC b n y.cls G X → gEi G X ty r V' → gSm l rm n G X f (r, V') V 0 (lv_args 0 av) []) : gMi l G y b n ty rm av V f := by
  intro r V' hf
  refine Met.ofW (cc := b) (maxL := n) (ret := some ty) hp rfl ?_
  intro p e s m args below meth c s₁ B hml hv
  obtain ⟨rfl, hP, hT, hZ⟩ := hv
  have hts := atoms_spec (ws := .code y b n (some ty) :: gB) B.pre
  have hown : s.vm.findClass y.cls = some m.cls := findClass_of_methodNamed B.named
  rw [lg_entry_eq]
  have hl := lv_entry av ha
  exact body (p, e, s, m, av.toArray, below, meth, c, _) r V' ⟨B.exec, B.bytes, hml, hown, fun w hw => hts w (List.mem_cons_of_mem _ hw), hT, hZ⟩ ⟨B.returns, B.notSynchronized, rfl⟩ hf s.heap [] _ hP va_S.rf hl
theorem gM_v {f : Option gV} (hp : plainName y.cls = true) (hc0 : rm.cells = 0) (hs0 : rm.slots = 0) (ha : (lg_sl av).length ≤ n) (body : ∀ (X : gX) (V' : gV), gC b n y.cls G X → gEv G X V' → gSm l rm n G X f V' V 0 (lv_args 0 av) []) : gMv l G y b n rm av V f := by
  intro V' hf
  refine Met.ofW (cc := b) (maxL := n) (ret := none) hp rfl ?_
  intro p e s m args below meth c s₁ B hml hv
  obtain ⟨rfl, hP, hT, hZ⟩ := hv
  have hts := atoms_spec (ws := .code y b n none :: gB) B.pre
  have hown : s.vm.findClass y.cls = some m.cls := findClass_of_methodNamed B.named
  rw [lg_entry_eq]
  have hl := lv_entry av ha
  exact body (p, e, s, m, av.toArray, below, meth, c, _) V' ⟨B.exec, B.bytes, hml, hown, fun w hw => hts w (List.mem_cons_of_mem _ hw), hT, hZ⟩ ⟨B.returns, B.notSynchronized, rfl⟩ hf s.heap [] _ hP va_S.rf hl
theorem gM_r {f : Option (Nat × gV)} (hp : plainName y.cls = true) (hc0 : rm.cells = 0) (hs0 : rm.slots = 0) (ha : (lg_sl av).length ≤ n) (body : ∀ (X : gX) (c' : Nat) (V' : gV), gC b n y.cls G X → gEr G X ty c' V' → gSm l rm n G X f (c', V') V 0 (lv_args 0 av) []) : gMr l G y b n ty rm av V f := by
  intro c' V' hf
  refine Met.ofW (cc := b) (maxL := n) (ret := some ty) hp rfl ?_
  intro p e s m args below meth c s₁ B hml hv
  obtain ⟨rfl, hP, hT, hZ⟩ := hv
  have hts := atoms_spec (ws := .code y b n (some ty) :: gB) B.pre
  have hown : s.vm.findClass y.cls = some m.cls := findClass_of_methodNamed B.named
  rw [lg_entry_eq]
  have hl := lv_entry av ha
  exact body (p, e, s, m, av.toArray, below, meth, c, _) c' V' ⟨B.exec, B.bytes, hml, hown, fun w hw => hts w (List.mem_cons_of_mem _ hw), hT, hZ⟩ ⟨B.returns, B.notSynchronized, rfl⟩ hf s.heap [] _ hP va_S.rf hl
end GBEG

/-! ===== one instruction, one row ===== -/
section GR
variable {α : Type} {l : Launch} {R : Room} {nL : Nat} {G : gG} {X : gX} {k : Option α} {res : α} {V : gV} {pc q : Nat} {L : List (Nat × Value)} {st : List Value} {cc : ByteArray} {own : String}
theorem s_iconst (C : gC cc nL own G X) {n : Int} {v : Int32} (d : decode cc pc = .ok (.iconst n, 1)) (hq : pc + 1 = q) (hv : Int32.ofInt n = v) (kk : gSm l R nL G X k res V q L (.int v :: st)) : gSm l R nL G X k res V pc L (st) := by
  subst hq
  exact fun hk H locs ls hP hS hL => lv_iconst C.1 C.2.1 d hv (kk hk H locs ls hP hS hL)
theorem s_bipush (C : gC cc nL own G X) {n : Int} {v : Int32} (d : decode cc pc = .ok (.bipush n, 2)) (hq : pc + 2 = q) (hv : (Int8.ofInt n).toInt32 = v) (kk : gSm l R nL G X k res V q L (.int v :: st)) : gSm l R nL G X k res V pc L (st) := by
  subst hq
  exact fun hk H locs ls hP hS hL => lv_bipush C.1 C.2.1 d hv (kk hk H locs ls hP hS hL)
theorem s_sipush (C : gC cc nL own G X) {n : Int} {v : Int32} (d : decode cc pc = .ok (.sipush n, 3)) (hq : pc + 3 = q) (hv : (Int16.ofInt n).toInt32 = v) (kk : gSm l R nL G X k res V q L (.int v :: st)) : gSm l R nL G X k res V pc L (st) := by
  subst hq
  exact fun hk H locs ls hP hS hL => lv_sipush C.1 C.2.1 d hv (kk hk H locs ls hP hS hL)
theorem s_iload_n (C : gC cc nL own G X) {j : Fin 4} {i : Nat} {x : Int32} (p : Nat) (d : decode cc pc = .ok (.iload_n j, 1)) (hq : pc + 1 = q) (hi : (j : Nat) = i) (h : L[p]? = some (i, .int x)) (kk : gSm l R nL G X k res V q L (.int x :: st)) : gSm l R nL G X k res V pc L (st) := by
  subst hq
  exact fun hk H locs ls hP hS hL => lv_iload_n C.1 C.2.1 d hi (lv_at hL p h) (kk hk H locs ls hP hS hL)
theorem s_aload_n (C : gC cc nL own G X) {j : Fin 4} {i : Nat} {x : Nat} (p : Nat) (d : decode cc pc = .ok (.aload_n j, 1)) (hq : pc + 1 = q) (hi : (j : Nat) = i) (h : L[p]? = some (i, .ref x)) (kk : gSm l R nL G X k res V q L (.ref x :: st)) : gSm l R nL G X k res V pc L (st) := by
  subst hq
  exact fun hk H locs ls hP hS hL => lv_aload_n C.1 C.2.1 d hi (lv_at hL p h) (kk hk H locs ls hP hS hL)
theorem s_lload_n (C : gC cc nL own G X) {j : Fin 4} {i : Nat} {x : Int64} (p : Nat) (d : decode cc pc = .ok (.lload_n j, 1)) (hq : pc + 1 = q) (hi : (j : Nat) = i) (h : L[p]? = some (i, .long x)) (kk : gSm l R nL G X k res V q L (.long x :: st)) : gSm l R nL G X k res V pc L (st) := by
  subst hq
  exact fun hk H locs ls hP hS hL => lv_lload_n C.1 C.2.1 d hi (lv_at hL p h) (kk hk H locs ls hP hS hL)
theorem s_iload (C : gC cc nL own G X) {i : Nat} {x : Int32} (p : Nat) (d : decode cc pc = .ok (.iload i, 2)) (hq : pc + 2 = q) (h : L[p]? = some (i, .int x)) (kk : gSm l R nL G X k res V q L (.int x :: st)) : gSm l R nL G X k res V pc L (st) := by
  subst hq
  exact fun hk H locs ls hP hS hL => lv_iload C.1 C.2.1 d (lv_at hL p h) (kk hk H locs ls hP hS hL)
theorem s_aload (C : gC cc nL own G X) {i : Nat} {x : Nat} (p : Nat) (d : decode cc pc = .ok (.aload i, 2)) (hq : pc + 2 = q) (h : L[p]? = some (i, .ref x)) (kk : gSm l R nL G X k res V q L (.ref x :: st)) : gSm l R nL G X k res V pc L (st) := by
  subst hq
  exact fun hk H locs ls hP hS hL => lv_aload C.1 C.2.1 d (lv_at hL p h) (kk hk H locs ls hP hS hL)
theorem s_iadd (C : gC cc nL own G X) {x y : Int32} (d : decode cc pc = .ok (.iadd, 1)) (hq : pc + 1 = q) (kk : gSm l R nL G X k res V q L (.int (x + y) :: st)) : gSm l R nL G X k res V pc L (.int y :: .int x :: st) := by
  subst hq
  exact fun hk H locs ls hP hS hL => lv_iadd C.1 C.2.1 d  (kk hk H locs ls hP hS hL)
theorem s_isub (C : gC cc nL own G X) {x y : Int32} (d : decode cc pc = .ok (.isub, 1)) (hq : pc + 1 = q) (kk : gSm l R nL G X k res V q L (.int (x - y) :: st)) : gSm l R nL G X k res V pc L (.int y :: .int x :: st) := by
  subst hq
  exact fun hk H locs ls hP hS hL => lv_isub C.1 C.2.1 d  (kk hk H locs ls hP hS hL)
theorem s_imul (C : gC cc nL own G X) {x y : Int32} (d : decode cc pc = .ok (.imul, 1)) (hq : pc + 1 = q) (kk : gSm l R nL G X k res V q L (.int (x * y) :: st)) : gSm l R nL G X k res V pc L (.int y :: .int x :: st) := by
  subst hq
  exact fun hk H locs ls hP hS hL => lv_imul C.1 C.2.1 d  (kk hk H locs ls hP hS hL)
theorem s_iand (C : gC cc nL own G X) {x y : Int32} (d : decode cc pc = .ok (.iand, 1)) (hq : pc + 1 = q) (kk : gSm l R nL G X k res V q L (.int (x &&& y) :: st)) : gSm l R nL G X k res V pc L (.int y :: .int x :: st) := by
  subst hq
  exact fun hk H locs ls hP hS hL => lv_iand C.1 C.2.1 d  (kk hk H locs ls hP hS hL)
theorem s_ior (C : gC cc nL own G X) {x y : Int32} (d : decode cc pc = .ok (.ior, 1)) (hq : pc + 1 = q) (kk : gSm l R nL G X k res V q L (.int (x ||| y) :: st)) : gSm l R nL G X k res V pc L (.int y :: .int x :: st) := by
  subst hq
  exact fun hk H locs ls hP hS hL => lv_ior C.1 C.2.1 d  (kk hk H locs ls hP hS hL)
theorem s_ixor (C : gC cc nL own G X) {x y : Int32} (d : decode cc pc = .ok (.ixor, 1)) (hq : pc + 1 = q) (kk : gSm l R nL G X k res V q L (.int (x ^^^ y) :: st)) : gSm l R nL G X k res V pc L (.int y :: .int x :: st) := by
  subst hq
  exact fun hk H locs ls hP hS hL => lv_ixor C.1 C.2.1 d  (kk hk H locs ls hP hS hL)
theorem s_ineg (C : gC cc nL own G X) {x : Int32} (d : decode cc pc = .ok (.ineg, 1)) (hq : pc + 1 = q) (kk : gSm l R nL G X k res V q L (.int (-x) :: st)) : gSm l R nL G X k res V pc L (.int x :: st) := by
  subst hq
  exact fun hk H locs ls hP hS hL => lv_ineg C.1 C.2.1 d  (kk hk H locs ls hP hS hL)
theorem s_ishl (C : gC cc nL own G X) {x y : Int32} (d : decode cc pc = .ok (.ishl, 1)) (hq : pc + 1 = q) (kk : gSm l R nL G X k res V q L (.int (x <<< (y &&& 31)) :: st)) : gSm l R nL G X k res V pc L (.int y :: .int x :: st) := by
  subst hq
  exact fun hk H locs ls hP hS hL => lv_ishl C.1 C.2.1 d  (kk hk H locs ls hP hS hL)
theorem s_ishr (C : gC cc nL own G X) {x y : Int32} (d : decode cc pc = .ok (.ishr, 1)) (hq : pc + 1 = q) (kk : gSm l R nL G X k res V q L (.int (x >>> (y &&& 31)) :: st)) : gSm l R nL G X k res V pc L (.int y :: .int x :: st) := by
  subst hq
  exact fun hk H locs ls hP hS hL => lv_ishr C.1 C.2.1 d  (kk hk H locs ls hP hS hL)
theorem s_iushr (C : gC cc nL own G X) {x y : Int32} (d : decode cc pc = .ok (.iushr, 1)) (hq : pc + 1 = q) (kk : gSm l R nL G X k res V q L (.int (gus x y) :: st)) : gSm l R nL G X k res V pc L (.int y :: .int x :: st) := by
  subst hq
  exact fun hk H locs ls hP hS hL => lv_iushr C.1 C.2.1 d rfl (kk hk H locs ls hP hS hL)
theorem s_i2l (C : gC cc nL own G X) {x : Int32} (d : decode cc pc = .ok (.i2l, 1)) (hq : pc + 1 = q) (kk : gSm l R nL G X k res V q L (.long x.toInt64 :: st)) : gSm l R nL G X k res V pc L (.int x :: st) := by
  subst hq
  exact fun hk H locs ls hP hS hL => lv_i2l C.1 C.2.1 d rfl (kk hk H locs ls hP hS hL)
theorem s_l2i (C : gC cc nL own G X) {x : Int64} (d : decode cc pc = .ok (.l2i, 1)) (hq : pc + 1 = q) (kk : gSm l R nL G X k res V q L (.int x.toInt32 :: st)) : gSm l R nL G X k res V pc L (.long x :: st) := by
  subst hq
  exact fun hk H locs ls hP hS hL => lv_l2i C.1 C.2.1 d rfl (kk hk H locs ls hP hS hL)
theorem s_i2b (C : gC cc nL own G X) {x : Int32} (d : decode cc pc = .ok (.i2b, 1)) (hq : pc + 1 = q) (kk : gSm l R nL G X k res V q L (.int x.toInt8.toInt32 :: st)) : gSm l R nL G X k res V pc L (.int x :: st) := by
  subst hq
  exact fun hk H locs ls hP hS hL => lv_i2b C.1 C.2.1 d rfl (kk hk H locs ls hP hS hL)
theorem s_i2s (C : gC cc nL own G X) {x : Int32} (d : decode cc pc = .ok (.i2s, 1)) (hq : pc + 1 = q) (kk : gSm l R nL G X k res V q L (.int x.toInt16.toInt32 :: st)) : gSm l R nL G X k res V pc L (.int x :: st) := by
  subst hq
  exact fun hk H locs ls hP hS hL => lv_i2s C.1 C.2.1 d rfl (kk hk H locs ls hP hS hL)
theorem s_land (C : gC cc nL own G X) {x y : Int64} (d : decode cc pc = .ok (.land, 1)) (hq : pc + 1 = q) (kk : gSm l R nL G X k res V q L (.long (x &&& y) :: st)) : gSm l R nL G X k res V pc L (.long y :: .long x :: st) := by
  subst hq
  exact fun hk H locs ls hP hS hL => lv_land C.1 C.2.1 d  (kk hk H locs ls hP hS hL)
theorem s_lor (C : gC cc nL own G X) {x y : Int64} (d : decode cc pc = .ok (.lor, 1)) (hq : pc + 1 = q) (kk : gSm l R nL G X k res V q L (.long (x ||| y) :: st)) : gSm l R nL G X k res V pc L (.long y :: .long x :: st) := by
  subst hq
  exact fun hk H locs ls hP hS hL => lv_lor C.1 C.2.1 d  (kk hk H locs ls hP hS hL)
theorem s_lshl (C : gC cc nL own G X) {x : Int64} {y : Int32} (d : decode cc pc = .ok (.lshl, 1)) (hq : pc + 1 = q) (kk : gSm l R nL G X k res V q L (.long (x <<< (y.toInt64 &&& 63)) :: st)) : gSm l R nL G X k res V pc L (.int y :: .long x :: st) := by
  subst hq
  exact fun hk H locs ls hP hS hL => lv_lshl C.1 C.2.1 d rfl (kk hk H locs ls hP hS hL)
theorem s_lshr (C : gC cc nL own G X) {x : Int64} {y : Int32} (d : decode cc pc = .ok (.lshr, 1)) (hq : pc + 1 = q) (kk : gSm l R nL G X k res V q L (.long (x >>> (y.toInt64 &&& 63)) :: st)) : gSm l R nL G X k res V pc L (.int y :: .long x :: st) := by
  subst hq
  exact fun hk H locs ls hP hS hL => lv_lshr C.1 C.2.1 d rfl (kk hk H locs ls hP hS hL)
theorem s_lushr (C : gC cc nL own G X) {x : Int64} {y : Int32} (d : decode cc pc = .ok (.lushr, 1)) (hq : pc + 1 = q) (kk : gSm l R nL G X k res V q L (.long (x.toUInt64 >>> (y.toInt64.toUInt64 &&& Int64.toUInt64 63)).toInt64 :: st)) : gSm l R nL G X k res V pc L (.int y :: .long x :: st) := by
  subst hq
  exact fun hk H locs ls hP hS hL => lv_lushr C.1 C.2.1 d rfl (kk hk H locs ls hP hS hL)
theorem s_dup (C : gC cc nL own G X) {v : Value} (d : decode cc pc = .ok (.dup, 1)) (hq : pc + 1 = q) (hv : v.category = 1) (kk : gSm l R nL G X k res V q L (v :: v :: st)) : gSm l R nL G X k res V pc L (v :: st) := by
  subst hq
  exact fun hk H locs ls hP hS hL => lv_dup C.1 C.2.1 d hv (kk hk H locs ls hP hS hL)
theorem s_pop (C : gC cc nL own G X) {v : Value} (d : decode cc pc = .ok (.pop, 1)) (hq : pc + 1 = q) (hv : v.category = 1) (kk : gSm l R nL G X k res V q L (st)) : gSm l R nL G X k res V pc L (v :: st) := by
  subst hq
  exact fun hk H locs ls hP hS hL => lv_pop C.1 C.2.1 d hv (kk hk H locs ls hP hS hL)
theorem s_dup2_11 (C : gC cc nL own G X) {v w : Value} (d : decode cc pc = .ok (.dup2, 1)) (hq : pc + 1 = q) (hv : v.category = 1) (hw : w.category = 1) (kk : gSm l R nL G X k res V q L (v :: w :: v :: w :: st)) : gSm l R nL G X k res V pc L (v :: w :: st) := by
  subst hq
  exact fun hk H locs ls hP hS hL => lv_dup2_11 C.1 C.2.1 d hv hw (kk hk H locs ls hP hS hL)
theorem s_dup_x1 (C : gC cc nL own G X) {v w : Value} (d : decode cc pc = .ok (.dup_x1, 1)) (hq : pc + 1 = q) (hv : v.category = 1) (hw : w.category = 1) (kk : gSm l R nL G X k res V q L (v :: w :: v :: st)) : gSm l R nL G X k res V pc L (v :: w :: st) := by
  subst hq
  exact fun hk H locs ls hP hS hL => lv_dup_x1 C.1 C.2.1 d hv hw (kk hk H locs ls hP hS hL)
theorem s_dup_x2 (C : gC cc nL own G X) {v w u : Value} (d : decode cc pc = .ok (.dup_x2, 1)) (hq : pc + 1 = q) (hv : v.category = 1) (hw : w.category = 1) (hu : u.category = 1) (kk : gSm l R nL G X k res V q L (v :: w :: u :: v :: st)) : gSm l R nL G X k res V pc L (v :: w :: u :: st) := by
  subst hq
  exact fun hk H locs ls hP hS hL => lv_dup_x2 C.1 C.2.1 d hv hw hu (kk hk H locs ls hP hS hL)
theorem s_ldc (C : gC cc nL own G X) {i : Nat} {v : Int32} (d : decode cc pc = .ok (.ldc i, 2)) (hq : pc + 2 = q) (h : Cond.constant own i v ∈ gB) (kk : gSm l R nL G X k res V q L (.int v :: st)) : gSm l R nL G X k res V pc L (st) := by
  subst hq
  exact fun hk H locs ls hP hS hL => (fun a b dd kk => lv_ldc a b C.2.2.2.1 (C.2.2.2.2.1 _ h) dd kk) C.1 C.2.1 d  (kk hk H locs ls hP hS hL)
theorem s_ldc_w (C : gC cc nL own G X) {i : Nat} {v : Int32} (d : decode cc pc = .ok (.ldc_w i, 3)) (hq : pc + 3 = q) (h : Cond.constant own i v ∈ gB) (kk : gSm l R nL G X k res V q L (.int v :: st)) : gSm l R nL G X k res V pc L (st) := by
  subst hq
  exact fun hk H locs ls hP hS hL => (fun a b dd kk => lv_ldcw a b C.2.2.2.1 (C.2.2.2.2.1 _ h) dd kk) C.1 C.2.1 d  (kk hk H locs ls hP hS hL)
theorem s_ldc2 (C : gC cc nL own G X) {i : Nat} {v : Int64} (d : decode cc pc = .ok (.ldc2_w i, 3)) (hq : pc + 3 = q) (h : Cond.constantLong own i v ∈ gB) (kk : gSm l R nL G X k res V q L (.long v :: st)) : gSm l R nL G X k res V pc L (st) := by
  subst hq
  exact fun hk H locs ls hP hS hL => (fun a b dd kk => lv_ldc2 a b C.2.2.2.1 (C.2.2.2.2.1 _ h) dd kk) C.1 C.2.1 d  (kk hk H locs ls hP hS hL)
theorem s_goto (C : gC cc nL own G X) {off : Int} (d : decode cc pc = .ok (.goto off, 3)) (ht : (pc : Int) + off = (q : Int)) (kk : gSm l R nL G X k res V q L st) : gSm l R nL G X k res V pc L st := fun hk H locs ls hP hS hL => lv_goto C.1 C.2.1 d ht (kk hk H locs ls hP hS hL)
theorem s_istore_n (C : gC cc nL own G X) {j : Fin 4} {i : Nat} {x : Int32} {L' : List (Nat × Value)} (d : decode cc pc = .ok (.istore_n j, 1)) (hq : pc + 1 = q) (hi : (j : Nat) = i) (hn : i < nL) (hl : (i, Value.int x) :: L.filter (fun r => !(r.1 == i) && !(r.1 + 1 == i && r.2.category == 2)) = L') (kk : gSm l R nL G X k res V q L' st) : gSm l R nL G X k res V pc L (Value.int x :: st) := by
  subst hq
  exact fun hk H locs ls hP hS hL => lv_istore_n C.1 C.2.1 d hi hL hn hl (fun ls' hL' => kk hk H locs ls' hP hS hL')
theorem s_istore (C : gC cc nL own G X) {i : Nat} {x : Int32} {L' : List (Nat × Value)} (d : decode cc pc = .ok (.istore i, 2)) (hq : pc + 2 = q) (hn : i < nL) (hl : (i, Value.int x) :: L.filter (fun r => !(r.1 == i) && !(r.1 + 1 == i && r.2.category == 2)) = L') (kk : gSm l R nL G X k res V q L' st) : gSm l R nL G X k res V pc L (Value.int x :: st) := by
  subst hq
  exact fun hk H locs ls hP hS hL => lv_istore C.1 C.2.1 d hL hn hl (fun ls' hL' => kk hk H locs ls' hP hS hL')
theorem s_astore_n (C : gC cc nL own G X) {j : Fin 4} {i : Nat} {x : Nat} {L' : List (Nat × Value)} (d : decode cc pc = .ok (.astore_n j, 1)) (hq : pc + 1 = q) (hi : (j : Nat) = i) (hn : i < nL) (hl : (i, Value.ref x) :: L.filter (fun r => !(r.1 == i) && !(r.1 + 1 == i && r.2.category == 2)) = L') (kk : gSm l R nL G X k res V q L' st) : gSm l R nL G X k res V pc L (Value.ref x :: st) := by
  subst hq
  exact fun hk H locs ls hP hS hL => lv_astore_n C.1 C.2.1 d hi hL hn hl (fun ls' hL' => kk hk H locs ls' hP hS hL')
theorem s_astore (C : gC cc nL own G X) {i : Nat} {x : Nat} {L' : List (Nat × Value)} (d : decode cc pc = .ok (.astore i, 2)) (hq : pc + 2 = q) (hn : i < nL) (hl : (i, Value.ref x) :: L.filter (fun r => !(r.1 == i) && !(r.1 + 1 == i && r.2.category == 2)) = L') (kk : gSm l R nL G X k res V q L' st) : gSm l R nL G X k res V pc L (Value.ref x :: st) := by
  subst hq
  exact fun hk H locs ls hP hS hL => lv_astore C.1 C.2.1 d hL hn hl (fun ls' hL' => kk hk H locs ls' hP hS hL')
theorem s_iinc (C : gC cc nL own G X) {i : Nat} {n : Int} {x v w : Int32} {L' : List (Nat × Value)} (p : Nat) (d : decode cc pc = .ok (.iinc i n, 3)) (hq : pc + 3 = q) (hk : L[p]? = some (i, .int x)) (hw : Int32.ofInt n = w) (hv : x + w = v) (hn : i < nL) (hl : (i, Value.int v) :: L.filter (fun r => !(r.1 == i) && !(r.1 + 1 == i && r.2.category == 2)) = L') (kk : gSm l R nL G X k res V q L' st) : gSm l R nL G X k res V pc L st := by
  subst hq
  exact fun hk' H locs ls hP hS hL => lv_iinc C.1 C.2.1 d hL hk (by rw [hw]; exact hv) hn hl (fun ls' hL' => kk hk' H locs ls' hP hS hL')
theorem s_sub {L' : List (Nat × Value)} (ks : List Nat) (hl : lv_pick L ks = L') (kk : gSm l R nL G X k res V pc L' st) : gSm l R nL G X k res V pc L st := fun hk H locs ls hP hS hL => kk hk H locs ls hP hS (lv_sub hL ks hl)
theorem s_none {res : α} : gSm l R nL G X none res V pc L st := fun hk => by cases hk
theorem s_if_eq (C : gC cc nL own G X) {x : Int32} {k1 k2 : Option α} {off : Int} {tgt : Nat} {hD : Decidable (x = 0)} (d : decode cc pc = .ok (.ifCond .eq off, 3)) (ht : (pc : Int) + off = (tgt : Int)) (hq : pc + 3 = q) (kt : x = 0 → gSm l R nL G X k1 res V tgt L st) (kf : ¬ (x = 0) → gSm l R nL G X k2 res V q L st) : gSm l R nL G X (@ite _ (x = 0) hD k1 k2) res V pc L (.int x :: st) := by
  subst hq
  exact fun hk H locs ls hP hS hL => lv_if_eq C.1 C.2.1 d ht (fun c => kt c (by rw [if_pos c] at hk; exact hk) H locs ls hP hS hL) (fun c => kf c (by rw [if_neg c] at hk; exact hk) H locs ls hP hS hL)
theorem s_icmp_eq (C : gC cc nL own G X) {x y : Int32} {k1 k2 : Option α} {off : Int} {tgt : Nat} {hD : Decidable (x = y)} (d : decode cc pc = .ok (.if_icmp .eq off, 3)) (ht : (pc : Int) + off = (tgt : Int)) (hq : pc + 3 = q) (kt : x = y → gSm l R nL G X k1 res V tgt L st) (kf : ¬ (x = y) → gSm l R nL G X k2 res V q L st) : gSm l R nL G X (@ite _ (x = y) hD k1 k2) res V pc L (.int y :: .int x :: st) := by
  subst hq
  exact fun hk H locs ls hP hS hL => lv_icmp_eq C.1 C.2.1 d ht (fun c => kt c (by rw [if_pos c] at hk; exact hk) H locs ls hP hS hL) (fun c => kf c (by rw [if_neg c] at hk; exact hk) H locs ls hP hS hL)
theorem s_if_ne (C : gC cc nL own G X) {x : Int32} {k1 k2 : Option α} {off : Int} {tgt : Nat} {hD : Decidable (x = 0)} (d : decode cc pc = .ok (.ifCond .ne off, 3)) (ht : (pc : Int) + off = (tgt : Int)) (hq : pc + 3 = q) (kf : x = 0 → gSm l R nL G X k1 res V q L st) (kt : ¬ (x = 0) → gSm l R nL G X k2 res V tgt L st) : gSm l R nL G X (@ite _ (x = 0) hD k1 k2) res V pc L (.int x :: st) := by
  subst hq
  exact fun hk H locs ls hP hS hL => lv_if_ne C.1 C.2.1 d ht (fun c => kt c (by rw [if_neg c] at hk; exact hk) H locs ls hP hS hL) (fun c => kf c (by rw [if_pos c] at hk; exact hk) H locs ls hP hS hL)
theorem s_icmp_ne (C : gC cc nL own G X) {x y : Int32} {k1 k2 : Option α} {off : Int} {tgt : Nat} {hD : Decidable (x = y)} (d : decode cc pc = .ok (.if_icmp .ne off, 3)) (ht : (pc : Int) + off = (tgt : Int)) (hq : pc + 3 = q) (kf : x = y → gSm l R nL G X k1 res V q L st) (kt : ¬ (x = y) → gSm l R nL G X k2 res V tgt L st) : gSm l R nL G X (@ite _ (x = y) hD k1 k2) res V pc L (.int y :: .int x :: st) := by
  subst hq
  exact fun hk H locs ls hP hS hL => lv_icmp_ne C.1 C.2.1 d ht (fun c => kt c (by rw [if_neg c] at hk; exact hk) H locs ls hP hS hL) (fun c => kf c (by rw [if_pos c] at hk; exact hk) H locs ls hP hS hL)
theorem s_if_lt (C : gC cc nL own G X) {x : Int32} {k1 k2 : Option α} {off : Int} {tgt : Nat} {hD : Decidable (x < 0)} (d : decode cc pc = .ok (.ifCond .lt off, 3)) (ht : (pc : Int) + off = (tgt : Int)) (hq : pc + 3 = q) (kt : x < 0 → gSm l R nL G X k1 res V tgt L st) (kf : ¬ (x < 0) → gSm l R nL G X k2 res V q L st) : gSm l R nL G X (@ite _ (x < 0) hD k1 k2) res V pc L (.int x :: st) := by
  subst hq
  exact fun hk H locs ls hP hS hL => lv_if_lt C.1 C.2.1 d ht (fun c => kt c (by rw [if_pos c] at hk; exact hk) H locs ls hP hS hL) (fun c => kf c (by rw [if_neg c] at hk; exact hk) H locs ls hP hS hL)
theorem s_icmp_lt (C : gC cc nL own G X) {x y : Int32} {k1 k2 : Option α} {off : Int} {tgt : Nat} {hD : Decidable (x < y)} (d : decode cc pc = .ok (.if_icmp .lt off, 3)) (ht : (pc : Int) + off = (tgt : Int)) (hq : pc + 3 = q) (kt : x < y → gSm l R nL G X k1 res V tgt L st) (kf : ¬ (x < y) → gSm l R nL G X k2 res V q L st) : gSm l R nL G X (@ite _ (x < y) hD k1 k2) res V pc L (.int y :: .int x :: st) := by
  subst hq
  exact fun hk H locs ls hP hS hL => lv_icmp_lt C.1 C.2.1 d ht (fun c => kt c (by rw [if_pos c] at hk; exact hk) H locs ls hP hS hL) (fun c => kf c (by rw [if_neg c] at hk; exact hk) H locs ls hP hS hL)
theorem s_if_ge (C : gC cc nL own G X) {x : Int32} {k1 k2 : Option α} {off : Int} {tgt : Nat} {hD : Decidable (0 ≤ x)} (d : decode cc pc = .ok (.ifCond .ge off, 3)) (ht : (pc : Int) + off = (tgt : Int)) (hq : pc + 3 = q) (kt : 0 ≤ x → gSm l R nL G X k1 res V tgt L st) (kf : ¬ (0 ≤ x) → gSm l R nL G X k2 res V q L st) : gSm l R nL G X (@ite _ (0 ≤ x) hD k1 k2) res V pc L (.int x :: st) := by
  subst hq
  exact fun hk H locs ls hP hS hL => lv_if_ge C.1 C.2.1 d ht (fun c => kt c (by rw [if_pos c] at hk; exact hk) H locs ls hP hS hL) (fun c => kf c (by rw [if_neg c] at hk; exact hk) H locs ls hP hS hL)
theorem s_icmp_ge (C : gC cc nL own G X) {x y : Int32} {k1 k2 : Option α} {off : Int} {tgt : Nat} {hD : Decidable (y ≤ x)} (d : decode cc pc = .ok (.if_icmp .ge off, 3)) (ht : (pc : Int) + off = (tgt : Int)) (hq : pc + 3 = q) (kt : y ≤ x → gSm l R nL G X k1 res V tgt L st) (kf : ¬ (y ≤ x) → gSm l R nL G X k2 res V q L st) : gSm l R nL G X (@ite _ (y ≤ x) hD k1 k2) res V pc L (.int y :: .int x :: st) := by
  subst hq
  exact fun hk H locs ls hP hS hL => lv_icmp_ge C.1 C.2.1 d ht (fun c => kt c (by rw [if_pos c] at hk; exact hk) H locs ls hP hS hL) (fun c => kf c (by rw [if_neg c] at hk; exact hk) H locs ls hP hS hL)
theorem s_if_gt (C : gC cc nL own G X) {x : Int32} {k1 k2 : Option α} {off : Int} {tgt : Nat} {hD : Decidable (0 < x)} (d : decode cc pc = .ok (.ifCond .gt off, 3)) (ht : (pc : Int) + off = (tgt : Int)) (hq : pc + 3 = q) (kt : 0 < x → gSm l R nL G X k1 res V tgt L st) (kf : ¬ (0 < x) → gSm l R nL G X k2 res V q L st) : gSm l R nL G X (@ite _ (0 < x) hD k1 k2) res V pc L (.int x :: st) := by
  subst hq
  exact fun hk H locs ls hP hS hL => lv_if_gt C.1 C.2.1 d ht (fun c => kt c (by rw [if_pos c] at hk; exact hk) H locs ls hP hS hL) (fun c => kf c (by rw [if_neg c] at hk; exact hk) H locs ls hP hS hL)
theorem s_icmp_gt (C : gC cc nL own G X) {x y : Int32} {k1 k2 : Option α} {off : Int} {tgt : Nat} {hD : Decidable (y < x)} (d : decode cc pc = .ok (.if_icmp .gt off, 3)) (ht : (pc : Int) + off = (tgt : Int)) (hq : pc + 3 = q) (kt : y < x → gSm l R nL G X k1 res V tgt L st) (kf : ¬ (y < x) → gSm l R nL G X k2 res V q L st) : gSm l R nL G X (@ite _ (y < x) hD k1 k2) res V pc L (.int y :: .int x :: st) := by
  subst hq
  exact fun hk H locs ls hP hS hL => lv_icmp_gt C.1 C.2.1 d ht (fun c => kt c (by rw [if_pos c] at hk; exact hk) H locs ls hP hS hL) (fun c => kf c (by rw [if_neg c] at hk; exact hk) H locs ls hP hS hL)
theorem s_if_le (C : gC cc nL own G X) {x : Int32} {k1 k2 : Option α} {off : Int} {tgt : Nat} {hD : Decidable (x ≤ 0)} (d : decode cc pc = .ok (.ifCond .le off, 3)) (ht : (pc : Int) + off = (tgt : Int)) (hq : pc + 3 = q) (kt : x ≤ 0 → gSm l R nL G X k1 res V tgt L st) (kf : ¬ (x ≤ 0) → gSm l R nL G X k2 res V q L st) : gSm l R nL G X (@ite _ (x ≤ 0) hD k1 k2) res V pc L (.int x :: st) := by
  subst hq
  exact fun hk H locs ls hP hS hL => lv_if_le C.1 C.2.1 d ht (fun c => kt c (by rw [if_pos c] at hk; exact hk) H locs ls hP hS hL) (fun c => kf c (by rw [if_neg c] at hk; exact hk) H locs ls hP hS hL)
theorem s_icmp_le (C : gC cc nL own G X) {x y : Int32} {k1 k2 : Option α} {off : Int} {tgt : Nat} {hD : Decidable (x ≤ y)} (d : decode cc pc = .ok (.if_icmp .le off, 3)) (ht : (pc : Int) + off = (tgt : Int)) (hq : pc + 3 = q) (kt : x ≤ y → gSm l R nL G X k1 res V tgt L st) (kf : ¬ (x ≤ y) → gSm l R nL G X k2 res V q L st) : gSm l R nL G X (@ite _ (x ≤ y) hD k1 k2) res V pc L (.int y :: .int x :: st) := by
  subst hq
  exact fun hk H locs ls hP hS hL => lv_icmp_le C.1 C.2.1 d ht (fun c => kt c (by rw [if_pos c] at hk; exact hk) H locs ls hP hS hL) (fun c => kf c (by rw [if_neg c] at hk; exact hk) H locs ls hP hS hL)
theorem s_case {c : Prop} {hD : Decidable c} {k1 k2 : Option α} (kt : c → gSm l R nL G X k1 res V pc L st) (kf : ¬ c → gSm l R nL G X k2 res V pc L st) : gSm l R nL G X (@ite _ c hD k1 k2) res V pc L st := by
  intro hk
  by_cases h : c
  · exact kt h (by rw [if_pos h] at hk; exact hk)
  · exact kf h (by rw [if_neg h] at hk; exact hk)
theorem s_tin (C : gC cc nL own G X) {dflt lo hi : Int} {offs : Array Int} {len : Nat} {x c : Int32} {off : Int} (hx : x = c) (d : decode cc pc = .ok (.tableswitch dflt lo hi offs, len)) (h1 : ¬ c.toInt < lo) (h2 : ¬ hi < c.toInt) (ho : offs[(c.toInt - lo).toNat]? = some off) (ht : (pc : Int) + off = (q : Int)) (kk : gSm l R nL G X k res V q L st) : gSm l R nL G X k res V pc L (.int x :: st) := by
  subst hx
  exact fun hk H locs ls hP hS hL => lv_tableIn C.1 C.2.1 d h1 h2 ho ht (kk hk H locs ls hP hS hL)
theorem s_tout (C : gC cc nL own G X) {dflt lo hi : Int} {offs : Array Int} {len : Nat} {x : Int32} (d : decode cc pc = .ok (.tableswitch dflt lo hi offs, len)) (h : x.toInt < lo ∨ hi < x.toInt) (ht : (pc : Int) + dflt = (q : Int)) (kk : gSm l R nL G X k res V q L st) : gSm l R nL G X k res V pc L (.int x :: st) :=
  fun hk H locs ls hP hS hL => lv_tableOut C.1 C.2.1 d h ht (kk hk H locs ls hP hS hL)
theorem s_look (C : gC cc nL own G X) {dflt : Int} {ps : Array (Int × Int)} {len : Nat} {x : Int32} {off : Int} (d : decode cc pc = .ok (.lookupswitch dflt ps, len)) (hp : (ps.toList.zip (ps.toList.drop 1)).all (fun (a, next) => a.1 < next.1) = true) (ho : Op.lookupswitch.offset ps.toList dflt x.toInt = off) (ht : (pc : Int) + off = (q : Int)) (kk : gSm l R nL G X k res V q L st) : gSm l R nL G X k res V pc L (.int x :: st) :=
  fun hk H locs ls hP hS hL => lv_lookup C.1 C.2.1 d hp ho ht (kk hk H locs ls hP hS hL)
theorem s_idiv (C : gC cc nL own G X) {x y : Int32} (d : decode cc pc = .ok (.idiv, 1)) (hq : pc + 1 = q) (kk : gSm l R nL G X k res V q L (.int (x / y) :: st)) : gSm l R nL G X (gdv y k) res V pc L (.int y :: .int x :: st) := by
  subst hq
  intro hk
  unfold gdv at hk
  by_cases h : y = 0
  · rw [if_pos h] at hk; cases hk
  · rw [if_neg h] at hk
    exact fun H locs ls hP hS hL => lv_idiv C.1 C.2.1 d h (kk hk H locs ls hP hS hL)
theorem s_irem (C : gC cc nL own G X) {x y : Int32} (d : decode cc pc = .ok (.irem, 1)) (hq : pc + 1 = q) (kk : gSm l R nL G X k res V q L (.int (grm x y) :: st)) : gSm l R nL G X (gdv y k) res V pc L (.int y :: .int x :: st) := by
  subst hq
  intro hk
  unfold gdv at hk
  by_cases h : y = 0
  · rw [if_pos h] at hk; cases hk
  · rw [if_neg h] at hk
    exact fun H locs ls hP hS hL => lv_irem C.1 C.2.1 d h (kk hk H locs ls hP hS hL)
theorem s_lt {e : Int32} {f : Int32 → Option α} (kk : ∀ x, gSm l R nL G X (f x) res V pc L (.int x :: st)) : gSm l R nL G X (glt e f) res V pc L (.int e :: st) := kk e
theorem s_jn {γ : Type} {J : γ} {f : γ → Option α} (P : γ → Prop) (hJ : P J) (kk : ∀ J, P J → gSm l R nL G X (f J) res V pc L st) : gSm l R nL G X (gjn J f) res V pc L st := kk J hJ
theorem s_mmax (C : gC cc nL own G X) {i : Nat} {x y : Int32} (h1 : Cond.methodLink own i Lib.Math.max.name ∈ gB) (h2 : Cond.static Lib.Math.max.name ∈ gB) (h3 : Cond.initialized "java/lang/Math" ∈ gB) (h4 : Cond.code Lib.Math.max.name Lib.Math.max.code 2 (some .int) ∈ gB) (hR : 1 ≤ R.frames ∧ (st.map fun v => v.category).sum + 13 ≤ R.locals) (d : decode cc pc = .ok (.invokestatic i, 3)) (hq : pc + 3 = q) (kk : gSm l R nL G X k res V q L (.int (gmx x y) :: st)) : gSm l R nL G X k res V pc L (.int y :: .int x :: st) := by
  subst hq
  exact fun hk H locs ls hP hS hL => va_mmax C.1 C.2.1 (C.2.2.1.trans hL.1.symm) C.2.2.2.1 (C.2.2.2.2.1 _ h1) (C.2.2.2.2.1 _ h2) (C.2.2.2.2.1 _ h3) (C.2.2.2.2.1 _ h4) hR.1 hR.2 (Nat.zero_le _) (Nat.zero_le _) d (kk hk H locs ls hP hS hL)
theorem s_mmin (C : gC cc nL own G X) {i : Nat} {x y : Int32} (h1 : Cond.methodLink own i Lib.Math.min.name ∈ gB) (h2 : Cond.static Lib.Math.min.name ∈ gB) (h3 : Cond.initialized "java/lang/Math" ∈ gB) (h4 : Cond.code Lib.Math.min.name Lib.Math.min.code 2 (some .int) ∈ gB) (hR : 1 ≤ R.frames ∧ (st.map fun v => v.category).sum + 13 ≤ R.locals) (d : decode cc pc = .ok (.invokestatic i, 3)) (hq : pc + 3 = q) (kk : gSm l R nL G X k res V q L (.int (gmn x y) :: st)) : gSm l R nL G X k res V pc L (.int y :: .int x :: st) := by
  subst hq
  exact fun hk H locs ls hP hS hL => va_mmin C.1 C.2.1 (C.2.2.1.trans hL.1.symm) C.2.2.2.1 (C.2.2.2.2.1 _ h1) (C.2.2.2.2.1 _ h2) (C.2.2.2.2.1 _ h3) (C.2.2.2.2.1 _ h4) hR.1 hR.2 (Nat.zero_le _) (Nat.zero_le _) d (kk hk H locs ls hP hS hL)
end GR

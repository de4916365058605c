/-! ===== fields, rows, statics ===== -/
section GH
variable {α : Type} {l : Launch} {R : Room} {nL : Nat} {G : gG} {X : gX} {k : Option α} {res : α} {V : gV} {pc q : Nat} {L : List (Nat × Value)} {st : List Value} {cc : ByteArray} {own : String}
theorem gf_get (C : gC cc nL own G X) {C0 : String} {T : u_T} {N ci : Nat} {index : Nat} {c : Nat} {fl : List (Option Nat)} (hc : gCl[ci]? = some (C0, T, N)) (hin : ∀ w ∈ u_ws C0 T N, w ∈ gB) (j : Nat) (hj : j < N) (hl : gFL own index (T j).1 (T j).2.1 (T j).2.2.1) (hs : G.2.2.1 c = some (.inr (.inl (ci, fl)))) {o : Option Nat} (ho : fl[j]? = some o) (d : decode cc pc = .ok (.getfield index, 3)) (hq : pc + 3 = q)
    (kk : gSm l R nL G X k res V q L (gfv G.1 (V c) j o :: st)) : gSm l R nL G X k res V pc L (.ref (G.1 c) :: st) := by
  subst hq
  intro hk H locs ls hP hS hL
  have K := kk hk H locs ls hP hS hL
  obtain ⟨hx, hb, hml, hown, hts, hT, hZ⟩ := C
  obtain ⟨r, h1, cell, q1, q2, q3, q4⟩ := (gat_o hs).mp (hP c)
  have hr : r = (C0, T, N) := Option.some.inj (h1.symm.trans hc)
  subst hr
  obtain ⟨hSl, hfc, kC, hkC, hkind⟩ := hT.1.1 ci _ hc
  obtain ⟨cf, kf, fi, f, hi, hsl⟩ := hSl j hj
  have hst := (u_facts hfc hkC (u_lays hts hin hj) hi).1
  have hv : cell.slots[f.slot]? = some (gfv G.1 (V c) j o) := by
    rw [hsl, q4 j hj]
    simp [vp_V, gfs_get ho]
  rcases hl with hl | ⟨h, hl⟩
  · exact W.getf hx hb hown (hts _ hl) hi hst q1 (by rw [q3]; exact fun h => by cases h) hv rfl rfl d K
  · exact va_Wgetf hx hb hown (va_Nw.use rfl (hT.2.1 _ hl)) hi hst q1 (by rw [q3]; exact fun h => by cases h) hv rfl rfl d K
theorem gf_put (C : gC cc nL own G X) {C0 : String} {T : u_T} {N ci : Nat} {index : Nat} {c : Nat} {fl : List (Option Nat)} (hc : gCl[ci]? = some (C0, T, N)) (hin : ∀ w ∈ u_ws C0 T N, w ∈ gB) (ty0 : Nat → FieldType) (hty : ∀ k, k < N → parseFieldDescriptor (T k).2.2.1 = some (ty0 k)) (hnm : ∀ a, a < N → ∀ b, b < N → a ≠ b → (T a).2.1 ≠ (T b).2.1) (j : Nat) (hj : j < N) (hl : gFL own index (T j).1 (T j).2.1 (T j).2.2.1) (hfin : (T j).2.2.2 = false) (hs : G.2.2.1 c = some (.inr (.inl (ci, fl)))) (ho : fl[j]? = some none) {v : Int32} (hn : narrow (ty0 j) (.int v) = .int v) (hfit : fits (ty0 j) (.int v) = true) (d : decode cc pc = .ok (.putfield index, 3)) (hq : pc + 3 = q)
    {f : gV → Option α} (kk : ∀ V1, gSm l R nL G X (f V1) res V1 q L st) : gSm l R nL G X (gpu V c j v f) res V pc L (.int v :: .ref (G.1 c) :: st) := by
  subst hq
  intro hk H locs ls hP hS hL
  have K := fun H1 locs1 hP1 hS1 => kk (gup V c j v) hk H1 locs1 ls hP1 hS1 hL
  obtain ⟨hx, hb, hml, hown, hts, hT, hZ⟩ := C
  have hap := va_apart (own := own) hts hin ty0 hty hnm hT.1 hc
  obtain ⟨r, h1, cell, q1, q2, q3, q4⟩ := (gat_o hs).mp (hP c)
  have hr : r = (C0, T, N) := Option.some.inj (h1.symm.trans hc)
  subst hr
  obtain ⟨hSl, hfc, kC, hkC, hkind⟩ := hT.1.1 ci _ hc
  obtain ⟨cf, kf, fi, f, hi, hsl⟩ := hSl j hj
  have hlay := hts _ (hin _ (u_in_lay hj))
  unfold u_lay at hlay
  rw [if_neg (by rw [hfin]; decide)] at hlay
  have hst := (u_facts hfc hkC (u_lays hts hin hj) hi).1
  have h6 := u_store hfc hkC hkind hlay hi (hty j hj) hn hfit
  have hM : c < G.2.2.2.1 := hT.2.2.2 c _ hs
  have hlen : j < (gfs G.1 (V c) fl).length := by
    have := (List.getElem?_eq_some_iff.mp (gfs_get (ad := G.1) (f := V c) ho)).1
    exact this
  have key : ∀ H', H'[G.1 c]? = some (cell.setSlot f.slot (.int v)) → H'.size = H.size → (∀ q, q ≠ G.1 c → H'[q]? = H[q]?) → W X.1 l X.2.1 R (xs X) (xm X) (xa X) (xb X) (xM X) (xc X) H' (locs ++ [⟨G.1 c, f.slot⟩]) 0 0 (xQ X) (F0 (xm X) (pc + 3) ls st) := by
    intro H' e1 e2 e3
    rw [hsl] at e1 ⊢
    refine K H' _ (gP_one hP hT hM e3 (fun k hk => gup_row V j v hk) ((gat_o hs).mpr ⟨_, hc, ?_⟩)) (hS.put e2 e3 (gA_of hM))
    rw [← gfs_set ho]
    exact t_OB.to (V := updV (vp_V (gfs G.1 (V c) fl)) j (.int v)) ⟨_, e1, q2, q3, t_set q4 hap hj (.int v)⟩ (fun i _ => vp_updV_set hlen (.int v) i)
  rcases hl with hl | ⟨h, hl⟩
  · exact W.putK hx hb (f := f) ⟨hown, hts _ hl, ⟨_, _, _, hi⟩, hst⟩ (by rw [q2]; exact h6) q1 q3 (by rw [hsl]; exact k2_hasslot (q4 j hj)) rfl rfl d key
  · exact va_WputK hx hb (f := f) hown (va_Nw.use rfl (hT.2.1 _ hl)) hi hst (by rw [q2]; exact h6) q1 q3 (by rw [hsl]; exact k2_hasslot (q4 j hj)) rfl rfl d key
theorem s_iald (C : gC cc nL own G X) {c n : Nat} {i : Int32} (hs : G.2.2.1 c = some (.inl n)) (d : decode cc pc = .ok (.iaload, 1)) (hq : pc + 1 = q) {f : Int32 → Option α} (kk : ∀ x, gSm l R nL G X (f x) res V q L (.int x :: st)) : gSm l R nL G X (gal V c i n f) res V pc L (.int i :: .ref (G.1 c) :: st) := by
  subst hq
  intro hk H locs ls hP hS hL
  unfold gal at hk
  by_cases hi : i < 0 ∨ n ≤ i.toNatClampNeg
  · rw [if_pos hi] at hk; cases hk
  · rw [if_neg hi] at hk
    obtain ⟨cell, h1, h2, h3, h4, h5, h6⟩ := (gat_i hs).mp (hP c)
    exact W.iald C.1 C.2.1 h1 h2 h3 (gsz hi h4) (h6 _ (glt_of hi)) rfl rfl d (kk _ hk H locs ls hP hS hL)
theorem s_iast (C : gC cc nL own G X) {c n : Nat} {i v : Int32} (hs : G.2.2.1 c = some (.inl n)) (hM : c < G.2.2.2.1) (d : decode cc pc = .ok (.iastore, 1)) (hq : pc + 1 = q) {f : gV → Option α} (kk : ∀ V1, gSm l R nL G X (f V1) res V1 q L st) : gSm l R nL G X (gas V c i n v f) res V pc L (.int v :: .int i :: .ref (G.1 c) :: st) := by
  subst hq
  intro hk H locs ls hP hS hL
  unfold gas at hk
  by_cases hi : i < 0 ∨ n ≤ i.toNatClampNeg
  · rw [if_pos hi] at hk; cases hk
  · rw [if_neg hi] at hk
    obtain ⟨cell, h1, h2, h3, h4, h5, h6⟩ := (gat_i hs).mp (hP c)
    refine W.iast C.1 C.2.1 h1 h2 h3 (gsz hi h4) rfl rfl d (fun H' e1 e2 e3 => ?_)
    refine kk _ hk H' _ ls (gP_one hP C.2.2.2.2.2.1 hM e3 (fun k hk => gup_row V _ v hk) ((gat_i hs).mpr ⟨_, e1, h2, h3, by simpa [Cell.setSlot] using h4, by simpa [Cell.setSlot] using h5, fun j hj => ?_⟩)) (hS.put e2 e3 (gA_of hM)) hL
    have hlt := glt_of hi
    by_cases hji : j = i.toNatClampNeg
    · subst hji
      simp only [Cell.setSlot]
      rw [Array.getElem?_setIfInBounds_self_of_lt (Nat.lt_of_lt_of_le hlt h4), gup_at]
    · simp only [Cell.setSlot]
      rw [Array.getElem?_setIfInBounds_ne (fun q => hji q.symm), gup_ne V v (fun q => hji q.2)]
      exact h6 j hj
theorem gTy_ref (t : Nat) : (gTy t).isReference = true := by
  unfold gTy
  split <;> rfl
theorem s_aald (C : gC cc nL own G X) {c ty n b dd : Nat} {i : Int32} (hs : G.2.2.1 c = some (.inr (.inr (ty, n, b, dd)))) (d : decode cc pc = .ok (.aaload, 1)) (hq : pc + 1 = q) (kk : i.toNatClampNeg < n → gSm l R nL G X k res V q L (.ref (G.1 (b + dd * i.toNatClampNeg)) :: st)) : gSm l R nL G X (gar i n k) res V pc L (.int i :: .ref (G.1 c) :: st) := by
  subst hq
  intro hk H locs ls hP hS hL
  unfold gar at hk
  by_cases hi : i < 0 ∨ n ≤ i.toNatClampNeg
  · rw [if_pos hi] at hk; cases hk
  · rw [if_neg hi] at hk
    obtain ⟨cell, h1, h2, h3, h4, h5⟩ := (gat_r hs).mp (hP c)
    exact W.aald C.1 C.2.1 h1 h2 (gTy_ref ty) h3 (gsz hi (Nat.le_of_eq h4.symm)) (h5 _ (glt_of hi)) rfl rfl d (kk (glt_of hi) hk H locs ls hP hS hL)
theorem s_alen (C : gC cc nL own G X) {c n : Nat} (hs : G.2.2.1 c = some (.inl n)) {v : Int32} (hv : Int32.ofNat n = v) (d : decode cc pc = .ok (.arraylength, 1)) (hq : pc + 1 = q) (kk : gSm l R nL G X k res V q L (.int v :: st)) : gSm l R nL G X k res V pc L (.ref (G.1 c) :: st) := by
  subst hq
  intro hk H locs ls hP hS hL
  obtain ⟨cell, h1, h2, h3, h4, h5, h6⟩ := (gat_i hs).mp (hP c)
  exact W.alen (n := v) C.1 C.2.1 h1 h2 (h5.trans hv) rfl rfl d (kk hk H locs ls hP hS hL)
theorem s_alenr (C : gC cc nL own G X) {c ty n b dd : Nat} (hs : G.2.2.1 c = some (.inr (.inr (ty, n, b, dd)))) {v : Int32} (hv : Int32.ofNat n = v) (d : decode cc pc = .ok (.arraylength, 1)) (hq : pc + 1 = q) (kk : gSm l R nL G X k res V q L (.int v :: st)) : gSm l R nL G X k res V pc L (.ref (G.1 c) :: st) := by
  subst hq
  intro hk H locs ls hP hS hL
  obtain ⟨cell, h1, h2, h3, h4, h5⟩ := (gat_r hs).mp (hP c)
  exact W.alen (n := v) C.1 C.2.1 h1 h2 (by rw [h4]; exact hv) rfl rfl d (kk hk H locs ls hP hS hL)
theorem s_ifnn (C : gC cc nL own G X) {x : Nat} {off : Int} (d : decode cc pc = .ok (.ifnonnull off, 3)) (ht : (pc : Int) + off = (q : Int)) (kk : gSm l R nL G X k res V q L st) : gSm l R nL G X k res V pc L (.ref x :: st) := fun hk H locs ls hP hS hL => lv_ifnonnull C.1 C.2.1 d ht (kk hk H locs ls hP hS hL)
theorem s_ifn (C : gC cc nL own G X) {x : Nat} {off : Int} (d : decode cc pc = .ok (.ifnull off, 3)) (hq : pc + 3 = q) (kk : gSm l R nL G X k res V q L st) : gSm l R nL G X k res V pc L (.ref x :: st) := by
  subst hq
  exact fun hk H locs ls hP hS hL => lv_ifnull C.1 C.2.1 d (kk hk H locs ls hP hS hL)
theorem s_gets (C : gC cc nL own G X) {A0 n : String} {c index : Nat} (hm : (A0, n, c) ∈ G.2.2.2.2) (hl : gFL own index A0 n "[I") (d : decode cc pc = .ok (.getstatic index, 3)) (hq : pc + 3 = q) (kk : gSm l R nL G X k res V q L (.ref (G.1 c) :: st)) : gSm l R nL G X k res V pc L st := by
  subst hq
  intro hk H locs ls hP hS hL
  have hz := C.2.2.2.2.2.2 _ hm
  rcases hl with hl | ⟨h, hl⟩
  · exact va_gets C.1 C.2.1 hz hS C.2.2.2.1 (C.2.2.2.2.1 _ hl) (fun _ h => h) d (kk hk H locs ls hP hS hL)
  · exact va_getsN C.1 C.2.1 hz hS C.2.2.2.1 (va_Nw.use rfl (C.2.2.2.2.2.1.2.1 _ hl)) (fun _ h => h) d (kk hk H locs ls hP hS hL)
theorem gcl_int {z : Int32} (hz : ¬ z < 0) : z.toInt = (z.toNatClampNeg : Int) := by
  have hz0 : (0 : Int) ≤ z.toInt := by
    have := Int32.not_lt.mp hz
    simpa using Int32.le_iff_toInt_le.mp this
  show z.toInt = ((z.toInt.toNat : Nat) : Int)
  omega
theorem s_copy (C : gC cc nL own G X) {cf n0 ct n1 : Nat} {i j n : Int32} {index : Nat} (h0 : G.2.2.1 cf = some (.inl n0)) (h1 : G.2.2.1 ct = some (.inl n1)) (hM : ct < G.2.2.2.1) (w1 : Cond.methodLink own index arraycopyName ∈ gB) (w2 : Cond.native arraycopyName ∈ gB) (w3 : Cond.static arraycopyName ∈ gB) (w4 : Cond.initialized "java/lang/System" ∈ gB) (hR : 1 ≤ R.frames ∧ (st.map fun v => v.category).sum + (nativeFrameWords "java/lang/System" "arraycopy" 5 + 11) ≤ R.locals) (d : decode cc pc = .ok (.invokestatic index, 3)) (hq : pc + 3 = q)
    {f : gV → Option α} (kk : ∀ V1, gSm l R nL G X (f V1) res V1 q L st) : gSm l R nL G X (gcp V cf n0 i ct n1 j n f) res V pc L (.int n :: .int j :: .ref (G.1 ct) :: .int i :: .ref (G.1 cf) :: st) := by
  subst hq
  intro hk H locs ls hP hS hL
  unfold gcp at hk
  by_cases hg : i < 0 ∨ j < 0 ∨ n < 0 ∨ n0 < i.toNatClampNeg + n.toNatClampNeg ∨ n1 < j.toNatClampNeg + n.toNatClampNeg
  · rw [if_pos hg] at hk; cases hk
  rw [if_neg hg] at hk
  have g1 : ¬ i < 0 := fun h => hg (Or.inl h)
  have g2 : ¬ j < 0 := fun h => hg (Or.inr (Or.inl h))
  have g3 : ¬ n < 0 := fun h => hg (Or.inr (Or.inr (Or.inl h)))
  have g4 : i.toNatClampNeg + n.toNatClampNeg ≤ n0 := Nat.not_lt.mp fun h => hg (Or.inr (Or.inr (Or.inr (Or.inl h))))
  have g5 : j.toNatClampNeg + n.toNatClampNeg ≤ n1 := Nat.not_lt.mp fun h => hg (Or.inr (Or.inr (Or.inr (Or.inr h))))
  have K := fun H1 locs1 hP1 hS1 => kk _ hk H1 locs1 ls hP1 hS1 hL
  obtain ⟨hx, hb, hml, hown, hts, hT, hZ⟩ := C
  obtain ⟨cs, a1, a2, a3, a4, a5, a6⟩ := (gat_i h0).mp (hP cf)
  obtain ⟨cd, b1, b2, b3, b4, b5, b6⟩ := (gat_i h1).mp (hP ct)
  obtain ⟨ks, hks, cms, hkks⟩ := a2.2
  obtain ⟨kd, hkd, cmd, hkkd⟩ := b2.2
  intro T hTH Y
  obtain ⟨vm', Y', step⟩ := Y.arraycopy hx hown (hts _ w1) (hts _ w2) (hts _ w3) (hts _ w4) (src := G.1 cf) (dst := G.1 ct) (cs := cs) (cd := cd) (srcPos := i) (destPos := j) (n := n) (by rw [hTH]; exact a1) (by rw [hTH]; exact b1) a2.1 b2.1 a3 b3 hks hkd hkks hkkd (by decide) g1 g2 g3 (by rw [gcl_int g1, gcl_int g3]; omega) (by rw [gcl_int g2, gcl_int g3]; omega)
    (fun vm₁ _ z hz => by
      have e : cs.slots.getD (i.toNatClampNeg + z) .null = .int (V cf (i.toNatClampNeg + z)) := by
        rw [Array.getD_eq_getD_getElem?, a6 _ (by omega)]
        rfl
      exact ⟨by rw [e]; rfl, by rw [e]; exact trivial⟩)
    (g := F0 (xm X) pc ls (.int n :: .int j :: .ref (G.1 ct) :: .int i :: .ref (G.1 cf) :: st)) rfl (by rw [hml]; exact hL.1) (rest := st) rfl (by rw [hb]; exact d) hR.1 (by have := hR.2; show 2 * 0 + _ + _ ≤ _; omega)
  have hl : G.1 ct < H.size := (Array.getElem?_eq_some_iff.mp b1).1
  have hheap : ((T.setVm vm').setCell (G.1 ct) (copied cs cd i j n)).heap = H.setIfInBounds (G.1 ct) (copied cs cd i j n) := by rw [← hTH]; rfl
  have oq : ∀ q : Nat, q ≠ G.1 ct → (H.setIfInBounds (G.1 ct) (copied cs cd i j n))[q]? = H[q]? := fun q hq => by simp [Array.getElem?_setIfInBounds, Ne.symm hq]
  have facts := Cell.storeRun_facts cd j.toNatClampNeg (cs.stretch i.toNatClampNeg n.toNatClampNeg)
  have hlen : (cs.stretch i.toNatClampNeg n.toNatClampNeg).length = n.toNatClampNeg := by simp [Cell.stretch]
  have gets := fun z => Cell.storeRun_get cd j.toNatClampNeg (cs.stretch i.toNatClampNeg n.toNatClampNeg) z (by rw [hlen]; omega)
  have e1 : copied cs cd i j n = cd.storeRun j.toNatClampNeg (cs.stretch i.toNatClampNeg n.toNatClampNeg) := rfl
  obtain ⟨t, z1, z2⟩ := K _ _ (gP_one hP hT hM oq (V1 := gcV V cf i.toNatClampNeg ct j.toNatClampNeg n.toNatClampNeg) (fun z hz => by funext w; exact if_neg (fun q => hz q.1)) ((gat_i h1).mpr ⟨copied cs cd i j n, by simp [Array.getElem?_setIfInBounds, hl], by rw [e1]; exact ⟨by rw [facts.2.1]; exact b2.1, by rw [facts.1]; exact b2.2⟩, by rw [e1, facts.2.1]; exact b3, by rw [e1, facts.2.2.1]; exact b4, by rw [e1, facts.2.2.1]; exact b5, fun z hz => by
      rw [e1, gets z, hlen]
      unfold gcV
      by_cases hh : j.toNatClampNeg ≤ z ∧ z < j.toNatClampNeg + n.toNatClampNeg
      · rw [if_pos hh, if_pos ⟨rfl, hh⟩]
        unfold Cell.stretch
        rw [List.getElem?_map, List.getElem?_range (by omega)]
        simp only [Option.map_some]
        rw [Array.getD_eq_getD_getElem?, a6 _ (by omega)]
        rfl
      · rw [if_neg hh, if_neg (fun q => hh q.2)]
        exact b6 z hz⟩)) ⟨by simp; exact hS.1, fun q g1 g2 => by
      rw [oq q (fun e => g2 (by rw [e]; exact gA_of hM))]
      exact hS.2.1 q g1 g2, fun q hq => by
      rcases List.mem_append.mp hq with h | h
      · exact hS.2.2 q h
      · obtain ⟨z, -, hz⟩ := List.mem_map.mp h
        rw [← hz]
        exact gA_of hM⟩ _ hheap Y'
  exact ⟨t, step t z1, z2⟩
end GH

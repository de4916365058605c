/-! ===== PURE: voices ===== -/
def saidC (rc : Nat → gV → Nat → Int32 → Int32 → Int32 → Int32 → Option (Int32 × gV)) (V9 : gV) (x6 x4 a3 x8 : Int32) : Option (Int32 × gV) := if x6 = 10 then (some ((a3 + (V9 97 2)), V9)) else (if x6 = 11 then (gbi (rc 0 V9 97 0 (V9 97 4) a3 x8) fun (x12 : Int32) (V13 : gV) => some ((x12 * 2), V13)) else (if x6 = 12 then (some ((a3 - (V9 97 3)), V9)) else (if x6 = 13 then (gbi (rc 0 V9 97 1 (V9 97 4) a3 x8) fun (x16 : Int32) (V17 : gV) => gbi (rc 0 V17 97 2 (V17 97 4) a3 x8) fun (x18 : Int32) (V19 : gV) => some ((x16 ^^^ x18), V19)) else (if x6 = 20 then (gbi (rc 0 V9 97 0 x4 a3 x8) fun (x21 : Int32) (V22 : gV) => some ((x21 * 3), V22)) else (if x6 = 30 then (gbi (rc 0 V9 97 1 x4 a3 x8) fun (x24 : Int32) (V25 : gV) => gbi (rc 0 V25 97 2 (V25 97 4) 1 x8) fun (x26 : Int32) (V27 : gV) => some ((x24 - x26), V27)) else (if x6 = 40 then (gbi (rc 0 V9 97 2 x4 a3 x8) fun (x29 : Int32) (V30 : gV) => some ((-x29), V30)) else (if x6 = 50 then (gbi (rc 0 V9 97 3 x4 a3 x8) fun (x32 : Int32) (V33 : gV) => gbi (rc 0 V33 97 0 (V33 97 4) 2 x8) fun (x34 : Int32) (V35 : gV) => some ((x32 - x34), V35)) else (if x6 = 60 then (gbi (rc 0 V9 97 1 x4 (a3 + 1) x8) fun (x37 : Int32) (V38 : gV) => some (x37, V38)) else (if x6 = 70 then (gbi (rc 0 V9 97 2 x4 a3 x8) fun (x40 : Int32) (V41 : gV) => some ((x40 ^^^ (V41 97 2)), V41)) else (if x6 = 71 then (gbi (rc 0 V9 97 1 (V9 97 4) a3 x8) fun (x43 : Int32) (V44 : gV) => gbi (rc 0 V44 97 3 x4 a3 x8) fun (x45 : Int32) (V46 : gV) => some ((x43 - x45), V46)) else (some (0, V9))))))))))))
def bodT (a k : Nat) : Nat := ([10, 11, 12, 13, 20, 0, 0, 0, 0, 30, 0, 0, 0, 0, 40, 0, 0, 0, 0, 50, 0, 60, 0, 0, 0, 0, 70, 71] : List Nat).getD (4 * k + a) 0
def ownT (a k : Nat) : Nat := ([0, 0, 0, 0, 1, 0, 0, 0, 0, 2, 0, 0, 0, 0, 3, 0, 1, 0, 0, 4, 0, 5, 0, 0, 0, 0, 6, 6] : List Nat).getD (4 * k + a) 0
theorem V0X_body : ∀ a, a < 4 → ∀ k, k < 7 → V0X 115 (4 * k + a) = nI (bodT a k) ∧ ownT a k < 7 ∧ ownT a (ownT a k) = ownT a k ∧ bodT a k < 100 ∧ (bodT a k = 0 → ownT a k = ownT a (k - 3)) ∧ (¬ bodT a k = 0 → ownT a k = k) ∧ ownT a 0 = 0 := by decide +kernel
theorem kwb_L {V : gV} (h2 : V 112 = V0X 112) (h5 : V 115 = V0X 115) {a : Nat} (ha : a < 4) : ∀ (n k i f : Nat), k < n → k < 7 → i + k < 7 → k + 1 < f → fX5_kindWithBody_L1 (nI a) f V (nI k) (nI i) = some (nI (ownT a k), V) := by
  intro n
  induction n with
  | zero =>
    intro k i f h
    exact absurd h (by omega)
  | succ n ih =>
    intro k i f h1 hk hi hf
    obtain ⟨f, rfl⟩ : ∃ f', f = f' + 1 := ⟨f - 1, by omega⟩
    obtain ⟨b1, b2, b3, b4, b5, b6, b7⟩ := V0X_body a ha k hk
    show fX5_kindWithBody_L1b _ _ V (nI k) (nI i) = _
    unfold fX5_kindWithBody_L1b
    rw [if_neg (show ¬ 7 ≤ nI i from nI_ge (b := 7) (by omega) (by decide))]
    by_cases h0 : k = 0
    · subst h0
      rw [if_pos (show nI 0 ≤ 0 by decide), b7]
    · rw [if_neg (nI_nle (by omega) (by omega)), show (4 : Int32) * nI k + nI a = nI (4 * k + a) by rw [show (4 : Int32) = nI 4 from rfl, pI_mul, pI_add], eX_at (4 * k + a) rfl (by omega) (by decide), gbi_some, h5, b1]
      by_cases hb : bodT a k = 0
      · rw [hb, if_pos (show nI 0 = 0 from rfl), eX_at k rfl (by omega) (by decide), gbi_some, h2, V0X_above k hk, if_neg h0, nI_1, b5 hb]
        exact ih (k - 3) (i + 1) f (by omega) (by omega) (by omega) (by omega)
      · rw [if_neg (nI_ne0 (by omega) (by omega)), b6 hb]
theorem said_open {V : gV} {a k e : Nat} {x : Int32} {rc : Nat → gV → Nat → Int32 → Int32 → Int32 → Int32 → Option (Int32 × gV)} (h2 : V 112 = V0X 112) (h5 : V 115 = V0X 115) (ha : a < 4) (hk : k < 7) (he : e ≤ 40) : fX5_said_B rc V 97 (nI a) (nI k) x (nI e) = gbv (fX5_begin V 97 (nI (bodT a (ownT a k)))) fun V9 => saidC rc V9 (nI (bodT a (ownT a k))) (V0X 112 (ownT a k)) x (nI (e + 1)) := by
  obtain ⟨-, o7, -⟩ := V0X_body a ha k hk
  obtain ⟨b1, -⟩ := V0X_body a ha (ownT a k) o7
  unfold fX5_said_B fX5_kindWithBody
  rw [if_pos (show nI e ≤ 40 from nI_le (b := 40) he (by decide)), show fX5_kindWithBody_L1 (nI a) gFu V (nI k) 0 = _ from kwb_L h2 h5 ha 7 k 0 gFu hk hk (by omega) (by unfold gFu; omega), gbi_some, eX_at (ownT a k) rfl o7 (by decide), gbi_some, show (4 : Int32) * nI (ownT a k) + nI a = nI (4 * ownT a k + a) by rw [show (4 : Int32) = nI 4 from rfl, pI_mul, pI_add], eX_at (4 * ownT a k + a) rfl (by omega) (by decide), gbi_some, h5, b1, glt_eq, h2, nI_1]
  rfl
/-- what both sides hold while a voice speaks -/
def Tr (VX0 VM0 : gV) (kd nu mm : Int32) (VX VM : gV) : Prop := (VX 97 2 = nu ∧ VX 97 3 = mm ∧ VX 97 4 = kd) ∧ (VM 0 22 = kd ∧ VM 0 23 = nu ∧ VM 0 24 = mm) ∧ (∃ n, n ≤ 40 ∧ VX 97 1 = nI n ∧ VM 0 21 = nI n ∧ ∀ k, k < n → VX 98 k = VM 11 k) ∧ (∀ x, x ≠ 97 → x ≠ 98 → VX x = VX0 x) ∧ (∀ c j, ¬ (c = 0 ∧ 21 ≤ j ∧ j ≤ 24) → c ≠ 11 → VM c j = VM0 c j) ∧ VX 112 = V0X 112 ∧ VX 115 = V0X 115
theorem vB {T : gV → gV → Prop} {f g : Option (Int32 × gV)} {k k' : Int32 → gV → Option (Int32 × gV)} (h : gEq T f g) (hk : ∀ r VX VM, T VX VM → gEq T (k r VX) (k' r VM)) : gEq T (gbi f k) (gbi g k') := by
  obtain ⟨r, VX, VM, rfl, rfl, h⟩ := h
  exact hk r VX VM h
theorem vR {T : gV → gV → Prop} {VX VM : gV} {r r' : Int32} (h : T VX VM) (e : r = r') : gEq T (some (r, VX)) (some (r', VM)) := ⟨r, VX, VM, rfl, by rw [e], h⟩
theorem gbi_eta (f : Option (Int32 × gV)) : (gbi f fun x V => some (x, V)) = f := by
  rcases f with _ | ⟨x, V⟩ <;> rfl
theorem vBeg {VX0 VM0 VX VM : gV} {kd nu mm b : Int32} {T : gV → gV → Prop} {k k' : gV → Option (Int32 × gV)} (h : Tr VX0 VM0 kd nu mm VX VM) (hk : ∀ VX VM, Tr VX0 VM0 kd nu mm VX VM → gEq T (k VX) (k' VM)) : gEq T (gbv (fX5_begin VX 97 b) k) (gbv (fX8_ran VM b) k') := by
  obtain ⟨⟨a1, a2, a3⟩, ⟨b1, b2, b3⟩, ⟨n, hn, n1, n2, n3⟩, f1, f2, s1, s2⟩ := h
  unfold fX5_begin fX8_ran
  simp only [Nat.reduceAdd, n1, n2]
  by_cases h40 : n = 40
  · subst h40
    rw [if_pos (show (40 : Int32) ≤ nI 40 by decide), if_pos (show (40 : Int32) ≤ nI 40 by decide), gbv_some, gbv_some]
    exact hk VX VM ⟨⟨a1, a2, a3⟩, ⟨b1, b2, b3⟩, ⟨40, hn, n1, n2, n3⟩, f1, f2, s1, s2⟩
  · rw [if_neg (show ¬ 40 ≤ nI n from nI_ge (b := 40) (by omega) (by decide)), if_neg (show ¬ 40 ≤ nI n from nI_ge (b := 40) (by omega) (by decide)), eX_setAt n rfl (by omega) (by decide), gbv_some, gas_at n rfl (by omega) (by decide), gpu_eq, gpu_eq, gbv_some, gbv_some, gup_ne _ _ (by omega), gup_ne _ _ (by omega), n1, n2, nI_1]
    refine hk _ _ ⟨⟨?_, ?_, ?_⟩, ⟨?_, ?_, ?_⟩, ⟨n + 1, by omega, gup_at _ _ _ _, gup_at _ _ _ _, fun j hj => ?_⟩, fun x h1 h2 => ?_, fun c j h1 h2 => ?_, ?_, ?_⟩
    · rw [gup_ne _ _ (by omega), gup_ne _ _ (by omega)]; exact a1
    · rw [gup_ne _ _ (by omega), gup_ne _ _ (by omega)]; exact a2
    · rw [gup_ne _ _ (by omega), gup_ne _ _ (by omega)]; exact a3
    · rw [gup_ne _ _ (by omega), gup_ne _ _ (by omega)]; exact b1
    · rw [gup_ne _ _ (by omega), gup_ne _ _ (by omega)]; exact b2
    · rw [gup_ne _ _ (by omega), gup_ne _ _ (by omega)]; exact b3
    · rw [gup_row (c := 97) (a := 98) _ _ _ (by omega), gup_row (c := 0) (a := 11) _ _ _ (by omega)]
      by_cases hjn : j = n
      · subst hjn
        rw [gup_at, gup_at]
      · rw [gup_ne _ _ (by omega), gup_ne _ _ (by omega)]
        exact n3 j (by omega)
    · rw [gup_row _ _ _ h1, gup_row _ _ _ h2]; exact f1 x h1 h2
    · rw [gup_ne _ _ (by omega), gup_ne _ _ (by omega)]; exact f2 c j h1 h2
    · rw [gup_row _ _ _ (by omega), gup_row _ _ _ (by omega)]; exact s1
    · rw [gup_row _ _ _ (by omega), gup_row _ _ _ (by omega)]; exact s2
theorem fsa_own {V : gV} {a k e d : Nat} {x : Int32} (h2 : V 112 = V0X 112) (h5 : V 115 = V0X 115) (ha : a < 4) (hk : k < 7) (he : e ≤ 40) : fsaX5 (d + 1) 0 V 97 (nI a) (nI k) x (nI e) = fsaX5 (d + 1) 0 V 97 (nI a) (nI (ownT a k)) x (nI e) := by
  obtain ⟨-, o7, o2, -⟩ := V0X_body a ha k hk
  show fX5_said_B (fsaX5 d) V 97 _ _ _ _ = fX5_said_B (fsaX5 d) V 97 _ _ _ _
  rw [said_open h2 h5 ha hk he, said_open h2 h5 ha o7 he, o2]
theorem fla_up {V : gV} {k d : Nat} {x : Int32} (hk : k < 7) (h0 : k ≠ 0) (h1 : k ≠ 1) : flaX8 (d + 1) 0 V (nI k) x = flaX8 d 0 V (nI (k - 3)) x := by
  show fX8_lathersIn_B _ V (nI k) x = _
  unfold fX8_lathersIn_B
  rw [if_neg (nI_ne0 (by omega) (by omega)), if_neg (show ¬ nI k = 1 from fun q => h1 (pI_inj (b := 1) (by omega) (by decide) q)), m_above hk, gbi_some, if_neg h0, gbi_eta]
theorem fsh_up {V : gV} {k d : Nat} {x : Int32} (hk : k < 7) (h0 : k ≠ 0) (h1 : k ≠ 3) (h6 : k ≠ 6) : fshX8 (d + 1) 0 V (nI k) x = fshX8 d 0 V (nI (k - 3)) x := by
  show fX8_showsIn_B _ V (nI k) x = _
  unfold fX8_showsIn_B
  rw [if_neg (nI_ne0 (by omega) (by omega)), if_neg (show ¬ nI k = 3 from fun q => h1 (pI_inj (b := 3) (by omega) (by decide) q)), if_neg (show ¬ nI k = 6 from fun q => h6 (pI_inj (b := 6) (by omega) (by decide) q)), m_above hk, gbi_some, if_neg h0, gbi_eta]
theorem fwe_up {V : gV} {k d : Nat} {x : Int32} (hk : k < 7) (h0 : k ≠ 0) (h1 : k ≠ 2) (h6 : k ≠ 5) : fweX8 (d + 1) 0 V (nI k) x = fweX8 d 0 V (nI (k - 3)) x := by
  show fX8_wearsIn_B _ V (nI k) x = _
  unfold fX8_wearsIn_B
  rw [if_neg (nI_ne0 (by omega) (by omega)), if_neg (show ¬ nI k = 2 from fun q => h1 (pI_inj (b := 2) (by omega) (by decide) q)), if_neg (show ¬ nI k = 5 from fun q => h6 (pI_inj (b := 5) (by omega) (by decide) q)), m_above hk, gbi_some, if_neg h0, gbi_eta]
theorem fsl_up {V : gV} {k d : Nat} {x : Int32} (hk : k < 7) (h0 : k ≠ 0) (h1 : k ≠ 4) (h6 : k ≠ 6) : fslX8 (d + 1) 0 V (nI k) x = fslX8 d 0 V (nI (k - 3)) x := by
  show fX8_slipsIn_B _ V (nI k) x = _
  unfold fX8_slipsIn_B
  rw [if_neg (nI_ne0 (by omega) (by omega)), if_neg (show ¬ nI k = 4 from fun q => h1 (pI_inj (b := 4) (by omega) (by decide) q)), if_neg (show ¬ nI k = 6 from fun q => h6 (pI_inj (b := 6) (by omega) (by decide) q)), m_above hk, gbi_some, if_neg h0, gbi_eta]
section VO
variable {VX0 VM0 : gV} {k0 : Nat} {nu mm : Int32}
theorem v_la0 {d dm e : Nat} {x : Int32} {VX VM : gV} (he : e ≤ 40) (h : Tr VX0 VM0 (nI k0) nu mm VX VM) : gEq (Tr VX0 VM0 (nI k0) nu mm) (fsaX5 (d + 1) 0 VX 97 (nI 0) (nI 0) x (nI e)) (flaX8 (dm + 1) 0 VM (nI 0) x) := by
  show gEq _ (fX5_said_B (fsaX5 d) VX 97 _ _ _ _) (fX8_lathersIn_B (flaX8 dm) VM _ _)
  rw [said_open h.2.2.2.2.2.1 h.2.2.2.2.2.2 (by decide) (by decide) he]
  unfold fX8_lathersIn_B
  rw [if_pos (show nI 0 = 0 from rfl)]
  refine vBeg h (fun VX VM h => vR h ?_)
  rw [h.1.1, h.2.1.2.1]
theorem v_la1 {d dm e : Nat} {x : Int32} {VX VM : gV} (he : e ≤ 39) (h : Tr VX0 VM0 (nI k0) nu mm VX VM) : gEq (Tr VX0 VM0 (nI k0) nu mm) (fsaX5 (d + 2) 0 VX 97 (nI 0) (nI 1) x (nI e)) (flaX8 (dm + 2) 0 VM (nI 1) x) := by
  show gEq _ (fX5_said_B (fsaX5 (d + 1)) VX 97 _ _ _ _) (fX8_lathersIn_B (flaX8 (dm + 1)) VM _ _)
  rw [said_open h.2.2.2.2.2.1 h.2.2.2.2.2.2 (by decide) (by decide) (by omega)]
  unfold fX8_lathersIn_B
  rw [if_neg (show ¬ nI 1 = 0 by decide), if_pos (show nI 1 = 1 from rfl)]
  refine vBeg h (fun VX VM h => ?_)
  show gEq _ (gbi (fsaX5 (d + 1) 0 VX 97 (nI 0) (nI 0) x (nI (e + 1))) fun r V => some (r * 3, V)) (gbi (flaX8 (dm + 1) 0 VM (nI 0) x) fun r V => some (r * 3, V))
  exact vB (v_la0 (by omega) h) (fun r VX VM h => vR h rfl)
theorem v_la {k d dm e : Nat} {x : Int32} {VX VM : gV} (hk : k < 7) (he : e ≤ 39) (h : Tr VX0 VM0 (nI k0) nu mm VX VM) : gEq (Tr VX0 VM0 (nI k0) nu mm) (fsaX5 (d + 2) 0 VX 97 (nI 0) (nI k) x (nI e)) (flaX8 (dm + 4) 0 VM (nI k) x) := by
  have hc : k = 0 ∨ k = 1 ∨ k = 2 ∨ k = 3 ∨ k = 4 ∨ k = 5 ∨ k = 6 := by omega
  have h2 := h.2.2.2.2.2.1
  have h5 := h.2.2.2.2.2.2
  rcases hc with rfl | rfl | rfl | rfl | rfl | rfl | rfl
  · exact v_la0 (by omega) h
  · exact v_la1 he h
  · rw [fsa_own h2 h5 (by decide) (by decide) (by omega), fla_up (by decide) (by decide) (by decide)]
    exact v_la0 (by omega) h
  · rw [fsa_own h2 h5 (by decide) (by decide) (by omega), fla_up (by decide) (by decide) (by decide)]
    exact v_la0 (by omega) h
  · rw [fsa_own h2 h5 (by decide) (by decide) (by omega), fla_up (by decide) (by decide) (by decide)]
    exact v_la1 he h
  · rw [fsa_own h2 h5 (by decide) (by decide) (by omega), fla_up (by decide) (by decide) (by decide), fla_up (by decide) (by decide) (by decide)]
    exact v_la0 (by omega) h
  · rw [fsa_own h2 h5 (by decide) (by decide) (by omega), fla_up (by decide) (by decide) (by decide), fla_up (by decide) (by decide) (by decide)]
    exact v_la0 (by omega) h
theorem v_sh0 {d dm e : Nat} {x : Int32} {VX VM : gV} (he : e ≤ 40) (h : Tr VX0 VM0 (nI k0) nu mm VX VM) : gEq (Tr VX0 VM0 (nI k0) nu mm) (fsaX5 (d + 1) 0 VX 97 (nI 2) (nI 0) x (nI e)) (fshX8 (dm + 1) 0 VM (nI 0) x) := by
  show gEq _ (fX5_said_B (fsaX5 d) VX 97 _ _ _ _) (fX8_showsIn_B (fshX8 dm) VM _ _)
  rw [said_open h.2.2.2.2.2.1 h.2.2.2.2.2.2 (by decide) (by decide) he]
  unfold fX8_showsIn_B
  rw [if_pos (show nI 0 = 0 from rfl)]
  refine vBeg h (fun VX VM h => vR h ?_)
  rw [h.1.2.1, h.2.1.2.2]
theorem v_sh3 {d dm e : Nat} {x : Int32} {VX VM : gV} (he : e ≤ 39) (h : Tr VX0 VM0 (nI k0) nu mm VX VM) : gEq (Tr VX0 VM0 (nI k0) nu mm) (fsaX5 (d + 2) 0 VX 97 (nI 2) (nI 3) x (nI e)) (fshX8 (dm + 2) 0 VM (nI 3) x) := by
  show gEq _ (fX5_said_B (fsaX5 (d + 1)) VX 97 _ _ _ _) (fX8_showsIn_B (fshX8 (dm + 1)) VM _ _)
  rw [said_open h.2.2.2.2.2.1 h.2.2.2.2.2.2 (by decide) (by decide) (by omega)]
  unfold fX8_showsIn_B
  rw [if_neg (show ¬ nI 3 = 0 by decide), if_pos (show nI 3 = 3 from rfl)]
  refine vBeg h (fun VX VM h => ?_)
  show gEq _ (gbi (fsaX5 (d + 1) 0 VX 97 (nI 2) (nI 0) x (nI (e + 1))) fun r V => some (-r, V)) (gbi (fshX8 (dm + 1) 0 VM (nI 0) x) fun r V => some (-r, V))
  exact vB (v_sh0 (by omega) h) (fun r VX VM h => vR h rfl)
theorem v_sh6 {d dm e : Nat} {x : Int32} {VX VM : gV} (he : e ≤ 38) (h : Tr VX0 VM0 (nI k0) nu mm VX VM) : gEq (Tr VX0 VM0 (nI k0) nu mm) (fsaX5 (d + 3) 0 VX 97 (nI 2) (nI 6) x (nI e)) (fshX8 (dm + 3) 0 VM (nI 6) x) := by
  show gEq _ (fX5_said_B (fsaX5 (d + 2)) VX 97 _ _ _ _) (fX8_showsIn_B (fshX8 (dm + 2)) VM _ _)
  rw [said_open h.2.2.2.2.2.1 h.2.2.2.2.2.2 (by decide) (by decide) (by omega)]
  unfold fX8_showsIn_B
  rw [if_neg (show ¬ nI 6 = 0 by decide), if_neg (show ¬ nI 6 = 3 by decide), if_pos (show nI 6 = 6 from rfl)]
  refine vBeg h (fun VX VM h => ?_)
  show gEq _ (gbi (fsaX5 (d + 2) 0 VX 97 (nI 2) (nI 3) x (nI (e + 1))) fun r V => some (r ^^^ V 97 2, V)) (gbi (fshX8 (dm + 2) 0 VM (nI 3) x) fun r V => some (r ^^^ V 0 23, V))
  refine vB (v_sh3 (by omega) h) (fun r VX VM h => vR h ?_)
  rw [h.1.1, h.2.1.2.1]
theorem v_sh {k d dm e : Nat} {x : Int32} {VX VM : gV} (hk : k < 7) (he : e ≤ 38) (h : Tr VX0 VM0 (nI k0) nu mm VX VM) : gEq (Tr VX0 VM0 (nI k0) nu mm) (fsaX5 (d + 3) 0 VX 97 (nI 2) (nI k) x (nI e)) (fshX8 (dm + 4) 0 VM (nI k) x) := by
  have hc : k = 0 ∨ k = 1 ∨ k = 2 ∨ k = 3 ∨ k = 4 ∨ k = 5 ∨ k = 6 := by omega
  have h2 := h.2.2.2.2.2.1
  have h5 := h.2.2.2.2.2.2
  rcases hc with rfl | rfl | rfl | rfl | rfl | rfl | rfl
  · exact v_sh0 (by omega) h
  · rw [fsa_own h2 h5 (by decide) (by decide) (by omega), fsh_up (by decide) (by decide) (by decide) (by decide)]
    exact v_sh0 (by omega) h
  · rw [fsa_own h2 h5 (by decide) (by decide) (by omega), fsh_up (by decide) (by decide) (by decide) (by decide)]
    exact v_sh0 (by omega) h
  · exact v_sh3 (by omega) h
  · rw [fsa_own h2 h5 (by decide) (by decide) (by omega), fsh_up (by decide) (by decide) (by decide) (by decide), fsh_up (by decide) (by decide) (by decide) (by decide)]
    exact v_sh0 (by omega) h
  · rw [fsa_own h2 h5 (by decide) (by decide) (by omega), fsh_up (by decide) (by decide) (by decide) (by decide), fsh_up (by decide) (by decide) (by decide) (by decide)]
    exact v_sh0 (by omega) h
  · exact v_sh6 he h
theorem v_we0 {d dm e : Nat} {x : Int32} {VX VM : gV} (h0 : k0 < 7) (he : e ≤ 38) (h : Tr VX0 VM0 (nI k0) nu mm VX VM) : gEq (Tr VX0 VM0 (nI k0) nu mm) (fsaX5 (d + 3) 0 VX 97 (nI 1) (nI 0) x (nI e)) (fweX8 (dm + 1) 0 VM (nI 0) x) := by
  show gEq _ (fX5_said_B (fsaX5 (d + 2)) VX 97 _ _ _ _) (fX8_wearsIn_B (fweX8 dm) VM _ _)
  rw [said_open h.2.2.2.2.2.1 h.2.2.2.2.2.2 (by decide) (by decide) (by omega)]
  unfold fX8_wearsIn_B
  rw [if_pos (show nI 0 = 0 from rfl)]
  refine vBeg h (fun VX VM h => ?_)
  rw [h.2.1.1]
  show gEq _ (gbi (fsaX5 (d + 2) 0 VX 97 0 (VX 97 4) x (nI (e + 1))) fun x V => some (x * 2, V)) _
  rw [h.1.2.2]
  exact vB (v_la (dm := 4) h0 (by omega) h) (fun r VX VM h => vR h rfl)
theorem v_we2 {d dm e : Nat} {x : Int32} {VX VM : gV} (h0 : k0 < 7) (he : e ≤ 37) (h : Tr VX0 VM0 (nI k0) nu mm VX VM) : gEq (Tr VX0 VM0 (nI k0) nu mm) (fsaX5 (d + 4) 0 VX 97 (nI 1) (nI 2) x (nI e)) (fweX8 (dm + 2) 0 VM (nI 2) x) := by
  show gEq _ (fX5_said_B (fsaX5 (d + 3)) VX 97 _ _ _ _) (fX8_wearsIn_B (fweX8 (dm + 1)) VM _ _)
  rw [said_open h.2.2.2.2.2.1 h.2.2.2.2.2.2 (by decide) (by decide) (by omega)]
  unfold fX8_wearsIn_B
  rw [if_neg (show ¬ nI 2 = 0 by decide), if_pos (show nI 2 = 2 from rfl)]
  refine vBeg h (fun VX VM h => ?_)
  show gEq _ (gbi (fsaX5 (d + 3) 0 VX 97 (nI 1) (nI 0) x (nI (e + 1))) fun r V => gbi (fsaX5 (d + 3) 0 V 97 (nI 2) (V 97 4) 1 (nI (e + 1))) fun r2 V => some (r - r2, V)) (gbi (fweX8 (dm + 1) 0 VM (nI 0) x) fun r V => gbi (fshX8 8 0 V (V 0 22) 1) fun r2 V => some (r - r2, V))
  refine vB (v_we0 h0 (by omega) h) (fun r VX VM h => ?_)
  rw [h.2.1.1, h.1.2.2]
  exact vB (v_sh (dm := 4) h0 (by omega) h) (fun r VX VM h => vR h rfl)
theorem v_we5 {d dm e : Nat} {x : Int32} {VX VM : gV} (h0 : k0 < 7) (he : e ≤ 36) (h : Tr VX0 VM0 (nI k0) nu mm VX VM) : gEq (Tr VX0 VM0 (nI k0) nu mm) (fsaX5 (d + 5) 0 VX 97 (nI 1) (nI 5) x (nI e)) (fweX8 (dm + 3) 0 VM (nI 5) x) := by
  show gEq _ (fX5_said_B (fsaX5 (d + 4)) VX 97 _ _ _ _) (fX8_wearsIn_B (fweX8 (dm + 2)) VM _ _)
  rw [said_open h.2.2.2.2.2.1 h.2.2.2.2.2.2 (by decide) (by decide) (by omega)]
  unfold fX8_wearsIn_B
  rw [if_neg (show ¬ nI 5 = 0 by decide), if_neg (show ¬ nI 5 = 2 by decide), if_pos (show nI 5 = 5 from rfl)]
  refine vBeg h (fun VX VM h => ?_)
  show gEq _ (gbi (fsaX5 (d + 4) 0 VX 97 (nI 1) (nI 2) (x + 1) (nI (e + 1))) fun r V => some (r, V)) (gbi (fweX8 (dm + 2) 0 VM (nI 2) (x + 1)) fun r V => some (r, V))
  exact vB (v_we2 h0 (by omega) h) (fun r VX VM h => vR h rfl)
theorem v_we {k d dm e : Nat} {x : Int32} {VX VM : gV} (h0 : k0 < 7) (hk : k < 7) (he : e ≤ 36) (h : Tr VX0 VM0 (nI k0) nu mm VX VM) : gEq (Tr VX0 VM0 (nI k0) nu mm) (fsaX5 (d + 5) 0 VX 97 (nI 1) (nI k) x (nI e)) (fweX8 (dm + 4) 0 VM (nI k) x) := by
  have hc : k = 0 ∨ k = 1 ∨ k = 2 ∨ k = 3 ∨ k = 4 ∨ k = 5 ∨ k = 6 := by omega
  have h2 := h.2.2.2.2.2.1
  have h5 := h.2.2.2.2.2.2
  rcases hc with rfl | rfl | rfl | rfl | rfl | rfl | rfl
  · exact v_we0 h0 (by omega) h
  · rw [fsa_own h2 h5 (by decide) (by decide) (by omega), fwe_up (by decide) (by decide) (by decide) (by decide)]
    exact v_we0 h0 (by omega) h
  · exact v_we2 h0 (by omega) h
  · rw [fsa_own h2 h5 (by decide) (by decide) (by omega), fwe_up (by decide) (by decide) (by decide) (by decide)]
    exact v_we0 h0 (by omega) h
  · rw [fsa_own h2 h5 (by decide) (by decide) (by omega), fwe_up (by decide) (by decide) (by decide) (by decide), fwe_up (by decide) (by decide) (by decide) (by decide)]
    exact v_we0 h0 (by omega) h
  · exact v_we5 h0 he h
  · rw [fsa_own h2 h5 (by decide) (by decide) (by omega), fwe_up (by decide) (by decide) (by decide) (by decide), fwe_up (by decide) (by decide) (by decide) (by decide)]
    exact v_we0 h0 (by omega) h
theorem v_sl0 {d dm e : Nat} {x : Int32} {VX VM : gV} (h0 : k0 < 7) (he : e ≤ 35) (h : Tr VX0 VM0 (nI k0) nu mm VX VM) : gEq (Tr VX0 VM0 (nI k0) nu mm) (fsaX5 (d + 6) 0 VX 97 (nI 3) (nI 0) x (nI e)) (fslX8 (dm + 1) 0 VM (nI 0) x) := by
  show gEq _ (fX5_said_B (fsaX5 (d + 5)) VX 97 _ _ _ _) (fX8_slipsIn_B (fslX8 dm) VM _ _)
  rw [said_open h.2.2.2.2.2.1 h.2.2.2.2.2.2 (by decide) (by decide) (by omega)]
  unfold fX8_slipsIn_B
  rw [if_pos (show nI 0 = 0 from rfl)]
  refine vBeg h (fun VX VM h => ?_)
  rw [h.2.1.1]
  show gEq _ (gbi (fsaX5 (d + 5) 0 VX 97 1 (VX 97 4) x (nI (e + 1))) fun x1 V => gbi (fsaX5 (d + 5) 0 V 97 2 (V 97 4) x (nI (e + 1))) fun x2 V => some (x1 ^^^ x2, V)) _
  rw [h.1.2.2]
  refine vB (v_we (dm := 4) h0 h0 (by omega) h) (fun r VX VM h => ?_)
  rw [h.2.1.1, h.1.2.2]
  exact vB (v_sh (dm := 4) h0 (by omega) h) (fun r VX VM h => vR h rfl)
theorem v_sl4 {d dm e : Nat} {x : Int32} {VX VM : gV} (h0 : k0 < 7) (he : e ≤ 34) (h : Tr VX0 VM0 (nI k0) nu mm VX VM) : gEq (Tr VX0 VM0 (nI k0) nu mm) (fsaX5 (d + 7) 0 VX 97 (nI 3) (nI 4) x (nI e)) (fslX8 (dm + 3) 0 VM (nI 4) x) := by
  show gEq _ (fX5_said_B (fsaX5 (d + 6)) VX 97 _ _ _ _) (fX8_slipsIn_B (fslX8 (dm + 2)) VM _ _)
  rw [said_open h.2.2.2.2.2.1 h.2.2.2.2.2.2 (by decide) (by decide) (by omega)]
  unfold fX8_slipsIn_B
  rw [if_neg (show ¬ nI 4 = 0 by decide), if_pos (show nI 4 = 4 from rfl)]
  have step : ∀ VX VM, Tr VX0 VM0 (nI k0) nu mm VX VM → gEq (Tr VX0 VM0 (nI k0) nu mm) (fsaX5 (d + 6) 0 VX 97 (nI 3) (nI 1) x (nI (e + 1))) (fslX8 (dm + 2) 0 VM (nI 1) x) := fun VX VM h => by
    rw [fsa_own h.2.2.2.2.2.1 h.2.2.2.2.2.2 (by decide) (by decide) (by omega), fsl_up (by decide) (by decide) (by decide) (by decide)]
    exact v_sl0 h0 (by omega) h
  refine vBeg h (fun VX VM h => ?_)
  show gEq _ (gbi (fsaX5 (d + 6) 0 VX 97 (nI 3) (nI 1) x (nI (e + 1))) fun r V => gbi (fsaX5 (d + 6) 0 V 97 (nI 0) (V 97 4) 2 (nI (e + 1))) fun r2 V => some (r - r2, V)) (gbi (fslX8 (dm + 2) 0 VM (nI 1) x) fun r V => gbi (flaX8 8 0 V (V 0 22) 2) fun r2 V => some (r - r2, V))
  refine vB (step VX VM h) (fun r VX VM h => ?_)
  rw [h.2.1.1, h.1.2.2]
  exact vB (v_la (dm := 4) h0 (by omega) h) (fun r VX VM h => vR h rfl)
theorem v_sl6 {d dm e : Nat} {x : Int32} {VX VM : gV} (h0 : k0 < 7) (he : e ≤ 34) (h : Tr VX0 VM0 (nI k0) nu mm VX VM) : gEq (Tr VX0 VM0 (nI k0) nu mm) (fsaX5 (d + 7) 0 VX 97 (nI 3) (nI 6) x (nI e)) (fslX8 (dm + 3) 0 VM (nI 6) x) := by
  show gEq _ (fX5_said_B (fsaX5 (d + 6)) VX 97 _ _ _ _) (fX8_slipsIn_B (fslX8 (dm + 2)) VM _ _)
  rw [said_open h.2.2.2.2.2.1 h.2.2.2.2.2.2 (by decide) (by decide) (by omega)]
  unfold fX8_slipsIn_B
  rw [if_neg (show ¬ nI 6 = 0 by decide), if_neg (show ¬ nI 6 = 4 by decide), if_pos (show nI 6 = 6 from rfl)]
  have step : ∀ VX VM, Tr VX0 VM0 (nI k0) nu mm VX VM → gEq (Tr VX0 VM0 (nI k0) nu mm) (fsaX5 (d + 6) 0 VX 97 (nI 3) (nI 3) x (nI (e + 1))) (fslX8 (dm + 2) 0 VM (nI 3) x) := fun VX VM h => by
    rw [fsa_own h.2.2.2.2.2.1 h.2.2.2.2.2.2 (by decide) (by decide) (by omega), fsl_up (by decide) (by decide) (by decide) (by decide)]
    exact v_sl0 h0 (by omega) h
  refine vBeg h (fun VX VM h => ?_)
  rw [h.2.1.1]
  show gEq _ (gbi (fsaX5 (d + 6) 0 VX 97 1 (VX 97 4) x (nI (e + 1))) fun x1 V => gbi (fsaX5 (d + 6) 0 V 97 3 (nI 3) x (nI (e + 1))) fun x2 V => some (x1 - x2, V)) _
  rw [h.1.2.2]
  exact vB (v_we (dm := 4) h0 h0 (by omega) h) (fun r VX VM h => vB (step VX VM h) (fun r VX VM h => vR h rfl))
theorem v_sl {k d dm e : Nat} {x : Int32} {VX VM : gV} (h0 : k0 < 7) (hk : k < 7) (he : e ≤ 34) (h : Tr VX0 VM0 (nI k0) nu mm VX VM) : gEq (Tr VX0 VM0 (nI k0) nu mm) (fsaX5 (d + 7) 0 VX 97 (nI 3) (nI k) x (nI e)) (fslX8 (dm + 4) 0 VM (nI k) x) := by
  have hc : k = 0 ∨ k = 1 ∨ k = 2 ∨ k = 3 ∨ k = 4 ∨ k = 5 ∨ k = 6 := by omega
  have h2 := h.2.2.2.2.2.1
  have h5 := h.2.2.2.2.2.2
  rcases hc with rfl | rfl | rfl | rfl | rfl | rfl | rfl
  · exact v_sl0 h0 (by omega) h
  · rw [fsa_own h2 h5 (by decide) (by decide) (by omega), fsl_up (by decide) (by decide) (by decide) (by decide)]
    exact v_sl0 h0 (by omega) h
  · rw [fsa_own h2 h5 (by decide) (by decide) (by omega), fsl_up (by decide) (by decide) (by decide) (by decide)]
    exact v_sl0 h0 (by omega) h
  · rw [fsa_own h2 h5 (by decide) (by decide) (by omega), fsl_up (by decide) (by decide) (by decide) (by decide)]
    exact v_sl0 h0 (by omega) h
  · exact v_sl4 h0 he h
  · rw [fsa_own h2 h5 (by decide) (by decide) (by omega), fsl_up (by decide) (by decide) (by decide) (by decide), fsl_up (by decide) (by decide) (by decide) (by decide)]
    exact v_sl0 h0 (by omega) h
  · exact v_sl6 h0 he h
end VO
theorem RW.voice {i : Nat} {VX VM VX' VM' : gV} {kd nu mm : Int32} {L : lW} {nh nc : Nat} (hR : RW i VX VM L nh nc) (h : Tr VX VM kd nu mm VX' VM') : RW i VX' VM' L nh nc := by
  obtain ⟨-, -, hn, f1, f2, -, -⟩ := h
  obtain ⟨hw, ⟨n, h1, h2, h3, h4, h5⟩, h6, h7, -, h12, h13, h14, h15⟩ := hR
  have m : ∀ c, c ≠ 0 → c ≠ 11 → VM' c = VM c := fun c c0 c1 => funext fun j => f2 c j (fun q => c0 q.1) c1
  refine ⟨?_, ⟨n, h1, by rw [f1 0 (by omega) (by omega)]; exact h2, by rw [f2 0 5 (by omega) (by omega)]; exact h3, by rw [f2 0 4 (by omega) (by omega)]; exact h4, fun q => ?_⟩, fun k hk => by rw [f1 103 (by omega) (by omega), m 5 (by omega) (by omega)]; exact h6 k hk, fun s hs => (h7 s hs).congr (f1 _ (by omega) (by omega)) (f1 _ (by omega) (by omega)) (m 6 (by omega) (by omega)) (m 7 (by omega) (by omega)) (m 8 (by omega) (by omega)), hn, (f1 112 (by omega) (by omega)).trans h12, (f1 113 (by omega) (by omega)).trans h13, (f1 114 (by omega) (by omega)).trans h14, (f1 115 (by omega) (by omega)).trans h15⟩
  · rw [m 1 (by omega) (by omega)]
    exact hw.congr (fun x a b _ _ => f1 x (by omega) (by omega))
  · obtain ⟨L', nh', nc', hw'⟩ := h5 q
    rw [m 2 (by omega) (by omega)]
    exact ⟨L', nh', nc', hw'.congr (fun x a b _ _ => f1 x (by omega) (by omega))⟩
theorem pr_voice {i : Nat} {VX VM : gV} {L : lW} {nh nc : Nat} (hR : RW i VX VM L nh nc) (a b c : Int32) : gEq (Rel0 (i + 6)) (fX7_voice VX a b c) (fX8_voice VM a b c) := by
  have h6 := hR.h6
  unfold fX7_voice fX8_voice fX5_speak
  simp only [Nat.reduceAdd, gbi_some, gbr_some, gbv_some, gpu_eq, glt_eq, gjn_eq, r1_0, r1_1, r1_2, r1_3, r1_4, r1_5, w1_0, w1_1, w1_2, w1_3, w1_4, w1_5]
  rw [d_isCake hR.ncX, dm_isCake hR.ncM]
  by_cases ha : 0 ≤ a ∧ a ≤ nI nc - 1
  · rw [if_pos ha, if_pos ha, g10, g10, d_within, d_in]
    by_cases hb : 0 ≤ b ∧ b ≤ 3
    · rw [if_pos hb, if_pos hb, g10, g10]
      obtain ⟨j, hj, rfl⟩ := rng (by omega) ha
      obtain ⟨p, hp, rfl⟩ := rngc (n := 3) (by decide) hb
      obtain ⟨c1, c2, -⟩ := hR.co.2.2.2.2.1 j hj
      obtain ⟨⟨k0, hk0, ek⟩, -⟩ := hR.co.2.1.2.2.2.2.2 j hj
      rw [x_cakeAt (by omega), gbr_some, m_its0 (by omega), gbi_some, m_its1 (by omega), gbi_some]
      have z : ∀ (V : gV) (k : Nat) (v : Int32), gup V 0 k v 1 = V 1 := fun V k v => gup_row _ _ _ (by decide)
      have zx : ∀ (V : gV) (k : Nat) (v : Int32), gup V 97 k v (1 + 18 + 2 * j) = V (1 + 18 + 2 * j) := fun V k v => gup_row _ _ _ (by omega)
      simp only [z, zx, c1, c2, ek, gup_at]
      have hT : Tr VX VM (nI k0) (nI j) (kM (VM 1) j) (gup (gup (gup (gup VX 97 1 0) 97 2 (nI j)) 97 3 (kM (VM 1) j)) 97 4 (nI k0)) (gup (gup (gup (gup VM 0 21 0) 0 22 (nI k0)) 0 23 (nI j)) 0 24 (kM (VM 1) j)) := by
        refine ⟨⟨?_, ?_, ?_⟩, ⟨?_, ?_, ?_⟩, ⟨0, by omega, ?_, ?_, fun k hk => absurd hk (by omega)⟩, fun x h1 h2 => ?_, fun c j h1 h2 => ?_, ?_, ?_⟩
        · rw [gup_ne _ _ (by omega), gup_ne _ _ (by omega), gup_at]
        · rw [gup_ne _ _ (by omega), gup_at]
        · rw [gup_at]
        · rw [gup_ne _ _ (by omega), gup_ne _ _ (by omega), gup_at]
        · rw [gup_ne _ _ (by omega), gup_at]
        · rw [gup_at]
        · rw [gup_ne _ _ (by omega), gup_ne _ _ (by omega), gup_ne _ _ (by omega), gup_at]; rfl
        · rw [gup_ne _ _ (by omega), gup_ne _ _ (by omega), gup_ne _ _ (by omega), gup_at]; rfl
        · rw [gup_row _ _ _ h1, gup_row _ _ _ h1, gup_row _ _ _ h1, gup_row _ _ _ h1]
        · rw [gup_ne _ _ (by omega), gup_ne _ _ (by omega), gup_ne _ _ (by omega), gup_ne _ _ (by omega)]
        · rw [gup_row _ _ _ (by omega), gup_row _ _ _ (by omega), gup_row _ _ _ (by omega), gup_row _ _ _ (by omega)]; exact hR.2.2.2.2.2.1
        · rw [gup_row _ _ _ (by omega), gup_row _ _ _ (by omega), gup_row _ _ _ (by omega), gup_row _ _ _ (by omega)]; exact hR.2.2.2.2.2.2.2.2
      have fin : ∀ f g, gEq (Tr VX VM (nI k0) (nI j) (kM (VM 1) j)) f g → gEq (Rel0 (i + 6)) f g := fun f g h => by
        obtain ⟨r, V1, V2, rfl, rfl, h⟩ := h
        exact (hR.voice h).done
      have e22 : gup (gup (gup (gup VM 0 21 0) 0 22 (nI k0)) 0 23 (nI j)) 0 24 (kM (VM 1) j) 0 22 = nI k0 := hT.2.1.1
      rw [e22]
      simp only [gbi_eta]
      have hpc : p = 0 ∨ p = 1 ∨ p = 2 ∨ p = 3 := by omega
      rcases hpc with rfl | rfl | rfl | rfl
      · rw [if_pos (show nI 0 = 0 from rfl)]
        exact fin _ _ (v_la (d := 48) (dm := 4) (e := 0) (by omega) (by omega) hT)
      · rw [if_neg (show ¬ nI 1 = 0 by decide), if_pos (show nI 1 = 1 from rfl)]
        exact fin _ _ (v_we (d := 45) (dm := 4) (e := 0) (by omega) (by omega) (by omega) hT)
      · rw [if_neg (show ¬ nI 2 = 0 by decide), if_neg (show ¬ nI 2 = 1 by decide), if_pos (show nI 2 = 2 from rfl)]
        exact fin _ _ (v_sh (d := 47) (dm := 4) (e := 0) (by omega) (by omega) hT)
      · rw [if_neg (show ¬ nI 3 = 0 by decide), if_neg (show ¬ nI 3 = 1 by decide), if_neg (show ¬ nI 3 = 2 by decide)]
        exact fin _ _ (v_sl (d := 43) (dm := 4) (e := 0) (by omega) (by omega) (by omega) hT)
    · rw [if_neg hb, if_neg hb, g00, g00]
      exact hR.e1
  · rw [if_neg ha, if_neg ha, g00, g00]
    exact hR.e1

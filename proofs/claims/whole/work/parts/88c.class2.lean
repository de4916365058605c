/-! ===== PURE: the class reads, whole ===== -/
theorem g10v {β : Type} (A B : Option β) : (if (1 : Int32) = 0 then A else B) = B := if_neg (by decide)
theorem g00v {β : Type} (A B : Option β) : (if (0 : Int32) = 0 then A else B) = A := if_pos rfl
theorem gbv_eta (f : Option gV) : (gbv f fun V => some V) = f := by
  rcases f with _ | V <;> rfl
theorem c_none {V0 V : gV} {bs nm : Nat → Int32} {len p : Nat} {l : List Int32} {b : Int32} (hE : CE V0 bs len nm) (hC : CS V0 V p l) (hn : ∀ i, i < 3 → ¬ nm i = b) : ∃ V', fX2_readName V 91 b = some V' ∧ CF V0 V' p := by
  have e4 : ∀ k, k < 3 → V 96 k = nm k := fun k hk => by rw [hC.1.1 _ (by omega) (by omega) (by omega)]; exact hE.2.2.2 k hk
  unfold fX2_readName
  have step : ∀ (f i : Nat), i < 3 → fX2_readName_L1 91 b (f + 1) V (nI i) = fX2_readName_L1 91 b f V (nI (i + 1)) := fun f i hi => by
    show fX2_readName_L1b _ _ _ V (nI i) = _
    unfold fX2_readName_L1b
    simp only [Nat.reduceAdd]
    rw [if_neg (show ¬ 3 ≤ nI i from nI_ge (b := 3) hi (by decide)), eX_at i rfl hi (by decide), gbi_some, e4 i hi, nI_1, if_neg (hn i hi)]
  rw [show gFu = 4996 + 1 + 1 + 1 + 1 from rfl, show (0 : Int32) = nI 0 from rfl, step _ 0 (by decide), step _ 1 (by decide), step _ 2 (by decide)]
  obtain ⟨V2, e2, q2⟩ := c_fail hC
  refine ⟨V2, ?_, q2⟩
  show fX2_readName_L1b _ _ _ V (nI 3) = _
  unfold fX2_readName_L1b
  rw [if_pos (show (3 : Int32) ≤ nI 3 by decide), e2, gbv_some]
theorem c_par {V0 : gV} {bs nm : Nat → Int32} {len : Nat} (hE : CE V0 bs len nm) (hnm : ∀ i, i < 3 → ¬ nm i = -1) : ∀ (d rk op p dc : Nat) (l : List Int32) (V : gV), rk ≤ 5 → op ≤ 5 → 6 - rk + 6 * (5 - op) ≤ d → 8 - rk + 8 * (5 - op) ≤ dc → p ≤ len → l.length ≤ p → CS V0 V p l → ∃ V', frdX2 dc 0 V 91 (nI rk) (nI op) = some V' ∧ cPost V0 l (sPar bs len nm d rk op p) V' := by
  have h50 := hE.2.1
  intro d
  induction d with
  | zero =>
    intro rk op p dc l V h1 h2 h3
    exact absurd h3 (by omega)
  | succ d ih =>
    intro rk op p dc l V h1 h2 h3 h4 hp hl hC
    obtain ⟨dc, rfl⟩ : ∃ f', dc = f' + 1 := ⟨dc - 1, by omega⟩
    have hpB : ∀ rk' op' p', p' ≤ len → pB len p' (sPar bs len nm d rk' op' p') := fun rk' op' p' hp' => sPar_B hnm d rk' op' p' hp'
    show ∃ V', fX2_readChain_B (frdX2 dc) V 91 (nI rk) (nI op) = _ ∧ _
    unfold fX2_readChain_B sPar
    by_cases hrk : rk ≤ 4
    · obtain ⟨V1, e1, q1⟩ := ih (rk + 1) op p dc l V (by omega) h2 (by omega) (by omega) hp hl hC
      obtain ⟨b1, b2, b3⟩ := hpB (rk + 1) op p hp
      rw [if_pos hrk, if_pos (show nI rk ≤ 4 from nI_le (b := 4) hrk (by decide)), nI_1, e1, gbv_some]
      by_cases ho : (sPar bs len nm d (rk + 1) op p).1 = true
      · have b4 := b3 ho
        unfold cPost at q1
        rw [if_pos ho] at q1
        rw [if_pos ho]
        have hf : cSub V0 bs len l (sPar bs len nm d (rk + 1) op) (fun V => frdX2 dc 0 V 91 (nI rk + 1) (nI op)) := fun p' l' V' w1 w2 w3 => by
          show ∃ V'', frdX2 dc 0 V' 91 (nI rk + 1) (nI op) = _ ∧ _
          rw [nI_1]
          exact ih (rk + 1) op p' dc (l ++ l') V' (by omega) h2 (by omega) (by omega) w1 w2 w3
        by_cases h2' : rk = 2
        · subst h2'
          rw [if_pos (show nI 2 = 2 from rfl), if_pos rfl]
          exact c_loop2 hE hrk (fun p' hp' => hpB _ _ p' hp') hf 1 gFu 0 _ _ V1 (by omega) (by unfold gFu; omega) b2 (by rw [List.length_append]; omega) q1
        · rw [if_neg (show ¬ nI rk = 2 from fun q => h2' (pI_inj (b := 2) (by omega) (by decide) q)), if_neg h2']
          exact c_loop1 hE hrk (fun p' hp' => hpB _ _ p' hp') hf 50 gFu 0 _ _ V1 (by omega) (by unfold gFu; omega) b2 (by rw [List.length_append]; omega) q1
      · unfold cPost at q1
        rw [if_neg ho] at q1
        rw [if_neg ho]
        have hF : fX2_readChain_L1 (frdX2 dc) 91 (nI rk) (nI op) gFu V1 0 = some V1 := by
          show fX2_readChain_L1b _ _ _ _ _ V1 0 = _
          unfold fX2_readChain_L1b
          rw [q1.2, if_pos (show 0 ≤ nI (sPar bs len nm d (rk + 1) op p).2.1 from nI_pos' (by omega)), ite_self]
        have hF2 : fX2_readChain_L2 (frdX2 dc) 91 (nI rk) (nI op) gFu V1 0 = some V1 := by
          show fX2_readChain_L2b _ _ _ _ _ V1 0 = _
          unfold fX2_readChain_L2b
          rw [q1.2, if_pos (show 0 ≤ nI (sPar bs len nm d (rk + 1) op p).2.1 from nI_pos' (by omega)), ite_self]
        rw [hF, hF2, ite_self]
        exact ⟨V1, rfl, cP_f q1⟩
    · obtain rfl : rk = 5 := by omega
      obtain ⟨dc, rfl⟩ : ∃ f', dc = f' + 1 := ⟨dc - 1, by omega⟩
      obtain ⟨dc, rfl⟩ : ∃ f', dc = f' + 1 := ⟨dc - 1, by omega⟩
      rw [if_neg hrk, if_neg (show ¬ nI 5 ≤ 4 by decide)]
      show ∃ V', (gbv (fX2_readOne_B (frdX2 (dc + 1)) V 91 (nI op)) fun V => some V) = _ ∧ _
      unfold fX2_readOne_B
      rw [c_next hE hC (by omega), gbi_some, d_within]
      by_cases hd : 48 ≤ pby bs len p ∧ pby bs len p ≤ 57
      · obtain ⟨p', w', e, q1, q2, q3⟩ := sNum_4 hd
        have hplt := dig_lt hd
        obtain ⟨V1, e1, r1⟩ := c_num hE (l := l) (by omega) 4 gFu 0 p 0 V (by omega) (by unfold gFu; omega) hp hC
        rw [if_pos hd, if_pos hd, g10v, show fX2_readNumber V 91 = _ from e1, gbv_some, gbv_some]
        exact ⟨V1, rfl, cP_t r1⟩
      · rw [if_neg hd, if_neg hd, g00v, gjn_eq]
        have open1 : ∀ (x : Int32), (gbv (frdX2 (dc + 1) 2 V 91 x (nI op + 1)) fun V10 => some V10) = gbv (fX2_readOpened_B (frdX2 dc) V 91 x (nI (op + 1))) fun V10 => some V10 := fun x => by rw [nI_1]; rfl
        by_cases h33 : pby bs len p = 33
        · have hplt : p < len := pby_lt (by rw [h33]; decide)
          rw [h33, if_pos rfl, if_pos rfl, open1]
          unfold fX2_readOpened_B
          by_cases ho5 : op = 5
          · subst ho5
            obtain ⟨V1, e1, q1⟩ := c_fail hC
            rw [if_pos rfl, if_neg (show ¬ nI (5 + 1) ≤ 5 by decide), e1, gbv_some, gbv_some, gbv_some]
            exact ⟨V1, rfl, cP_f q1⟩
          · obtain ⟨V1, e1, q1⟩ := ih 5 (op + 1) (p + 1) (dc + 1) l _ (by omega) (by omega) (by omega) (by omega) (by omega) (by omega) hC.step
            obtain ⟨b1, b2, b3⟩ := hpB 5 (op + 1) (p + 1) (by omega)
            have e1' : frdX2 dc 1 (gup V 91 4 (V 91 4 + 1)) 91 (nI (op + 1)) 0 = some V1 := by
              have : frdX2 (dc + 1) 0 (gup V 91 4 (V 91 4 + 1)) 91 (nI 5) (nI (op + 1)) = (gbv (frdX2 dc 1 (gup V 91 4 (V 91 4 + 1)) 91 (nI (op + 1)) 0) fun V34 => some V34) := by
                show fX2_readChain_B (frdX2 dc) _ 91 (nI 5) (nI (op + 1)) = _
                unfold fX2_readChain_B
                rw [if_neg (show ¬ nI 5 ≤ 4 by decide)]
              rw [this, gbv_eta] at e1
              exact e1
            rw [if_neg ho5, if_pos (show nI (op + 1) ≤ 5 from nI_le (b := 5) (by omega) (by decide)), gpu_eq, if_pos rfl, e1', gbv_some]
            by_cases ho : (sPar bs len nm d 5 (op + 1) (p + 1)).1 = true
            · have b4 := b3 ho
              unfold cPost at q1
              rw [if_pos ho] at q1
              obtain ⟨V2, e2, q2⟩ := c_add (s := -33) q1 (by rw [List.length_append]; omega)
              rw [if_pos ho, show fX4_add V1 (91 + 1) (-33) = _ from e2, gbv_some, gbv_some, gbv_some]
              rw [List.append_assoc] at q2
              exact ⟨V2, rfl, cP_t q2⟩
            · unfold cPost at q1
              rw [if_neg ho] at q1
              obtain ⟨V2, e2, q2⟩ := c_addF (s := -33) q1
              rw [if_neg ho, show fX4_add V1 (91 + 1) (-33) = _ from e2, gbv_some, gbv_some, gbv_some]
              exact ⟨V2, rfl, cP_f q2⟩
        · rw [if_neg h33, if_neg h33]
          by_cases h40 : pby bs len p = 40
          · have hplt : p < len := pby_lt (by rw [h40]; decide)
            rw [h40, if_pos rfl, if_pos rfl, open1]
            unfold fX2_readOpened_B
            by_cases ho5 : op = 5
            · subst ho5
              obtain ⟨V1, e1, q1⟩ := c_fail hC
              rw [if_pos rfl, if_neg (show ¬ nI (5 + 1) ≤ 5 by decide), e1, gbv_some, gbv_some, gbv_some]
              exact ⟨V1, rfl, cP_f q1⟩
            · obtain ⟨V1, e1, q1⟩ := ih 0 (op + 1) (p + 1) dc l _ (by omega) (by omega) (by omega) (by omega) (by omega) (by omega) hC.step
              obtain ⟨b1, b2, b3⟩ := hpB 0 (op + 1) (p + 1) (by omega)
              rw [if_neg ho5, if_pos (show nI (op + 1) ≤ 5 from nI_le (b := 5) (by omega) (by decide)), gpu_eq, if_neg (show ¬ (40 : Int32) = 33 by decide), show frdX2 dc 0 (gup V 91 4 (V 91 4 + 1)) 91 0 (nI (op + 1)) = _ from e1, gbv_some]
              by_cases ho : (sPar bs len nm d 0 (op + 1) (p + 1)).1 = true
              · have b4 := b3 ho
                unfold cPost at q1
                rw [if_pos ho] at q1
                rw [if_pos ho, c_next hE q1 (by omega), gbi_some]
                by_cases h41 : pby bs len (sPar bs len nm d 0 (op + 1) (p + 1)).2.1 = 41
                · rw [if_pos h41, if_pos h41, gpu_eq, gbv_some, gbv_some]
                  exact ⟨_, rfl, cP_t q1.step⟩
                · obtain ⟨V2, e2, q2⟩ := c_fail q1
                  rw [if_neg h41, if_neg h41, e2, gbv_some, gbv_some, gbv_some]
                  exact ⟨V2, rfl, cP_f q2⟩
              · unfold cPost at q1
                rw [if_neg ho] at q1
                obtain ⟨x, ex⟩ := c_nextF (V := V1)
                rw [if_neg ho, ex, gbi_some]
                by_cases h41 : x = 41
                · rw [if_pos h41, gpu_eq, gbv_some, gbv_some]
                  exact ⟨_, rfl, cP_f q1.step⟩
                · rw [if_neg h41, c_failF (by omega) q1, gbv_some, gbv_some, gbv_some]
                  exact ⟨V1, rfl, cP_f q1⟩
          · rw [if_neg h40, if_neg h40]
            by_cases hplt : p < len
            · obtain ⟨V1, e1, q1⟩ := c_name (b := pby bs len p) hE (show l.length < 50 by omega) hC
              rw [e1, gbv_some, gbv_some]
              exact ⟨V1, rfl, q1⟩
            · have eb : pby bs len p = -1 := pby_end (by omega)
              have hn := c_none (V0 := V0) (V := V) (b := pby bs len p) hE hC (fun i hi => by rw [eb]; exact hnm i hi)
              obtain ⟨V1, e1, q1⟩ := hn
              rw [e1, gbv_some, gbv_some, if_neg (by rw [eb]; exact hnm 0 (by decide)), if_neg (by rw [eb]; exact hnm 1 (by decide)), if_neg (by rw [eb]; exact hnm 2 (by decide))]
              exact ⟨V1, rfl, cP_f q1⟩

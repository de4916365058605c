/-! ===== PURE: lends ===== -/
/-- two cakes that may both be lent -/
def cpt (sh : Nat → Int32) (nc c c' : Nat) : Prop := c ≠ c' ∧ ¬ (c < nc ∧ c' < nc ∧ sh c = sh c' ∧ ¬ sh c = -1)
theorem cpt.symm {sh : Nat → Int32} {nc c c' : Nat} (h : cpt sh nc c c') : cpt sh nc c' c := ⟨fun q => h.1 q.symm, fun ⟨a, b, d, e⟩ => h.2 ⟨b, a, d.symm, fun q => e (d.trans q)⟩⟩
def fts (sh : Nat → Int32) (nc : Nat) (p : List Nat) (c : Nat) : Prop := ∀ c', c' ∈ p → cpt sh nc c c'
def good (sh : Nat → Int32) (nc : Nat) : List Nat → List Nat → Prop
  | _, [] => True
  | p, c :: l => c < nc ∧ fts sh nc p c ∧ good sh nc (c :: p) l
def goodS (sh : Nat → Int32) (nc : Nat) : List Nat → Prop
  | [] => True
  | c :: l => c < nc ∧ fts sh nc l c ∧ goodS sh nc l
theorem good_S {sh : Nat → Int32} {nc : Nat} : ∀ (l p : List Nat), good sh nc p l ↔ goodS sh nc l ∧ ∀ c, c ∈ l → fts sh nc p c
  | [], p => ⟨fun _ => ⟨trivial, fun c h => nomatch h⟩, fun _ => trivial⟩
  | c :: l, p => by
    have ih := good_S (sh := sh) (nc := nc) l (c :: p)
    constructor
    · intro ⟨h1, h2, h3⟩
      obtain ⟨h4, h5⟩ := ih.mp h3
      refine ⟨⟨h1, fun c' hc' => (h5 c' hc' c (List.mem_cons_self)).symm, h4⟩, fun c' hc' => ?_⟩
      rcases List.mem_cons.mp hc' with rfl | hc'
      · exact h2
      · exact fun c2 h => h5 c' hc' c2 (List.mem_cons_of_mem _ h)
    · intro ⟨⟨h1, h2, h3⟩, h4⟩
      refine ⟨h1, h4 c List.mem_cons_self, ih.mpr ⟨h3, fun c' hc' c2 h => ?_⟩⟩
      rcases List.mem_cons.mp h with rfl | h
      · exact (h2 c' hc').symm
      · exact h4 c' (List.mem_cons_of_mem _ hc') c2 h
theorem goodS_lt {sh : Nat → Int32} {nc : Nat} : ∀ (l : List Nat), goodS sh nc l → ∀ c, c ∈ l → c < nc
  | [], _, c, h => nomatch h
  | c :: l, ⟨h1, _, h3⟩, c', h => by
    rcases List.mem_cons.mp h with rfl | h
    · exact h1
    · exact goodS_lt l h3 c' h
def cod (a : Nat) : List Nat → Nat
  | [] => a
  | c :: l => cod (a * 6 + c) l
def dgl : Nat → Nat → List Nat
  | 0, _ => []
  | j + 1, k => dgl j (k / 6) ++ [k % 6]
theorem dgl_len : ∀ j k, (dgl j k).length = j
  | 0, _ => rfl
  | j + 1, k => by
    unfold dgl
    rw [List.length_append, dgl_len j]
    rfl
theorem cod_app : ∀ (l : List Nat) (a c : Nat), cod a (l ++ [c]) = cod a l * 6 + c
  | [], _, _ => rfl
  | x :: l, a, c => cod_app l (a * 6 + x) c
theorem cod_dgl : ∀ j k, k < 6 ^ j → cod 0 (dgl j k) = k
  | 0, k, h => by
    have : k = 0 := by simpa using h
    subst this
    rfl
  | j + 1, k, h => by
    unfold dgl
    rw [cod_app, cod_dgl j (k / 6) (by rw [Nat.pow_succ] at h; omega)]
    omega
theorem dgl_cod : ∀ (l : List Nat) (n a : Nat), (∀ c, c ∈ l → c < 6) → dgl (n + l.length) (cod a l) = dgl n a ++ l
  | [], n, a, _ => (List.append_nil _).symm
  | c :: l, n, a, h => by
    have hc := h c List.mem_cons_self
    have := dgl_cod l (n + 1) (a * 6 + c) (fun c' h' => h c' (List.mem_cons_of_mem _ h'))
    show dgl (n + (l.length + 1)) (cod (a * 6 + c) l) = _
    rw [show n + (l.length + 1) = n + 1 + l.length by omega, this]
    rw [show dgl (n + 1) (a * 6 + c) = dgl n ((a * 6 + c) / 6) ++ [(a * 6 + c) % 6] from rfl, show (a * 6 + c) / 6 = a by omega, show (a * 6 + c) % 6 = c by omega, List.append_assoc]
    rfl
theorem cod_lin : ∀ (l : List Nat) (a : Nat), cod a l = a * 6 ^ l.length + cod 0 l
  | [], a => by simp [cod]
  | c :: l, a => by
    show cod (a * 6 + c) l = a * 6 ^ (l.length + 1) + cod (0 * 6 + c) l
    rw [cod_lin l (a * 6 + c), cod_lin l (0 * 6 + c), Nat.pow_succ, Nat.zero_mul, Nat.zero_add, Nat.add_mul, Nat.mul_assoc, Nat.mul_comm 6, Nat.add_assoc]
theorem cod_lt : ∀ (l : List Nat), (∀ c, c ∈ l → c < 6) → cod 0 l < 6 ^ l.length
  | [], _ => by decide
  | c :: l, h => by
    have hc := h c List.mem_cons_self
    have := cod_lt l (fun c' h' => h c' (List.mem_cons_of_mem _ h'))
    show cod (0 * 6 + c) l < 6 ^ (l.length + 1)
    rw [cod_lin, Nat.pow_succ, Nat.zero_mul, Nat.zero_add]
    have h5 : c * 6 ^ l.length ≤ 5 * 6 ^ l.length := Nat.mul_le_mul_right _ (by omega)
    omega
/-! the sets -/
def cb (t : Nat) (q : List Nat) : Prop := t < 1024 ∧ ∀ c, c < 6 → (t.testBit c = true ↔ c ∈ q)
def gb (sh : Nat → Int32) (nc s : Nat) (q : List Nat) : Prop := s < 1024 ∧ ∀ b, b < 10 → (s.testBit b = true ↔ ∃ c, c ∈ q ∧ c < nc ∧ sh c = nI b)
theorem cb.nil : cb 0 [] := ⟨by decide, fun c _ => by simp⟩
theorem gb.nil {sh : Nat → Int32} {nc : Nat} : gb sh nc 0 [] := ⟨by decide, fun c _ => by simp⟩
theorem cb.cons {t c : Nat} {q : List Nat} (h : cb t q) (hc : c < 6) : nI t ||| (1 <<< (nI c &&& 31)) = nI (t ||| 2 ^ c) ∧ cb (t ||| 2 ^ c) (c :: q) := by
  obtain ⟨e, hl⟩ := bit_or t h.1 c (by omega)
  refine ⟨e, hl, fun c' hc' => ?_⟩
  rw [Nat.testBit_or, Nat.testBit_two_pow, Bool.or_eq_true, h.2 c' hc', List.mem_cons, decide_eq_true_iff]
  exact ⟨fun q => q.elim Or.inr (fun q => Or.inl q.symm), fun q => q.elim (fun q => Or.inr q.symm) Or.inl⟩
theorem gb.skip {sh : Nat → Int32} {nc s c : Nat} {q : List Nat} (h : gb sh nc s q) (hc : ¬ c < nc ∨ sh c = -1) : gb sh nc s (c :: q) := by
  refine ⟨h.1, fun b hb => (h.2 b hb).trans ⟨fun ⟨c', h1, h2⟩ => ⟨c', List.mem_cons_of_mem _ h1, h2⟩, fun ⟨c', h1, h2, h3⟩ => ?_⟩⟩
  rcases List.mem_cons.mp h1 with rfl | h1
  · rcases hc with hc | hc
    · exact absurd h2 hc
    · rw [hc] at h3
      exact absurd (by rw [← h3]; decide) (nI_pos (show b < 2 ^ 31 by omega))
  · exact ⟨c', h1, h2, h3⟩
theorem gb.cons {sh : Nat → Int32} {nc s c b : Nat} {q : List Nat} (h : gb sh nc s q) (hc : c < nc) (hb : b < 10) (e : sh c = nI b) : nI s ||| (1 <<< (nI b &&& 31)) = nI (s ||| 2 ^ b) ∧ gb sh nc (s ||| 2 ^ b) (c :: q) := by
  obtain ⟨e1, hl⟩ := bit_or s h.1 b (by omega)
  refine ⟨e1, hl, fun b' hb' => ?_⟩
  rw [Nat.testBit_or, Nat.testBit_two_pow, Bool.or_eq_true, h.2 b' hb', decide_eq_true_iff]
  constructor
  · rintro (⟨c', h1, h2⟩ | q)
    · exact ⟨c', List.mem_cons_of_mem _ h1, h2⟩
    · exact ⟨c, List.mem_cons_self, hc, by rw [e, q]⟩
  · rintro ⟨c', h1, h2, h3⟩
    rcases List.mem_cons.mp h1 with rfl | h1
    · rw [e] at h3
      exact Or.inr (pI_inj (by omega) (by omega) h3)
    · exact Or.inl ⟨c', h1, h2, h3⟩
theorem fts_bits {sh : Nat → Int32} {nc t s c : Nat} {q : List Nat} (ht : cb t q) (hs : gb sh nc s q) (hc : c < nc) (h6 : nc ≤ 6) (hsh : sh c = -1 ∨ ∃ b, b ≤ 9 ∧ sh c = nI b) : fts sh nc q c ↔ ¬ hasB (nI t) (nI c) ∧ (sh c = -1 ∨ ∃ b, b < 10 ∧ sh c = nI b ∧ ¬ hasB (nI s) (nI b)) := by
  rw [hasB_nat t ht.1 c (by omega), ht.2 c (by omega)]
  constructor
  · intro h
    refine ⟨fun q => (h c q).1 rfl, ?_⟩
    rcases hsh with e | ⟨b, hb, e⟩
    · exact Or.inl e
    · refine Or.inr ⟨b, by omega, e, fun q => ?_⟩
      rw [hasB_nat s hs.1 b (by omega), hs.2 b (by omega)] at q
      obtain ⟨c', h1, h2, h3⟩ := q
      refine (h c' h1).2 ⟨hc, h2, by rw [e, h3], fun q => ?_⟩
      rw [e] at q
      exact nI_pos (show b < 2 ^ 31 by omega) (by rw [q]; decide)
  · intro ⟨h1, h2⟩ c' hc'
    refine ⟨fun q => h1 (q ▸ hc'), fun ⟨_, a2, a3, a4⟩ => ?_⟩
    rcases h2 with e | ⟨b, hb, e, h2⟩
    · exact a4 e
    · rw [hasB_nat s hs.1 b hb, hs.2 b hb] at h2
      exact h2 ⟨c', hc', a2, by rw [← a3, e]⟩
/-! the class -/
theorem RW.l102 {i : Nat} {VX VM : gV} {L : lW} {nh nc k : Nat} {v : Int32} (h : RW i VX VM L nh nc) : RW i (gup VX 102 k v) VM L nh nc := h.keep (fun x hx _ _ => gup_row _ _ _ (by omega)) rfl mRest.rf
def lendT (i : Nat) (VM : gV) (L : lW) (nh nc h m : Nat) (p : List Nat) (lo : Nat) (V : gV) (R : Option (Int32 × gV)) : Prop :=
  ∃ V', RW i V' VM L nh nc ∧ (∀ k, k < h → V' 102 k = V 102 k) ∧ ((∃ l, l.length = m ∧ good (sShow L (VM 1)) nc p l ∧ (∀ l', l'.length = m → good (sShow L (VM 1)) nc p l' → cod 0 l ≤ cod 0 l') ∧ (∀ j, j < m → V' 102 (h + j) = nI (l.getD j 0)) ∧ R = some (1, V')) ∨ ((∀ l', l'.length = m → ¬ good (sShow L (VM 1)) nc p l') ∧ R = some (0, V')))
theorem x_lend {i : Nat} {VM : gV} {L : lW} {nh nc : Nat} : ∀ (m d h t s : Nat) (p : List Nat) (V : gV), h + m = nh → m < d → RW i V VM L nh nc → cb t p → gb (sShow L (VM 1)) nc s p → lendT i VM L nh nc h m p 0 V (fleX7 d 0 V (nI h) (nI t) (nI s)) := by
  intro m
  induction m with
  | zero =>
    intro d h t s p V h1 h2 hR ht hs
    have h4 := hR.h4
    obtain ⟨d, rfl⟩ : ∃ f', d = f' + 1 := ⟨d - 1, by omega⟩
    refine ⟨V, hR, fun _ _ => rfl, Or.inl ⟨[], rfl, trivial, fun _ _ _ => Nat.zero_le _, fun j hj => absurd hj (by omega), ?_⟩⟩
    show fX7_lendFrom_B (fleX7 d) V (nI h) (nI t) (nI s) = _
    unfold fX7_lendFrom_B
    rw [show V (0 + 1) 8 = nI nh from hR.nhX, if_pos (nI_le (by omega) (by omega))]
  | succ m ih =>
    intro d h t s p V h1 h2 hR ht hs
    have h4 := hR.h4
    have h6 := hR.h6
    obtain ⟨d, rfl⟩ : ∃ f', d = f' + 1 := ⟨d - 1, by omega⟩
    show lendT i VM L nh nc h (m + 1) p 0 V (fX7_lendFrom_B (fleX7 d) V (nI h) (nI t) (nI s))
    unfold fX7_lendFrom_B
    rw [show V (0 + 1) 8 = nI nh from hR.nhX, if_neg (nI_ge (by omega) (by omega)), if_pos (show nI h < 4 from nI_lt (b := 4) (by omega) (by decide))]
    have loop : ∀ (q f c : Nat) (V : gV), c + q = nc → q < f → RW i V VM L nh nc → (∀ c' l', l'.length = m → good (sShow L (VM 1)) nc p (c' :: l') → c ≤ c') → lendT i VM L nh nc h (m + 1) p 0 V (fX7_lendFrom_L1 (fleX7 d) (nI h) (nI t) (nI s) f V (nI c)) := by
      intro q
      induction q with
      | zero =>
        intro f c V k1 k2 hR hA
        obtain ⟨f, rfl⟩ : ∃ f', f = f' + 1 := ⟨f - 1, by omega⟩
        refine ⟨V, hR, fun _ _ => rfl, Or.inr ⟨fun l' hl hg => ?_, ?_⟩⟩
        · rcases l' with _ | ⟨c', l'⟩
          · exact nomatch hl
          · have := hA c' l' (by simpa using hl) hg
            have := hg.1
            omega
        · show fX7_lendFrom_L1b _ _ _ _ _ V (nI c) = _
          unfold fX7_lendFrom_L1b
          rw [show V (0 + 1) 9 = nI nc from hR.ncX, if_pos (nI_le (by omega) (by omega))]
      | succ q ihq =>
        intro f c V k1 k2 hR hA
        obtain ⟨f, rfl⟩ : ∃ f', f = f' + 1 := ⟨f - 1, by omega⟩
        show lendT i VM L nh nc h (m + 1) p 0 V (fX7_lendFrom_L1b _ _ _ _ _ V (nI c))
        unfold fX7_lendFrom_L1b
        simp only [Nat.reduceAdd, gbi_some, gbr_some, gbv_some, gpu_eq, glt_eq, gjn_eq, r1_0, r1_1, r1_2, r1_3, r1_4, r1_5, w1_0, w1_1, w1_2, w1_3, w1_4, w1_5]
        have hsh := sShow_ok hR.co.1 (hR.co.2.1.2.2.2.2.2 c (by omega))
        have hfb := fts_bits (c := c) ht hs (by omega) h6 hsh
        have htc := bit_has t ht.1 c (by omega)
        rw [hR.ncX, if_neg (nI_ge (by omega) (by omega)), x_cakeAt (by omega), gbr_some, hR.co.shows (by omega), gbi_some, x_bit V hsh, gbi_some, nI_1, nI_1]
        have next : ¬ fts (sShow L (VM 1)) nc p c → lendT i VM L nh nc h (m + 1) p 0 V (fX7_lendFrom_L1 (fleX7 d) (nI h) (nI t) (nI s) f V (nI (c + 1))) := fun hn => ihq f (c + 1) V (by omega) (by omega) hR (fun c' l' hl hg => by
          have := hA c' l' hl hg
          by_cases hcc : c' = c
          · subst hcc
            exact absurd hg.2.1 hn
          · omega)
        have go : ∀ (s' : Nat), fts (sShow L (VM 1)) nc p c → nI s ||| bitOf (sShow L (VM 1) c) = nI s' → gb (sShow L (VM 1)) nc s' (c :: p) → lendT i VM L nh nc h (m + 1) p 0 V (gbi (fleX7 d 0 (gup V 102 h (nI c)) (nI (h + 1)) (nI t ||| (1 <<< (nI c &&& 31))) (nI s ||| bitOf (sShow L (VM 1) c))) fun x17 V18 => if x17 = 0 then fX7_lendFrom_L1 (fleX7 d) (nI h) (nI t) (nI s) f V18 (nI (c + 1)) else some (1, V18)) := fun s' hf es hs' => by
          obtain ⟨et, ht'⟩ := ht.cons (c := c) (by omega)
          rw [es, et]
          obtain ⟨V1, hR1, f1, hq⟩ := ih d (h + 1) (t ||| 2 ^ c) s' (c :: p) (gup V 102 h (nI c)) (by omega) (by omega) hR.l102 ht' hs'
          have f2 : ∀ k, k < h → V1 102 k = V 102 k := fun k hk => (f1 k (by omega)).trans (gup_ne _ _ (by omega))
          rcases hq with ⟨l, l1, l2, l3, l4, e1⟩ | ⟨l1, e1⟩
          · rw [e1, gbi_some, if_neg (show ¬ (1 : Int32) = 0 by decide)]
            refine ⟨V1, hR1, f2, Or.inl ⟨c :: l, by rw [List.length_cons, l1], ⟨by omega, hf, l2⟩, fun l' hl hg => ?_, fun j hj => ?_, rfl⟩⟩
            · rcases l' with _ | ⟨c', l'⟩
              · exact nomatch hl
              · have hl' : l'.length = m := by simpa using hl
                have hle := hA c' l' hl' hg
                have g1 := (good_S l (c :: p)).mp l2
                have b1 := cod_lt l (fun c2 h2 => by have := goodS_lt l g1.1 c2 h2; omega)
                show cod (0 * 6 + c) l ≤ cod (0 * 6 + c') l'
                rw [cod_lin, cod_lin l', l1, hl', Nat.zero_mul, Nat.zero_add, Nat.zero_add]
                rw [l1] at b1
                by_cases hcc : c' = c
                · subst hcc
                  have := l3 l' hl' hg.2.2
                  omega
                · have : (c + 1) * 6 ^ m ≤ c' * 6 ^ m := Nat.mul_le_mul_right _ (by omega)
                  rw [Nat.add_mul, Nat.one_mul] at this
                  omega
            · rcases j with _ | j
              · rw [Nat.add_zero, f1 h (by omega), gup_at]
                rfl
              · rw [show h + (j + 1) = h + 1 + j by omega, l4 j (by omega)]
                rfl
          · rw [e1, gbi_some, if_pos rfl]
            obtain ⟨V2, hR2, f3, hq2⟩ := ihq f (c + 1) V1 (by omega) (by omega) hR1 (fun c' l' hl hg => by
              have := hA c' l' hl hg
              by_cases hcc : c' = c
              · subst hcc
                exact absurd hg.2.2 (l1 l' hl)
              · omega)
            exact ⟨V2, hR2, fun k hk => (f3 k hk).trans (f2 k hk), hq2⟩
        by_cases hb : hasB (nI t) (nI c)
        · rw [if_neg (fun q => htc.mp q hb)]
          exact next (fun q => (hfb.mp q).1 hb)
        · rw [if_pos (htc.mpr hb)]
          rcases hsh with e | ⟨b, hbl, e⟩
          · have e0 : bitOf (sShow L (VM 1) c) = 0 := by rw [e]; decide
            rw [if_pos (by rw [e0, Int32.and_zero]), eX_setAt h rfl (by omega) (by decide), gbv_some]
            exact go s (hfb.mpr ⟨hb, Or.inl e⟩) (by rw [e0, Int32.or_zero]) (hs.skip (Or.inr e))
          · have e0 : bitOf (sShow L (VM 1) c) = 1 <<< (nI b &&& 31) := by rw [e]; exact if_neg (nI_pos (by omega))
            have hsb := bit_has s hs.1 b (by omega)
            by_cases hg : hasB (nI s) (nI b)
            · rw [e0, if_neg (fun q => hsb.mp q hg)]
              refine next (fun q => ?_)
              rcases (hfb.mp q).2 with e' | ⟨b', hb', e', hn⟩
              · rw [e] at e'
                exact nI_pos (show b < 2 ^ 31 by omega) (by rw [e']; decide)
              · rw [e] at e'
                have : b = b' := pI_inj (by omega) (by omega) e'
                subst this
                exact hn hg
            · obtain ⟨es, hs'⟩ := hs.cons (c := c) (b := b) (by omega) (by omega) e
              rw [if_pos (by rw [e0]; exact hsb.mpr hg), eX_setAt h rfl (by omega) (by decide), gbv_some]
              exact go (s ||| 2 ^ b) (hfb.mpr ⟨hb, Or.inr ⟨b, by omega, e, hg⟩⟩) (by rw [e0]; exact es) hs'
    exact loop nc gFu 0 V (by omega) (by unfold gFu; omega) hR (fun _ _ _ _ => Nat.zero_le _)

/-! ===== shapes ===== -/
abbrev kX0 (c : Nat) : gK := some (.inr (.inl (0, [some (c + 1), none, none, none, none, none, none])))
abbrev kX1 (c : Nat) : gK := some (.inr (.inl (1, [none, none])))
abbrev kX2 (c : Nat) : gK := some (.inr (.inl (2, [some (c + 1), some (c + 4), some (c + 5), none, none, none])))
abbrev kX3 (c : Nat) : gK := some (.inr (.inl (3, [some (c + 1), none, none])))
abbrev kX4 (c : Nat) : gK := some (.inr (.inl (4, [some (c + 1), some (c + 2), none])))
abbrev kX5 (c : Nat) : gK := some (.inr (.inl (5, [some (c + 1), none, none, none, none])))
abbrev kX6 (c : Nat) : gK := some (.inr (.inl (6, [some (c + 1), some (c + 2), some (c + 3), some (c + 4), some (c + 6), some (c + 9), some (c + 12), some (c + 13), none, none, none, none, none, none])))
abbrev kX7 (c : Nat) : gK := some (.inr (.inl (7, [some (c + 1), some (c + 31), some (c + 61), some (c + 91), some (c + 97), some (c + 99), some (c + 100), some (c + 102), some (c + 103), none])))
abbrev kX8 (c : Nat) : gK := some (.inr (.inl (8, [some (c + 1), some (c + 2), some (c + 3), some (c + 4), none, none, some (c + 5), none, none, none, none, none, none, none, none, some (c + 6), some (c + 7), some (c + 8), some (c + 9), some (c + 10), some (c + 11), none, none, none, none])))
def shXl : List gK := [kX7 0, kX6 1, (some (.inr (.inr (0, 4, 1 + 14, 1))) : gK), (some (.inr (.inr (1, 6, 1 + 18, 2))) : gK), kX1 4, kX0 5, (some (.inl 8) : gK), kX4 7, (some (.inl 50) : gK), (some (.inl 50) : gK), kX4 10, (some (.inl 50) : gK), (some (.inl 50) : gK), (some (.inl 50) : gK), (some (.inl 20) : gK), kX1 15, kX1 16, kX1 17, kX1 18, kX0 19, (some (.inl 8) : gK), kX0 21, (some (.inl 8) : gK), kX0 23, (some (.inl 8) : gK), kX0 25, (some (.inl 8) : gK), kX0 27, (some (.inl 8) : gK), kX0 29, (some (.inl 8) : gK), kX6 31, (some (.inr (.inr (0, 4, 31 + 14, 1))) : gK), (some (.inr (.inr (1, 6, 31 + 18, 2))) : gK), kX1 34, kX0 35, (some (.inl 8) : gK), kX4 37, (some (.inl 50) : gK), (some (.inl 50) : gK), kX4 40, (some (.inl 50) : gK), (some (.inl 50) : gK), (some (.inl 50) : gK), (some (.inl 20) : gK), kX1 45, kX1 46, kX1 47, kX1 48, kX0 49, (some (.inl 8) : gK), kX0 51, (some (.inl 8) : gK), kX0 53, (some (.inl 8) : gK), kX0 55, (some (.inl 8) : gK), kX0 57, (some (.inl 8) : gK), kX0 59, (some (.inl 8) : gK), kX6 61, (some (.inr (.inr (0, 4, 61 + 14, 1))) : gK), (some (.inr (.inr (1, 6, 61 + 18, 2))) : gK), kX1 64, kX0 65, (some (.inl 8) : gK), kX4 67, (some (.inl 50) : gK), (some (.inl 50) : gK), kX4 70, (some (.inl 50) : gK), (some (.inl 50) : gK), (some (.inl 50) : gK), (some (.inl 20) : gK), kX1 75, kX1 76, kX1 77, kX1 78, kX0 79, (some (.inl 8) : gK), kX0 81, (some (.inl 8) : gK), kX0 83, (some (.inl 8) : gK), kX0 85, (some (.inl 8) : gK), kX0 87, (some (.inl 8) : gK), kX0 89, (some (.inl 8) : gK), kX2 91, kX4 92, (some (.inl 50) : gK), (some (.inl 50) : gK), (some (.inl 50) : gK), (some (.inl 3) : gK), kX5 97, (some (.inl 40) : gK), (some (.inr (.inr (2, 4, 0 + 104, 2))) : gK), kX3 100, (some (.inl 40) : gK), (some (.inl 4) : gK), (some (.inl 6) : gK), kX3 104, (some (.inl 40) : gK), kX3 106, (some (.inl 40) : gK), kX3 108, (some (.inl 40) : gK), kX3 110, (some (.inl 40) : gK), (some (.inl 7) : gK), (some (.inl 3) : gK), (some (.inl 3) : gK), (some (.inl 28) : gK)]
def shX (c : Nat) : gK := (shXl[c]?).getD none
def shMl : List gK := [kX8 0, (some (.inl 264) : gK), (some (.inl 264) : gK), (some (.inl 264) : gK), (some (.inl 264) : gK), (some (.inl 6) : gK), (some (.inl 4) : gK), (some (.inl 4) : gK), (some (.inl 160) : gK), (some (.inl 40) : gK), (some (.inl 4) : gK), (some (.inl 40) : gK)]
def shM (c : Nat) : gK := (shMl[c]?).getD none
def stX : List (String × String × Nat) := [("SoapNames", "KIND_ABOVE", 112), ("SoapNames", "THICK_NAMES", 113), ("SoapNames", "WEAR_NAMES", 114), ("SoapNames$Voice", "BODIES", 115)]
def gIsX (G : gG) : Prop := G.2.2.1 = shX ∧ G.2.2.2.1 = 112 ∧ G.2.2.2.2 = stX
def gIsM (G : gG) : Prop := G.2.2.1 = shM ∧ G.2.2.2.1 = 12 ∧ G.2.2.2.2 = []
theorem shX_lt {c : Nat} (h : shX c ≠ none) : c < 116 := by
  rcases Nat.lt_or_ge c 116 with q | q
  · exact q
  · exact absurd (by unfold shX; rw [List.getElem?_eq_none (show shXl.length ≤ c from q)]; rfl) h
theorem q_all {A B : Nat → Bool} (n : Nat) (k : (List.range n).all (fun c => !A c || B c) = true) {c : Nat} (hc : c < n) (h : A c = true) : B c = true := by
  have h1 := List.all_eq_true.mp k c (List.mem_range.mpr hc)
  rw [h] at h1
  exact h1
theorem shX_if {P : Nat → Bool} {K : Nat → gK} (k : (List.range 116).all (fun c => !decide (shX c = K c) || P c) = true) (hK : ∀ c, K c ≠ none) {c : Nat} (h : shX c = K c) : P c = true := q_all (A := fun c => decide (shX c = K c)) 116 k (shX_lt (by rw [h]; exact hK c)) (decide_eq_true h)
theorem s70 {G : gG} (hG : gIsX G) : G.2.2.1 0 = kX7 0 := by rw [hG.1]; decide +kernel
theorem s80 {G : gG} (hG : gIsM G) : G.2.2.1 0 = kX8 0 := by rw [hG.1]; decide +kernel
theorem qX0_0 {G : gG} (hG : gIsX G) {c : Nat} (h : G.2.2.1 c = kX0 c) : G.2.2.1 (c + 1) = (some (.inl 8) : gK) := by
  rw [hG.1] at h ⊢
  exact of_decide_eq_true (shX_if (P := fun c => decide (shX (c + 1) = (some (.inl 8) : gK))) (K := kX0) (by decide +kernel) (fun c q => by cases q) h)
theorem mX0_0 {G : gG} (hG : gIsX G) {c : Nat} (h : G.2.2.1 c = kX0 c) : c + 1 < G.2.2.2.1 := by
  rw [hG.1] at h
  rw [hG.2.1]
  exact of_decide_eq_true (shX_if (P := fun c => decide (c + 1 < 112)) (K := kX0) (by decide +kernel) (fun c q => by cases q) h)
theorem qX2_0 {G : gG} (hG : gIsX G) {c : Nat} (h : G.2.2.1 c = kX2 c) : G.2.2.1 (c + 1) = kX4 (c + 1) := by
  rw [hG.1] at h ⊢
  exact of_decide_eq_true (shX_if (P := fun c => decide (shX (c + 1) = kX4 (c + 1))) (K := kX2) (by decide +kernel) (fun c q => by cases q) h)
theorem qX2_1 {G : gG} (hG : gIsX G) {c : Nat} (h : G.2.2.1 c = kX2 c) : G.2.2.1 (c + 4) = (some (.inl 50) : gK) := by
  rw [hG.1] at h ⊢
  exact of_decide_eq_true (shX_if (P := fun c => decide (shX (c + 4) = (some (.inl 50) : gK))) (K := kX2) (by decide +kernel) (fun c q => by cases q) h)
theorem mX2_1 {G : gG} (hG : gIsX G) {c : Nat} (h : G.2.2.1 c = kX2 c) : c + 4 < G.2.2.2.1 := by
  rw [hG.1] at h
  rw [hG.2.1]
  exact of_decide_eq_true (shX_if (P := fun c => decide (c + 4 < 112)) (K := kX2) (by decide +kernel) (fun c q => by cases q) h)
theorem qX2_2 {G : gG} (hG : gIsX G) {c : Nat} (h : G.2.2.1 c = kX2 c) : G.2.2.1 (c + 5) = (some (.inl 3) : gK) := by
  rw [hG.1] at h ⊢
  exact of_decide_eq_true (shX_if (P := fun c => decide (shX (c + 5) = (some (.inl 3) : gK))) (K := kX2) (by decide +kernel) (fun c q => by cases q) h)
theorem mX2_2 {G : gG} (hG : gIsX G) {c : Nat} (h : G.2.2.1 c = kX2 c) : c + 5 < G.2.2.2.1 := by
  rw [hG.1] at h
  rw [hG.2.1]
  exact of_decide_eq_true (shX_if (P := fun c => decide (c + 5 < 112)) (K := kX2) (by decide +kernel) (fun c q => by cases q) h)
theorem qX3_0 {G : gG} (hG : gIsX G) {c : Nat} (h : G.2.2.1 c = kX3 c) : G.2.2.1 (c + 1) = (some (.inl 40) : gK) := by
  rw [hG.1] at h ⊢
  exact of_decide_eq_true (shX_if (P := fun c => decide (shX (c + 1) = (some (.inl 40) : gK))) (K := kX3) (by decide +kernel) (fun c q => by cases q) h)
theorem mX3_0 {G : gG} (hG : gIsX G) {c : Nat} (h : G.2.2.1 c = kX3 c) : c + 1 < G.2.2.2.1 := by
  rw [hG.1] at h
  rw [hG.2.1]
  exact of_decide_eq_true (shX_if (P := fun c => decide (c + 1 < 112)) (K := kX3) (by decide +kernel) (fun c q => by cases q) h)
theorem qX4_0 {G : gG} (hG : gIsX G) {c : Nat} (h : G.2.2.1 c = kX4 c) : G.2.2.1 (c + 1) = (some (.inl 50) : gK) := by
  rw [hG.1] at h ⊢
  exact of_decide_eq_true (shX_if (P := fun c => decide (shX (c + 1) = (some (.inl 50) : gK))) (K := kX4) (by decide +kernel) (fun c q => by cases q) h)
theorem mX4_0 {G : gG} (hG : gIsX G) {c : Nat} (h : G.2.2.1 c = kX4 c) : c + 1 < G.2.2.2.1 := by
  rw [hG.1] at h
  rw [hG.2.1]
  exact of_decide_eq_true (shX_if (P := fun c => decide (c + 1 < 112)) (K := kX4) (by decide +kernel) (fun c q => by cases q) h)
theorem qX4_1 {G : gG} (hG : gIsX G) {c : Nat} (h : G.2.2.1 c = kX4 c) : G.2.2.1 (c + 2) = (some (.inl 50) : gK) := by
  rw [hG.1] at h ⊢
  exact of_decide_eq_true (shX_if (P := fun c => decide (shX (c + 2) = (some (.inl 50) : gK))) (K := kX4) (by decide +kernel) (fun c q => by cases q) h)
theorem mX4_1 {G : gG} (hG : gIsX G) {c : Nat} (h : G.2.2.1 c = kX4 c) : c + 2 < G.2.2.2.1 := by
  rw [hG.1] at h
  rw [hG.2.1]
  exact of_decide_eq_true (shX_if (P := fun c => decide (c + 2 < 112)) (K := kX4) (by decide +kernel) (fun c q => by cases q) h)
theorem qX5_0 {G : gG} (hG : gIsX G) {c : Nat} (h : G.2.2.1 c = kX5 c) : G.2.2.1 (c + 1) = (some (.inl 40) : gK) := by
  rw [hG.1] at h ⊢
  exact of_decide_eq_true (shX_if (P := fun c => decide (shX (c + 1) = (some (.inl 40) : gK))) (K := kX5) (by decide +kernel) (fun c q => by cases q) h)
theorem mX5_0 {G : gG} (hG : gIsX G) {c : Nat} (h : G.2.2.1 c = kX5 c) : c + 1 < G.2.2.2.1 := by
  rw [hG.1] at h
  rw [hG.2.1]
  exact of_decide_eq_true (shX_if (P := fun c => decide (c + 1 < 112)) (K := kX5) (by decide +kernel) (fun c q => by cases q) h)
theorem qX6_0 {G : gG} (hG : gIsX G) {c : Nat} (h : G.2.2.1 c = kX6 c) : G.2.2.1 (c + 1) = (some (.inr (.inr (0, 4, c + 14, 1))) : gK) := by
  rw [hG.1] at h ⊢
  exact of_decide_eq_true (shX_if (P := fun c => decide (shX (c + 1) = (some (.inr (.inr (0, 4, c + 14, 1))) : gK))) (K := kX6) (by decide +kernel) (fun c q => by cases q) h)
theorem qX6_1 {G : gG} (hG : gIsX G) {c : Nat} (h : G.2.2.1 c = kX6 c) : G.2.2.1 (c + 2) = (some (.inr (.inr (1, 6, c + 18, 2))) : gK) := by
  rw [hG.1] at h ⊢
  exact of_decide_eq_true (shX_if (P := fun c => decide (shX (c + 2) = (some (.inr (.inr (1, 6, c + 18, 2))) : gK))) (K := kX6) (by decide +kernel) (fun c q => by cases q) h)
theorem qX6_2 {G : gG} (hG : gIsX G) {c : Nat} (h : G.2.2.1 c = kX6 c) : G.2.2.1 (c + 3) = kX1 (c + 3) := by
  rw [hG.1] at h ⊢
  exact of_decide_eq_true (shX_if (P := fun c => decide (shX (c + 3) = kX1 (c + 3))) (K := kX6) (by decide +kernel) (fun c q => by cases q) h)
theorem qX6_3 {G : gG} (hG : gIsX G) {c : Nat} (h : G.2.2.1 c = kX6 c) : G.2.2.1 (c + 4) = kX0 (c + 4) := by
  rw [hG.1] at h ⊢
  exact of_decide_eq_true (shX_if (P := fun c => decide (shX (c + 4) = kX0 (c + 4))) (K := kX6) (by decide +kernel) (fun c q => by cases q) h)
theorem qX6_4 {G : gG} (hG : gIsX G) {c : Nat} (h : G.2.2.1 c = kX6 c) : G.2.2.1 (c + 6) = kX4 (c + 6) := by
  rw [hG.1] at h ⊢
  exact of_decide_eq_true (shX_if (P := fun c => decide (shX (c + 6) = kX4 (c + 6))) (K := kX6) (by decide +kernel) (fun c q => by cases q) h)
theorem qX6_5 {G : gG} (hG : gIsX G) {c : Nat} (h : G.2.2.1 c = kX6 c) : G.2.2.1 (c + 9) = kX4 (c + 9) := by
  rw [hG.1] at h ⊢
  exact of_decide_eq_true (shX_if (P := fun c => decide (shX (c + 9) = kX4 (c + 9))) (K := kX6) (by decide +kernel) (fun c q => by cases q) h)
theorem qX6_6 {G : gG} (hG : gIsX G) {c : Nat} (h : G.2.2.1 c = kX6 c) : G.2.2.1 (c + 12) = (some (.inl 50) : gK) := by
  rw [hG.1] at h ⊢
  exact of_decide_eq_true (shX_if (P := fun c => decide (shX (c + 12) = (some (.inl 50) : gK))) (K := kX6) (by decide +kernel) (fun c q => by cases q) h)
theorem mX6_6 {G : gG} (hG : gIsX G) {c : Nat} (h : G.2.2.1 c = kX6 c) : c + 12 < G.2.2.2.1 := by
  rw [hG.1] at h
  rw [hG.2.1]
  exact of_decide_eq_true (shX_if (P := fun c => decide (c + 12 < 112)) (K := kX6) (by decide +kernel) (fun c q => by cases q) h)
theorem qX6_7 {G : gG} (hG : gIsX G) {c : Nat} (h : G.2.2.1 c = kX6 c) : G.2.2.1 (c + 13) = (some (.inl 20) : gK) := by
  rw [hG.1] at h ⊢
  exact of_decide_eq_true (shX_if (P := fun c => decide (shX (c + 13) = (some (.inl 20) : gK))) (K := kX6) (by decide +kernel) (fun c q => by cases q) h)
theorem mX6_7 {G : gG} (hG : gIsX G) {c : Nat} (h : G.2.2.1 c = kX6 c) : c + 13 < G.2.2.2.1 := by
  rw [hG.1] at h
  rw [hG.2.1]
  exact of_decide_eq_true (shX_if (P := fun c => decide (c + 13 < 112)) (K := kX6) (by decide +kernel) (fun c q => by cases q) h)
theorem qX7_0 {G : gG} (hG : gIsX G) {c : Nat} (h : G.2.2.1 c = kX7 c) : G.2.2.1 (c + 1) = kX6 (c + 1) := by
  rw [hG.1] at h ⊢
  exact of_decide_eq_true (shX_if (P := fun c => decide (shX (c + 1) = kX6 (c + 1))) (K := kX7) (by decide +kernel) (fun c q => by cases q) h)
theorem qX7_1 {G : gG} (hG : gIsX G) {c : Nat} (h : G.2.2.1 c = kX7 c) : G.2.2.1 (c + 31) = kX6 (c + 31) := by
  rw [hG.1] at h ⊢
  exact of_decide_eq_true (shX_if (P := fun c => decide (shX (c + 31) = kX6 (c + 31))) (K := kX7) (by decide +kernel) (fun c q => by cases q) h)
theorem qX7_2 {G : gG} (hG : gIsX G) {c : Nat} (h : G.2.2.1 c = kX7 c) : G.2.2.1 (c + 61) = kX6 (c + 61) := by
  rw [hG.1] at h ⊢
  exact of_decide_eq_true (shX_if (P := fun c => decide (shX (c + 61) = kX6 (c + 61))) (K := kX7) (by decide +kernel) (fun c q => by cases q) h)
theorem qX7_3 {G : gG} (hG : gIsX G) {c : Nat} (h : G.2.2.1 c = kX7 c) : G.2.2.1 (c + 91) = kX2 (c + 91) := by
  rw [hG.1] at h ⊢
  exact of_decide_eq_true (shX_if (P := fun c => decide (shX (c + 91) = kX2 (c + 91))) (K := kX7) (by decide +kernel) (fun c q => by cases q) h)
theorem qX7_4 {G : gG} (hG : gIsX G) {c : Nat} (h : G.2.2.1 c = kX7 c) : G.2.2.1 (c + 97) = kX5 (c + 97) := by
  rw [hG.1] at h ⊢
  exact of_decide_eq_true (shX_if (P := fun c => decide (shX (c + 97) = kX5 (c + 97))) (K := kX7) (by decide +kernel) (fun c q => by cases q) h)
theorem qX7_5 {G : gG} (hG : gIsX G) {c : Nat} (h : G.2.2.1 c = kX7 c) : G.2.2.1 (c + 99) = (some (.inr (.inr (2, 4, c + 104, 2))) : gK) := by
  rw [hG.1] at h ⊢
  exact of_decide_eq_true (shX_if (P := fun c => decide (shX (c + 99) = (some (.inr (.inr (2, 4, c + 104, 2))) : gK))) (K := kX7) (by decide +kernel) (fun c q => by cases q) h)
theorem qX7_6 {G : gG} (hG : gIsX G) {c : Nat} (h : G.2.2.1 c = kX7 c) : G.2.2.1 (c + 100) = kX3 (c + 100) := by
  rw [hG.1] at h ⊢
  exact of_decide_eq_true (shX_if (P := fun c => decide (shX (c + 100) = kX3 (c + 100))) (K := kX7) (by decide +kernel) (fun c q => by cases q) h)
theorem qX7_7 {G : gG} (hG : gIsX G) {c : Nat} (h : G.2.2.1 c = kX7 c) : G.2.2.1 (c + 102) = (some (.inl 4) : gK) := by
  rw [hG.1] at h ⊢
  exact of_decide_eq_true (shX_if (P := fun c => decide (shX (c + 102) = (some (.inl 4) : gK))) (K := kX7) (by decide +kernel) (fun c q => by cases q) h)
theorem mX7_7 {G : gG} (hG : gIsX G) {c : Nat} (h : G.2.2.1 c = kX7 c) : c + 102 < G.2.2.2.1 := by
  rw [hG.1] at h
  rw [hG.2.1]
  exact of_decide_eq_true (shX_if (P := fun c => decide (c + 102 < 112)) (K := kX7) (by decide +kernel) (fun c q => by cases q) h)
theorem qX7_8 {G : gG} (hG : gIsX G) {c : Nat} (h : G.2.2.1 c = kX7 c) : G.2.2.1 (c + 103) = (some (.inl 6) : gK) := by
  rw [hG.1] at h ⊢
  exact of_decide_eq_true (shX_if (P := fun c => decide (shX (c + 103) = (some (.inl 6) : gK))) (K := kX7) (by decide +kernel) (fun c q => by cases q) h)
theorem mX7_8 {G : gG} (hG : gIsX G) {c : Nat} (h : G.2.2.1 c = kX7 c) : c + 103 < G.2.2.2.1 := by
  rw [hG.1] at h
  rw [hG.2.1]
  exact of_decide_eq_true (shX_if (P := fun c => decide (c + 103 < 112)) (K := kX7) (by decide +kernel) (fun c q => by cases q) h)
theorem qX8_0 {G : gG} (hG : gIsM G) : G.2.2.1 (0 + 1) = (some (.inl 264) : gK) := by rw [hG.1]; decide +kernel
theorem mX8_0 {G : gG} (hG : gIsM G) : 0 + 1 < G.2.2.2.1 := by rw [hG.2.1]; decide
theorem qX8_1 {G : gG} (hG : gIsM G) : G.2.2.1 (0 + 2) = (some (.inl 264) : gK) := by rw [hG.1]; decide +kernel
theorem mX8_1 {G : gG} (hG : gIsM G) : 0 + 2 < G.2.2.2.1 := by rw [hG.2.1]; decide
theorem qX8_2 {G : gG} (hG : gIsM G) : G.2.2.1 (0 + 3) = (some (.inl 264) : gK) := by rw [hG.1]; decide +kernel
theorem mX8_2 {G : gG} (hG : gIsM G) : 0 + 3 < G.2.2.2.1 := by rw [hG.2.1]; decide
theorem qX8_3 {G : gG} (hG : gIsM G) : G.2.2.1 (0 + 4) = (some (.inl 264) : gK) := by rw [hG.1]; decide +kernel
theorem mX8_3 {G : gG} (hG : gIsM G) : 0 + 4 < G.2.2.2.1 := by rw [hG.2.1]; decide
theorem qX8_6 {G : gG} (hG : gIsM G) : G.2.2.1 (0 + 5) = (some (.inl 6) : gK) := by rw [hG.1]; decide +kernel
theorem mX8_6 {G : gG} (hG : gIsM G) : 0 + 5 < G.2.2.2.1 := by rw [hG.2.1]; decide
theorem qX8_15 {G : gG} (hG : gIsM G) : G.2.2.1 (0 + 6) = (some (.inl 4) : gK) := by rw [hG.1]; decide +kernel
theorem mX8_15 {G : gG} (hG : gIsM G) : 0 + 6 < G.2.2.2.1 := by rw [hG.2.1]; decide
theorem qX8_16 {G : gG} (hG : gIsM G) : G.2.2.1 (0 + 7) = (some (.inl 4) : gK) := by rw [hG.1]; decide +kernel
theorem mX8_16 {G : gG} (hG : gIsM G) : 0 + 7 < G.2.2.2.1 := by rw [hG.2.1]; decide
theorem qX8_17 {G : gG} (hG : gIsM G) : G.2.2.1 (0 + 8) = (some (.inl 160) : gK) := by rw [hG.1]; decide +kernel
theorem mX8_17 {G : gG} (hG : gIsM G) : 0 + 8 < G.2.2.2.1 := by rw [hG.2.1]; decide
theorem qX8_18 {G : gG} (hG : gIsM G) : G.2.2.1 (0 + 9) = (some (.inl 40) : gK) := by rw [hG.1]; decide +kernel
theorem mX8_18 {G : gG} (hG : gIsM G) : 0 + 9 < G.2.2.2.1 := by rw [hG.2.1]; decide
theorem qX8_19 {G : gG} (hG : gIsM G) : G.2.2.1 (0 + 10) = (some (.inl 4) : gK) := by rw [hG.1]; decide +kernel
theorem mX8_19 {G : gG} (hG : gIsM G) : 0 + 10 < G.2.2.2.1 := by rw [hG.2.1]; decide
theorem qX8_20 {G : gG} (hG : gIsM G) : G.2.2.1 (0 + 11) = (some (.inl 40) : gK) := by rw [hG.1]; decide +kernel
theorem mX8_20 {G : gG} (hG : gIsM G) : 0 + 11 < G.2.2.2.1 := by rw [hG.2.1]; decide
theorem eX6_0 {G : gG} (hG : gIsX G) {c : Nat} (h : G.2.2.1 c = kX6 c) {i : Nat} (hi : i < 4) : G.2.2.1 (c + 14 + 1 * i) = kX1 (c + 14 + 1 * i) := by
  rw [hG.1] at h ⊢
  have z := shX_if (P := fun c => (List.range 4).all fun i => decide (shX (c + 14 + 1 * i) = kX1 (c + 14 + 1 * i))) (K := kX6) (by decide +kernel) (fun c q => by cases q) h
  exact of_decide_eq_true (List.all_eq_true.mp z i (List.mem_range.mpr hi))
theorem eX6_1 {G : gG} (hG : gIsX G) {c : Nat} (h : G.2.2.1 c = kX6 c) {i : Nat} (hi : i < 6) : G.2.2.1 (c + 18 + 2 * i) = kX0 (c + 18 + 2 * i) := by
  rw [hG.1] at h ⊢
  have z := shX_if (P := fun c => (List.range 6).all fun i => decide (shX (c + 18 + 2 * i) = kX0 (c + 18 + 2 * i))) (K := kX6) (by decide +kernel) (fun c q => by cases q) h
  exact of_decide_eq_true (List.all_eq_true.mp z i (List.mem_range.mpr hi))
theorem eX7_5 {G : gG} (hG : gIsX G) {c : Nat} (h : G.2.2.1 c = kX7 c) {i : Nat} (hi : i < 4) : G.2.2.1 (c + 104 + 2 * i) = kX3 (c + 104 + 2 * i) := by
  rw [hG.1] at h ⊢
  have z := shX_if (P := fun c => (List.range 4).all fun i => decide (shX (c + 104 + 2 * i) = kX3 (c + 104 + 2 * i))) (K := kX7) (by decide +kernel) (fun c q => by cases q) h
  exact of_decide_eq_true (List.all_eq_true.mp z i (List.mem_range.mpr hi))
theorem zX_112 {G : gG} (hG : gIsX G) : ("SoapNames", "KIND_ABOVE", 112) ∈ G.2.2.2.2 := by rw [hG.2.2]; decide +kernel
theorem zs_112 {G : gG} (hG : gIsX G) : G.2.2.1 112 = (some (.inl 7) : gK) := by rw [hG.1]; decide +kernel
theorem zX_113 {G : gG} (hG : gIsX G) : ("SoapNames", "THICK_NAMES", 113) ∈ G.2.2.2.2 := by rw [hG.2.2]; decide +kernel
theorem zs_113 {G : gG} (hG : gIsX G) : G.2.2.1 113 = (some (.inl 3) : gK) := by rw [hG.1]; decide +kernel
theorem zX_114 {G : gG} (hG : gIsX G) : ("SoapNames", "WEAR_NAMES", 114) ∈ G.2.2.2.2 := by rw [hG.2.2]; decide +kernel
theorem zs_114 {G : gG} (hG : gIsX G) : G.2.2.1 114 = (some (.inl 3) : gK) := by rw [hG.1]; decide +kernel
theorem zX_115 {G : gG} (hG : gIsX G) : ("SoapNames$Voice", "BODIES", 115) ∈ G.2.2.2.2 := by rw [hG.2.2]; decide +kernel
theorem zs_115 {G : gG} (hG : gIsX G) : G.2.2.1 115 = (some (.inl 28) : gK) := by rw [hG.1]; decide +kernel
/-! ===== a field, a row ===== -/
theorem gR_le {f f2 lo lo2 n : Nat} (h1 : f + 1 ≤ f2) (h2 : 8 + (n + 11) + lo ≤ lo2) : (gR f lo).frames + 1 ≤ (gR f2 lo2).frames ∧ 8 + (n + 11) + (gR f lo).locals ≤ (gR f2 lo2).locals := ⟨h1, h2⟩
theorem inX0 : ∀ w ∈ u_ws RX0 TX0 7, w ∈ gB := by
  intro w hw
  have h : (u_ws RX0 TX0 7).all (fun w => decide (w ∈ lw_tbl) && goodWord w) = true := by decide +kernel
  have h1 := List.all_eq_true.mp h w hw
  simp only [Bool.and_eq_true, decide_eq_true_eq] at h1
  exact List.mem_filter.mpr h1
theorem inX1 : ∀ w ∈ u_ws RX1 TX1 2, w ∈ gB := by
  intro w hw
  have h : (u_ws RX1 TX1 2).all (fun w => decide (w ∈ lw_tbl) && goodWord w) = true := by decide +kernel
  have h1 := List.all_eq_true.mp h w hw
  simp only [Bool.and_eq_true, decide_eq_true_eq] at h1
  exact List.mem_filter.mpr h1
theorem inX2 : ∀ w ∈ u_ws RX2 TX2 6, w ∈ gB := by
  intro w hw
  have h : (u_ws RX2 TX2 6).all (fun w => decide (w ∈ lw_tbl) && goodWord w) = true := by decide +kernel
  have h1 := List.all_eq_true.mp h w hw
  simp only [Bool.and_eq_true, decide_eq_true_eq] at h1
  exact List.mem_filter.mpr h1
theorem inX3 : ∀ w ∈ u_ws RX3 TX3 3, w ∈ gB := by
  intro w hw
  have h : (u_ws RX3 TX3 3).all (fun w => decide (w ∈ lw_tbl) && goodWord w) = true := by decide +kernel
  have h1 := List.all_eq_true.mp h w hw
  simp only [Bool.and_eq_true, decide_eq_true_eq] at h1
  exact List.mem_filter.mpr h1
theorem inX4 : ∀ w ∈ u_ws RX4 TX4 3, w ∈ gB := by
  intro w hw
  have h : (u_ws RX4 TX4 3).all (fun w => decide (w ∈ lw_tbl) && goodWord w) = true := by decide +kernel
  have h1 := List.all_eq_true.mp h w hw
  simp only [Bool.and_eq_true, decide_eq_true_eq] at h1
  exact List.mem_filter.mpr h1
theorem inX5 : ∀ w ∈ u_ws RX5 TX5 5, w ∈ gB := by
  intro w hw
  have h : (u_ws RX5 TX5 5).all (fun w => decide (w ∈ lw_tbl) && goodWord w) = true := by decide +kernel
  have h1 := List.all_eq_true.mp h w hw
  simp only [Bool.and_eq_true, decide_eq_true_eq] at h1
  exact List.mem_filter.mpr h1
theorem inX6 : ∀ w ∈ u_ws RX6 TX6 14, w ∈ gB := by
  intro w hw
  have h : (u_ws RX6 TX6 14).all (fun w => decide (w ∈ lw_tbl) && goodWord w) = true := by decide +kernel
  have h1 := List.all_eq_true.mp h w hw
  simp only [Bool.and_eq_true, decide_eq_true_eq] at h1
  exact List.mem_filter.mpr h1
theorem inX7 : ∀ w ∈ u_ws RX7 TX7 10, w ∈ gB := by
  intro w hw
  have h : (u_ws RX7 TX7 10).all (fun w => decide (w ∈ lw_tbl) && goodWord w) = true := by decide +kernel
  have h1 := List.all_eq_true.mp h w hw
  simp only [Bool.and_eq_true, decide_eq_true_eq] at h1
  exact List.mem_filter.mpr h1
theorem inX8 : ∀ w ∈ u_ws RX8 TX8 25, w ∈ gB := by
  intro w hw
  have h : (u_ws RX8 TX8 25).all (fun w => decide (w ∈ lw_tbl) && goodWord w) = true := by decide +kernel
  have h1 := List.all_eq_true.mp h w hw
  simp only [Bool.and_eq_true, decide_eq_true_eq] at h1
  exact List.mem_filter.mpr h1
section GF
variable {α : Type} {l : Launch} {R : Room} {nL : Nat} {G : gG} {X : gX} {k : Option α} {res : α} {V : gV} {pc q : Nat} {L : List (Nat × Value)} {st : List Value} {cc : ByteArray} {own : String} {index c : Nat}
theorem geX0_0 (C : gC cc nL own G X) (hs : G.2.2.1 c = kX0 c) (hl : gFL own index "SoapNames$Cake" "names" "[I") (d : decode cc pc = .ok (.getfield index, 3)) (hq : pc + 3 = q) (kk : gSm l R nL G X k res V q L (.ref (G.1 (c + 1)) :: st)) : gSm l R nL G X k res V pc L (.ref (G.1 c) :: st) := gf_get C (ci := 0) (C0 := RX0) (T := TX0) (N := 7) rfl inX0 0 (by decide) hl hs (o := some (c + 1)) rfl d hq kk
theorem geX0_1 (C : gC cc nL own G X) (hs : G.2.2.1 c = kX0 c) (hl : gFL own index "SoapNames$Cake" "kind" "I") (d : decode cc pc = .ok (.getfield index, 3)) (hq : pc + 3 = q) (kk : gSm l R nL G X k res V q L (.int (V c 1) :: st)) : gSm l R nL G X k res V pc L (.ref (G.1 c) :: st) := gf_get C (ci := 0) (C0 := RX0) (T := TX0) (N := 7) rfl inX0 1 (by decide) hl hs (o := none) rfl d hq kk
theorem peX0_1 (C : gC cc nL own G X) {v : Int32} (hs : G.2.2.1 c = kX0 c) (hl : gFL own index "SoapNames$Cake" "kind" "I") (d : decode cc pc = .ok (.putfield index, 3)) (hq : pc + 3 = q) {f : gV → Option α} (kk : ∀ V1, gSm l R nL G X (f V1) res V1 q L st) : gSm l R nL G X (gpu V c 1 v f) res V pc L (.int v :: .ref (G.1 c) :: st) := gf_put C (ci := 0) (C0 := RX0) (T := TX0) (N := 7) rfl inX0 tyX0 tyX0_ok nmX0 1 (by decide) hl rfl hs rfl rfl rfl d hq kk
theorem geX0_2 (C : gC cc nL own G X) (hs : G.2.2.1 c = kX0 c) (hl : gFL own index "SoapNames$Cake" "m" "I") (d : decode cc pc = .ok (.getfield index, 3)) (hq : pc + 3 = q) (kk : gSm l R nL G X k res V q L (.int (V c 2) :: st)) : gSm l R nL G X k res V pc L (.ref (G.1 c) :: st) := gf_get C (ci := 0) (C0 := RX0) (T := TX0) (N := 7) rfl inX0 2 (by decide) hl hs (o := none) rfl d hq kk
theorem peX0_2 (C : gC cc nL own G X) {v : Int32} (hs : G.2.2.1 c = kX0 c) (hl : gFL own index "SoapNames$Cake" "m" "I") (d : decode cc pc = .ok (.putfield index, 3)) (hq : pc + 3 = q) {f : gV → Option α} (kk : ∀ V1, gSm l R nL G X (f V1) res V1 q L st) : gSm l R nL G X (gpu V c 2 v f) res V pc L (.int v :: .ref (G.1 c) :: st) := gf_put C (ci := 0) (C0 := RX0) (T := TX0) (N := 7) rfl inX0 tyX0 tyX0_ok nmX0 2 (by decide) hl rfl hs rfl rfl rfl d hq kk
theorem geX0_3 (C : gC cc nL own G X) (hs : G.2.2.1 c = kX0 c) (hl : gFL own index "SoapNames$Cake" "home" "I") (d : decode cc pc = .ok (.getfield index, 3)) (hq : pc + 3 = q) (kk : gSm l R nL G X k res V q L (.int (V c 3) :: st)) : gSm l R nL G X k res V pc L (.ref (G.1 c) :: st) := gf_get C (ci := 0) (C0 := RX0) (T := TX0) (N := 7) rfl inX0 3 (by decide) hl hs (o := none) rfl d hq kk
theorem peX0_3 (C : gC cc nL own G X) {v : Int32} (hs : G.2.2.1 c = kX0 c) (hl : gFL own index "SoapNames$Cake" "home" "I") (d : decode cc pc = .ok (.putfield index, 3)) (hq : pc + 3 = q) {f : gV → Option α} (kk : ∀ V1, gSm l R nL G X (f V1) res V1 q L st) : gSm l R nL G X (gpu V c 3 v f) res V pc L (.int v :: .ref (G.1 c) :: st) := gf_put C (ci := 0) (C0 := RX0) (T := TX0) (N := 7) rfl inX0 tyX0 tyX0_ok nmX0 3 (by decide) hl rfl hs rfl rfl rfl d hq kk
theorem geX0_4 (C : gC cc nL own G X) (hs : G.2.2.1 c = kX0 c) (hl : gFL own index "SoapNames$Cake" "layers" "I") (d : decode cc pc = .ok (.getfield index, 3)) (hq : pc + 3 = q) (kk : gSm l R nL G X k res V q L (.int (V c 4) :: st)) : gSm l R nL G X k res V pc L (.ref (G.1 c) :: st) := gf_get C (ci := 0) (C0 := RX0) (T := TX0) (N := 7) rfl inX0 4 (by decide) hl hs (o := none) rfl d hq kk
theorem peX0_4 (C : gC cc nL own G X) {v : Int32} (hs : G.2.2.1 c = kX0 c) (hl : gFL own index "SoapNames$Cake" "layers" "I") (d : decode cc pc = .ok (.putfield index, 3)) (hq : pc + 3 = q) {f : gV → Option α} (kk : ∀ V1, gSm l R nL G X (f V1) res V1 q L st) : gSm l R nL G X (gpu V c 4 v f) res V pc L (.int v :: .ref (G.1 c) :: st) := gf_put C (ci := 0) (C0 := RX0) (T := TX0) (N := 7) rfl inX0 tyX0 tyX0_ok nmX0 4 (by decide) hl rfl hs rfl rfl rfl d hq kk
theorem geX0_5 (C : gC cc nL own G X) (hs : G.2.2.1 c = kX0 c) (hl : gFL own index "SoapNames$Cake" "worn" "I") (d : decode cc pc = .ok (.getfield index, 3)) (hq : pc + 3 = q) (kk : gSm l R nL G X k res V q L (.int (V c 5) :: st)) : gSm l R nL G X k res V pc L (.ref (G.1 c) :: st) := gf_get C (ci := 0) (C0 := RX0) (T := TX0) (N := 7) rfl inX0 5 (by decide) hl hs (o := none) rfl d hq kk
theorem peX0_5 (C : gC cc nL own G X) {v : Int32} (hs : G.2.2.1 c = kX0 c) (hl : gFL own index "SoapNames$Cake" "worn" "I") (d : decode cc pc = .ok (.putfield index, 3)) (hq : pc + 3 = q) {f : gV → Option α} (kk : ∀ V1, gSm l R nL G X (f V1) res V1 q L st) : gSm l R nL G X (gpu V c 5 v f) res V pc L (.int v :: .ref (G.1 c) :: st) := gf_put C (ci := 0) (C0 := RX0) (T := TX0) (N := 7) rfl inX0 tyX0 tyX0_ok nmX0 5 (by decide) hl rfl hs rfl rfl rfl d hq kk
theorem geX0_6 (C : gC cc nL own G X) (hs : G.2.2.1 c = kX0 c) (hl : gFL own index "SoapNames$Cake" "thick" "I") (d : decode cc pc = .ok (.getfield index, 3)) (hq : pc + 3 = q) (kk : gSm l R nL G X k res V q L (.int (V c 6) :: st)) : gSm l R nL G X k res V pc L (.ref (G.1 c) :: st) := gf_get C (ci := 0) (C0 := RX0) (T := TX0) (N := 7) rfl inX0 6 (by decide) hl hs (o := none) rfl d hq kk
theorem peX0_6 (C : gC cc nL own G X) {v : Int32} (hs : G.2.2.1 c = kX0 c) (hl : gFL own index "SoapNames$Cake" "thick" "I") (d : decode cc pc = .ok (.putfield index, 3)) (hq : pc + 3 = q) {f : gV → Option α} (kk : ∀ V1, gSm l R nL G X (f V1) res V1 q L st) : gSm l R nL G X (gpu V c 6 v f) res V pc L (.int v :: .ref (G.1 c) :: st) := gf_put C (ci := 0) (C0 := RX0) (T := TX0) (N := 7) rfl inX0 tyX0 tyX0_ok nmX0 6 (by decide) hl rfl hs rfl rfl rfl d hq kk
theorem geX1_0 (C : gC cc nL own G X) (hs : G.2.2.1 c = kX1 c) (hl : gFL own index "SoapNames$House" "hands" "I") (d : decode cc pc = .ok (.getfield index, 3)) (hq : pc + 3 = q) (kk : gSm l R nL G X k res V q L (.int (V c 0) :: st)) : gSm l R nL G X k res V pc L (.ref (G.1 c) :: st) := gf_get C (ci := 1) (C0 := RX1) (T := TX1) (N := 2) rfl inX1 0 (by decide) hl hs (o := none) rfl d hq kk
theorem peX1_0 (C : gC cc nL own G X) {v : Int32} (hs : G.2.2.1 c = kX1 c) (hl : gFL own index "SoapNames$House" "hands" "I") (d : decode cc pc = .ok (.putfield index, 3)) (hq : pc + 3 = q) {f : gV → Option α} (kk : ∀ V1, gSm l R nL G X (f V1) res V1 q L st) : gSm l R nL G X (gpu V c 0 v f) res V pc L (.int v :: .ref (G.1 c) :: st) := gf_put C (ci := 1) (C0 := RX1) (T := TX1) (N := 2) rfl inX1 tyX1 tyX1_ok nmX1 0 (by decide) hl rfl hs rfl rfl rfl d hq kk
theorem geX1_1 (C : gC cc nL own G X) (hs : G.2.2.1 c = kX1 c) (hl : gFL own index "SoapNames$House" "water" "I") (d : decode cc pc = .ok (.getfield index, 3)) (hq : pc + 3 = q) (kk : gSm l R nL G X k res V q L (.int (V c 1) :: st)) : gSm l R nL G X k res V pc L (.ref (G.1 c) :: st) := gf_get C (ci := 1) (C0 := RX1) (T := TX1) (N := 2) rfl inX1 1 (by decide) hl hs (o := none) rfl d hq kk
theorem peX1_1 (C : gC cc nL own G X) {v : Int32} (hs : G.2.2.1 c = kX1 c) (hl : gFL own index "SoapNames$House" "water" "I") (d : decode cc pc = .ok (.putfield index, 3)) (hq : pc + 3 = q) {f : gV → Option α} (kk : ∀ V1, gSm l R nL G X (f V1) res V1 q L st) : gSm l R nL G X (gpu V c 1 v f) res V pc L (.int v :: .ref (G.1 c) :: st) := gf_put C (ci := 1) (C0 := RX1) (T := TX1) (N := 2) rfl inX1 tyX1 tyX1_ok nmX1 1 (by decide) hl rfl hs rfl rfl rfl d hq kk
theorem geX2_0 (C : gC cc nL own G X) (hs : G.2.2.1 c = kX2 c) (hl : gFL own index "SoapNames$Reader" "found" "LSoapNames$Text;") (d : decode cc pc = .ok (.getfield index, 3)) (hq : pc + 3 = q) (kk : gSm l R nL G X k res V q L (.ref (G.1 (c + 1)) :: st)) : gSm l R nL G X k res V pc L (.ref (G.1 c) :: st) := gf_get C (ci := 2) (C0 := RX2) (T := TX2) (N := 6) rfl inX2 0 (by decide) hl hs (o := some (c + 1)) rfl d hq kk
theorem geX2_1 (C : gC cc nL own G X) (hs : G.2.2.1 c = kX2 c) (hl : gFL own index "SoapNames$Reader" "tape" "[I") (d : decode cc pc = .ok (.getfield index, 3)) (hq : pc + 3 = q) (kk : gSm l R nL G X k res V q L (.ref (G.1 (c + 4)) :: st)) : gSm l R nL G X k res V pc L (.ref (G.1 c) :: st) := gf_get C (ci := 2) (C0 := RX2) (T := TX2) (N := 6) rfl inX2 1 (by decide) hl hs (o := some (c + 4)) rfl d hq kk
theorem geX2_2 (C : gC cc nL own G X) (hs : G.2.2.1 c = kX2 c) (hl : gFL own index "SoapNames$Reader" "names" "[I") (d : decode cc pc = .ok (.getfield index, 3)) (hq : pc + 3 = q) (kk : gSm l R nL G X k res V q L (.ref (G.1 (c + 5)) :: st)) : gSm l R nL G X k res V pc L (.ref (G.1 c) :: st) := gf_get C (ci := 2) (C0 := RX2) (T := TX2) (N := 6) rfl inX2 2 (by decide) hl hs (o := some (c + 5)) rfl d hq kk
theorem geX2_3 (C : gC cc nL own G X) (hs : G.2.2.1 c = kX2 c) (hl : gFL own index "SoapNames$Reader" "length" "I") (d : decode cc pc = .ok (.getfield index, 3)) (hq : pc + 3 = q) (kk : gSm l R nL G X k res V q L (.int (V c 3) :: st)) : gSm l R nL G X k res V pc L (.ref (G.1 c) :: st) := gf_get C (ci := 2) (C0 := RX2) (T := TX2) (N := 6) rfl inX2 3 (by decide) hl hs (o := none) rfl d hq kk
theorem peX2_3 (C : gC cc nL own G X) {v : Int32} (hs : G.2.2.1 c = kX2 c) (hl : gFL own index "SoapNames$Reader" "length" "I") (d : decode cc pc = .ok (.putfield index, 3)) (hq : pc + 3 = q) {f : gV → Option α} (kk : ∀ V1, gSm l R nL G X (f V1) res V1 q L st) : gSm l R nL G X (gpu V c 3 v f) res V pc L (.int v :: .ref (G.1 c) :: st) := gf_put C (ci := 2) (C0 := RX2) (T := TX2) (N := 6) rfl inX2 tyX2 tyX2_ok nmX2 3 (by decide) hl rfl hs rfl rfl rfl d hq kk
theorem geX2_4 (C : gC cc nL own G X) (hs : G.2.2.1 c = kX2 c) (hl : gFL own index "SoapNames$Reader" "place" "I") (d : decode cc pc = .ok (.getfield index, 3)) (hq : pc + 3 = q) (kk : gSm l R nL G X k res V q L (.int (V c 4) :: st)) : gSm l R nL G X k res V pc L (.ref (G.1 c) :: st) := gf_get C (ci := 2) (C0 := RX2) (T := TX2) (N := 6) rfl inX2 4 (by decide) hl hs (o := none) rfl d hq kk
theorem peX2_4 (C : gC cc nL own G X) {v : Int32} (hs : G.2.2.1 c = kX2 c) (hl : gFL own index "SoapNames$Reader" "place" "I") (d : decode cc pc = .ok (.putfield index, 3)) (hq : pc + 3 = q) {f : gV → Option α} (kk : ∀ V1, gSm l R nL G X (f V1) res V1 q L st) : gSm l R nL G X (gpu V c 4 v f) res V pc L (.int v :: .ref (G.1 c) :: st) := gf_put C (ci := 2) (C0 := RX2) (T := TX2) (N := 6) rfl inX2 tyX2 tyX2_ok nmX2 4 (by decide) hl rfl hs rfl rfl rfl d hq kk
theorem geX2_5 (C : gC cc nL own G X) (hs : G.2.2.1 c = kX2 c) (hl : gFL own index "SoapNames$Reader" "fault" "I") (d : decode cc pc = .ok (.getfield index, 3)) (hq : pc + 3 = q) (kk : gSm l R nL G X k res V q L (.int (V c 5) :: st)) : gSm l R nL G X k res V pc L (.ref (G.1 c) :: st) := gf_get C (ci := 2) (C0 := RX2) (T := TX2) (N := 6) rfl inX2 5 (by decide) hl hs (o := none) rfl d hq kk
theorem peX2_5 (C : gC cc nL own G X) {v : Int32} (hs : G.2.2.1 c = kX2 c) (hl : gFL own index "SoapNames$Reader" "fault" "I") (d : decode cc pc = .ok (.putfield index, 3)) (hq : pc + 3 = q) {f : gV → Option α} (kk : ∀ V1, gSm l R nL G X (f V1) res V1 q L st) : gSm l R nL G X (gpu V c 5 v f) res V pc L (.int v :: .ref (G.1 c) :: st) := gf_put C (ci := 2) (C0 := RX2) (T := TX2) (N := 6) rfl inX2 tyX2 tyX2_ok nmX2 5 (by decide) hl rfl hs rfl rfl rfl d hq kk
theorem geX3_0 (C : gC cc nL own G X) (hs : G.2.2.1 c = kX3 c) (hl : gFL own index "SoapNames$Sheet" "numbers" "[I") (d : decode cc pc = .ok (.getfield index, 3)) (hq : pc + 3 = q) (kk : gSm l R nL G X k res V q L (.ref (G.1 (c + 1)) :: st)) : gSm l R nL G X k res V pc L (.ref (G.1 c) :: st) := gf_get C (ci := 3) (C0 := RX3) (T := TX3) (N := 3) rfl inX3 0 (by decide) hl hs (o := some (c + 1)) rfl d hq kk
theorem geX3_1 (C : gC cc nL own G X) (hs : G.2.2.1 c = kX3 c) (hl : gFL own index "SoapNames$Sheet" "bits" "I") (d : decode cc pc = .ok (.getfield index, 3)) (hq : pc + 3 = q) (kk : gSm l R nL G X k res V q L (.int (V c 1) :: st)) : gSm l R nL G X k res V pc L (.ref (G.1 c) :: st) := gf_get C (ci := 3) (C0 := RX3) (T := TX3) (N := 3) rfl inX3 1 (by decide) hl hs (o := none) rfl d hq kk
theorem peX3_1 (C : gC cc nL own G X) {v : Int32} (hs : G.2.2.1 c = kX3 c) (hl : gFL own index "SoapNames$Sheet" "bits" "I") (d : decode cc pc = .ok (.putfield index, 3)) (hq : pc + 3 = q) {f : gV → Option α} (kk : ∀ V1, gSm l R nL G X (f V1) res V1 q L st) : gSm l R nL G X (gpu V c 1 v f) res V pc L (.int v :: .ref (G.1 c) :: st) := gf_put C (ci := 3) (C0 := RX3) (T := TX3) (N := 3) rfl inX3 tyX3 tyX3_ok nmX3 1 (by decide) hl rfl hs rfl rfl rfl d hq kk
theorem geX3_2 (C : gC cc nL own G X) (hs : G.2.2.1 c = kX3 c) (hl : gFL own index "SoapNames$Sheet" "size" "I") (d : decode cc pc = .ok (.getfield index, 3)) (hq : pc + 3 = q) (kk : gSm l R nL G X k res V q L (.int (V c 2) :: st)) : gSm l R nL G X k res V pc L (.ref (G.1 c) :: st) := gf_get C (ci := 3) (C0 := RX3) (T := TX3) (N := 3) rfl inX3 2 (by decide) hl hs (o := none) rfl d hq kk
theorem peX3_2 (C : gC cc nL own G X) {v : Int32} (hs : G.2.2.1 c = kX3 c) (hl : gFL own index "SoapNames$Sheet" "size" "I") (d : decode cc pc = .ok (.putfield index, 3)) (hq : pc + 3 = q) {f : gV → Option α} (kk : ∀ V1, gSm l R nL G X (f V1) res V1 q L st) : gSm l R nL G X (gpu V c 2 v f) res V pc L (.int v :: .ref (G.1 c) :: st) := gf_put C (ci := 3) (C0 := RX3) (T := TX3) (N := 3) rfl inX3 tyX3 tyX3_ok nmX3 2 (by decide) hl rfl hs rfl rfl rfl d hq kk
theorem geX4_0 (C : gC cc nL own G X) (hs : G.2.2.1 c = kX4 c) (hl : gFL own index "SoapNames$Text" "steps" "[I") (d : decode cc pc = .ok (.getfield index, 3)) (hq : pc + 3 = q) (kk : gSm l R nL G X k res V q L (.ref (G.1 (c + 1)) :: st)) : gSm l R nL G X k res V pc L (.ref (G.1 c) :: st) := gf_get C (ci := 4) (C0 := RX4) (T := TX4) (N := 3) rfl inX4 0 (by decide) hl hs (o := some (c + 1)) rfl d hq kk
theorem geX4_1 (C : gC cc nL own G X) (hs : G.2.2.1 c = kX4 c) (hl : gFL own index "SoapNames$Text" "stack" "[I") (d : decode cc pc = .ok (.getfield index, 3)) (hq : pc + 3 = q) (kk : gSm l R nL G X k res V q L (.ref (G.1 (c + 2)) :: st)) : gSm l R nL G X k res V pc L (.ref (G.1 c) :: st) := gf_get C (ci := 4) (C0 := RX4) (T := TX4) (N := 3) rfl inX4 1 (by decide) hl hs (o := some (c + 2)) rfl d hq kk
theorem geX4_2 (C : gC cc nL own G X) (hs : G.2.2.1 c = kX4 c) (hl : gFL own index "SoapNames$Text" "length" "I") (d : decode cc pc = .ok (.getfield index, 3)) (hq : pc + 3 = q) (kk : gSm l R nL G X k res V q L (.int (V c 2) :: st)) : gSm l R nL G X k res V pc L (.ref (G.1 c) :: st) := gf_get C (ci := 4) (C0 := RX4) (T := TX4) (N := 3) rfl inX4 2 (by decide) hl hs (o := none) rfl d hq kk
theorem peX4_2 (C : gC cc nL own G X) {v : Int32} (hs : G.2.2.1 c = kX4 c) (hl : gFL own index "SoapNames$Text" "length" "I") (d : decode cc pc = .ok (.putfield index, 3)) (hq : pc + 3 = q) {f : gV → Option α} (kk : ∀ V1, gSm l R nL G X (f V1) res V1 q L st) : gSm l R nL G X (gpu V c 2 v f) res V pc L (.int v :: .ref (G.1 c) :: st) := gf_put C (ci := 4) (C0 := RX4) (T := TX4) (N := 3) rfl inX4 tyX4 tyX4_ok nmX4 2 (by decide) hl rfl hs rfl rfl rfl d hq kk
theorem geX5_0 (C : gC cc nL own G X) (hs : G.2.2.1 c = kX5 c) (hl : gFL own index "SoapNames$Voice" "bodies" "[I") (d : decode cc pc = .ok (.getfield index, 3)) (hq : pc + 3 = q) (kk : gSm l R nL G X k res V q L (.ref (G.1 (c + 1)) :: st)) : gSm l R nL G X k res V pc L (.ref (G.1 c) :: st) := gf_get C (ci := 5) (C0 := RX5) (T := TX5) (N := 5) rfl inX5 0 (by decide) hl hs (o := some (c + 1)) rfl d hq kk
theorem geX5_1 (C : gC cc nL own G X) (hs : G.2.2.1 c = kX5 c) (hl : gFL own index "SoapNames$Voice" "traced" "I") (d : decode cc pc = .ok (.getfield index, 3)) (hq : pc + 3 = q) (kk : gSm l R nL G X k res V q L (.int (V c 1) :: st)) : gSm l R nL G X k res V pc L (.ref (G.1 c) :: st) := gf_get C (ci := 5) (C0 := RX5) (T := TX5) (N := 5) rfl inX5 1 (by decide) hl hs (o := none) rfl d hq kk
theorem peX5_1 (C : gC cc nL own G X) {v : Int32} (hs : G.2.2.1 c = kX5 c) (hl : gFL own index "SoapNames$Voice" "traced" "I") (d : decode cc pc = .ok (.putfield index, 3)) (hq : pc + 3 = q) {f : gV → Option α} (kk : ∀ V1, gSm l R nL G X (f V1) res V1 q L st) : gSm l R nL G X (gpu V c 1 v f) res V pc L (.int v :: .ref (G.1 c) :: st) := gf_put C (ci := 5) (C0 := RX5) (T := TX5) (N := 5) rfl inX5 tyX5 tyX5_ok nmX5 1 (by decide) hl rfl hs rfl rfl rfl d hq kk
theorem geX5_2 (C : gC cc nL own G X) (hs : G.2.2.1 c = kX5 c) (hl : gFL own index "SoapNames$Voice" "number" "I") (d : decode cc pc = .ok (.getfield index, 3)) (hq : pc + 3 = q) (kk : gSm l R nL G X k res V q L (.int (V c 2) :: st)) : gSm l R nL G X k res V pc L (.ref (G.1 c) :: st) := gf_get C (ci := 5) (C0 := RX5) (T := TX5) (N := 5) rfl inX5 2 (by decide) hl hs (o := none) rfl d hq kk
theorem peX5_2 (C : gC cc nL own G X) {v : Int32} (hs : G.2.2.1 c = kX5 c) (hl : gFL own index "SoapNames$Voice" "number" "I") (d : decode cc pc = .ok (.putfield index, 3)) (hq : pc + 3 = q) {f : gV → Option α} (kk : ∀ V1, gSm l R nL G X (f V1) res V1 q L st) : gSm l R nL G X (gpu V c 2 v f) res V pc L (.int v :: .ref (G.1 c) :: st) := gf_put C (ci := 5) (C0 := RX5) (T := TX5) (N := 5) rfl inX5 tyX5 tyX5_ok nmX5 2 (by decide) hl rfl hs rfl rfl rfl d hq kk
theorem geX5_3 (C : gC cc nL own G X) (hs : G.2.2.1 c = kX5 c) (hl : gFL own index "SoapNames$Voice" "m" "I") (d : decode cc pc = .ok (.getfield index, 3)) (hq : pc + 3 = q) (kk : gSm l R nL G X k res V q L (.int (V c 3) :: st)) : gSm l R nL G X k res V pc L (.ref (G.1 c) :: st) := gf_get C (ci := 5) (C0 := RX5) (T := TX5) (N := 5) rfl inX5 3 (by decide) hl hs (o := none) rfl d hq kk
theorem peX5_3 (C : gC cc nL own G X) {v : Int32} (hs : G.2.2.1 c = kX5 c) (hl : gFL own index "SoapNames$Voice" "m" "I") (d : decode cc pc = .ok (.putfield index, 3)) (hq : pc + 3 = q) {f : gV → Option α} (kk : ∀ V1, gSm l R nL G X (f V1) res V1 q L st) : gSm l R nL G X (gpu V c 3 v f) res V pc L (.int v :: .ref (G.1 c) :: st) := gf_put C (ci := 5) (C0 := RX5) (T := TX5) (N := 5) rfl inX5 tyX5 tyX5_ok nmX5 3 (by decide) hl rfl hs rfl rfl rfl d hq kk
theorem geX5_4 (C : gC cc nL own G X) (hs : G.2.2.1 c = kX5 c) (hl : gFL own index "SoapNames$Voice" "kind" "I") (d : decode cc pc = .ok (.getfield index, 3)) (hq : pc + 3 = q) (kk : gSm l R nL G X k res V q L (.int (V c 4) :: st)) : gSm l R nL G X k res V pc L (.ref (G.1 c) :: st) := gf_get C (ci := 5) (C0 := RX5) (T := TX5) (N := 5) rfl inX5 4 (by decide) hl hs (o := none) rfl d hq kk
theorem peX5_4 (C : gC cc nL own G X) {v : Int32} (hs : G.2.2.1 c = kX5 c) (hl : gFL own index "SoapNames$Voice" "kind" "I") (d : decode cc pc = .ok (.putfield index, 3)) (hq : pc + 3 = q) {f : gV → Option α} (kk : ∀ V1, gSm l R nL G X (f V1) res V1 q L st) : gSm l R nL G X (gpu V c 4 v f) res V pc L (.int v :: .ref (G.1 c) :: st) := gf_put C (ci := 5) (C0 := RX5) (T := TX5) (N := 5) rfl inX5 tyX5 tyX5_ok nmX5 4 (by decide) hl rfl hs rfl rfl rfl d hq kk
theorem geX6_0 (C : gC cc nL own G X) (hs : G.2.2.1 c = kX6 c) (hl : gFL own index "SoapNames$World" "houses" "[LSoapNames$House;") (d : decode cc pc = .ok (.getfield index, 3)) (hq : pc + 3 = q) (kk : gSm l R nL G X k res V q L (.ref (G.1 (c + 1)) :: st)) : gSm l R nL G X k res V pc L (.ref (G.1 c) :: st) := gf_get C (ci := 6) (C0 := RX6) (T := TX6) (N := 14) rfl inX6 0 (by decide) hl hs (o := some (c + 1)) rfl d hq kk
theorem geX6_1 (C : gC cc nL own G X) (hs : G.2.2.1 c = kX6 c) (hl : gFL own index "SoapNames$World" "cakes" "[LSoapNames$Cake;") (d : decode cc pc = .ok (.getfield index, 3)) (hq : pc + 3 = q) (kk : gSm l R nL G X k res V q L (.ref (G.1 (c + 2)) :: st)) : gSm l R nL G X k res V pc L (.ref (G.1 c) :: st) := gf_get C (ci := 6) (C0 := RX6) (T := TX6) (N := 14) rfl inX6 1 (by decide) hl hs (o := some (c + 2)) rfl d hq kk
theorem geX6_2 (C : gC cc nL own G X) (hs : G.2.2.1 c = kX6 c) (hl : gFL own index "SoapNames$World" "noHouse" "LSoapNames$House;") (d : decode cc pc = .ok (.getfield index, 3)) (hq : pc + 3 = q) (kk : gSm l R nL G X k res V q L (.ref (G.1 (c + 3)) :: st)) : gSm l R nL G X k res V pc L (.ref (G.1 c) :: st) := gf_get C (ci := 6) (C0 := RX6) (T := TX6) (N := 14) rfl inX6 2 (by decide) hl hs (o := some (c + 3)) rfl d hq kk
theorem geX6_3 (C : gC cc nL own G X) (hs : G.2.2.1 c = kX6 c) (hl : gFL own index "SoapNames$World" "noCake" "LSoapNames$Cake;") (d : decode cc pc = .ok (.getfield index, 3)) (hq : pc + 3 = q) (kk : gSm l R nL G X k res V q L (.ref (G.1 (c + 4)) :: st)) : gSm l R nL G X k res V pc L (.ref (G.1 c) :: st) := gf_get C (ci := 6) (C0 := RX6) (T := TX6) (N := 14) rfl inX6 3 (by decide) hl hs (o := some (c + 4)) rfl d hq kk
theorem geX6_4 (C : gC cc nL own G X) (hs : G.2.2.1 c = kX6 c) (hl : gFL own index "SoapNames$World" "thickText" "LSoapNames$Text;") (d : decode cc pc = .ok (.getfield index, 3)) (hq : pc + 3 = q) (kk : gSm l R nL G X k res V q L (.ref (G.1 (c + 6)) :: st)) : gSm l R nL G X k res V pc L (.ref (G.1 c) :: st) := gf_get C (ci := 6) (C0 := RX6) (T := TX6) (N := 14) rfl inX6 4 (by decide) hl hs (o := some (c + 6)) rfl d hq kk
theorem geX6_5 (C : gC cc nL own G X) (hs : G.2.2.1 c = kX6 c) (hl : gFL own index "SoapNames$World" "wearText" "LSoapNames$Text;") (d : decode cc pc = .ok (.getfield index, 3)) (hq : pc + 3 = q) (kk : gSm l R nL G X k res V q L (.ref (G.1 (c + 9)) :: st)) : gSm l R nL G X k res V pc L (.ref (G.1 c) :: st) := gf_get C (ci := 6) (C0 := RX6) (T := TX6) (N := 14) rfl inX6 5 (by decide) hl hs (o := some (c + 9)) rfl d hq kk
theorem geX6_6 (C : gC cc nL own G X) (hs : G.2.2.1 c = kX6 c) (hl : gFL own index "SoapNames$World" "tape" "[I") (d : decode cc pc = .ok (.getfield index, 3)) (hq : pc + 3 = q) (kk : gSm l R nL G X k res V q L (.ref (G.1 (c + 12)) :: st)) : gSm l R nL G X k res V pc L (.ref (G.1 c) :: st) := gf_get C (ci := 6) (C0 := RX6) (T := TX6) (N := 14) rfl inX6 6 (by decide) hl hs (o := some (c + 12)) rfl d hq kk
theorem geX6_7 (C : gC cc nL own G X) (hs : G.2.2.1 c = kX6 c) (hl : gFL own index "SoapNames$World" "waiting" "[I") (d : decode cc pc = .ok (.getfield index, 3)) (hq : pc + 3 = q) (kk : gSm l R nL G X k res V q L (.ref (G.1 (c + 13)) :: st)) : gSm l R nL G X k res V pc L (.ref (G.1 c) :: st) := gf_get C (ci := 6) (C0 := RX6) (T := TX6) (N := 14) rfl inX6 7 (by decide) hl hs (o := some (c + 13)) rfl d hq kk
theorem geX6_8 (C : gC cc nL own G X) (hs : G.2.2.1 c = kX6 c) (hl : gFL own index "SoapNames$World" "houseCount" "I") (d : decode cc pc = .ok (.getfield index, 3)) (hq : pc + 3 = q) (kk : gSm l R nL G X k res V q L (.int (V c 8) :: st)) : gSm l R nL G X k res V pc L (.ref (G.1 c) :: st) := gf_get C (ci := 6) (C0 := RX6) (T := TX6) (N := 14) rfl inX6 8 (by decide) hl hs (o := none) rfl d hq kk
theorem peX6_8 (C : gC cc nL own G X) {v : Int32} (hs : G.2.2.1 c = kX6 c) (hl : gFL own index "SoapNames$World" "houseCount" "I") (d : decode cc pc = .ok (.putfield index, 3)) (hq : pc + 3 = q) {f : gV → Option α} (kk : ∀ V1, gSm l R nL G X (f V1) res V1 q L st) : gSm l R nL G X (gpu V c 8 v f) res V pc L (.int v :: .ref (G.1 c) :: st) := gf_put C (ci := 6) (C0 := RX6) (T := TX6) (N := 14) rfl inX6 tyX6 tyX6_ok nmX6 8 (by decide) hl rfl hs rfl rfl rfl d hq kk
theorem geX6_9 (C : gC cc nL own G X) (hs : G.2.2.1 c = kX6 c) (hl : gFL own index "SoapNames$World" "cakeCount" "I") (d : decode cc pc = .ok (.getfield index, 3)) (hq : pc + 3 = q) (kk : gSm l R nL G X k res V q L (.int (V c 9) :: st)) : gSm l R nL G X k res V pc L (.ref (G.1 c) :: st) := gf_get C (ci := 6) (C0 := RX6) (T := TX6) (N := 14) rfl inX6 9 (by decide) hl hs (o := none) rfl d hq kk
theorem peX6_9 (C : gC cc nL own G X) {v : Int32} (hs : G.2.2.1 c = kX6 c) (hl : gFL own index "SoapNames$World" "cakeCount" "I") (d : decode cc pc = .ok (.putfield index, 3)) (hq : pc + 3 = q) {f : gV → Option α} (kk : ∀ V1, gSm l R nL G X (f V1) res V1 q L st) : gSm l R nL G X (gpu V c 9 v f) res V pc L (.int v :: .ref (G.1 c) :: st) := gf_put C (ci := 6) (C0 := RX6) (T := TX6) (N := 14) rfl inX6 tyX6 tyX6_ok nmX6 9 (by decide) hl rfl hs rfl rfl rfl d hq kk
theorem geX6_10 (C : gC cc nL own G X) (hs : G.2.2.1 c = kX6 c) (hl : gFL own index "SoapNames$World" "tapeLength" "I") (d : decode cc pc = .ok (.getfield index, 3)) (hq : pc + 3 = q) (kk : gSm l R nL G X k res V q L (.int (V c 10) :: st)) : gSm l R nL G X k res V pc L (.ref (G.1 c) :: st) := gf_get C (ci := 6) (C0 := RX6) (T := TX6) (N := 14) rfl inX6 10 (by decide) hl hs (o := none) rfl d hq kk
theorem peX6_10 (C : gC cc nL own G X) {v : Int32} (hs : G.2.2.1 c = kX6 c) (hl : gFL own index "SoapNames$World" "tapeLength" "I") (d : decode cc pc = .ok (.putfield index, 3)) (hq : pc + 3 = q) {f : gV → Option α} (kk : ∀ V1, gSm l R nL G X (f V1) res V1 q L st) : gSm l R nL G X (gpu V c 10 v f) res V pc L (.int v :: .ref (G.1 c) :: st) := gf_put C (ci := 6) (C0 := RX6) (T := TX6) (N := 14) rfl inX6 tyX6 tyX6_ok nmX6 10 (by decide) hl rfl hs rfl rfl rfl d hq kk
theorem geX6_11 (C : gC cc nL own G X) (hs : G.2.2.1 c = kX6 c) (hl : gFL own index "SoapNames$World" "waitingCount" "I") (d : decode cc pc = .ok (.getfield index, 3)) (hq : pc + 3 = q) (kk : gSm l R nL G X k res V q L (.int (V c 11) :: st)) : gSm l R nL G X k res V pc L (.ref (G.1 c) :: st) := gf_get C (ci := 6) (C0 := RX6) (T := TX6) (N := 14) rfl inX6 11 (by decide) hl hs (o := none) rfl d hq kk
theorem peX6_11 (C : gC cc nL own G X) {v : Int32} (hs : G.2.2.1 c = kX6 c) (hl : gFL own index "SoapNames$World" "waitingCount" "I") (d : decode cc pc = .ok (.putfield index, 3)) (hq : pc + 3 = q) {f : gV → Option α} (kk : ∀ V1, gSm l R nL G X (f V1) res V1 q L st) : gSm l R nL G X (gpu V c 11 v f) res V pc L (.int v :: .ref (G.1 c) :: st) := gf_put C (ci := 6) (C0 := RX6) (T := TX6) (N := 14) rfl inX6 tyX6 tyX6_ok nmX6 11 (by decide) hl rfl hs rfl rfl rfl d hq kk
theorem geX6_12 (C : gC cc nL own G X) (hs : G.2.2.1 c = kX6 c) (hl : gFL own index "SoapNames$World" "day" "I") (d : decode cc pc = .ok (.getfield index, 3)) (hq : pc + 3 = q) (kk : gSm l R nL G X k res V q L (.int (V c 12) :: st)) : gSm l R nL G X k res V pc L (.ref (G.1 c) :: st) := gf_get C (ci := 6) (C0 := RX6) (T := TX6) (N := 14) rfl inX6 12 (by decide) hl hs (o := none) rfl d hq kk
theorem peX6_12 (C : gC cc nL own G X) {v : Int32} (hs : G.2.2.1 c = kX6 c) (hl : gFL own index "SoapNames$World" "day" "I") (d : decode cc pc = .ok (.putfield index, 3)) (hq : pc + 3 = q) {f : gV → Option α} (kk : ∀ V1, gSm l R nL G X (f V1) res V1 q L st) : gSm l R nL G X (gpu V c 12 v f) res V pc L (.int v :: .ref (G.1 c) :: st) := gf_put C (ci := 6) (C0 := RX6) (T := TX6) (N := 14) rfl inX6 tyX6 tyX6_ok nmX6 12 (by decide) hl rfl hs rfl rfl rfl d hq kk
theorem geX6_13 (C : gC cc nL own G X) (hs : G.2.2.1 c = kX6 c) (hl : gFL own index "SoapNames$World" "z" "I") (d : decode cc pc = .ok (.getfield index, 3)) (hq : pc + 3 = q) (kk : gSm l R nL G X k res V q L (.int (V c 13) :: st)) : gSm l R nL G X k res V pc L (.ref (G.1 c) :: st) := gf_get C (ci := 6) (C0 := RX6) (T := TX6) (N := 14) rfl inX6 13 (by decide) hl hs (o := none) rfl d hq kk
theorem peX6_13 (C : gC cc nL own G X) {v : Int32} (hs : G.2.2.1 c = kX6 c) (hl : gFL own index "SoapNames$World" "z" "I") (d : decode cc pc = .ok (.putfield index, 3)) (hq : pc + 3 = q) {f : gV → Option α} (kk : ∀ V1, gSm l R nL G X (f V1) res V1 q L st) : gSm l R nL G X (gpu V c 13 v f) res V pc L (.int v :: .ref (G.1 c) :: st) := gf_put C (ci := 6) (C0 := RX6) (T := TX6) (N := 14) rfl inX6 tyX6 tyX6_ok nmX6 13 (by decide) hl rfl hs rfl rfl rfl d hq kk
theorem geX7_0 (C : gC cc nL own G X) (hs : G.2.2.1 c = kX7 c) (hl : gFL own index "SoapNames" "now" "LSoapNames$World;") (d : decode cc pc = .ok (.getfield index, 3)) (hq : pc + 3 = q) (kk : gSm l R nL G X k res V q L (.ref (G.1 (c + 1)) :: st)) : gSm l R nL G X k res V pc L (.ref (G.1 c) :: st) := gf_get C (ci := 7) (C0 := RX7) (T := TX7) (N := 10) rfl inX7 0 (by decide) hl hs (o := some (c + 1)) rfl d hq kk
theorem geX7_1 (C : gC cc nL own G X) (hs : G.2.2.1 c = kX7 c) (hl : gFL own index "SoapNames" "kept" "LSoapNames$World;") (d : decode cc pc = .ok (.getfield index, 3)) (hq : pc + 3 = q) (kk : gSm l R nL G X k res V q L (.ref (G.1 (c + 31)) :: st)) : gSm l R nL G X k res V pc L (.ref (G.1 c) :: st) := gf_get C (ci := 7) (C0 := RX7) (T := TX7) (N := 10) rfl inX7 1 (by decide) hl hs (o := some (c + 31)) rfl d hq kk
theorem geX7_2 (C : gC cc nL own G X) (hs : G.2.2.1 c = kX7 c) (hl : gFL own index "SoapNames" "thought" "LSoapNames$World;") (d : decode cc pc = .ok (.getfield index, 3)) (hq : pc + 3 = q) (kk : gSm l R nL G X k res V q L (.ref (G.1 (c + 61)) :: st)) : gSm l R nL G X k res V pc L (.ref (G.1 c) :: st) := gf_get C (ci := 7) (C0 := RX7) (T := TX7) (N := 10) rfl inX7 2 (by decide) hl hs (o := some (c + 61)) rfl d hq kk
theorem geX7_3 (C : gC cc nL own G X) (hs : G.2.2.1 c = kX7 c) (hl : gFL own index "SoapNames" "reader" "LSoapNames$Reader;") (d : decode cc pc = .ok (.getfield index, 3)) (hq : pc + 3 = q) (kk : gSm l R nL G X k res V q L (.ref (G.1 (c + 91)) :: st)) : gSm l R nL G X k res V pc L (.ref (G.1 c) :: st) := gf_get C (ci := 7) (C0 := RX7) (T := TX7) (N := 10) rfl inX7 3 (by decide) hl hs (o := some (c + 91)) rfl d hq kk
theorem geX7_4 (C : gC cc nL own G X) (hs : G.2.2.1 c = kX7 c) (hl : gFL own index "SoapNames" "voice" "LSoapNames$Voice;") (d : decode cc pc = .ok (.getfield index, 3)) (hq : pc + 3 = q) (kk : gSm l R nL G X k res V q L (.ref (G.1 (c + 97)) :: st)) : gSm l R nL G X k res V pc L (.ref (G.1 c) :: st) := gf_get C (ci := 7) (C0 := RX7) (T := TX7) (N := 10) rfl inX7 4 (by decide) hl hs (o := some (c + 97)) rfl d hq kk
theorem geX7_5 (C : gC cc nL own G X) (hs : G.2.2.1 c = kX7 c) (hl : gFL own index "SoapNames" "sheets" "[LSoapNames$Sheet;") (d : decode cc pc = .ok (.getfield index, 3)) (hq : pc + 3 = q) (kk : gSm l R nL G X k res V q L (.ref (G.1 (c + 99)) :: st)) : gSm l R nL G X k res V pc L (.ref (G.1 c) :: st) := gf_get C (ci := 7) (C0 := RX7) (T := TX7) (N := 10) rfl inX7 5 (by decide) hl hs (o := some (c + 99)) rfl d hq kk
theorem geX7_6 (C : gC cc nL own G X) (hs : G.2.2.1 c = kX7 c) (hl : gFL own index "SoapNames" "missingSheet" "LSoapNames$Sheet;") (d : decode cc pc = .ok (.getfield index, 3)) (hq : pc + 3 = q) (kk : gSm l R nL G X k res V q L (.ref (G.1 (c + 100)) :: st)) : gSm l R nL G X k res V pc L (.ref (G.1 c) :: st) := gf_get C (ci := 7) (C0 := RX7) (T := TX7) (N := 10) rfl inX7 6 (by decide) hl hs (o := some (c + 100)) rfl d hq kk
theorem geX7_7 (C : gC cc nL own G X) (hs : G.2.2.1 c = kX7 c) (hl : gFL own index "SoapNames" "lent" "[I") (d : decode cc pc = .ok (.getfield index, 3)) (hq : pc + 3 = q) (kk : gSm l R nL G X k res V q L (.ref (G.1 (c + 102)) :: st)) : gSm l R nL G X k res V pc L (.ref (G.1 c) :: st) := gf_get C (ci := 7) (C0 := RX7) (T := TX7) (N := 10) rfl inX7 7 (by decide) hl hs (o := some (c + 102)) rfl d hq kk
theorem geX7_8 (C : gC cc nL own G X) (hs : G.2.2.1 c = kX7 c) (hl : gFL own index "SoapNames" "errors" "[I") (d : decode cc pc = .ok (.getfield index, 3)) (hq : pc + 3 = q) (kk : gSm l R nL G X k res V q L (.ref (G.1 (c + 103)) :: st)) : gSm l R nL G X k res V pc L (.ref (G.1 c) :: st) := gf_get C (ci := 7) (C0 := RX7) (T := TX7) (N := 10) rfl inX7 8 (by decide) hl hs (o := some (c + 103)) rfl d hq kk
theorem geX7_9 (C : gC cc nL own G X) (hs : G.2.2.1 c = kX7 c) (hl : gFL own index "SoapNames" "images" "I") (d : decode cc pc = .ok (.getfield index, 3)) (hq : pc + 3 = q) (kk : gSm l R nL G X k res V q L (.int (V c 9) :: st)) : gSm l R nL G X k res V pc L (.ref (G.1 c) :: st) := gf_get C (ci := 7) (C0 := RX7) (T := TX7) (N := 10) rfl inX7 9 (by decide) hl hs (o := none) rfl d hq kk
theorem peX7_9 (C : gC cc nL own G X) {v : Int32} (hs : G.2.2.1 c = kX7 c) (hl : gFL own index "SoapNames" "images" "I") (d : decode cc pc = .ok (.putfield index, 3)) (hq : pc + 3 = q) {f : gV → Option α} (kk : ∀ V1, gSm l R nL G X (f V1) res V1 q L st) : gSm l R nL G X (gpu V c 9 v f) res V pc L (.int v :: .ref (G.1 c) :: st) := gf_put C (ci := 7) (C0 := RX7) (T := TX7) (N := 10) rfl inX7 tyX7 tyX7_ok nmX7 9 (by decide) hl rfl hs rfl rfl rfl d hq kk
theorem geX8_0 (C : gC cc nL own G X) (hs : G.2.2.1 c = kX8 c) (hl : gFL own index "SoapNamesModel" "row" "[I") (d : decode cc pc = .ok (.getfield index, 3)) (hq : pc + 3 = q) (kk : gSm l R nL G X k res V q L (.ref (G.1 (c + 1)) :: st)) : gSm l R nL G X k res V pc L (.ref (G.1 c) :: st) := gf_get C (ci := 8) (C0 := RX8) (T := TX8) (N := 25) rfl inX8 0 (by decide) hl hs (o := some (c + 1)) rfl d hq kk
theorem geX8_1 (C : gC cc nL own G X) (hs : G.2.2.1 c = kX8 c) (hl : gFL own index "SoapNamesModel" "kept" "[I") (d : decode cc pc = .ok (.getfield index, 3)) (hq : pc + 3 = q) (kk : gSm l R nL G X k res V q L (.ref (G.1 (c + 2)) :: st)) : gSm l R nL G X k res V pc L (.ref (G.1 c) :: st) := gf_get C (ci := 8) (C0 := RX8) (T := TX8) (N := 25) rfl inX8 1 (by decide) hl hs (o := some (c + 2)) rfl d hq kk
theorem geX8_2 (C : gC cc nL own G X) (hs : G.2.2.1 c = kX8 c) (hl : gFL own index "SoapNamesModel" "tried" "[I") (d : decode cc pc = .ok (.getfield index, 3)) (hq : pc + 3 = q) (kk : gSm l R nL G X k res V q L (.ref (G.1 (c + 3)) :: st)) : gSm l R nL G X k res V pc L (.ref (G.1 c) :: st) := gf_get C (ci := 8) (C0 := RX8) (T := TX8) (N := 25) rfl inX8 2 (by decide) hl hs (o := some (c + 3)) rfl d hq kk
theorem geX8_3 (C : gC cc nL own G X) (hs : G.2.2.1 c = kX8 c) (hl : gFL own index "SoapNamesModel" "before" "[I") (d : decode cc pc = .ok (.getfield index, 3)) (hq : pc + 3 = q) (kk : gSm l R nL G X k res V q L (.ref (G.1 (c + 4)) :: st)) : gSm l R nL G X k res V pc L (.ref (G.1 c) :: st) := gf_get C (ci := 8) (C0 := RX8) (T := TX8) (N := 25) rfl inX8 3 (by decide) hl hs (o := some (c + 4)) rfl d hq kk
theorem geX8_4 (C : gC cc nL own G X) (hs : G.2.2.1 c = kX8 c) (hl : gFL own index "SoapNamesModel" "isKept" "Z") (d : decode cc pc = .ok (.getfield index, 3)) (hq : pc + 3 = q) (kk : gSm l R nL G X k res V q L (.int (V c 4) :: st)) : gSm l R nL G X k res V pc L (.ref (G.1 c) :: st) := gf_get C (ci := 8) (C0 := RX8) (T := TX8) (N := 25) rfl inX8 4 (by decide) hl hs (o := none) rfl d hq kk
theorem peX8_4 (C : gC cc nL own G X) {v : Int32} (hs : G.2.2.1 c = kX8 c) (hl : gFL own index "SoapNamesModel" "isKept" "Z") (hv : v = 0 ∨ v = 1) (d : decode cc pc = .ok (.putfield index, 3)) (hq : pc + 3 = q) {f : gV → Option α} (kk : ∀ V1, gSm l R nL G X (f V1) res V1 q L st) : gSm l R nL G X (gpu V c 4 v f) res V pc L (.int v :: .ref (G.1 c) :: st) := gf_put C (ci := 8) (C0 := RX8) (T := TX8) (N := 25) rfl inX8 tyX8 tyX8_ok nmX8 4 (by decide) hl rfl hs rfl (by rcases hv with rfl | rfl <;> rfl) (by rcases hv with rfl | rfl <;> rfl) d hq kk
theorem geX8_5 (C : gC cc nL own G X) (hs : G.2.2.1 c = kX8 c) (hl : gFL own index "SoapNamesModel" "images" "I") (d : decode cc pc = .ok (.getfield index, 3)) (hq : pc + 3 = q) (kk : gSm l R nL G X k res V q L (.int (V c 5) :: st)) : gSm l R nL G X k res V pc L (.ref (G.1 c) :: st) := gf_get C (ci := 8) (C0 := RX8) (T := TX8) (N := 25) rfl inX8 5 (by decide) hl hs (o := none) rfl d hq kk
theorem peX8_5 (C : gC cc nL own G X) {v : Int32} (hs : G.2.2.1 c = kX8 c) (hl : gFL own index "SoapNamesModel" "images" "I") (d : decode cc pc = .ok (.putfield index, 3)) (hq : pc + 3 = q) {f : gV → Option α} (kk : ∀ V1, gSm l R nL G X (f V1) res V1 q L st) : gSm l R nL G X (gpu V c 5 v f) res V pc L (.int v :: .ref (G.1 c) :: st) := gf_put C (ci := 8) (C0 := RX8) (T := TX8) (N := 25) rfl inX8 tyX8 tyX8_ok nmX8 5 (by decide) hl rfl hs rfl rfl rfl d hq kk
theorem geX8_6 (C : gC cc nL own G X) (hs : G.2.2.1 c = kX8 c) (hl : gFL own index "SoapNamesModel" "found" "[I") (d : decode cc pc = .ok (.getfield index, 3)) (hq : pc + 3 = q) (kk : gSm l R nL G X k res V q L (.ref (G.1 (c + 5)) :: st)) : gSm l R nL G X k res V pc L (.ref (G.1 c) :: st) := gf_get C (ci := 8) (C0 := RX8) (T := TX8) (N := 25) rfl inX8 6 (by decide) hl hs (o := some (c + 5)) rfl d hq kk
theorem geX8_7 (C : gC cc nL own G X) (hs : G.2.2.1 c = kX8 c) (hl : gFL own index "SoapNamesModel" "use" "I") (d : decode cc pc = .ok (.getfield index, 3)) (hq : pc + 3 = q) (kk : gSm l R nL G X k res V q L (.int (V c 7) :: st)) : gSm l R nL G X k res V pc L (.ref (G.1 c) :: st) := gf_get C (ci := 8) (C0 := RX8) (T := TX8) (N := 25) rfl inX8 7 (by decide) hl hs (o := none) rfl d hq kk
theorem peX8_7 (C : gC cc nL own G X) {v : Int32} (hs : G.2.2.1 c = kX8 c) (hl : gFL own index "SoapNamesModel" "use" "I") (d : decode cc pc = .ok (.putfield index, 3)) (hq : pc + 3 = q) {f : gV → Option α} (kk : ∀ V1, gSm l R nL G X (f V1) res V1 q L st) : gSm l R nL G X (gpu V c 7 v f) res V pc L (.int v :: .ref (G.1 c) :: st) := gf_put C (ci := 8) (C0 := RX8) (T := TX8) (N := 25) rfl inX8 tyX8 tyX8_ok nmX8 7 (by decide) hl rfl hs rfl rfl rfl d hq kk
theorem geX8_8 (C : gC cc nL own G X) (hs : G.2.2.1 c = kX8 c) (hl : gFL own index "SoapNamesModel" "at" "I") (d : decode cc pc = .ok (.getfield index, 3)) (hq : pc + 3 = q) (kk : gSm l R nL G X k res V q L (.int (V c 8) :: st)) : gSm l R nL G X k res V pc L (.ref (G.1 c) :: st) := gf_get C (ci := 8) (C0 := RX8) (T := TX8) (N := 25) rfl inX8 8 (by decide) hl hs (o := none) rfl d hq kk
theorem peX8_8 (C : gC cc nL own G X) {v : Int32} (hs : G.2.2.1 c = kX8 c) (hl : gFL own index "SoapNamesModel" "at" "I") (d : decode cc pc = .ok (.putfield index, 3)) (hq : pc + 3 = q) {f : gV → Option α} (kk : ∀ V1, gSm l R nL G X (f V1) res V1 q L st) : gSm l R nL G X (gpu V c 8 v f) res V pc L (.int v :: .ref (G.1 c) :: st) := gf_put C (ci := 8) (C0 := RX8) (T := TX8) (N := 25) rfl inX8 tyX8 tyX8_ok nmX8 8 (by decide) hl rfl hs rfl rfl rfl d hq kk
theorem geX8_9 (C : gC cc nL own G X) (hs : G.2.2.1 c = kX8 c) (hl : gFL own index "SoapNamesModel" "end" "I") (d : decode cc pc = .ok (.getfield index, 3)) (hq : pc + 3 = q) (kk : gSm l R nL G X k res V q L (.int (V c 9) :: st)) : gSm l R nL G X k res V pc L (.ref (G.1 c) :: st) := gf_get C (ci := 8) (C0 := RX8) (T := TX8) (N := 25) rfl inX8 9 (by decide) hl hs (o := none) rfl d hq kk
theorem peX8_9 (C : gC cc nL own G X) {v : Int32} (hs : G.2.2.1 c = kX8 c) (hl : gFL own index "SoapNamesModel" "end" "I") (d : decode cc pc = .ok (.putfield index, 3)) (hq : pc + 3 = q) {f : gV → Option α} (kk : ∀ V1, gSm l R nL G X (f V1) res V1 q L st) : gSm l R nL G X (gpu V c 9 v f) res V pc L (.int v :: .ref (G.1 c) :: st) := gf_put C (ci := 8) (C0 := RX8) (T := TX8) (N := 25) rfl inX8 tyX8 tyX8_ok nmX8 9 (by decide) hl rfl hs rfl rfl rfl d hq kk
theorem geX8_10 (C : gC cc nL own G X) (hs : G.2.2.1 c = kX8 c) (hl : gFL own index "SoapNamesModel" "open" "I") (d : decode cc pc = .ok (.getfield index, 3)) (hq : pc + 3 = q) (kk : gSm l R nL G X k res V q L (.int (V c 10) :: st)) : gSm l R nL G X k res V pc L (.ref (G.1 c) :: st) := gf_get C (ci := 8) (C0 := RX8) (T := TX8) (N := 25) rfl inX8 10 (by decide) hl hs (o := none) rfl d hq kk
theorem peX8_10 (C : gC cc nL own G X) {v : Int32} (hs : G.2.2.1 c = kX8 c) (hl : gFL own index "SoapNamesModel" "open" "I") (d : decode cc pc = .ok (.putfield index, 3)) (hq : pc + 3 = q) {f : gV → Option α} (kk : ∀ V1, gSm l R nL G X (f V1) res V1 q L st) : gSm l R nL G X (gpu V c 10 v f) res V pc L (.int v :: .ref (G.1 c) :: st) := gf_put C (ci := 8) (C0 := RX8) (T := TX8) (N := 25) rfl inX8 tyX8 tyX8_ok nmX8 10 (by decide) hl rfl hs rfl rfl rfl d hq kk
theorem geX8_11 (C : gC cc nL own G X) (hs : G.2.2.1 c = kX8 c) (hl : gFL own index "SoapNamesModel" "namedA" "I") (d : decode cc pc = .ok (.getfield index, 3)) (hq : pc + 3 = q) (kk : gSm l R nL G X k res V q L (.int (V c 11) :: st)) : gSm l R nL G X k res V pc L (.ref (G.1 c) :: st) := gf_get C (ci := 8) (C0 := RX8) (T := TX8) (N := 25) rfl inX8 11 (by decide) hl hs (o := none) rfl d hq kk
theorem peX8_11 (C : gC cc nL own G X) {v : Int32} (hs : G.2.2.1 c = kX8 c) (hl : gFL own index "SoapNamesModel" "namedA" "I") (d : decode cc pc = .ok (.putfield index, 3)) (hq : pc + 3 = q) {f : gV → Option α} (kk : ∀ V1, gSm l R nL G X (f V1) res V1 q L st) : gSm l R nL G X (gpu V c 11 v f) res V pc L (.int v :: .ref (G.1 c) :: st) := gf_put C (ci := 8) (C0 := RX8) (T := TX8) (N := 25) rfl inX8 tyX8 tyX8_ok nmX8 11 (by decide) hl rfl hs rfl rfl rfl d hq kk
theorem geX8_12 (C : gC cc nL own G X) (hs : G.2.2.1 c = kX8 c) (hl : gFL own index "SoapNamesModel" "namedB" "I") (d : decode cc pc = .ok (.getfield index, 3)) (hq : pc + 3 = q) (kk : gSm l R nL G X k res V q L (.int (V c 12) :: st)) : gSm l R nL G X k res V pc L (.ref (G.1 c) :: st) := gf_get C (ci := 8) (C0 := RX8) (T := TX8) (N := 25) rfl inX8 12 (by decide) hl hs (o := none) rfl d hq kk
theorem peX8_12 (C : gC cc nL own G X) {v : Int32} (hs : G.2.2.1 c = kX8 c) (hl : gFL own index "SoapNamesModel" "namedB" "I") (d : decode cc pc = .ok (.putfield index, 3)) (hq : pc + 3 = q) {f : gV → Option α} (kk : ∀ V1, gSm l R nL G X (f V1) res V1 q L st) : gSm l R nL G X (gpu V c 12 v f) res V pc L (.int v :: .ref (G.1 c) :: st) := gf_put C (ci := 8) (C0 := RX8) (T := TX8) (N := 25) rfl inX8 tyX8 tyX8_ok nmX8 12 (by decide) hl rfl hs rfl rfl rfl d hq kk
theorem geX8_13 (C : gC cc nL own G X) (hs : G.2.2.1 c = kX8 c) (hl : gFL own index "SoapNamesModel" "namedC" "I") (d : decode cc pc = .ok (.getfield index, 3)) (hq : pc + 3 = q) (kk : gSm l R nL G X k res V q L (.int (V c 13) :: st)) : gSm l R nL G X k res V pc L (.ref (G.1 c) :: st) := gf_get C (ci := 8) (C0 := RX8) (T := TX8) (N := 25) rfl inX8 13 (by decide) hl hs (o := none) rfl d hq kk
theorem peX8_13 (C : gC cc nL own G X) {v : Int32} (hs : G.2.2.1 c = kX8 c) (hl : gFL own index "SoapNamesModel" "namedC" "I") (d : decode cc pc = .ok (.putfield index, 3)) (hq : pc + 3 = q) {f : gV → Option α} (kk : ∀ V1, gSm l R nL G X (f V1) res V1 q L st) : gSm l R nL G X (gpu V c 13 v f) res V pc L (.int v :: .ref (G.1 c) :: st) := gf_put C (ci := 8) (C0 := RX8) (T := TX8) (N := 25) rfl inX8 tyX8 tyX8_ok nmX8 13 (by decide) hl rfl hs rfl rfl rfl d hq kk
theorem geX8_14 (C : gC cc nL own G X) (hs : G.2.2.1 c = kX8 c) (hl : gFL own index "SoapNamesModel" "good" "Z") (d : decode cc pc = .ok (.getfield index, 3)) (hq : pc + 3 = q) (kk : gSm l R nL G X k res V q L (.int (V c 14) :: st)) : gSm l R nL G X k res V pc L (.ref (G.1 c) :: st) := gf_get C (ci := 8) (C0 := RX8) (T := TX8) (N := 25) rfl inX8 14 (by decide) hl hs (o := none) rfl d hq kk
theorem peX8_14 (C : gC cc nL own G X) {v : Int32} (hs : G.2.2.1 c = kX8 c) (hl : gFL own index "SoapNamesModel" "good" "Z") (hv : v = 0 ∨ v = 1) (d : decode cc pc = .ok (.putfield index, 3)) (hq : pc + 3 = q) {f : gV → Option α} (kk : ∀ V1, gSm l R nL G X (f V1) res V1 q L st) : gSm l R nL G X (gpu V c 14 v f) res V pc L (.int v :: .ref (G.1 c) :: st) := gf_put C (ci := 8) (C0 := RX8) (T := TX8) (N := 25) rfl inX8 tyX8 tyX8_ok nmX8 14 (by decide) hl rfl hs rfl (by rcases hv with rfl | rfl <;> rfl) (by rcases hv with rfl | rfl <;> rfl) d hq kk
theorem geX8_15 (C : gC cc nL own G X) (hs : G.2.2.1 c = kX8 c) (hl : gFL own index "SoapNamesModel" "bitsOf" "[I") (d : decode cc pc = .ok (.getfield index, 3)) (hq : pc + 3 = q) (kk : gSm l R nL G X k res V q L (.ref (G.1 (c + 6)) :: st)) : gSm l R nL G X k res V pc L (.ref (G.1 c) :: st) := gf_get C (ci := 8) (C0 := RX8) (T := TX8) (N := 25) rfl inX8 15 (by decide) hl hs (o := some (c + 6)) rfl d hq kk
theorem geX8_16 (C : gC cc nL own G X) (hs : G.2.2.1 c = kX8 c) (hl : gFL own index "SoapNamesModel" "sizeOf" "[I") (d : decode cc pc = .ok (.getfield index, 3)) (hq : pc + 3 = q) (kk : gSm l R nL G X k res V q L (.ref (G.1 (c + 7)) :: st)) : gSm l R nL G X k res V pc L (.ref (G.1 c) :: st) := gf_get C (ci := 8) (C0 := RX8) (T := TX8) (N := 25) rfl inX8 16 (by decide) hl hs (o := some (c + 7)) rfl d hq kk
theorem geX8_17 (C : gC cc nL own G X) (hs : G.2.2.1 c = kX8 c) (hl : gFL own index "SoapNamesModel" "sheets" "[I") (d : decode cc pc = .ok (.getfield index, 3)) (hq : pc + 3 = q) (kk : gSm l R nL G X k res V q L (.ref (G.1 (c + 8)) :: st)) : gSm l R nL G X k res V pc L (.ref (G.1 c) :: st) := gf_get C (ci := 8) (C0 := RX8) (T := TX8) (N := 25) rfl inX8 17 (by decide) hl hs (o := some (c + 8)) rfl d hq kk
theorem geX8_18 (C : gC cc nL own G X) (hs : G.2.2.1 c = kX8 c) (hl : gFL own index "SoapNamesModel" "moved" "[I") (d : decode cc pc = .ok (.getfield index, 3)) (hq : pc + 3 = q) (kk : gSm l R nL G X k res V q L (.ref (G.1 (c + 9)) :: st)) : gSm l R nL G X k res V pc L (.ref (G.1 c) :: st) := gf_get C (ci := 8) (C0 := RX8) (T := TX8) (N := 25) rfl inX8 18 (by decide) hl hs (o := some (c + 9)) rfl d hq kk
theorem geX8_19 (C : gC cc nL own G X) (hs : G.2.2.1 c = kX8 c) (hl : gFL own index "SoapNamesModel" "lent" "[I") (d : decode cc pc = .ok (.getfield index, 3)) (hq : pc + 3 = q) (kk : gSm l R nL G X k res V q L (.ref (G.1 (c + 10)) :: st)) : gSm l R nL G X k res V pc L (.ref (G.1 c) :: st) := gf_get C (ci := 8) (C0 := RX8) (T := TX8) (N := 25) rfl inX8 19 (by decide) hl hs (o := some (c + 10)) rfl d hq kk
theorem geX8_20 (C : gC cc nL own G X) (hs : G.2.2.1 c = kX8 c) (hl : gFL own index "SoapNamesModel" "traced" "[I") (d : decode cc pc = .ok (.getfield index, 3)) (hq : pc + 3 = q) (kk : gSm l R nL G X k res V q L (.ref (G.1 (c + 11)) :: st)) : gSm l R nL G X k res V pc L (.ref (G.1 c) :: st) := gf_get C (ci := 8) (C0 := RX8) (T := TX8) (N := 25) rfl inX8 20 (by decide) hl hs (o := some (c + 11)) rfl d hq kk
theorem geX8_21 (C : gC cc nL own G X) (hs : G.2.2.1 c = kX8 c) (hl : gFL own index "SoapNamesModel" "tracedMany" "I") (d : decode cc pc = .ok (.getfield index, 3)) (hq : pc + 3 = q) (kk : gSm l R nL G X k res V q L (.int (V c 21) :: st)) : gSm l R nL G X k res V pc L (.ref (G.1 c) :: st) := gf_get C (ci := 8) (C0 := RX8) (T := TX8) (N := 25) rfl inX8 21 (by decide) hl hs (o := none) rfl d hq kk
theorem peX8_21 (C : gC cc nL own G X) {v : Int32} (hs : G.2.2.1 c = kX8 c) (hl : gFL own index "SoapNamesModel" "tracedMany" "I") (d : decode cc pc = .ok (.putfield index, 3)) (hq : pc + 3 = q) {f : gV → Option α} (kk : ∀ V1, gSm l R nL G X (f V1) res V1 q L st) : gSm l R nL G X (gpu V c 21 v f) res V pc L (.int v :: .ref (G.1 c) :: st) := gf_put C (ci := 8) (C0 := RX8) (T := TX8) (N := 25) rfl inX8 tyX8 tyX8_ok nmX8 21 (by decide) hl rfl hs rfl rfl rfl d hq kk
theorem geX8_22 (C : gC cc nL own G X) (hs : G.2.2.1 c = kX8 c) (hl : gFL own index "SoapNamesModel" "voiceKind" "I") (d : decode cc pc = .ok (.getfield index, 3)) (hq : pc + 3 = q) (kk : gSm l R nL G X k res V q L (.int (V c 22) :: st)) : gSm l R nL G X k res V pc L (.ref (G.1 c) :: st) := gf_get C (ci := 8) (C0 := RX8) (T := TX8) (N := 25) rfl inX8 22 (by decide) hl hs (o := none) rfl d hq kk
theorem peX8_22 (C : gC cc nL own G X) {v : Int32} (hs : G.2.2.1 c = kX8 c) (hl : gFL own index "SoapNamesModel" "voiceKind" "I") (d : decode cc pc = .ok (.putfield index, 3)) (hq : pc + 3 = q) {f : gV → Option α} (kk : ∀ V1, gSm l R nL G X (f V1) res V1 q L st) : gSm l R nL G X (gpu V c 22 v f) res V pc L (.int v :: .ref (G.1 c) :: st) := gf_put C (ci := 8) (C0 := RX8) (T := TX8) (N := 25) rfl inX8 tyX8 tyX8_ok nmX8 22 (by decide) hl rfl hs rfl rfl rfl d hq kk
theorem geX8_23 (C : gC cc nL own G X) (hs : G.2.2.1 c = kX8 c) (hl : gFL own index "SoapNamesModel" "voiceN" "I") (d : decode cc pc = .ok (.getfield index, 3)) (hq : pc + 3 = q) (kk : gSm l R nL G X k res V q L (.int (V c 23) :: st)) : gSm l R nL G X k res V pc L (.ref (G.1 c) :: st) := gf_get C (ci := 8) (C0 := RX8) (T := TX8) (N := 25) rfl inX8 23 (by decide) hl hs (o := none) rfl d hq kk
theorem peX8_23 (C : gC cc nL own G X) {v : Int32} (hs : G.2.2.1 c = kX8 c) (hl : gFL own index "SoapNamesModel" "voiceN" "I") (d : decode cc pc = .ok (.putfield index, 3)) (hq : pc + 3 = q) {f : gV → Option α} (kk : ∀ V1, gSm l R nL G X (f V1) res V1 q L st) : gSm l R nL G X (gpu V c 23 v f) res V pc L (.int v :: .ref (G.1 c) :: st) := gf_put C (ci := 8) (C0 := RX8) (T := TX8) (N := 25) rfl inX8 tyX8 tyX8_ok nmX8 23 (by decide) hl rfl hs rfl rfl rfl d hq kk
theorem geX8_24 (C : gC cc nL own G X) (hs : G.2.2.1 c = kX8 c) (hl : gFL own index "SoapNamesModel" "voiceM" "I") (d : decode cc pc = .ok (.getfield index, 3)) (hq : pc + 3 = q) (kk : gSm l R nL G X k res V q L (.int (V c 24) :: st)) : gSm l R nL G X k res V pc L (.ref (G.1 c) :: st) := gf_get C (ci := 8) (C0 := RX8) (T := TX8) (N := 25) rfl inX8 24 (by decide) hl hs (o := none) rfl d hq kk
theorem peX8_24 (C : gC cc nL own G X) {v : Int32} (hs : G.2.2.1 c = kX8 c) (hl : gFL own index "SoapNamesModel" "voiceM" "I") (d : decode cc pc = .ok (.putfield index, 3)) (hq : pc + 3 = q) {f : gV → Option α} (kk : ∀ V1, gSm l R nL G X (f V1) res V1 q L st) : gSm l R nL G X (gpu V c 24 v f) res V pc L (.int v :: .ref (G.1 c) :: st) := gf_put C (ci := 8) (C0 := RX8) (T := TX8) (N := 25) rfl inX8 tyX8 tyX8_ok nmX8 24 (by decide) hl rfl hs rfl rfl rfl d hq kk
end GF

/-! OPEN: the pairs -/
def Rel0 : Nat → gV → gV → Prop := fun _ _ _ => True
theorem hAll : ∀ i, i ≤ 3072 → lAll (Rel0 i) (Rel0 (i + 6)) := sorry
theorem hMono : ∀ i VX VM, Rel0 i VX VM → Rel0 (i + 6) VX VM := fun _ _ _ _ => trivial
theorem hRel0 : Rel0 0 V0X V0M := trivial

/-! THE CLASS: its script's reader, a command -/
def RcF (ci : Nat) (cs d : Nat → Nat → Int32) : Prop := (∀ g, g ≠ gSc → g ≠ gCm ci → d g = cs g) ∧ (∀ y, y ≠ 4 → d gSc y = cs gSc y)
def GK (ci : Nat) (cs : Nat → Nat → Int32) (r : Bool × Nat × Int32 × Int32 × Int32 × Int32) : Prop := cs (gCm ci) 0 = r.2.2.1 ∧ (r.2.2.1 ≠ nI 116 → cs (gCm ci) 1 = r.2.2.2.1) ∧ (twK r.2.2.1 = true → cs (gCm ci) 2 = r.2.2.2.2.1) ∧ (r.2.2.1 ≠ nI 109 → cs (gCm ci) 3 = r.2.2.2.2.2)
section CP
variable {n i ci ty : Nat} {ad : Nat → Nat} {h0 : Hp} {cs : Nat → Nat → Int32} {pm : Nat → Nat → Nat}
theorem RcF.refl : RcF ci cs cs := ⟨fun _ _ _ => rfl, fun _ _ => rfl⟩
theorem RcF.s4 {d : Nat → Nat → Int32} (h : RcF ci cs d) {x : Int32} : RcF ci cs (up2 d gSc 4 x) := ⟨fun g g1 g2 => by funext y; rw [up2_a g1]; exact congrFun (h.1 g g1 g2) y, fun y hy => by rw [up2_k hy]; exact h.2 y hy⟩
theorem nSC (ci : Nat) : gSc ≠ gCm ci := by unfold gSc gCm; omega
theorem RcF.cm {d : Nat → Nat → Int32} (h : RcF ci cs d) {y : Nat} {x : Int32} : RcF ci cs (up2 d (gCm ci) y x) := ⟨fun g g1 g2 => by funext y; rw [up2_a g2]; exact congrFun (h.1 g g1 g2) y, fun y hy => by rw [up2_a (nSC ci)]; exact h.2 y hy⟩
theorem RcF.nm {d e : Nat → Nat → Int32} (h : RcF ci cs d) {j : Nat} {x : Int32} (r : RdN ci j x d e) : RcF ci cs e := ⟨fun g g1 g2 => by rw [r.1 g g1 g2]; exact h.1 g g1 g2, fun y hy => by rw [r.2.1 y hy]; exact h.2 y hy⟩
theorem RcF.tx {d : Nat → Nat → Int32} (h : RcF ci cs d) : d gSg = cs gSg := h.1 gSg (by unfold gSg gSc; omega) (by unfold gSg gCm; omega)
theorem RcF.ln {d : Nat → Nat → Int32} (h : RcF ci cs d) (h2 : cs gSc 2 = nI ty) : d gSc 2 = nI ty := by rw [h.2 2 (by omega)]; exact h2
end CP

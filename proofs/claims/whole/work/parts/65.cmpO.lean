/-! THE CLASS: its script's reader, numbers -/
section CO
variable {n i ci ty : Nat} {ad : Nat → Nat} {h0 : Hp} {cs : Nat → Nat → Int32} {pm : Nat → Nat → Nat}
/-- the reader at place j, command ci with number x; the rest as in cs -/
def RdN (ci j : Nat) (x : Int32) (cs d : Nat → Nat → Int32) : Prop := (∀ g, g ≠ gSc → g ≠ gCm ci → d g = cs g) ∧ (∀ y, y ≠ 4 → d gSc y = cs gSc y) ∧ (∀ y, y ≠ 3 → d (gCm ci) y = cs (gCm ci) y) ∧ d gSc 4 = nI j ∧ d (gCm ci) 3 = x
theorem c4_readNumberBehind (L : Lay n ad h0) (h2 : cs gSc 2 = nI ty) (h4 : cs gSc 4 = nI i) (hty : ty ≤ 60) (hi : i < 900) (hci : ci < 30) {x : Int32} (hx : x ≠ -1) {X : Int32 → Hp → Prop} (q0 : sg (cs gSg) ty i = x → ∀ d, RdN ci (nmR (cs gSg) ty 3 (i + 1) (nI 0)).1 (nmR (cs gSg) ty 3 (i + 1) (nI 0)).2 cs d → X (bI (decide (i + 1 < (nmR (cs gSg) ty 3 (i + 1) (nI 0)).1))) (HN h0 ad d pm)) (q1 : ¬ sg (cs gSg) ty i = x → X (nI 0) (HN h0 ad cs pm)) : CKi mX4_readNumberBehind 1 0 0 [some (.ref (ad gSc)), some (.int x), some (.ref (ad (gCm ci))), none] (HN h0 ad cs pm) X := by
  intro Qc kq
  have nSC : gSc ≠ gCm ci := by unfold gSc gCm; omega
  refine tX4_readNumberBehind_0 L (c4_readSign L h2 h4 hty (by omega) hx (fun c => ?_) (fun c => tX4_readNumberBehind_5 L ⟨fun c2 => absurd rfl c2, fun _ => kq _ _ (q1 c)⟩))
  have q0 := q0 c
  have fin : ∀ (j dg : Nat) (y : Int32) (d : Nat → Nat → Int32), (j, y) = nmR (cs gSg) ty 3 (i + 1) (nI 0) → j = i + 1 + dg → dg ≤ 3 → RdN ci j y cs d → Wm mX4_readNumberBehind 1 0 0 Qc 51 [none, none, none, some (.int (nI dg))] [] (HN h0 ad d pm) 0 0 := by
    intro j dg y d e ej hdg hd
    rw [← e] at q0
    have q9 := q0 d hd
    simp only at q9
    refine tX4_readNumberBehind_51 L ⟨fun c => kq _ _ ?_, fun c => kq _ _ ?_⟩
    · rw [← nIz, nI_leI (by omega) (by omega)] at c
      rw [show decide (i + 1 < j) = false by simp; omega] at q9; exact q9
    · rw [← nIz, nI_leI (by omega) (by omega)] at c
      rw [show decide (i + 1 < j) = true by simp; omega] at q9; exact q9
  have loop : ∀ (g j dg : Nat) (y : Int32) (d : Nat → Nat → Int32), dg + g = 3 → j = i + 1 + dg → nmR (cs gSg) ty g j y = nmR (cs gSg) ty 3 (i + 1) (nI 0) → RdN ci j y cs d → Wm mX4_readNumberBehind 1 0 0 Qc 17 [some (.ref (ad gSc)), none, some (.ref (ad (gCm ci))), some (.int (nI dg))] [] (HN h0 ad d pm) 0 0 := by
    intro g
    induction g with
    | zero =>
      intro j dg y d hg hj e hd
      refine tX4_readNumberBehind_17 L ⟨fun _ => fin j dg y d (by rw [← e]; rfl) hj (by omega) hd, fun c => absurd (nI_le (by omega) (by omega)) c⟩
    | succ g ih =>
      intro j dg y d hg hj e hd
      have hd' := hd
      obtain ⟨d1, d2, d3, d4, d5⟩ := hd'
      have eg : d gSg = cs gSg := d1 gSg (by unfold gSg gSc; omega) (by unfold gSg gCm; omega)
      refine tX4_readNumberBehind_17 L ⟨fun c => absurd c (nI_ge (by omega) (by omega)), fun _ => c4_isDigitNext L (ty := ty) (i := j) (by rw [d2 2 (by omega)]; exact h2) d4 hty (by omega) (tX4_readNumberBehind_26 L ⟨fun c => ?_, fun c => ⟨hci, ?_⟩⟩)⟩
      · rw [bI_z, eg] at c
        refine fin j dg y d ?_ hj (by omega) hd
        rw [← e, nmR, c, if_neg (by simp)]
      · rw [bI_z, eg] at c
        have hdg : dgB (sg (cs gSg) ty j) = true := by simpa using c
        rw [d5]
        refine c4_readDigit L (ty := ty) (i := j) d4 hty (by rw [eg]; exact hdg) (tX4_readNumberBehind_41 L ⟨hci, ?_⟩)
        rw [eg, nI_add]
        refine ih (j + 1) (dg + 1) (nI 10 * y + sg (cs gSg) ty j - nI 48) _ (by omega) (by omega) ?_ ⟨fun g g1 g2 => ?_, fun z hz => ?_, fun z hz => ?_, ?_, ?_⟩
        · rw [← e, nmR, if_pos hdg]
        · funext z; rw [up2_a g2, up2_a g1]; exact congrFun (d1 g g1 g2) z
        · rw [up2_a nSC, up2_k hz]; exact d2 z hz
        · rw [up2_k hz, up2_a (Ne.symm nSC)]; exact d3 z hz
        · rw [up2_a nSC, up2_s]
        · rw [up2_s, Int32.mul_comm, Int32.sub_eq_add_neg, Int32.sub_eq_add_neg, Int32.add_assoc]
  refine tX4_readNumberBehind_5 L ⟨fun _ => ⟨hci, loop 3 (i + 1) 0 (nI 0) _ rfl rfl rfl ⟨fun g g1 g2 => ?_, fun z hz => ?_, fun z hz => ?_, ?_, up2_s⟩⟩, fun c2 => absurd c2 (by decide)⟩
  · funext z; rw [up2_a g2, up2_a g1]
  · rw [up2_a nSC, up2_k hz]
  · rw [up2_k hz, up2_a (Ne.symm nSC)]
  · rw [up2_a nSC, up2_s]
end CO

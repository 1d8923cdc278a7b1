/-! THE CONSTRUCTORS: the flat heap's cells, one by one; what a record, a view, a message is -/
section IA
variable {h h' h'' : Hp} {kd n tg a b j k w o m x lo hi lo' hi' : Nat} {y : Option Nat} {z : Int32} {U U' : Nat → Prop}
theorem sN_T : hpT (stN h kd n tg) b = if b = hpZ h then (kd, n, tg) else hpT h b := rfl
theorem sN_I : hpI (stN h kd n tg) b j = if b = hpZ h then 0 else hpI h b j := rfl
theorem sN_P : hpP (stN h kd n tg) b j = if b = hpZ h then none else hpP h b j := rfl
theorem sN_Z : hpZ (stN h kd n tg) = hpZ h + 1 := rfl
theorem sP_T : hpT (stP h a k y) b = hpT h b := rfl
theorem sP_I : hpI (stP h a k y) b j = hpI h b j := rfl
theorem sP_P : hpP (stP h a k y) b j = if b = a ∧ j = k then y else hpP h b j := rfl
theorem sP_Z : hpZ (stP h a k y) = hpZ h := rfl
theorem sI_T : hpT (stI h a k z) b = hpT h b := rfl
theorem sI_P : hpP (stI h a k z) b j = hpP h b j := rfl
theorem sI_I : hpI (stI h a k z) b j = if b = a ∧ j = k then z else hpI h b j := rfl
theorem sI_Z : hpZ (stI h a k z) = hpZ h := rfl
def Sm (h h' : Hp) (lo hi : Nat) : Prop := ∀ b, lo ≤ b → b < hi → hpT h' b = hpT h b ∧ (∀ j, hpI h' b j = hpI h b j) ∧ ∀ j, hpP h' b j = hpP h b j
theorem Sm.refl : Sm h h lo hi := fun _ _ _ => ⟨rfl, fun _ => rfl, fun _ => rfl⟩
theorem Sm.trans (s : Sm h h' lo hi) (t : Sm h' h'' lo hi) : Sm h h'' lo hi := fun b h1 h2 => ⟨(t b h1 h2).1.trans (s b h1 h2).1, fun j => ((t b h1 h2).2.1 j).trans ((s b h1 h2).2.1 j), fun j => ((t b h1 h2).2.2 j).trans ((s b h1 h2).2.2 j)⟩
theorem Sm.sub (s : Sm h h' lo hi) (h1 : lo ≤ lo') (h2 : hi' ≤ hi) : Sm h h' lo' hi' := fun b g1 g2 => s b (by omega) (by omega)
theorem Sm.N (hz : hi ≤ hpZ h) : Sm h (stN h kd n tg) lo hi := fun b _ h2 => ⟨by rw [sN_T, if_neg (by omega)], fun j => by rw [sN_I, if_neg (by omega)], fun j => by rw [sN_P, if_neg (by omega)]⟩
theorem Sm.P (ha : a < lo ∨ hi ≤ a) : Sm h (stP h a k y) lo hi := fun b h1 h2 => ⟨rfl, fun j => rfl, fun j => by rw [sP_P, if_neg (by omega)]⟩
theorem Sm.I (ha : a < lo ∨ hi ≤ a) : Sm h (stI h a k z) lo hi := fun b h1 h2 => ⟨rfl, fun j => by rw [sI_I, if_neg (by omega)], fun j => rfl⟩
def Tg (h : Hp) (U : Nat → Prop) : Prop := (∀ b b', tgO h b ≠ 0 → tgO h b = tgO h b' → b = b') ∧ (∀ b, hpZ h ≤ b → tgO h b = 0) ∧ ∀ b, tgO h b ≠ 0 → U (tgO h b)
theorem Tg.mono (t : Tg h U) (hu : ∀ g, U g → U' g) : Tg h U' := ⟨t.1, t.2.1, fun b hb => hu _ (t.2.2 b hb)⟩
theorem Tg.N (t : Tg h U) (hn : ¬ U tg) (hu : ∀ g, U g → U' g) (hx : U' tg) : Tg (stN h kd n tg) U' := by
  have e : ∀ b, tgO (stN h kd n tg) b = if b = hpZ h then tg else tgO h b := fun b => by
    unfold tgO
    rw [sN_T]
    split <;> rfl
  refine ⟨fun b b' h1 h2 => ?_, fun b hb => ?_, fun b h1 => ?_⟩
  · rw [e] at h1 h2
    rw [e] at h2
    by_cases c1 : b = hpZ h
    · by_cases c2 : b' = hpZ h
      · omega
      · rw [if_pos c1] at h1 h2
        rw [if_neg c2] at h2
        exact absurd (by rw [h2]; exact t.2.2 b' (by rw [← h2]; exact h1)) hn
    · rw [if_neg c1] at h1 h2
      by_cases c2 : b' = hpZ h
      · rw [if_pos c2] at h2
        exact absurd (by rw [← h2]; exact t.2.2 b h1) hn
      · rw [if_neg c2] at h2
        exact t.1 b b' h1 h2
  · rw [sN_Z] at hb
    rw [e, if_neg (by omega)]
    exact t.2.1 b (by omega)
  · rw [e] at h1 ⊢
    by_cases c1 : b = hpZ h
    · rw [if_pos c1]; exact hx
    · rw [if_neg c1] at h1 ⊢
      exact hu _ (t.2.2 b h1)
theorem Tg.P (t : Tg h U) : Tg (stP h a k y) U := t
theorem Tg.I (t : Tg h U) : Tg (stI h a k z) U := t
/-- a record and its four rows -/
def RcK (h : Hp) (k w o a : Nat) : Prop := (hpT h a = (15, 0, gRc k w o) ∧ hpT h (a + 1) = (1, 2, gAr k w o 0) ∧ hpT h (a + 2) = (1, 2, gAr k w o 1) ∧ hpT h (a + 3) = (1, 10, gAr k w o 2) ∧ hpT h (a + 4) = (1, 10, gAr k w o 3)) ∧ (hpP h a 2 = some (a + 1) ∧ hpP h a 3 = some (a + 2) ∧ hpP h a 4 = some (a + 3) ∧ hpP h a 6 = some (a + 4)) ∧ ∀ b, a ≤ b → b < a + 5 → ∀ j, hpI h b j = 0
theorem RcK.keep (s : Sm h h' a (a + 5)) (r : RcK h k w o a) : RcK h' k w o a := by
  obtain ⟨⟨r1, r2, r3, r4, r5⟩, ⟨p1, p2, p3, p4⟩, r6⟩ := r
  refine ⟨⟨(s a (by omega) (by omega)).1.trans r1, (s (a + 1) (by omega) (by omega)).1.trans r2, (s (a + 2) (by omega) (by omega)).1.trans r3, (s (a + 3) (by omega) (by omega)).1.trans r4, (s (a + 4) (by omega) (by omega)).1.trans r5⟩, ⟨((s a (by omega) (by omega)).2.2 2).trans p1, ((s a (by omega) (by omega)).2.2 3).trans p2, ((s a (by omega) (by omega)).2.2 4).trans p3, ((s a (by omega) (by omega)).2.2 6).trans p4⟩, fun b h1 h2 j => ((s b h1 h2).2.1 j).trans (r6 b h1 h2 j)⟩
def SrT (k w o g : Nat) : Prop := 10000 * k + 2000 + 100 * w + 10 * o ≤ g ∧ g < 10000 * k + 2000 + 100 * w + 10 * o + 4
theorem cl2 : (nI 2).toNatClampNeg = 2 := nI_clamp (by omega)
theorem cl10 : (nI 10).toNatClampNeg = 10 := nI_clamp (by omega)
theorem k5_init (hT : hpT h a = (15, 0, gRc k w o)) (hz : hpZ h = a + 1) (hI : ∀ j, hpI h a j = 0) (hU : Tg h U) (hd : ∀ g, SrT k w o g → ¬ U g) {X : Hp → Prop} (q : ∀ h', Sm h h' 0 a → hpZ h' = a + 5 → RcK h' k w o a → Tg h' (fun g => U g ∨ SrT k w o g) → X h') : CKv mX5_init 1 4 24 [some (.ref a)] h X := by
  intro Qc kq
  have n2 : ¬ nI 2 < 0 := nI_pos (by omega)
  have n10 : ¬ nI 10 < 0 := nI_pos (by omega)
  refine bX5_init_0 (tg_5 := gAr k w o 0) ?_
  rw [cl2]
  refine ⟨n2, by omega, by omega, by omega, ?_⟩
  refine bX5_init_8 (tg_6 := gAr k w o 1) ?_
  rw [cl2]
  refine ⟨by unfold hpK; rw [sN_T, if_neg (by omega), hT], n2, by omega, by omega, by omega, ?_⟩
  refine bX5_init_15 (tg_6 := gAr k w o 2) ?_
  rw [cl10]
  refine ⟨by unfold hpK; rw [sN_T, sP_Z, sN_Z, if_neg (by omega), sP_T, sN_T, if_neg (by omega), hT], n10, by omega, by omega, by omega, ?_⟩
  refine bX5_init_23 (tg_6 := gAr k w o 3) ?_
  rw [cl10]
  refine ⟨by unfold hpK; rw [sN_T, sP_Z, sN_Z, sP_Z, sN_Z, if_neg (by omega), sP_T, sN_T, sP_Z, sN_Z, if_neg (by omega), sP_T, sN_T, if_neg (by omega), hT], n10, by omega, by omega, by omega, ?_⟩
  refine bX5_init_31 ⟨by unfold hpK; rw [sN_T, sP_Z, sN_Z, sP_Z, sN_Z, sP_Z, sN_Z, if_neg (by omega), sP_T, sN_T, sP_Z, sN_Z, sP_Z, sN_Z, if_neg (by omega), sP_T, sN_T, sP_Z, sN_Z, if_neg (by omega), sP_T, sN_T, if_neg (by omega), hT], by omega, by omega, kq _ (q _ ?_ ?_ ?_ ?_)⟩
  · intro b h1 h2
    refine ⟨?_, fun j => ?_, fun j => ?_⟩
    · simp only [sN_T, sP_T, sP_Z, sN_Z, hz]
      (repeat' split) <;> first | rfl | (exfalso; omega)
    · simp only [sN_I, sP_I, sP_Z, sN_Z, hz]
      (repeat' split) <;> first | rfl | (exfalso; omega)
    · simp only [sN_P, sP_P, sP_Z, sN_Z, hz]
      (repeat' split) <;> first | rfl | (exfalso; omega)
  · simp only [sP_Z, sN_Z, hz]
  · refine ⟨⟨?_, ?_, ?_, ?_, ?_⟩, ⟨?_, ?_, ?_, ?_⟩, ?_⟩
    · simp only [sN_T, sP_T, sP_Z, sN_Z, hz]
      rw [if_neg (by omega), if_neg (by omega), if_neg (by omega), if_neg (by omega)]
      exact hT
    · simp only [sN_T, sP_T, sP_Z, sN_Z, hz]
      rw [if_neg (by omega), if_neg (by omega), if_neg (by omega), if_pos (by first | trivial | omega | simp)]
    · simp only [sN_T, sP_T, sP_Z, sN_Z, hz]
      rw [if_neg (by omega), if_neg (by omega), if_pos (by first | trivial | omega | simp)]
    · simp only [sN_T, sP_T, sP_Z, sN_Z, hz]
      rw [if_neg (by omega), if_pos (by first | trivial | omega | simp)]
    · simp only [sN_T, sP_T, sP_Z, sN_Z, hz]
      rw [if_pos (by first | trivial | omega | simp)]
    · simp only [sN_P, sP_P, sP_Z, sN_Z, hz]
      rw [if_neg (by omega), if_neg (by omega), if_neg (by omega), if_neg (by omega), if_neg (by omega), if_neg (by omega), if_pos (by first | trivial | omega | simp)]
    · simp only [sN_P, sP_P, sP_Z, sN_Z, hz]
      rw [if_neg (by omega), if_neg (by omega), if_neg (by omega), if_neg (by omega), if_pos (by first | trivial | omega | simp)]
    · simp only [sN_P, sP_P, sP_Z, sN_Z, hz]
      rw [if_neg (by omega), if_neg (by omega), if_pos (by first | trivial | omega | simp)]
    · simp only [sN_P, sP_P, sP_Z, sN_Z, hz]
      rw [if_pos (by first | trivial | omega | simp)]
    · intro b h1 h2 j
      simp only [sN_I, sP_I, sP_Z, sN_Z, hz]
      by_cases e : b = a
      · rw [if_neg (by omega), if_neg (by omega), if_neg (by omega), if_neg (by omega), e]
        exact hI j
      · (repeat' split) <;> first | rfl | (exfalso; omega)
  · refine Tg.P (Tg.N (U := fun g => U g ∨ (10000 * k + 2000 + 100 * w + 10 * o ≤ g ∧ g < 10000 * k + 2000 + 100 * w + 10 * o + 3)) (Tg.P (Tg.N (U := fun g => U g ∨ (10000 * k + 2000 + 100 * w + 10 * o ≤ g ∧ g < 10000 * k + 2000 + 100 * w + 10 * o + 2)) (Tg.P (Tg.N (U := fun g => U g ∨ (10000 * k + 2000 + 100 * w + 10 * o ≤ g ∧ g < 10000 * k + 2000 + 100 * w + 10 * o + 1)) (Tg.P (Tg.N (U := U) hU ?_ ?_ ?_)) ?_ ?_ ?_)) ?_ ?_ ?_)) ?_ ?_ ?_)
    · exact hd _ (by unfold SrT gAr; omega)
    · exact fun g hg => Or.inl hg
    · exact Or.inr (by unfold gAr; omega)
    · exact fun hg => hg.elim (hd _ (by unfold SrT gAr; omega)) (by unfold gAr; omega)
    · exact fun g hg => hg.imp id (by omega)
    · exact Or.inr (by unfold gAr; omega)
    · exact fun hg => hg.elim (hd _ (by unfold SrT gAr; omega)) (by unfold gAr; omega)
    · exact fun g hg => hg.imp id (by omega)
    · exact Or.inr (by unfold gAr; omega)
    · exact fun hg => hg.elim (hd _ (by unfold SrT gAr; omega)) (by unfold gAr; omega)
    · exact fun g hg => hg.imp id (by unfold SrT; omega)
    · exact Or.inr (by unfold SrT gAr; omega)
end IA

/-! THE CLASS: its script's reader, the whole text -/
section CR
variable {n i ci ty : Nat} {ad : Nat → Nat} {h0 : Hp} {cs : Nat → Nat → Int32} {pm : Nat → Nat → Nat}
def RcG (cs d : Nat → Nat → Int32) : Prop := (∀ g, g ≠ gSc → (∀ j, j < 30 → g ≠ gCm j) → d g = cs g) ∧ (∀ y, y ≠ 4 → y ≠ 3 → d gSc y = cs gSc y)
theorem GK_row {j : Nat} {d e : Nat → Nat → Int32} {r : Bool × Nat × Int32 × Int32 × Int32 × Int32} (h : d (gCm j) = e (gCm j)) (g : GK j e r) : GK j d r := by
  unfold GK at *
  rw [h]
  exact g
theorem sg_lt {tx : Nat → Int32} {x : Int32} (h : sg tx ty i = x) (hx : x ≠ -1) : i < ty := by
  unfold sg at h
  split at h
  · assumption
  · exact absurd h.symm hx
theorem nmR_ty {tx : Nat → Int32} {ty : Nat} : ∀ (g i : Nat) (x : Int32), i ≤ ty → (nmR tx ty g i x).1 ≤ ty
  | 0, i, x, h => h
  | g + 1, i, x, h => by
    rw [nmR]
    split
    · next c => exact nmR_ty g (i + 1) _ (dgB_lt c)
    · exact h
theorem pC_ty {tx : Nat → Int32} (h : (pC tx ty i).1 = true) : (pC tx ty i).2.1 ≤ ty := by
  unfold pC at *
  split at h
  · simp at h
  · next h1 =>
    have h0 : i < ty := by
      unfold sg at h1
      split at h1
      · assumption
      · exact absurd (by decide) h1
    simp only [if_neg h1]
    split at h
    · next h2 => simp only [if_pos h2]; exact nmR_ty 3 _ _ h0
    · next h2 =>
      simp only [if_neg h2]
      split at h
      · simp at h
      · next h3 =>
        simp only [if_neg h3]
        split at h
        · next h4 =>
          simp only [if_pos h4]
          split at h
          · simp at h
          · next h5 =>
            simp only [if_neg h5]
            split at h
            · simp at h
            · next h6 =>
              have h6' : i + 3 < ty := dgB_lt (tx := tx) (by simpa using h6)
              simp only [if_neg h6]
              split at h
              · next h7 => simp only [if_pos h7]; exact h6'
              · next h7 =>
                simp only [if_neg h7]
                split at h
                · simp at h
                · next h8 =>
                  simp only [if_neg h8]
                  exact nmR_ty 3 _ _ (sg_lt (Decidable.byContradiction h8) (by decide))
        · next h4 =>
          simp only [if_neg h4]
          split at h
          · simp at h
          · next h5 =>
            simp only [if_neg h5]
            exact nmR_ty 3 _ _ (sg_lt (Decidable.byContradiction h5) (by decide))
theorem c4_append (L : Lay n ad h0) (h2 : cs gSc 2 = nI ty) (hty : ty < 60) {x : Int32} {X : Hp → Prop} (q : X (HN h0 ad (up2 (up2 cs gSg ty x) gSc 2 (nI (ty + 1))) pm)) : CKv mX4_append 0 0 0 [some (.ref (ad gSc)), some (.int x)] (HN h0 ad cs pm) X := by
  intro Qc kq
  refine tX4_append_0 L ⟨ty, h2, hty, ?_⟩
  rw [up2_a (show gSc ≠ gSg by unfold gSc gSg; omega), h2, nI_add]
  exact kq _ q
theorem c4_read (L : Lay n ad h0) (h2 : cs gSc 2 = nI ty) (hty : ty ≤ 60) {X : Int32 → Hp → Prop} (q : ∀ d, RcG cs d → d gSc 3 = nI (pS (cs gSg) ty 21 0).2.2 → ((pS (cs gSg) ty 21 0).1 = true → ∀ j, j < (pS (cs gSg) ty 21 0).2.2 → GK j d (pC (cs gSg) ty (stp (cs gSg) ty j))) → X (if (pS (cs gSg) ty 21 0).1 = true then -1 else nI (pS (cs gSg) ty 21 0).2.1) (HN h0 ad d pm)) : CKi mX4_read 3 0 0 [some (.ref (ad gSc))] (HN h0 ad cs pm) X := by
  intro Qc kq
  generalize htx : cs gSg = tx at *
  have loop : ∀ (g ci : Nat) (d : Nat → Nat → Int32), g + ci = 21 → Stg tx ty ci → pS tx ty g ci = pS tx ty 21 0 → RcG cs d → d gSc 4 = nI (stp tx ty ci) → d gSc 3 = nI ci → (∀ j, j < ci → GK j d (pC tx ty (stp tx ty j))) → Wm mX4_read 3 0 0 Qc 10 [some (.ref (ad gSc))] [] (HN h0 ad d pm) 0 0 := by
    intro g
    induction g with
    | zero =>
      intro ci d hg hS _ _ _ _ _
      obtain ⟨a, b, _⟩ := hS
      omega
    | succ g ih =>
      intro ci d hg hS hP hR h4 h3 hG
      have hS' := hS
      obtain ⟨S1, S2, S3⟩ := hS'
      have eg : d gSg = tx := by rw [hR.1 gSg (by unfold gSg gSc; omega) (fun j hj => by unfold gSg gCm; omega)]; exact htx
      have el : d gSc 2 = nI ty := by rw [hR.2 2 (by omega) (by omega)]; exact h2
      have adv := pC_adv (tx := tx) (ty := ty) (i := stp tx ty ci)
      refine tX4_read_10 L ⟨fun c => absurd c (by rw [h3]; exact nI_ge (by omega) (by omega)), fun _ => ⟨ci, h3, by omega, c4_readCommand (ci := ci) L el h4 hty (by omega) (by omega) ?_⟩⟩
      rw [eg]
      intro e hF h4e hGe
      have hR2 : RcG cs e := ⟨fun g g1 g2 => by rw [hF.1 g g1 (g2 ci (by omega))]; exact hR.1 g g1 g2, fun y y1 y2 => by rw [hF.2 y y1]; exact hR.2 y y1 y2⟩
      have h3e : e gSc 3 = nI ci := by rw [hF.2 3 (by omega)]; exact h3
      have ele : e gSc 2 = nI ty := by rw [hF.2 2 (by omega)]; exact el
      have hG2 : ∀ j, j < ci → GK j e (pC tx ty (stp tx ty j)) := by
        intro j hj
        have := hG j hj
        unfold GK at *
        rw [hF.1 (gCm j) (by unfold gCm gSc; omega) (by unfold gCm; omega)]
        exact this
      refine tX4_read_32 L ⟨fun c => ?_, fun c => ?_⟩
      · rw [bI_z] at c
        have hT : (pC tx ty (stp tx ty ci)).1 = true := by simpa using c
        have hG3 : ∀ j, j < ci + 1 → GK j (up2 e gSc 3 (nI (ci + 1))) (pC tx ty (stp tx ty j)) := by
          intro j hj
          have : GK j e (pC tx ty (stp tx ty j)) := by
            by_cases e9 : j = ci
            · subst e9; exact hGe hT
            · exact hG2 j (by omega)
          exact GK_row (by funext y; exact up2_a (by unfold gCm gSc; omega)) this
        have hR3 : RcG cs (up2 e gSc 3 (nI (ci + 1))) := ⟨fun g g1 g2 => by funext y; rw [up2_a g1]; exact congrFun (hR2.1 g g1 g2) y, fun y y1 y2 => by rw [up2_k y2]; exact hR2.2 y y1 y2⟩
        have ege : (up2 e gSc 3 (nI (ci + 1))) gSg = tx := by rw [hR3.1 gSg (by unfold gSg gSc; omega) (fun j hj => by unfold gSg gCm; omega)]; exact htx
        rw [h4e, ele, h3e, nI_add, nI_ltI (by omega) (by omega)]
        refine ⟨fun c2 => c4_readSign L (ty := ty) (i := (pC tx ty (stp tx ty ci)).2.1) (by rw [up2_k (by omega)]; exact ele) (by rw [up2_k (by omega)]; exact h4e) hty (by omega) (by decide) (fun hs => ?_) (fun hs => ?_), fun c2 => ?_⟩
        · rw [ege] at hs
          refine tX4_read_69 L ⟨fun _ => ih (ci + 1) _ (by omega) (Stg_s hS hT hs) ?_ ⟨fun g g1 g2 => by funext y; rw [up2_a g1]; exact congrFun (hR3.1 g g1 g2) y, fun y y1 y2 => by rw [up2_k y1]; exact hR3.2 y y1 y2⟩ up2_s (by rw [up2_k (by omega), up2_s]) (fun j hj => ?_), fun c3 => absurd c3 (by decide)⟩
          · rw [← hP, pS, if_neg c, if_pos hs]
          · exact GK_row (by funext y; exact up2_a (by unfold gCm gSc; omega)) (hG3 j hj)
        · rw [ege] at hs
          have hP2 : pS tx ty 21 0 = (decide ((pC tx ty (stp tx ty ci)).2.1 = ty), (pC tx ty (stp tx ty ci)).2.1, ci + 1) := by rw [← hP, pS, if_neg c, if_neg hs]
          rw [hP2, show decide ((pC tx ty (stp tx ty ci)).2.1 = ty) = false by simp; omega] at q
          refine tX4_read_69 L ⟨fun c3 => absurd rfl c3, fun _ => ?_⟩
          rw [show (up2 e gSc 3 (nI (ci + 1))) gSc 4 = nI (pC tx ty (stp tx ty ci)).2.1 by rw [up2_k (by omega)]; exact h4e]
          exact kq _ _ (q _ hR3 up2_s (fun h => absurd h (by simp)))
        · have hs : ¬ sg tx ty (pC tx ty (stp tx ty ci)).2.1 = nI 59 := by rw [sg, if_neg c2]; decide
          have hle : (pC tx ty (stp tx ty ci)).2.1 = ty ∨ ty < (pC tx ty (stp tx ty ci)).2.1 := by omega
          have hP2 : pS tx ty 21 0 = (decide ((pC tx ty (stp tx ty ci)).2.1 = ty), (pC tx ty (stp tx ty ci)).2.1, ci + 1) := by rw [← hP, pS, if_neg c, if_neg hs]
          have hT2 := pC_ty hT
          rw [hP2, show decide ((pC tx ty (stp tx ty ci)).2.1 = ty) = true by simp; omega] at q
          exact kq _ _ (q _ hR3 up2_s (fun _ => hG3))
      · rw [bI_z] at c
        have hP2 : pS tx ty 21 0 = (false, (pC tx ty (stp tx ty ci)).2.1, ci) := by rw [← hP, pS, if_pos c]
        rw [hP2] at q
        rw [h4e]
        exact kq _ _ (q e hR2 h3e (fun h => absurd h (by simp)))
  refine tX4_read_0 L (loop 21 0 _ rfl ⟨Nat.le_refl _, Nat.zero_le _, fun j hj => absurd hj (by omega)⟩ rfl ⟨fun g g1 g2 => by funext y; rw [up2_a g1, up2_a g1], fun y y1 y2 => by rw [up2_k y2, up2_k y1]⟩ (by rw [up2_k (by omega), up2_s]; rfl) up2_s (fun j hj => absurd hj (by omega)))
end CR

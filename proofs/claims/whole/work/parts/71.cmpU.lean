/-! THE CLASS: what forbids a loan, a passing; throwing -/
section CU
variable {n lc mc : Nat} {ad : Nat → Nat} {h0 : Hp} {cs : Nat → Nat → Int32} {pm : Nat → Nat → Nat} {v : Nat → Int32}
theorem c8_lendFault (L : Lay n ad h0) (hn : cs gEc 0 = nI n) (h0' : S0 n cs pm 0) (h : SR n lc mc cs pm 0 v) (hw : WL n lc v) {k a b x d : Int32} {X : Int32 → Hp → Prop} (q : X (nI (leF n lc v k a b x (inB x (nI 1) (nI 999) && inB d (nI 1) (nI 1000)))) (HN h0 ad cs pm)) : CKi mX8_lendFault 4 0 0 [some (.ref (ad gEc)), some (.int k), some (.int a), some (.int b), some (.int x), some (.int d), none] (HN h0 ad cs pm) X := by
  intro Qc kq
  have hb := L.1
  have hlc := hw.2.1
  have h5 : cs (gSt 0) 5 = nI lc := h.1.2.2.2.2.1
  refine tX8_lendFault_0 L (c8_transferFault L hn h0' h hw (tX8_lendFault_9 L ?_))
  rw [h5, nI_ltI (by omega) (by omega)]
  have hl := wpF_lt (n := n) (k := k) (a := a) (b := b) (r := inB x (nI 1) (nI 999))
  by_cases s1 : siB n a = false ∨ siB n b = false ∨ kiB k = false
  · have e1 : trF n lc v k a b x (inB x (nI 1) (nI 999)) = 1 := by
      rw [trF, show wpF n k a b (inB x (nI 1) (nI 999)) = 1 by rw [wpF, if_pos s1], if_neg (by omega)]
    have e2 : leF n lc v k a b x (inB x (nI 1) (nI 999) && inB d (nI 1) (nI 1000)) = 1 := by
      rw [leF, show wpF n k a b (inB x (nI 1) (nI 999) && inB d (nI 1) (nI 1000)) = 1 by rw [wpF, if_pos s1], if_neg (by omega)]
    rw [e1]
    rw [e2] at q
    exact ⟨fun _ => kq _ _ q, fun c => absurd rfl c⟩
  · by_cases s2 : a = b ∨ inB x (nI 1) (nI 999) = false
    · have e1 : trF n lc v k a b x (inB x (nI 1) (nI 999)) = 2 := by
        rw [trF, show wpF n k a b (inB x (nI 1) (nI 999)) = 2 by rw [wpF, if_neg s1, if_pos s2], if_neg (by omega)]
      have e2 : leF n lc v k a b x (inB x (nI 1) (nI 999) && inB d (nI 1) (nI 1000)) = 2 := by
        rw [leF, show wpF n k a b (inB x (nI 1) (nI 999) && inB d (nI 1) (nI 1000)) = 2 by rw [wpF, if_neg s1, if_pos (s2.imp id (fun e => by simp [e]))], if_neg (by omega)]
      rw [e1]
      rw [e2] at q
      exact ⟨fun c => absurd c (by decide), fun _ => ⟨fun c => absurd rfl c, fun _ => kq _ _ q⟩⟩
    · have sx : inB x (nI 1) (nI 999) = true := by
        cases e : inB x (nI 1) (nI 999) with
        | true => rfl
        | false => exact absurd (Or.inr e) s2
      have sab : ¬ a = b := fun e => s2 (Or.inl e)
      have e0 : wpF n k a b (inB x (nI 1) (nI 999)) = 0 := by rw [wpF, if_neg s1, if_neg s2]
      have e1 : trF n lc v k a b x (inB x (nI 1) (nI 999)) = if own n lc v (ixI a) (ixI k) < x then 3 else 0 := by rw [trF, if_pos e0]
      have n12 : ∀ y : Nat, y ≠ 0 → y ≠ 3 → y < 10 → ¬ nI (if own n lc v (ixI a) (ixI k) < x then 3 else 0) = nI y := by
        intro y y0 y3 y9
        split
        · rw [nI_inj5 (by omega) (by omega)]; omega
        · rw [nI_inj5 (by omega) (by omega)]; omega
      rw [e1]
      refine ⟨fun c => absurd c (n12 1 (by omega) (by omega) (by omega)), fun _ => ⟨fun _ => ?_, fun c => absurd c (n12 2 (by omega) (by omega) (by omega))⟩⟩
      have bad : inB d (nI 1) (nI 1000) = false → X (nI 2) (HN h0 ad cs pm) := by
        intro ed
        have e2 : leF n lc v k a b x (inB x (nI 1) (nI 999) && inB d (nI 1) (nI 1000)) = 2 := by
          rw [leF, show wpF n k a b (inB x (nI 1) (nI 999) && inB d (nI 1) (nI 1000)) = 2 by rw [wpF, if_neg s1, if_pos (Or.inr (by simp [ed]))], if_neg (by omega)]
        rw [e2] at q
        exact q
      refine ⟨fun c => kq _ _ (bad (by simp [inB, c])), fun c => ⟨fun c2 => ?_, fun c2 => kq _ _ (bad (by simp [inB, Int32.not_le.mp c2]))⟩⟩
      have sd : inB d (nI 1) (nI 1000) = true := by simp [inB, Int32.not_lt.mp c, c2]
      have e2 : leF n lc v k a b x (inB x (nI 1) (nI 999) && inB d (nI 1) (nI 1000)) = if lc = 10 ∨ own n lc v (ixI a) (ixI k) < x then 3 else 0 := by
        rw [leF, show wpF n k a b (inB x (nI 1) (nI 999) && inB d (nI 1) (nI 1000)) = 0 by rw [wpF, if_neg s1, if_neg (by simp [sab, sx, sd])], if_pos rfl]
      rw [e2] at q
      refine ⟨fun c3 => kq _ _ ?_, fun c3 => kq _ _ ?_⟩
      · have c9 : ¬ lc = 10 := by omega
        simp only [c9, false_or] at q
        exact q
      · rw [if_pos (Or.inl (by omega))] at q; exact q
theorem c8_passFault (L : Lay n ad h0) (h4 : cs (gSt 0) 4 = v 0) {x : Int32} (hT : inB x (nI 1) (nI 1000) = true → (v 0 ≤ nI 1000000 - x ↔ v 0 + x ≤ nI 1000000)) {X : Int32 → Hp → Prop} (q : X (nI (if paF v x = 0 then 0 else paF v x + 1)) (HN h0 ad cs pm)) : CKi mX8_passFault 0 0 0 [some (.ref (ad gEc)), some (.int x)] (HN h0 ad cs pm) X := by
  intro Qc kq
  have bad : inB x (nI 1) (nI 1000) = false → X (nI 2) (HN h0 ad cs pm) := by
    intro e
    rw [show paF v x = 1 by rw [paF, if_pos e], if_neg (by omega)] at q
    exact q
  refine tX8_passFault_0 L ?_
  rw [h4]
  refine ⟨fun c => kq _ _ (bad (by simp [inB, c])), fun c => ⟨fun c2 => ?_, fun c2 => kq _ _ (bad (by simp [inB, Int32.not_le.mp c2]))⟩⟩
  have sx : inB x (nI 1) (nI 1000) = true := by simp [inB, Int32.not_lt.mp c, c2]
  have sx' : ¬ inB x (nI 1) (nI 1000) = false := by rw [sx]; simp
  refine ⟨fun c3 => kq _ _ ?_, fun c3 => kq _ _ ?_⟩
  · rw [show paF v x = 0 by rw [paF, if_neg sx', if_pos ((hT sx).mp c3)], if_pos rfl] at q; exact q
  · rw [show paF v x = 2 by rw [paF, if_neg sx', if_neg (fun e => c3 ((hT sx).mpr e))], if_neg (by omega)] at q; exact q
end CU

/-! THE CLASS: its script's reader -/
section CN
variable {n i ci ty : Nat} {ad : Nat → Nat} {h0 : Hp} {cs : Nat → Nat → Int32} {pm : Nat → Nat → Nat}
theorem c4_readSign (L : Lay n ad h0) (h2 : cs gSc 2 = nI ty) (h4 : cs gSc 4 = nI i) (hty : ty ≤ 60) (hi : i < 1000) {x : Int32} (hx : x ≠ -1) {X : Int32 → Hp → Prop} (q0 : sg (cs gSg) ty i = x → X (nI 1) (HN h0 ad (up2 cs gSc 4 (nI (i + 1))) pm)) (q1 : ¬ sg (cs gSg) ty i = x → X (nI 0) (HN h0 ad cs pm)) : CKi mX4_readSign 0 0 0 [some (.ref (ad gSc)), some (.int x)] (HN h0 ad cs pm) X := by
  intro Qc kq
  refine tX4_readSign_0 L ?_
  rw [h2, h4, nI_leI (by omega) (by omega)]
  refine ⟨fun c => kq _ _ (q1 ?_), fun c => ⟨i, rfl, by omega, fun c2 => ?_, fun c2 => kq _ _ (q1 ?_)⟩⟩
  · rw [sg, if_neg (by omega)]; exact Ne.symm hx
  · rw [nI_add]; exact kq _ _ (q0 (by rw [sg, if_pos (by omega)]; exact c2))
  · rw [sg, if_pos (by omega)]; exact c2
theorem c4_isDigitNext (L : Lay n ad h0) (h2 : cs gSc 2 = nI ty) (h4 : cs gSc 4 = nI i) (hty : ty ≤ 60) (hi : i < 1000) {X : Int32 → Hp → Prop} (q : X (bI (dgB (sg (cs gSg) ty i))) (HN h0 ad cs pm)) : CKi mX4_isDigitNext 0 0 0 [some (.ref (ad gSc))] (HN h0 ad cs pm) X := by
  intro Qc kq
  refine tX4_isDigitNext_0 L ?_
  rw [h2, h4, nI_leI (by omega) (by omega)]
  refine ⟨fun c => kq _ _ ?_, fun c => ⟨i, rfl, by omega, fun c2 => kq _ _ ?_, fun c2 => ⟨fun c3 => kq _ _ ?_, fun c3 => kq _ _ ?_⟩⟩⟩
  · rw [sg, if_neg (by omega), show dgB (-1) = false by decide] at q; exact q
  · rw [sg, if_pos (by omega), show dgB (cs gSg i) = false by simp [dgB, inB, c2]] at q; exact q
  · rw [sg, if_pos (by omega), show dgB (cs gSg i) = false by simp [dgB, inB, c3]] at q; exact q
  · rw [sg, if_pos (by omega), show dgB (cs gSg i) = true by simp [dgB, inB, Int32.not_lt.mp c2, Int32.not_lt.mp c3]] at q; exact q
theorem dgB_lt {tx : Nat → Int32} (h : dgB (sg tx ty i) = true) : i < ty := by
  unfold sg at h
  split at h
  · assumption
  · exact absurd h (by decide)
theorem c4_readDigit (L : Lay n ad h0) (h4 : cs gSc 4 = nI i) (hty : ty ≤ 60) (hd : dgB (sg (cs gSg) ty i) = true) {X : Int32 → Hp → Prop} (q : X (sg (cs gSg) ty i - nI 48) (HN h0 ad (up2 cs gSc 4 (nI (i + 1))) pm)) : CKi mX4_readDigit 0 0 0 [some (.ref (ad gSc)), none] (HN h0 ad cs pm) X := by
  intro Qc kq
  have hi := dgB_lt hd
  refine tX4_readDigit_0 L ⟨i, h4, by omega, ?_⟩
  rw [h4, nI_add]
  rw [sg, if_pos hi] at q
  exact kq _ _ q
theorem c4_readSite (L : Lay n ad h0) (h2 : cs gSc 2 = nI ty) (h4 : cs gSc 4 = nI i) (hty : ty ≤ 60) (hi : i < 1000) (hci : ci < 30) {X : Int32 → Hp → Prop} (q0 : dgB (sg (cs gSg) ty i) = true → X (nI 1) (HN h0 ad (up2 (up2 cs gSc 4 (nI (i + 1))) (gCm ci) 1 (sg (cs gSg) ty i - nI 48)) pm)) (q1 : dgB (sg (cs gSg) ty i) = false → X (nI 0) (HN h0 ad cs pm)) : CKi mX4_readSite 1 0 0 [some (.ref (ad gSc)), some (.ref (ad (gCm ci)))] (HN h0 ad cs pm) X := by
  intro Qc kq
  refine tX4_readSite_0 L (c4_isDigitNext L h2 h4 hty hi (tX4_readSite_4 L ⟨fun c => ?_, fun c => kq _ _ (q1 (bI_z.mp c))⟩))
  rw [bI_z] at c
  have hd : dgB (sg (cs gSg) ty i) = true := by simpa using c
  exact c4_readDigit L h4 hty hd (tX4_readSite_14 L ⟨hci, kq _ _ (q0 hd)⟩)
theorem c4_readSecondSite (L : Lay n ad h0) (h2 : cs gSc 2 = nI ty) (h4 : cs gSc 4 = nI i) (hty : ty ≤ 60) (hi : i < 900) (hci : ci < 30) {X : Int32 → Hp → Prop} (q0 : sg (cs gSg) ty i = nI 62 → dgB (sg (cs gSg) ty (i + 1)) = true → X (nI 1) (HN h0 ad (up2 (up2 (up2 cs gSc 4 (nI (i + 1))) gSc 4 (nI (i + 1 + 1))) (gCm ci) 2 (sg (cs gSg) ty (i + 1) - nI 48)) pm)) (q1 : ¬ sg (cs gSg) ty i = nI 62 → X (nI 0) (HN h0 ad cs pm)) (q2 : sg (cs gSg) ty i = nI 62 → dgB (sg (cs gSg) ty (i + 1)) = false → X (nI 0) (HN h0 ad (up2 cs gSc 4 (nI (i + 1))) pm)) : CKi mX4_readSecondSite 1 0 0 [some (.ref (ad gSc)), some (.ref (ad (gCm ci)))] (HN h0 ad cs pm) X := by
  intro Qc kq
  have e0 : up2 cs gSc 4 (nI (i + 1)) gSg = cs gSg := by funext y; exact up2_a (by unfold gSg gSc; omega)
  refine tX4_readSecondSite_0 L (c4_readSign L h2 h4 hty (by omega) (by decide) (fun c => ?_) (fun c => tX4_readSecondSite_6 L ⟨fun _ => kq _ _ (q1 c), fun c2 => absurd rfl c2⟩))
  refine tX4_readSecondSite_6 L ⟨fun c2 => absurd c2 (by decide), fun _ => c4_isDigitNext L (ty := ty) (i := i + 1) (by rw [up2_k (by omega)]; exact h2) up2_s hty (by omega) (tX4_readSecondSite_13 L ⟨fun c2 => ?_, fun c2 => kq _ _ (q2 c ?_)⟩)⟩
  · rw [bI_z, e0] at c2
    have hd : dgB (sg (cs gSg) ty (i + 1)) = true := by simpa using c2
    refine c4_readDigit L (ty := ty) (i := i + 1) up2_s hty (by rw [e0]; exact hd) (tX4_readSecondSite_23 L ⟨hci, kq _ _ ?_⟩)
    rw [e0]
    exact q0 c hd
  · rw [bI_z, e0] at c2; exact c2
end CN

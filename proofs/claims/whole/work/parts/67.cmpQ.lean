/-! THE CLASS: its script's reader, a command, at last -/
section CQ
variable {n i ci ty : Nat} {ad : Nat → Nat} {h0 : Hp} {cs : Nat → Nat → Int32} {pm : Nat → Nat → Nat}
theorem c4_readCommand (L : Lay n ad h0) (h2 : cs gSc 2 = nI ty) (h4 : cs gSc 4 = nI i) (hty : ty ≤ 60) (hi : i < 800) (hci : ci < 30) {X : Int32 → Hp → Prop} (q : ∀ d, RcF ci cs d → d gSc 4 = nI (pC (cs gSg) ty i).2.1 → ((pC (cs gSg) ty i).1 = true → GK ci d (pC (cs gSg) ty i)) → X (bI (pC (cs gSg) ty i).1) (HN h0 ad d pm)) : CKi mX4_readCommand 2 0 0 [some (.ref (ad gSc)), some (.ref (ad (gCm ci)))] (HN h0 ad cs pm) X := by
  intro Qc kq
  generalize htx : cs gSg = tx at *
  have hne := nSC ci
  have num : ∀ (K : Int32) (j : Nat) (d : Nat → Nat → Int32) (W : Int32 → Hp → Prop), RcF ci cs d → d gSc 4 = nI j → j < 900 → K ≠ -1 → (sg tx ty j = K → ∀ e, RdN ci (nmR tx ty 3 (j + 1) (nI 0)).1 (nmR tx ty 3 (j + 1) (nI 0)).2 d e → W (bI (decide (j + 1 < (nmR tx ty 3 (j + 1) (nI 0)).1))) (HN h0 ad e pm)) → (¬ sg tx ty j = K → W (nI 0) (HN h0 ad d pm)) → CKi mX4_readNumberBehind 1 0 0 [some (.ref (ad gSc)), some (.int K), some (.ref (ad (gCm ci))), none] (HN h0 ad d pm) W := by
    intro K j d W hF hj hj9 hK w0 w1
    refine c4_readNumberBehind L (ty := ty) (i := j) (hF.ln h2) hj hty hj9 hci hK ?_ ?_
    · rw [hF.tx, htx]; exact w0
    · rw [hF.tx, htx]; exact w1
  refine tX4_readCommand_0 L ?_
  rw [h2, h4, htx, nI_ltI (by omega) (by omega)]
  refine ⟨fun c => ⟨i, rfl, by omega, hci, ?_⟩, fun c => ?_⟩
  · have es : sg tx ty i = tx i := by rw [sg, if_pos c]
    rw [← es]
    generalize hz : sg tx ty i = z at *
    have r0 : RcF ci cs (up2 cs (gCm ci) 0 z) := RcF.refl.cm
    have s0 : (up2 cs (gCm ci) 0 z) gSc 4 = nI i := by rw [up2_a hne]; exact h4
    have l0 : (up2 cs (gCm ci) 0 z) (gCm ci) 0 = z := up2_s
    generalize hD : up2 cs (gCm ci) 0 z = D at *
    have one : z ≠ -1 → isK z = true → z ≠ nI 116 → ∀ W : Int32 → Hp → Prop, (dgB (sg tx ty (i + 1)) = true → W (nI 1) (HN h0 ad (up2 (up2 (up2 D gSc 4 (nI (i + 1))) gSc 4 (nI (i + 1 + 1))) (gCm ci) 1 (sg tx ty (i + 1) - nI 48)) pm)) → (dgB (sg tx ty (i + 1)) = false → W (nI 0) (HN h0 ad (up2 D gSc 4 (nI (i + 1))) pm)) → CKi mX4_readSite 1 0 0 [some (.ref (ad gSc)), some (.ref (ad (gCm ci)))] (HN h0 ad (up2 D gSc 4 (nI (i + 1))) pm) W := by
      intro z1 z2 z3 W w0 w1
      have rr := r0.s4 (x := nI (i + 1))
      refine c4_readSite L (ty := ty) (i := i + 1) (rr.ln h2) up2_s hty (by omega) hci ?_ ?_
      · rw [rr.tx, htx]; exact w0
      · rw [rr.tx, htx]; exact w1
    have sgn : z ≠ -1 → ∀ W : Int32 → Hp → Prop, W (nI 1) (HN h0 ad (up2 D gSc 4 (nI (i + 1))) pm) → CKi mX4_readSign 0 0 0 [some (.ref (ad gSc)), some (.int z)] (HN h0 ad D pm) W := by
      intro z1 W w0
      refine c4_readSign L (ty := ty) (i := i) (r0.ln h2) s0 hty (by omega) z1 (fun _ => w0) (fun e => absurd ?_ e)
      rw [r0.tx, htx, hz]
    have f1 := r0.s4 (x := nI (i + 1))
    have K' : isK z = true → ¬ isK z = false := fun h => by rw [h]; simp
    have D' : ∀ j, dgB (sg tx ty j) = true → ¬ dgB (sg tx ty j) = false := fun j h => by rw [h]; simp
    have plus : isK z = true → z ≠ nI 116 → ¬ twK z = true → z ≠ nI 109 → z ≠ -1 → Wm mX4_readCommand 2 0 0 Qc 88 [some (.ref (ad gSc)), some (.ref (ad (gCm ci)))] [] (HN h0 ad D pm) 0 0 := by
      intro hK h116 hW h109 z1
      refine tX4_readCommand_88 L ⟨hci, ?_⟩
      rw [l0]
      refine sgn z1 _ (tX4_readCommand_96 L ⟨fun c2 => absurd c2 (by decide), fun _ => one z1 hK h116 _ (fun hd => ?_) (fun hd => ?_)⟩)
      · have f2 := (f1.s4 (x := nI (i + 1 + 1))).cm (y := 1) (x := sg tx ty (i + 1) - nI 48)
        have L2 : (up2 (up2 (up2 D gSc 4 (nI (i + 1))) gSc 4 (nI (i + 1 + 1))) (gCm ci) 1 (sg tx ty (i + 1) - nI 48)) (gCm ci) 0 = z := by
          rw [up2_k (by omega), up2_a (Ne.symm hne), up2_a (Ne.symm hne)]; exact l0
        refine tX4_readCommand_104 L ⟨fun c2 => absurd c2 (by decide), fun _ => num (nI 58) (i + 2) _ _ f2 (by rw [up2_a hne, up2_s]) (by omega) (by decide) (fun h58 e r => ?_) (fun h58 => ?_)⟩
        · have eq : pC tx ty i = (decide (i + 3 < (nmR tx ty 3 (i + 3) (nI 0)).1), (nmR tx ty 3 (i + 3) (nI 0)).1, z, sg tx ty (i + 1) - nI 48, 0, (nmR tx ty 3 (i + 3) (nI 0)).2) := by
            rw [pC, hz, if_neg (K' hK), if_neg h116, if_neg (D' _ hd), if_neg hW, if_neg (fun h => h h58)]
          rw [eq] at q
          have q9 := q e (f2.nm r) r.2.2.2.1 (fun _ => ⟨by rw [r.2.2.1 0 (by omega)]; exact L2, fun _ => by rw [r.2.2.1 1 (by omega), up2_s], fun h => absurd h hW, fun _ => r.2.2.2.2⟩)
          refine tX4_readCommand_114 L ⟨fun c2 => kq _ _ ?_, fun c2 => kq _ _ ?_⟩
          · rw [bI_z] at c2; simp only [show decide (i + 3 < (nmR tx ty 3 (i + 3) (nI 0)).1) = false from c2] at q9; exact q9
          · rw [bI_z] at c2; simp only [show decide (i + 3 < (nmR tx ty 3 (i + 3) (nI 0)).1) = true by simpa using c2] at q9; exact q9
        · have eq : pC tx ty i = (false, i + 2, 0, 0, 0, 0) := by
            rw [pC, hz, if_neg (K' hK), if_neg h116, if_neg (D' _ hd), if_neg hW, if_pos h58]
          rw [eq] at q
          exact tX4_readCommand_114 L ⟨fun _ => kq _ _ (q _ f2 (by rw [up2_a hne, up2_s]) (fun h => absurd h (by simp))), fun c2 => absurd rfl c2⟩
      · have eq : pC tx ty i = (false, i + 1, 0, 0, 0, 0) := by
          rw [pC, hz, if_neg (K' hK), if_neg h116, if_pos hd]
        rw [eq] at q
        exact tX4_readCommand_104 L ⟨fun _ => kq _ _ (q _ f1 up2_s (fun h => absurd h (by simp))), fun c2 => absurd rfl c2⟩
    have sec : ∀ (d : Nat → Nat → Int32) (W : Int32 → Hp → Prop), RcF ci cs d → d gSc 4 = nI (i + 2) → (sg tx ty (i + 2) = nI 62 → dgB (sg tx ty (i + 3)) = true → W (nI 1) (HN h0 ad (up2 (up2 (up2 d gSc 4 (nI (i + 2 + 1))) gSc 4 (nI (i + 2 + 1 + 1))) (gCm ci) 2 (sg tx ty (i + 3) - nI 48)) pm)) → (¬ sg tx ty (i + 2) = nI 62 → W (nI 0) (HN h0 ad d pm)) → (sg tx ty (i + 2) = nI 62 → dgB (sg tx ty (i + 3)) = false → W (nI 0) (HN h0 ad (up2 d gSc 4 (nI (i + 2 + 1))) pm)) → CKi mX4_readSecondSite 1 0 0 [some (.ref (ad gSc)), some (.ref (ad (gCm ci)))] (HN h0 ad d pm) W := by
      intro d W hF hj w0 w1 w2
      refine c4_readSecondSite L (ty := ty) (i := i + 2) (hF.ln h2) hj hty (by omega) hci ?_ ?_ ?_
      · rw [hF.tx, htx]; exact w0
      · rw [hF.tx, htx]; exact w1
      · rw [hF.tx, htx]; exact w2
    have f2 := (f1.s4 (x := nI (i + 1 + 1))).cm (y := 1) (x := sg tx ty (i + 1) - nI 48)
    have P2 : (up2 (up2 (up2 D gSc 4 (nI (i + 1))) gSc 4 (nI (i + 1 + 1))) (gCm ci) 1 (sg tx ty (i + 1) - nI 48)) gSc 4 = nI (i + 2) := by rw [up2_a hne, up2_s]
    have L2 : (up2 (up2 (up2 D gSc 4 (nI (i + 1))) gSc 4 (nI (i + 1 + 1))) (gCm ci) 1 (sg tx ty (i + 1) - nI 48)) (gCm ci) 0 = z := by
      rw [up2_k (by omega), up2_a (Ne.symm hne), up2_a (Ne.symm hne)]; exact l0
    have A2 : (up2 (up2 (up2 D gSc 4 (nI (i + 1))) gSc 4 (nI (i + 1 + 1))) (gCm ci) 1 (sg tx ty (i + 1) - nI 48)) (gCm ci) 1 = sg tx ty (i + 1) - nI 48 := up2_s
    generalize hE : up2 (up2 (up2 D gSc 4 (nI (i + 1))) gSc 4 (nI (i + 1 + 1))) (gCm ci) 1 (sg tx ty (i + 1) - nI 48) = E at *
    have f3 := (f2.s4 (x := nI (i + 2 + 1)))
    have f4 := (f3.s4 (x := nI (i + 2 + 1 + 1))).cm (y := 2) (x := sg tx ty (i + 3) - nI 48)
    have P4 : (up2 (up2 (up2 E gSc 4 (nI (i + 2 + 1))) gSc 4 (nI (i + 2 + 1 + 1))) (gCm ci) 2 (sg tx ty (i + 3) - nI 48)) gSc 4 = nI (i + 4) := by rw [up2_a hne, up2_s]
    have L4 : (up2 (up2 (up2 E gSc 4 (nI (i + 2 + 1))) gSc 4 (nI (i + 2 + 1 + 1))) (gCm ci) 2 (sg tx ty (i + 3) - nI 48)) (gCm ci) 0 = z := by
      rw [up2_k (by omega), up2_a (Ne.symm hne), up2_a (Ne.symm hne)]; exact L2
    have A4 : (up2 (up2 (up2 E gSc 4 (nI (i + 2 + 1))) gSc 4 (nI (i + 2 + 1 + 1))) (gCm ci) 2 (sg tx ty (i + 3) - nI 48)) (gCm ci) 1 = sg tx ty (i + 1) - nI 48 := by
      rw [up2_k (by omega), up2_a (Ne.symm hne), up2_a (Ne.symm hne)]; exact A2
    have B4 : (up2 (up2 (up2 E gSc 4 (nI (i + 2 + 1))) gSc 4 (nI (i + 2 + 1 + 1))) (gCm ci) 2 (sg tx ty (i + 3) - nI 48)) (gCm ci) 2 = sg tx ty (i + 3) - nI 48 := up2_s
    generalize hG : up2 (up2 (up2 E gSc 4 (nI (i + 2 + 1))) gSc 4 (nI (i + 2 + 1 + 1))) (gCm ci) 2 (sg tx ty (i + 3) - nI 48) = G at *
    have two : isK z = true → z ≠ nI 116 → twK z = true → z ≠ nI 109 → z ≠ -1 → Wm mX4_readCommand 2 0 0 Qc 123 [some (.ref (ad gSc)), some (.ref (ad (gCm ci)))] [] (HN h0 ad D pm) 0 0 := by
      intro hK h116 hW h109 z1
      refine tX4_readCommand_123 L ⟨hci, ?_⟩
      rw [l0]
      refine sgn z1 _ (tX4_readCommand_131 L ⟨fun c2 => absurd c2 (by decide), fun _ => one z1 hK h116 _ (fun hd => ?_) (fun hd => ?_)⟩)
      · refine tX4_readCommand_139 L ⟨fun c2 => absurd c2 (by decide), fun _ => sec E _ f2 P2 (fun h62 hd3 => ?_) (fun h62 => ?_) (fun h62 hd3 => ?_)⟩
        · rw [hG]
          refine tX4_readCommand_147 L ⟨fun c2 => absurd c2 (by decide), fun _ => num (nI 58) (i + 4) _ _ f4 P4 (by omega) (by decide) (fun h58 e r => ?_) (fun h58 => ?_)⟩
          · have eq : pC tx ty i = (decide (i + 5 < (nmR tx ty 3 (i + 5) (nI 0)).1), (nmR tx ty 3 (i + 5) (nI 0)).1, z, sg tx ty (i + 1) - nI 48, sg tx ty (i + 3) - nI 48, (nmR tx ty 3 (i + 5) (nI 0)).2) := by
              rw [pC, hz, if_neg (K' hK), if_neg h116, if_neg (D' _ hd), if_pos hW, if_neg (fun h => h h62), if_neg (D' _ hd3), if_neg h109, if_neg (fun h => h h58)]
            rw [eq] at q
            have q9 := q e (f4.nm r) r.2.2.2.1 (fun _ => ⟨by rw [r.2.2.1 0 (by omega)]; exact L4, fun _ => by rw [r.2.2.1 1 (by omega)]; exact A4, fun _ => by rw [r.2.2.1 2 (by omega)]; exact B4, fun _ => r.2.2.2.2⟩)
            refine tX4_readCommand_157 L ⟨fun c2 => kq _ _ ?_, fun c2 => kq _ _ ?_⟩
            · rw [bI_z] at c2; simp only [show decide (i + 5 < (nmR tx ty 3 (i + 5) (nI 0)).1) = false from c2] at q9; exact q9
            · rw [bI_z] at c2; simp only [show decide (i + 5 < (nmR tx ty 3 (i + 5) (nI 0)).1) = true by simpa using c2] at q9; exact q9
          · have eq : pC tx ty i = (false, i + 4, 0, 0, 0, 0) := by
              rw [pC, hz, if_neg (K' hK), if_neg h116, if_neg (D' _ hd), if_pos hW, if_neg (fun h => h h62), if_neg (D' _ hd3), if_neg h109, if_pos h58]
            rw [eq] at q
            exact tX4_readCommand_157 L ⟨fun _ => kq _ _ (q _ f4 P4 (fun h => absurd h (by simp))), fun c2 => absurd rfl c2⟩
        · have eq : pC tx ty i = (false, i + 2, 0, 0, 0, 0) := by
            rw [pC, hz, if_neg (K' hK), if_neg h116, if_neg (D' _ hd), if_pos hW, if_pos h62]
          rw [eq] at q
          exact tX4_readCommand_147 L ⟨fun _ => kq _ _ (q _ f2 P2 (fun h => absurd h (by simp))), fun c2 => absurd rfl c2⟩
        · have eq : pC tx ty i = (false, i + 3, 0, 0, 0, 0) := by
            rw [pC, hz, if_neg (K' hK), if_neg h116, if_neg (D' _ hd), if_pos hW, if_neg (fun h => h h62), if_pos hd3]
          rw [eq] at q
          exact tX4_readCommand_147 L ⟨fun _ => kq _ _ (q _ f3 up2_s (fun h => absurd h (by simp))), fun c2 => absurd rfl c2⟩
      · have eq : pC tx ty i = (false, i + 1, 0, 0, 0, 0) := by
          rw [pC, hz, if_neg (K' hK), if_neg h116, if_pos hd]
        rw [eq] at q
        exact tX4_readCommand_139 L ⟨fun _ => kq _ _ (q _ f1 up2_s (fun h => absurd h (by simp))), fun c2 => absurd rfl c2⟩
    refine ⟨fun e => plus (by rw [e]; decide) (by rw [e]; decide) (by rw [e]; decide) (by rw [e]; decide) (by rw [e]; decide), fun e => plus (by rw [e]; decide) (by rw [e]; decide) (by rw [e]; decide) (by rw [e]; decide) (by rw [e]; decide), ?_, ?_, fun e => ?_, ?_, fun n1 n2 n3 n4 n5 n6 => ?_⟩
    · exact fun e => two (by rw [e]; decide) (by rw [e]; decide) (by rw [e]; decide) (by rw [e]; decide) (by rw [e]; decide)
    · intro e
      have hK : isK z = true := by rw [e]; decide
      have h116 : z ≠ nI 116 := by rw [e]; decide
      have hW : twK z = true := by rw [e]; decide
      have z1 : z ≠ -1 := by rw [e]; decide
      refine sgn z1 _ (tX4_readCommand_174 L ⟨fun c2 => absurd c2 (by decide), fun _ => one z1 hK h116 _ (fun hd => ?_) (fun hd => ?_)⟩)
      · refine tX4_readCommand_182 L ⟨fun c2 => absurd c2 (by decide), fun _ => sec E _ f2 P2 (fun h62 hd3 => ?_) (fun h62 => ?_) (fun h62 hd3 => ?_)⟩
        · rw [hG]
          have eq : pC tx ty i = (true, i + 4, z, sg tx ty (i + 1) - nI 48, sg tx ty (i + 3) - nI 48, 0) := by
            rw [pC, hz, if_neg (K' hK), if_neg h116, if_neg (D' _ hd), if_pos hW, if_neg (fun h => h h62), if_neg (D' _ hd3), if_pos e]
          rw [eq] at q
          exact tX4_readCommand_190 L ⟨fun c2 => absurd c2 (by decide), fun _ => kq _ _ (q G f4 P4 (fun _ => ⟨L4, fun _ => A4, fun _ => B4, fun h => absurd e h⟩))⟩
        · have eq : pC tx ty i = (false, i + 2, 0, 0, 0, 0) := by
            rw [pC, hz, if_neg (K' hK), if_neg h116, if_neg (D' _ hd), if_pos hW, if_pos h62]
          rw [eq] at q
          exact tX4_readCommand_190 L ⟨fun _ => kq _ _ (q _ f2 P2 (fun h => absurd h (by simp))), fun c2 => absurd rfl c2⟩
        · have eq : pC tx ty i = (false, i + 3, 0, 0, 0, 0) := by
            rw [pC, hz, if_neg (K' hK), if_neg h116, if_neg (D' _ hd), if_pos hW, if_neg (fun h => h h62), if_pos hd3]
          rw [eq] at q
          exact tX4_readCommand_190 L ⟨fun _ => kq _ _ (q _ f3 up2_s (fun h => absurd h (by simp))), fun c2 => absurd rfl c2⟩
      · have eq : pC tx ty i = (false, i + 1, 0, 0, 0, 0) := by
          rw [pC, hz, if_neg (K' hK), if_neg h116, if_pos hd]
        rw [eq] at q
        exact tX4_readCommand_182 L ⟨fun _ => kq _ _ (q _ f1 up2_s (fun h => absurd h (by simp))), fun c2 => absurd rfl c2⟩
    · refine num (nI 116) i D _ r0 s0 (by omega) (by decide) (fun hs ee r => tX4_readCommand_206 L ⟨bI_nar _, ?_⟩) (fun hs => absurd (hz.trans e) hs)
      have eq : pC tx ty i = (decide (i + 1 < (nmR tx ty 3 (i + 1) (nI 0)).1), (nmR tx ty 3 (i + 1) (nI 0)).1, z, 0, 0, (nmR tx ty 3 (i + 1) (nI 0)).2) := by
        rw [pC, hz, if_neg (K' (by rw [e]; decide)), if_pos e]
      rw [eq] at q
      exact kq _ _ (q ee (r0.nm r) r.2.2.2.1 (fun _ => ⟨by rw [r.2.2.1 0 (by omega)]; exact l0, fun h => absurd e h, fun h => absurd h (by show ¬ twK z = true; rw [e]; decide), fun _ => r.2.2.2.2⟩))
    · exact fun e => two (by rw [e]; decide) (by rw [e]; decide) (by rw [e]; decide) (by rw [e]; decide) (by rw [e]; decide)
    · have hK : isK z = false := by simp [isK, n1, n2, n3, n4, n5, n6]
      have eq : pC tx ty i = (false, i, 0, 0, 0, 0) := by rw [pC, hz, if_pos hK]
      rw [eq] at q
      exact kq _ _ (q D r0 s0 (fun h => absurd h (by simp)))
  · have es : sg tx ty i = -1 := by rw [sg, if_neg c]
    have e : pC tx ty i = (false, i, 0, 0, 0, 0) := by
      rw [pC, es, if_pos (by decide)]
    rw [e] at q
    exact kq _ _ (q cs RcF.refl h4 (fun h => absurd h (by simp)))
end CQ

/-! THE CLASS: a whole script is run -/
section CZ
variable {n lc mc c ol ty i : Nat} {ad : Nat → Nat} {h0 : Hp} {cs cs' d : Nat → Nat → Int32} {pm pm' : Nat → Nat → Nat} {v p tx : Nat → Int32}
theorem stp_le : ∀ j, stp tx ty j ≤ 9 * j
  | 0 => Nat.le_refl _
  | j + 1 => by
    have h1 := stp_le j
    have h2 := (pC_adv (tx := tx) (ty := ty) (i := stp tx ty j)).2
    show (pC tx ty (stp tx ty j)).2.1 + 1 ≤ _
    omega
theorem pS_p : ∀ (g ci : Nat), (pS tx ty g ci).2.1 ≤ 9 * (ci + g) + 9
  | 0, ci => by
    have h1 := stp_le (tx := tx) (ty := ty) ci
    show stp tx ty ci ≤ _
    omega
  | g + 1, ci => by
    have h1 := stp_le (tx := tx) (ty := ty) ci
    have h2 := (pC_adv (tx := tx) (ty := ty) (i := stp tx ty ci)).2
    unfold pS
    split
    · show (pC tx ty (stp tx ty ci)).2.1 ≤ _
      omega
    · split
      · have := pS_p g (ci + 1)
        omega
      · show (pC tx ty (stp tx ty ci)).2.1 ≤ _
        omega
def FrT (cs cs' : Nat → Nat → Int32) : Prop := ∀ g, (g = gEc ∨ g = gSg ∨ 90000 ≤ g) → cs' g = cs g
theorem RcG.k (h : RcG cs d) {g : Nat} (hg : g < 80003) : d g = cs g := h.1 g (by unfold gSc; omega) (fun j hj => by unfold gCm; omega)
theorem HS.same (hn : n ≤ 5) (h : HS n cs pm p c ol) (f : ∀ g, g < 80003 → cs' g = cs g) : HS n cs' pm p c ol := by
  obtain ⟨h1, h2, h3, h4, h5, h6⟩ := h
  have hg : gHi < 80003 := by unfold gHi; omega
  refine ⟨fun k hk => (h1 k hk).fr (fun g hg => f g (by omega)) rfl, h2, h3, by rw [f gHi hg]; exact h4, by rw [f gHi hg]; exact h5, fun j hj => ?_⟩
  obtain ⟨lc, mc, r⟩ := h6 j hj
  have hp : pl ol j < 7 := by unfold pl; omega
  exact ⟨lc, mc, r.fr hn (h1 _ hp).2.2.1 (fun g hg => f g (by omega)) rfl⟩
theorem SR.same (hn : n ≤ 5) (h0' : S0 n cs pm 0) (h : SR n lc mc cs pm 0 v) (f : ∀ g, g < 80003 → cs' g = cs g) : SR n lc mc cs' pm 0 v := h.fr hn h0'.2.2.1 (fun g hg => f g (by omega)) rfl
theorem FrS.T (h : FrS 0 cs cs') : FrT cs cs' := fun g hg => h g (by unfold gEc gSg at hg; omega)
theorem FrT.trans {cs'' : Nat → Nat → Int32} (a : FrT cs cs') (b : FrT cs' cs'') : FrT cs cs'' := fun g hg => by rw [b g hg, a g hg]
theorem RcG.T (h : RcG cs d) : FrT cs d := fun g hg => h.1 g (by unfold gEc gSg at hg; unfold gSc; omega) (fun j hj => by unfold gEc gSg at hg; unfold gCm; omega)
theorem FrH.T (h : FrH cs cs') : FrT cs cs' := fun g hg => h g (by unfold gEc gSg at hg; omega) (by unfold gEc gSg at hg; unfold gHi; omega)
theorem c8_runScript (L : Lay n ad h0) (hE : cs gEc 0 = nI n) (hH : HS n cs pm p c ol) (hR : SR n lc mc cs pm 0 v) (h2 : cs gSc 2 = nI ty) (hty : ty ≤ 60)
    (hI : ∀ i, i ≤ (pS (cs gSg) ty 21 0).2.2 → (∀ j, j < i → doB n lc mc (rnV n lc mc v (fun j => pC (cs gSg) ty (stp (cs gSg) ty j)) j) (pC (cs gSg) ty (stp (cs gSg) ty j)) = true) → WL n lc (rnV n lc mc v (fun j => pC (cs gSg) ty (stp (cs gSg) ty j)) i) ∧ TmK (rnV n lc mc v (fun j => pC (cs gSg) ty (stp (cs gSg) ty j)) i)) {X : Int32 → Hp → Prop}
    (q0 : (pS (cs gSg) ty 21 0).1 = false → ∀ cs', FrT cs cs' → cs' gSc 2 = nI ty → HS n cs' pm p c ol → SR n lc mc cs' pm 0 v → X (-1 - nI (pS (cs gSg) ty 21 0).2.1) (HN h0 ad cs' pm))
    (q1 : (pS (cs gSg) ty 21 0).1 = true → ∀ i, i < (pS (cs gSg) ty 21 0).2.2 → (∀ j, j < i → doB n lc mc (rnV n lc mc v (fun j => pC (cs gSg) ty (stp (cs gSg) ty j)) j) (pC (cs gSg) ty (stp (cs gSg) ty j)) = true) → doB n lc mc (rnV n lc mc v (fun j => pC (cs gSg) ty (stp (cs gSg) ty j)) i) (pC (cs gSg) ty (stp (cs gSg) ty i)) = false → ∀ cs' pm', FrT cs cs' → cs' gSc 2 = nI ty → HS n cs' pm' p c ol → SR n lc mc cs' pm' 0 v → X (-1000 - nI i) (HN h0 ad cs' pm'))
    (q2 : (pS (cs gSg) ty 21 0).1 = true → (∀ j, j < (pS (cs gSg) ty 21 0).2.2 → doB n lc mc (rnV n lc mc v (fun j => pC (cs gSg) ty (stp (cs gSg) ty j)) j) (pC (cs gSg) ty (stp (cs gSg) ty j)) = true) → ∀ cs' pm' ol', FrT cs cs' → cs' gSc 2 = nI 0 → HS n cs' pm' (actP c v p) (actC c) ol' → SR n lc mc cs' pm' 0 (rnV n lc mc v (fun j => pC (cs gSg) ty (stp (cs gSg) ty j)) (pS (cs gSg) ty 21 0).2.2) → X (nI (pS (cs gSg) ty 21 0).2.2) (HN h0 ad cs' pm')) :
    CKi mX8_runScript 6 0 0 [some (.ref (ad gEc)), none, none] (HN h0 ad cs pm) X := by
  intro Qc kq
  have hb := L.1
  have hS0 := hH.1 0 (by omega)
  have hle : (pS (cs gSg) ty 21 0).2.2 ≤ 21 := by have := (pS_le (tx := cs gSg) (ty := ty) 21 0).1; omega
  have hpos : (pS (cs gSg) ty 21 0).1 = true → ∀ j, j < (pS (cs gSg) ty 21 0).2.2 → (pC (cs gSg) ty (stp (cs gSg) ty j)).1 = true := fun h j hj => (pS_le (tx := cs gSg) (ty := ty) 21 0).2 h j (Nat.zero_le _) hj
  generalize hRR : (fun j => pC (cs gSg) ty (stp (cs gSg) ty j)) = R at *
  generalize hNN : pS (cs gSg) ty 21 0 = P at *
  have hRj : ∀ j, pC (cs gSg) ty (stp (cs gSg) ty j) = R j := fun j => by rw [← hRR]
  simp only [hRj] at hI q1 q2 hpos
  refine tX8_runScript_0 L (c4_read L h2 hty (fun D hD h3 hGK => ?_))
  rw [hNN] at h3 hGK ⊢
  simp only [hRj] at hGK
  have hfD : ∀ g, g < 80003 → D g = cs g := fun g hg => hD.k hg
  have h2D : D gSc 2 = nI ty := (hD.2 2 (by omega) (by omega)).trans h2
  have hHD := hH.same (by omega) hfD
  have hRD := hR.same (by omega) hS0 hfD
  by_cases hP : P.1 = true
  · rw [if_pos hP]
    refine tX8_runScript_7 L ⟨fun _ => ?_, fun c => absurd rfl c⟩
    have hpl : pl ol c < 7 := by unfold pl; omega
    have hpl0 : pl ol c ≠ 0 := by unfold pl; omega
    refine c1_save L hHD hRD (fun E hFE hHE hRE hRS => tX8_runScript_28 L ?_)
    have hEE : ∀ g, 80000 ≤ g → g ≠ gHi → E g = D g := hFE.H hpl
    have h3E : E gSc 3 = nI P.2.2 := by rw [hEE gSc (by unfold gSc; omega) (by unfold gSc gHi; omega)]; exact h3
    have loop : ∀ i, i ≤ P.2.2 → (∀ j, j < i → doB n lc mc (rnV n lc mc v R j) (R j) = true) → ∀ G pm2, FrS 0 E G → (∀ k', k' ≠ 0 → pm2 k' = pm k') → S0 n G pm2 0 → SR n lc mc G pm2 0 (rnV n lc mc v R i) → Wm mX8_runScript 6 0 0 Qc 30 [some (.ref (ad gEc)), none, some (.int (nI i))] [] (HN h0 ad G pm2) 0 0 := by
      refine loopU P.2.2 _ ?_ ?_
      · intro hd G pm2 hG hpG hSG hRG
        have h3G : G gSc 3 = nI P.2.2 := by rw [hG gSc (by unfold gSc; omega)]; exact h3E
        refine tX8_runScript_30 L ⟨fun _ => ?_, fun c => absurd (by rw [h3G]; exact Int32.le_refl _) c⟩
        refine c1_keep L (hHE.now (by omega) hG hSG hpG) (hRS.fr (by omega) (hHE.1 _ hpl).2.2.1 (fun g hg => hG g (by omega)) (hpG _ hpl0)) (fun K ol' hK hHK => tX8_runScript_87 L ?_)
        have h3K : K gSc 3 = nI P.2.2 := by rw [hK gSc (by unfold gSc gHi; omega)]; exact h3G
        rw [h3K]
        have hsame : ∀ g, g < 80003 → up2 K gSc 2 (nI 0) g = K g := fun g hg => by funext j; exact up2_a (by unfold gSc; omega)
        have hRK : SR n lc mc K pm2 0 (rnV n lc mc v R P.2.2) := hRG.fr (by omega) hSG.2.2.1 (fun g hg => hK g (gHi_k (by omega) hg)) rfl
        refine kq _ _ (q2 hP hd _ pm2 ol' ?_ up2_s (hHK.same (by omega) hsame) (hRK.same (by omega) (hHK.1 0 (by omega)) hsame))
        intro g hg
        have e1 : up2 K gSc 2 (nI 0) g = K g := by funext j; exact up2_a (by unfold gEc gSg at hg; unfold gSc; omega)
        rw [e1, hK g (by unfold gEc gSg at hg; unfold gHi; omega), hG g (by unfold gEc gSg at hg; omega), hEE g (by unfold gEc gSg at hg; omega) (by unfold gEc gSg at hg; unfold gHi; omega)]
        exact hD.T g hg
      · intro i hi ih hd G pm2 hG hpG hSG hRG
        have h3G : G gSc 3 = nI P.2.2 := by rw [hG gSc (by unfold gSc; omega)]; exact h3E
        have hEG : G gEc 0 = nI n := by
          rw [hG gEc (by unfold gEc; omega), hEE gEc (by unfold gEc; omega) (by unfold gEc gHi; omega), hD.T gEc (Or.inl rfl)]
          exact hE
        obtain ⟨w1, w2⟩ := hI i (by omega) hd
        have hGi : GK i G (R i) := by
          refine GK_row ?_ (hGK hP i hi)
          rw [hG (gCm i) (by unfold gCm; omega), hEE (gCm i) (by unfold gCm; omega) (by unfold gCm gHi; omega)]
        have hp1 := hpos hP i hi
        have hK : isK (R i).2.2.1 = true := by rw [← hRj i] at hp1 ⊢; exact pC_kind hp1
        have hN : NmK (R i) := by rw [← hRj i] at hp1 ⊢; exact pC_num hp1
        refine tX8_runScript_30 L ⟨fun c => absurd c (by rw [h3G]; exact nI_ge hi (by omega)), fun _ => ⟨i, rfl, by omega, ?_⟩⟩
        refine c8_runCommand L hEG hSG hRG w1 w2 (by omega) hGi hK hN (fun hd1 K pm3 hFK hpK hSK hRK => tX8_runScript_54 L ⟨fun _ => ?_, fun c => absurd c (by decide)⟩) (fun hd0 K hFK hSK => tX8_runScript_54 L ⟨fun c => absurd rfl c, fun _ => ?_⟩)
        · rw [nI_add]
          refine ih (fun j hj => ?_) K pm3 (hG.trans hFK) (fun k' hk' => (hpK k' hk').trans (hpG k' hk')) hSK hRK
          by_cases e : j = i
          · rw [e]; exact hd1
          · exact hd j (by omega)
        · have hFEK : FrS 0 E K := hG.trans hFK
          have hHK := hHE.now (by omega) hFEK hSK hpG
          refine c1_bringBackSaved L hHK (hRS.fr (by omega) (hHE.1 _ hpl).2.2.1 (fun g hg => hFEK g (by omega)) (hpG _ hpl0)) (fun M hM hSM hRM => tX8_runScript_68 L (kq _ _ (q1 hP i hi hd hd0 M pm2 ?_ ?_ (hHK.now (by omega) hM (hSM 0 (by omega)) (fun _ _ => rfl)) hRM)))
          · intro g hg
            rw [hM g (by unfold gEc gSg at hg; omega), hFEK g (by unfold gEc gSg at hg; omega), hEE g (by unfold gEc gSg at hg; omega) (by unfold gEc gSg at hg; unfold gHi; omega)]
            exact hD.T g hg
          · rw [hM gSc (by unfold gSc; omega), hFEK gSc (by unfold gSc; omega), hEE gSc (by unfold gSc; omega) (by unfold gSc gHi; omega)]
            exact h2D
    exact loop 0 (Nat.zero_le _) (fun j hj => by omega) E pm FrS.refl (fun _ _ => rfl) (hHE.1 0 (by omega)) hRE
  · have hP' : P.1 = false := by simpa using hP
    rw [if_neg hP]
    have hn1 : ¬ nI P.2.1 = -1 := by
      have hp := pS_p (tx := cs gSg) (ty := ty) 21 0
      rw [hNN] at hp
      exact oI_m1 (by omega)
    exact tX8_runScript_7 L ⟨fun c => absurd c hn1, fun _ => kq _ _ (q0 hP' D hD.T h2D hHD hRD)⟩
end CZ

/-! THE LAW: calls without exceptions -/
section LE
variable {n t lc mc c ol ty a0 a3 Ln i MC MS NC NS : Nat} {ad : Nat → Nat} {h0 : Hp} {cs cs1 : Nat → Nat → Int32} {pm : Nat → Nat → Nat} {xs tx tx2 v p f : Nat → Int32} {Q : Nat → Option Value → Hp → Prop}
theorem op_sites (L : Lay n ad h0) (S : Sx h0 a0 a3 Ln xs) (R : RWx n t cs pm lc mc c ol ty) (ht : t < 80000) (F : FinL n t ad a0 a3 Ln xs MC MS Q (nI i) NC NS) : CKi mX8_sites 0 0 0 [some (.ref (ad gEc))] (HN h0 ad cs pm) (fun w h' => Wm mL_law 11 MC MS Q 192 [some (.ref a0), some (.ref (ad gEc)), some (.ref (ad (gMo 0))), some (.ref a3), some (.int (nI i)), none, none] [.int w] h' NC NS) := by
  obtain ⟨rE, rH, rR, rP, rS, ⟨f0, f4, f6⟩, rt, rg, rx⟩ := id R
  have hn := L.1
  have hS0 := rH.1 0 (by omega)
  have hW := rP.W
  refine c8_sites L rE (bL_law_192 ⟨F.1.1, F.1.2, K19 L, ?_⟩)
  rw [HN_mS]
  exact c9_sites L (bL_law_196 ⟨fun _ => F.2 _ _ _ L S (R.thr (by omega) (by omega) _), fun c => absurd f0.symm c⟩)

theorem op_messages (L : Lay n ad h0) (S : Sx h0 a0 a3 Ln xs) (R : RWx n t cs pm lc mc c ol ty) (ht : t < 80000) (F : FinL n t ad a0 a3 Ln xs MC MS Q (nI i) NC NS) : CKi mX8_messages 0 0 0 [some (.ref (ad gEc))] (HN h0 ad cs pm) (fun w h' => Wm mL_law 11 MC MS Q 991 [some (.ref a0), some (.ref (ad gEc)), some (.ref (ad (gMo 0))), some (.ref a3), some (.int (nI i)), none, none] [.int w] h' NC NS) := by
  obtain ⟨rE, rH, rR, rP, rS, ⟨f0, f4, f6⟩, rt, rg, rx⟩ := id R
  have hn := L.1
  have hS0 := rH.1 0 (by omega)
  have hW := rP.W
  refine c8_messages L rR (bL_law_991 ⟨F.1.1, F.1.2, K19 L, ?_⟩)
  rw [HN_mS]
  exact c9_messages L (bL_law_995 ⟨fun _ => F.2 _ _ _ L S (R.thr (by omega) (by omega) _), fun c => absurd rR.2.1.2.1.symm c⟩)

theorem op_time (L : Lay n ad h0) (S : Sx h0 a0 a3 Ln xs) (R : RWx n t cs pm lc mc c ol ty) (ht : t < 80000) (F : FinL n t ad a0 a3 Ln xs MC MS Q (nI i) NC NS) : CKi mX8_time 0 0 0 [some (.ref (ad gEc))] (HN h0 ad cs pm) (fun w h' => Wm mL_law 11 MC MS Q 1072 [some (.ref a0), some (.ref (ad gEc)), some (.ref (ad (gMo 0))), some (.ref a3), some (.int (nI i)), none, none] [.int w] h' NC NS) := by
  obtain ⟨rE, rH, rR, rP, rS, ⟨f0, f4, f6⟩, rt, rg, rx⟩ := id R
  have hn := L.1
  have hS0 := rH.1 0 (by omega)
  have hW := rP.W
  refine c8_time L rR (bL_law_1072 ⟨F.1.1, F.1.2, K19 L, ?_⟩)
  rw [HN_mS]
  exact c9_time L (bL_law_1076 ⟨fun _ => F.2 _ _ _ L S (R.thr (by omega) (by omega) _), fun c => absurd rfl c⟩)

theorem op_value (L : Lay n ad h0) (S : Sx h0 a0 a3 Ln xs) (R : RWx n t cs pm lc mc c ol ty) (ht : t < 80000) (F : FinL n t ad a0 a3 Ln xs MC MS Q (nI i) NC NS) : CKi mX8_value 2 0 0 [some (.ref (ad gEc))] (HN h0 ad cs pm) (fun w h' => Wm mL_law 11 MC MS Q 1085 [some (.ref a0), some (.ref (ad gEc)), some (.ref (ad (gMo 0))), some (.ref a3), some (.int (nI i)), none, none] [.int w] h' NC NS) := by
  obtain ⟨rE, rH, rR, rP, rS, ⟨f0, f4, f6⟩, rt, rg, rx⟩ := id R
  have hn := L.1
  have hS0 := rH.1 0 (by omega)
  have hW := rP.W
  refine c8_value L hS0 rR (bL_law_1085 ⟨F.1.1, F.1.2, K19 L, ?_⟩)
  rw [HN_mS]
  exact c9_value L f0 (bL_law_1089 ⟨fun _ => F.2 _ _ _ L S (R.thr (by omega) (by omega) _), fun c => absurd rfl c⟩)

theorem op_loans (L : Lay n ad h0) (S : Sx h0 a0 a3 Ln xs) (R : RWx n t cs pm lc mc c ol ty) (ht : t < 80000) (F : FinL n t ad a0 a3 Ln xs MC MS Q (nI i) NC NS) : CKi mX8_loans 0 0 0 [some (.ref (ad gEc))] (HN h0 ad cs pm) (fun w h' => Wm mL_law 11 MC MS Q 1562 [some (.ref a0), some (.ref (ad gEc)), some (.ref (ad (gMo 0))), some (.ref a3), some (.int (nI i)), none, none] [.int w] h' NC NS) := by
  obtain ⟨rE, rH, rR, rP, rS, ⟨f0, f4, f6⟩, rt, rg, rx⟩ := id R
  have hn := L.1
  have hS0 := rH.1 0 (by omega)
  have hW := rP.W
  refine c8_loans L rR (bL_law_1562 ⟨F.1.1, F.1.2, K19 L, ?_⟩)
  rw [HN_mS]
  exact c9_loans L (bL_law_1566 ⟨fun _ => F.2 _ _ _ L S (R.thr (by omega) (by omega) _), fun c => absurd rR.2.1.1.symm c⟩)

theorem op_fingerprint (L : Lay n ad h0) (S : Sx h0 a0 a3 Ln xs) (R : RWx n t cs pm lc mc c ol ty) (ht : t < 80000) (F : FinL n t ad a0 a3 Ln xs MC MS Q (nI i) NC NS) : CKl mX8_fingerprint 5 0 0 [some (.ref (ad gEc)), none, none, none, none] (HN h0 ad cs pm) (fun w h' => Wm mL_law 11 MC MS Q 1849 [some (.ref a0), some (.ref (ad gEc)), some (.ref (ad (gMo 0))), some (.ref a3), some (.int (nI i)), none, none] [.long w] h' NC NS) := by
  obtain ⟨rE, rH, rR, rP, rS, ⟨f0, f4, f6⟩, rt, rg, rx⟩ := id R
  have hn := L.1
  have hS0 := rH.1 0 (by omega)
  have hW := rP.W
  refine c8_fingerprint L rE hS0 rR hW (bL_law_1849 ⟨F.1.1, F.1.2, K19 L, ?_⟩)
  rw [HN_mS]
  exact c9_fingerprint L f0 hW (bL_law_1853 ⟨fun _ => F.2 _ _ _ L S (R.thr (by omega) (by omega) _), fun c => absurd (lgz rfl) c⟩)

theorem op_clearText (L : Lay n ad h0) (S : Sx h0 a0 a3 Ln xs) (R : RWx n t cs pm lc mc c ol ty) (ht : t < 80000) (F : FinL n t ad a0 a3 Ln xs MC MS Q (nI i) NC NS) : CKi mX8_clearText 0 0 0 [some (.ref (ad gEc)), none] (HN h0 ad cs pm) (fun w h' => Wm mL_law 11 MC MS Q 1779 [some (.ref a0), some (.ref (ad gEc)), some (.ref (ad (gMo 0))), some (.ref a3), some (.int (nI i)), none, none] [.int w] h' NC NS) := by
  obtain ⟨rE, rH, rR, rP, rS, ⟨f0, f4, f6⟩, rt, rg, rx⟩ := id R
  have hn := L.1
  have hS0 := rH.1 0 (by omega)
  have hW := rP.W
  refine c8_clearText (ty := ty) L rg (bL_law_1779 ⟨F.1.1, F.1.2, K19 L, ?_⟩)
  rw [HN_mS]
  generalize hcs : up2 cs gSc 2 (nI 0) = cs1
  have same : ∀ g, g < 80003 → cs1 g = cs g := fun g hg => by
    funext j
    rw [← hcs, up2_a (by unfold gSc; omega)]
  have mo : ∀ k, cs1 (gMo k) = cs (gMo k) := fun k => by
    funext j
    rw [← hcs, up2_a (by unfold gMo gSc; omega)]
  have e2 : cs1 gSc 2 = nI 0 := by rw [← hcs, up2_s]
  refine c9_clearText L (bL_law_1783 ⟨fun _ => F.2 _ _ _ L S ?_, fun c => absurd (by rw [mo]; exact f6.symm) c⟩)
  refine RW.mk (ol := ol) (ty := 0) (c := c) (lc := lc) (mc := mc) (by omega) ?_ ?_ ?_ ?_ ?_ ?_ ?_ ?_ (by omega) e2 (fun j hj => by omega)
  · rw [same gEc (by unfold gEc; omega)]; exact rE
  · rw [mo]; exact rH.same (by omega) same
  · rw [mo]; exact rR.same (by omega) hS0 same
  · rw [mo]; exact rP.mono (by omega)
  · intro j hj
    rw [mo]
    obtain ⟨a, b, h⟩ := rS j hj
    exact ⟨a, b, h.mono (by omega)⟩
  · rw [upd_ne (by omega), upd_ne (by omega), mo]; exact f0
  · rw [upd_ne (by omega), upd_ne (by omega), mo]; exact f4
  · rw [upd_eq]

/-! two texts that are alike below their length are read alike -/
theorem sg_cg (h : ∀ j, j < ty → tx j = tx2 j) : sg tx ty = sg tx2 ty := by
  funext j
  unfold sg
  by_cases e : j < ty
  · rw [if_pos e, if_pos e, h j e]
  · rw [if_neg e, if_neg e]
theorem nmR_cg (h : ∀ j, j < ty → tx j = tx2 j) : ∀ (g j : Nat) (x : Int32), nmR tx ty g j x = nmR tx2 ty g j x
  | 0, _, _ => rfl
  | g + 1, j, x => by
    unfold nmR
    rw [sg_cg h]
    split
    · exact nmR_cg h g _ _
    · rfl
theorem pC_cg (h : ∀ j, j < ty → tx j = tx2 j) (j : Nat) : pC tx ty j = pC tx2 ty j := by
  unfold pC
  rw [sg_cg h, nmR_cg h, nmR_cg h, nmR_cg h]
theorem stp_cg (h : ∀ j, j < ty → tx j = tx2 j) : ∀ j, stp tx ty j = stp tx2 ty j
  | 0 => rfl
  | j + 1 => by
    show (pC tx ty (stp tx ty j)).2.1 + 1 = (pC tx2 ty (stp tx2 ty j)).2.1 + 1
    rw [stp_cg h j, pC_cg h]
theorem pS_cg (h : ∀ j, j < ty → tx j = tx2 j) : ∀ g ci, pS tx ty g ci = pS tx2 ty g ci
  | 0, ci => by
    show (false, stp tx ty ci, ci) = (false, stp tx2 ty ci, ci)
    rw [stp_cg h]
  | g + 1, ci => by
    unfold pS
    rw [stp_cg h, pC_cg h, sg_cg h, pS_cg h g]
theorem pS_v : ∀ (g ci : Nat) (j : Nat), ci ≤ j → j < (pS tx ty g ci).2.2 → (pC tx ty (stp tx ty j)).1 = true
  | 0, ci, j, h1, h2 => by
    have h3 : j < ci := h2
    omega
  | g + 1, ci, j, h1, h2 => by
    unfold pS at h2
    split at h2
    · have h3 : j < ci := h2
      omega
    · next e1 =>
      have h1' : (pC tx ty (stp tx ty ci)).1 = true := by simpa using e1
      by_cases e2 : j = ci
      · rw [e2]; exact h1'
      · split at h2
        · exact pS_v g (ci + 1) j (by omega) h2
        · have h3 : j < ci + 1 := h2
          omega
/-- the reference runs a script, told by another text that is alike -/
theorem c9_runS (L : Lay n ad h0) (hn : f 0 = nI n) (hc : f 4 = nI c) (h5 : c ≤ 5) (h6 : f 6 = nI ty) (hty : ty ≤ 60) {P : Bool × Nat × Nat} {G : Nat → Bool × Nat × Int32 × Int32 × Int32 × Int32} (eP : pS (cs (gMo 4)) ty 21 0 = P) (eG : (fun j => pC (cs (gMo 4)) ty (stp (cs (gMo 4)) ty j)) = G)
    (hI : ∀ i, i ≤ P.2.2 → (∀ j, j < i → doB n lc mc (rnV n lc mc v G j) (G j) = true) → Rdy n lc mc (rnV n lc mc v G i)) {X : Int32 → Hp → Prop}
    (q0 : P.1 = false → ∀ cs' f', RdG cs cs' (upd f 7 (nI 0)) f' → X (-1 - nI P.2.1) (HN h0 ad (mS cs' f' v p) pm))
    (q1 : P.1 = true → ∀ i, i < P.2.2 → (∀ j, j < i → doB n lc mc (rnV n lc mc v G j) (G j) = true) → doB n lc mc (rnV n lc mc v G i) (G i) = false → ∀ cs' f' v', RdG cs cs' (upd f 7 (nI 0)) f' → (∀ j, j < 2400 → v' j = v j) → X (-1000 - nI i) (HN h0 ad (mS cs' f' v' p) pm))
    (q2 : P.1 = true → (∀ j, j < P.2.2 → doB n lc mc (rnV n lc mc v G j) (G j) = true) → ∀ cs' f', RdG cs cs' (upd f 7 (nI 0)) f' → X (nI P.2.2) (HN h0 ad (mS cs' (upd (actF c f') 6 (nI 0)) (rnV n lc mc v G P.2.2) (actP c v p)) pm)) :
    CKi mX9_runScript 7 0 0 [some (.ref (ad (gMo 0))), none, none] (HN h0 ad (mS cs f v p) pm) X := by
  subst eP
  subst eG
  exact c9_runScript L hn hc h5 h6 hty hI q0 q1 q2
theorem RdG.lo {cs' : Nat → Nat → Int32} {f' : Nat → Int32} (h : RdG cs cs' f f') {g : Nat} (hg : g < 90003 ∨ g = gMo 4) : cs' g = cs g := h.1 g (by unfold gMo at hg ⊢; omega)

theorem op_runScript (L : Lay n ad h0) (S : Sx h0 a0 a3 Ln xs) (R : RWx n t cs pm lc mc c ol ty) (ht : t < 80000) (F : FinL n t ad a0 a3 Ln xs MC MS Q (nI i) NC NS) : CKi mX8_runScript 6 0 0 [some (.ref (ad gEc)), none, none] (HN h0 ad cs pm) (fun w h' => Wm mL_law 11 MC MS Q 1792 [some (.ref a0), some (.ref (ad gEc)), some (.ref (ad (gMo 0))), some (.ref a3), some (.int (nI i)), none, none] [.int w] h' NC NS) := by
  obtain ⟨rE, rH, rR, rP, rS, ⟨f0, f4, f6⟩, rt, rg, rx⟩ := id R
  have hn := L.1
  have hS0 := rH.1 0 (by omega)
  have hW := rP.W
  have hc5 := rH.2.2.1
  generalize eP : pS (cs gSg) ty 21 0 = P
  generalize eG : (fun j => pC (cs gSg) ty (stp (cs gSg) ty j)) = G
  have hle : P.2.2 ≤ 21 := by
    have := (pS_le (tx := cs gSg) (ty := ty) 21 0).1
    rw [eP] at this
    omega
  have hGj : ∀ j, pC (cs gSg) ty (stp (cs gSg) ty j) = G j := fun j => by rw [← eG]
  have hK : ∀ j, j < P.2.2 → isK (G j).2.2.1 = true := fun j hj => by
    rw [← hGj]
    exact pC_kind (pS_v 21 0 j (Nat.zero_le _) (by rw [eP]; exact hj))
  have hPi : ∀ i, i ≤ P.2.2 → (∀ j, j < i → doB n lc mc (rnV n lc mc (cs (gMo 1)) G j) (G j) = true) → PI (t + 25) n lc mc (rnV n lc mc (cs (gMo 1)) G i) := fun i hi hd => (rP.rn hn (by omega) i (by omega) (fun j hj => hK j (by omega)) hd).mono (by omega)
  have hcl := c8_runScript (n := n) (lc := lc) (mc := mc) (c := c) (ol := ol) (ty := ty) (ad := ad) (h0 := h0) (cs := cs) (pm := pm) (v := cs (gMo 1)) (p := cs (gMo 2)) L rE rH rR rg rt (X := fun w h' => Wm mL_law 11 MC MS Q 1792 [some (.ref a0), some (.ref (ad gEc)), some (.ref (ad (gMo 0))), some (.ref a3), some (.int (nI i)), none, none] [.int w] h' NC NS)
  rw [eP] at hcl
  simp only [hGj, eG] at hcl
  have ref : ∀ cs1 pm1, FrT cs cs1 → ∀ {X : Int32 → Hp → Prop}, (P.1 = false → ∀ cs2 f2, RdG cs1 cs2 (upd (cs (gMo 0)) 7 (nI 0)) f2 → X (-1 - nI P.2.1) (HN h0 ad (mS cs2 f2 (cs (gMo 1)) (cs (gMo 2))) pm1)) → (P.1 = true → ∀ i, i < P.2.2 → (∀ j, j < i → doB n lc mc (rnV n lc mc (cs (gMo 1)) G j) (G j) = true) → doB n lc mc (rnV n lc mc (cs (gMo 1)) G i) (G i) = false → ∀ cs2 f2 v2, RdG cs1 cs2 (upd (cs (gMo 0)) 7 (nI 0)) f2 → (∀ j, j < 2400 → v2 j = cs (gMo 1) j) → X (-1000 - nI i) (HN h0 ad (mS cs2 f2 v2 (cs (gMo 2))) pm1)) → (P.1 = true → (∀ j, j < P.2.2 → doB n lc mc (rnV n lc mc (cs (gMo 1)) G j) (G j) = true) → ∀ cs2 f2, RdG cs1 cs2 (upd (cs (gMo 0)) 7 (nI 0)) f2 → X (nI P.2.2) (HN h0 ad (mS cs2 (upd (actF c f2) 6 (nI 0)) (rnV n lc mc (cs (gMo 1)) G P.2.2) (actP c (cs (gMo 1)) (cs (gMo 2)))) pm1)) → CKi mX9_runScript 7 0 0 [some (.ref (ad (gMo 0))), none, none] (HN h0 ad cs1 pm1) X := by
    intro cs1 pm1 hF X x0 x1 x2
    have mo : ∀ k, cs1 (gMo k) = cs (gMo k) := fun k => hF _ (Or.inr (Or.inr (by unfold gMo; omega)))
    have ht4 : ∀ j, j < ty → cs1 (gMo 4) j = cs gSg j := fun j hj => by rw [mo]; exact (rx j hj).symm
    rw [HN_mS, mo 0, mo 1, mo 2]
    exact c9_runS L f0 f4 hc5 f6 rt (by rw [pS_cg ht4]; exact eP) (by rw [← eG]; funext j; rw [stp_cg ht4, pC_cg ht4]) (fun i hi hd => (hPi i hi hd).rdy (by omega)) x0 x1 x2
  have world : ∀ cs1 pm1 cs2 f2 v2 p2 lc2 mc2 c2 ol2 ty2, FrT cs cs1 → RdG cs1 cs2 (upd (cs (gMo 0)) 7 (nI 0)) f2 → HS n cs1 pm1 p2 c2 ol2 → SR n lc2 mc2 cs1 pm1 0 v2 → PI (t + 25) n lc2 mc2 v2 → (∀ j, j < c2 → ∃ lc mc, PI (t + 25) n lc mc (fun i => p2 (2400 * j + i))) → ∀ F2 : Nat → Int32, F2 0 = nI n → F2 4 = nI c2 → F2 6 = nI ty2 → ty2 ≤ ty → cs1 gSc 2 = nI ty2 → RW n (t + 25) (mS cs2 F2 v2 p2) pm1 := by
    intro cs1 pm1 cs2 f2 v2 p2 lc2 mc2 c2 ol2 ty2 hF hG hH hR hP hS F2 g0 g4 g6 gt g2
    have lo : ∀ g, g < 80003 → cs2 g = cs1 g := fun g hg => hG.lo (Or.inl (by omega))
    refine RW.mk (ol := ol2) (ty := ty2) (c := c2) (lc := lc2) (mc := mc2) (by omega) ?_ (hH.same (by omega) lo) (hR.same (by omega) (hH.1 0 (by omega)) lo) hP hS g0 g4 g6 (by omega) ?_ ?_
    · rw [lo gEc (by unfold gEc; omega), hF gEc (Or.inl rfl)]; exact rE
    · rw [hG.lo (Or.inl (by unfold gSc; omega))]; exact g2
    · intro j hj
      rw [hG.lo (Or.inl (by unfold gSg; omega)), hG.lo (Or.inr rfl), hF gSg (Or.inr (Or.inl rfl)), hF (gMo 4) (Or.inr (Or.inr (by unfold gMo; omega)))]
      exact rx j (by omega)
  have rS' : ∀ j, j < c → ∃ lc mc, PI (t + 25) n lc mc (fun i => cs (gMo 2) (2400 * j + i)) := fun j hj => by
    obtain ⟨a, b, h⟩ := rS j hj
    exact ⟨a, b, h.mono (by omega)⟩
  have fk : ∀ {cs1 cs2 : Nat → Nat → Int32} {f2 : Nat → Int32}, RdG cs1 cs2 (upd (cs (gMo 0)) 7 (nI 0)) f2 → f2 0 = nI n ∧ f2 4 = nI c ∧ f2 6 = nI ty := fun {cs1 cs2 f2} h => ⟨by rw [h.2 0 (by omega) (by omega) (by omega), upd_ne (by omega)]; exact f0, by rw [h.2 4 (by omega) (by omega) (by omega), upd_ne (by omega)]; exact f4, by rw [h.2 6 (by omega) (by omega) (by omega), upd_ne (by omega)]; exact f6⟩
  refine hcl (fun i hi hd => ⟨(hPi i hi hd).W, (hPi i hi hd).tm⟩) (fun hP cs1 hF h2 hH hR => ?_) (fun hP i hi hd hd0 cs1 pm1 hF h2 hH hR => ?_) (fun hP hd cs1 pm1 ol1 hF h2 hH hR => ?_)
  · refine bL_law_1792 ⟨F.1.1, F.1.2, K19 L, ref cs1 pm hF (fun _ cs2 f2 hG => bL_law_1796 ⟨fun _ => F.2 _ _ _ L S ?_, fun c => absurd rfl c⟩) (fun h => absurd h (by rw [hP]; simp)) (fun h => absurd h (by rw [hP]; simp))⟩
    obtain ⟨k0, k4, k6⟩ := fk hG
    exact world cs1 pm cs2 f2 _ _ lc mc c ol ty hF hG hH hR (rP.mono (by omega)) rS' f2 k0 k4 k6 (Nat.le_refl _) h2
  · refine bL_law_1792 ⟨F.1.1, F.1.2, K19 L, ref cs1 pm1 hF (fun h => absurd h (by rw [hP]; simp)) (fun _ i' hi' hd' hd0' cs2 f2 v2 hG hv => bL_law_1796 ⟨fun _ => F.2 _ _ _ L S ?_, fun c => absurd ?_ c⟩) (fun _ hall => absurd (hall i hi) (by rw [hd0]; simp))⟩
    · obtain ⟨k0, k4, k6⟩ := fk hG
      exact world cs1 pm1 cs2 f2 v2 _ lc mc c ol ty hF hG hH (hR.congr (by omega) hv) ((rP.mono (by omega)).cg (by omega) hv) rS' f2 k0 k4 k6 (Nat.le_refl _) h2
    · have : i' = i := by
        rcases Nat.lt_trichotomy i' i with h | h | h
        · rw [hd i' h] at hd0'; cases hd0'
        · exact h
        · rw [hd' i h] at hd0; cases hd0
      rw [this]
  · refine bL_law_1792 ⟨F.1.1, F.1.2, K19 L, ref cs1 pm1 hF (fun h => absurd h (by rw [hP]; simp)) (fun _ i' hi' _ hd0' => absurd (hd i' hi') (by rw [hd0']; simp)) (fun _ _ cs2 f2 hG => bL_law_1796 ⟨fun _ => F.2 _ _ _ L S ?_, fun c => absurd rfl c⟩)⟩
    obtain ⟨k0, k4, k6⟩ := fk hG
    refine world cs1 pm1 cs2 f2 _ _ lc mc (actC c) ol1 0 hF hG hH hR (hPi _ (Nat.le_refl _) hd) (PIact (by omega) hc5 rP rS (by omega)) _ ?_ ?_ ?_ (Nat.zero_le _) h2
    · unfold actF; rw [upd_ne (by omega), upd_ne (by omega)]; exact k0
    · unfold actF; rw [upd_ne (by omega), upd_eq]
    · rw [upd_eq]

end LE

/-! THE LAW: from its entry to its loop -/
section LBG
variable {h : Hp} {n kd l a0 Ln : Nat} {U : Nat → Prop} {xs : Nat → Int32} {Q : Nat → Option Value → Hp → Prop}
theorem cl1 : (nI 1).toNatClampNeg = 1 := nI_clamp (by omega)
theorem Tg.N0 (t : Tg h U) : Tg (stN h kd l 0) U := by
  have e : ∀ b, tgO (stN h kd l 0) b = tgO h b := fun b => by
    unfold tgO
    rw [sN_T]
    by_cases c : b = hpZ h
    · rw [if_pos c]
      exact (t.2.1 b (by omega)).symm
    · rw [if_neg c]
  refine ⟨fun b b' h1 h2 => ?_, fun b hb => ?_, fun b h1 => ?_⟩
  · rw [e] at h1 h2
    rw [e] at h2
    exact t.1 b b' h1 h2
  · rw [sN_Z] at hb
    rw [e]; exact t.2.1 b (by omega)
  · rw [e] at h1 ⊢
    exact t.2.2 b h1
theorem k_cell (hT : hpT h a0 = (2, Ln, 0)) (hL : Ln ≤ 3073) (hI : hpI h a0 0 = xs 0) {X : Int32 → Hp → Prop} (q : X (if Ln = 0 then nI 0 else xs 0) h) : CKi mL_cell 0 0 0 [some (.ref a0), some (.int (nI 0))] h X := by
  intro Qc kq
  have hK : hpK h a0 = 2 := by unfold hpK; rw [hT]
  have hN : hpN h a0 = Ln := by unfold hpN; rw [hT]
  refine bL_cell_0 ⟨hK, ?_⟩
  rw [hN, nI_clamp (show 0 < 2 ^ 31 by omega), hI]
  by_cases e : Ln = 0
  · rw [if_pos e] at q
    rw [e]
    exact ⟨fun _ => kq _ _ q, fun c => absurd (Int32.le_refl _) c⟩
  · rw [if_neg e] at q
    exact ⟨fun c => absurd c (nI_ge (by omega) (by omega)), fun _ => ⟨pk_in 0 Ln (by omega) rfl (by omega), kq _ _ q⟩⟩
theorem law_begin (hLn : Ln ≤ 3073) (hQ : ∀ h, Q 0 (some (.int (nI 1))) h) (hT : hpT h a0 = (2, Ln, 0)) (ha : a0 < hpZ h) (hU : Tg h (fun _ => False)) (hI : ∀ j, hpI h a0 j = xs j) : Wm mL_law 11 601024 7293000 Q 0 [some (.ref a0), none, none, none, none, none, none] [] h 0 0 := by
  obtain ⟨n, hn, n1, n2, n3, n4⟩ := nOf (if Ln = 0 then nI 0 else xs 0)
  generalize hz : hpZ h = aE at ha
  refine bL_law_0 (tg_3 := gEc) ⟨by omega, by omega, ?_⟩
  rw [hz]
  have S1 : Sm h (stN h 18 0 gEc) 0 aE := Sm.N (by omega)
  have T1 : hpT (stN h 18 0 gEc) aE = (18, 0, gEc) := by rw [sN_T, if_pos hz.symm]
  have Z1 : hpZ (stN h 18 0 gEc) = aE + 1 := by rw [sN_Z, hz]
  have G1 : Tg (stN h 18 0 gEc) (fun g => g = gEc) := Tg.N hU (fun q => q) (fun g hg => hg.elim) rfl
  generalize stN h 18 0 gEc = h1 at *
  have s1 := S1 a0 (by omega) ha
  refine bL_law_3 ⟨by omega, by omega, k_cell (Ln := Ln) (xs := xs) (s1.1.trans hT) hLn ((s1.2.1 0).trans (hI 0)) ?_⟩
  refine bL_law_9 (mcn := 3000) (msn := 17000) ⟨by omega, by omega, k8_init (n := n) (U := fun g => g = gEc) (by omega) n1 T1 Z1 G1 (fun g hg e => ?_) (fun hb e0 E1 E s2 z2 r2 g2 => ?_)⟩
  · unfold EcT at hg; unfold gEc at e; omega
  have x1 := r2.2.1.2.2.2.2
  have x2 := r2.2.2.1.2.2
  have x3 := r2.2.2.2.2.2
  refine bL_law_12 (tg_3 := gMo 0) ⟨by omega, by omega, ?_⟩
  rw [bA_Z, z2]
  have ZA : hpZ (bA hb (aE + 1) (nI 0) (nI 100) (nI 50)) = E := by rw [bA_Z, z2]
  have SA : Sm hb (bA hb (aE + 1) (nI 0) (nI 100) (nI 50)) 0 aE := bA_S (by omega)
  have S3 : Sm (bA hb (aE + 1) (nI 0) (nI 100) (nI 50)) (stN (bA hb (aE + 1) (nI 0) (nI 100) (nI 50)) 19 0 (gMo 0)) 0 E := Sm.N (by omega)
  have T3 : hpT (stN (bA hb (aE + 1) (nI 0) (nI 100) (nI 50)) 19 0 (gMo 0)) E = (19, 0, gMo 0) := by rw [sN_T, if_pos ZA.symm]
  have Z3 : hpZ (stN (bA hb (aE + 1) (nI 0) (nI 100) (nI 50)) 19 0 (gMo 0)) = E + 1 := by rw [sN_Z, ZA]
  have I3 : ∀ j, hpI (stN (bA hb (aE + 1) (nI 0) (nI 100) (nI 50)) 19 0 (gMo 0)) E j = 0 := fun j => by rw [sN_I, if_pos ZA.symm]
  have gA : Tg (bA hb (aE + 1) (nI 0) (nI 100) (nI 50)) (fun g => g = gEc ∨ EcT g) := g2
  have G3 : Tg (stN (bA hb (aE + 1) (nI 0) (nI 100) (nI 50)) 19 0 (gMo 0)) (fun g => (g = gEc ∨ EcT g) ∨ g = gMo 0) := by
    refine Tg.N gA (fun hg => ?_) (fun g hg => Or.inl hg) (Or.inr rfl)
    rcases hg with hg | hg
    · unfold gMo gEc at hg; omega
    · unfold EcT gMo at hg; omega
  have sb : Sm h hb 0 aE := S1.trans s2
  have s0 := (sb.trans (SA.trans (S3.sub (by omega) (by omega)))) a0 (by omega) ha
  generalize hG3 : stN (bA hb (aE + 1) (nI 0) (nI 100) (nI 50)) 19 0 (gMo 0) = h3 at *
  refine bL_law_16 ⟨by omega, by omega, k_cell (Ln := Ln) (xs := xs) (s0.1.trans hT) hLn ((s0.2.1 0).trans (hI 0)) ?_⟩
  refine bL_law_22 (mcn := 8) (msn := 17100) ⟨by omega, by omega, k9_init (n := n) (U := fun g => (g = gEc ∨ EcT g) ∨ g = gMo 0) n2 n3 n4 T3 Z3 I3 G3 (fun g hg hu => ?_) (fun hm s4 z4 m4 g4 => ?_)⟩
  · rcases hu with (hu | hu) | hu
    · unfold gEc at hu; omega
    · unfold EcT at hu; omega
    · unfold gMo at hu; omega
  refine bL_law_25 (tg_5 := 0) ?_
  rw [cl1]
  refine ⟨nI_pos (by omega), by omega, by omega, by omega, bL_law_29 ?_⟩
  have ZS : hpZ (sA hm E) = E + 9 := z4
  rw [ZS]
  have gS : Tg (sA hm E) (fun g => ((g = gEc ∨ EcT g) ∨ g = gMo 0) ∨ (90001 ≤ g ∧ g ≤ 90008)) := g4
  have GF : Tg (stN (sA hm E) 3 1 0) (fun g => ((g = gEc ∨ EcT g) ∨ g = gMo 0) ∨ (90001 ≤ g ∧ g ≤ 90008)) := gS.N0
  have TF : ∀ b, b ≠ E + 9 → hpT (stN (sA hm E) 3 1 0) b = hpT hm b := fun b hb' => by rw [sN_T, if_neg (by omega)]; rfl
  have PF : ∀ b j, b ≠ E + 9 → hpP (stN (sA hm E) 3 1 0) b j = hpP hm b j := fun b j hb' => by rw [sN_P, if_neg (by omega)]; rfl
  have IF : ∀ b j, b ≠ E + 9 → hpI (stN (sA hm E) 3 1 0) b j = hpI (sA hm E) b j := fun b j hb' => by rw [sN_I, if_neg (by omega)]
  have TN : hpT (stN (sA hm E) 3 1 0) (E + 9) = (3, 1, 0) := by rw [sN_T, if_pos ZS.symm]
  generalize hGF : stN (sA hm E) 3 1 0 = hF at *
  have TpE : Tp hb hF aE E := fun b b1 b2 => ⟨by rw [TF b (by omega), (s4 b (by omega) b2).1, (S3 b (by omega) b2).1]; rfl, fun j => by rw [PF b j (by omega), (s4 b (by omega) b2).2.2 j, (S3 b (by omega) b2).2.2 j]; rfl⟩
  have TpM : Tp hm hF E (E + 9) := fun b b1 b2 => ⟨TF b (by omega), fun j => PF b j (by omega)⟩
  have iB : ∀ b, aE ≤ b → b < E → ∀ j, hpI hF b j = hpI (bA hb (aE + 1) (nI 0) (nI 100) (nI 50)) b j := fun b b1 b2 j => by
    rw [IF b j (by omega), sA_I, if_neg (by omega), if_neg (by omega), if_neg (by omega), if_neg (by omega), (s4 b (by omega) b2).2.1 j, (S3 b (by omega) b2).2.1 j]
  have iM : ∀ b, E ≤ b → b < E + 9 → ∀ j, hpI hF b j = hpI (sA hm E) b j := fun b b1 b2 j => IF b j (by omega)
  obtain ⟨LA, rm⟩ := lay_all hn GF TpE r2 TpM m4
  have RWF := rw_all hn GF TpE r2 TpM m4 iB iM
  have gE : adr hF gEc = aE := adr_eq GF ((TpE aE (by omega) (by omega)).1.trans r2.1.1) (by unfold gEc; omega)
  have gM : adr hF (gMo 0) = E := adr_eq GF ((TpM E (by omega) (by omega)).1.trans m4.1) (by unfold gMo; omega)
  have sF : hpT hF a0 = (2, Ln, 0) := by rw [TF a0 (by omega), (s4 a0 (by omega) (by omega)).1, s0.1, hT]
  have SX : Sx hF a0 (E + 9) Ln xs := by
    refine ⟨by unfold hpK; rw [sF], by unfold hpN; rw [sF], by unfold tgO; rw [sF], fun j => ?_, by unfold hpK; rw [TN], by unfold hpN; rw [TN]⟩
    rw [IF a0 j (by omega), sA_I, if_neg (by omega), if_neg (by omega), if_neg (by omega), if_neg (by omega), (s4 a0 (by omega) (by omega)).2.1 j, s0.2.1 j, hI j]
  refine Wm_eqv (h' := HN hF (adr hF) (fun g j => hpI hF (adr hF g) j) (fun _ j => j)) rfl (fun s H r => Rp_HN LA rm (fun b j hb' => by
    show hpI hF (adr hF (tgO hF b)) j = hpI hF b j
    rw [LA.2.1 b hb']) r) ?_
  have fin := law_loop (n := n) (ad := adr hF) (a0 := a0) (a3 := E + 9) (xs := xs) (MC := 601024) (MS := 7293000) (Q := Q) hLn hQ 513 0 hF (fun g j => hpI hF (adr hF g) j) (fun _ j => j) (0 + 1 + 3000 + 1 + 8 + 1) (0 + 4 + 17000 + 15 + 17100 + 1) (by omega) LA SX RWF (by omega) (by omega) (by omega)
  rw [gE, gM] at fin
  exact fin
end LBG

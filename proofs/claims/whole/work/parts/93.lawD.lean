/-! THE LAW: calls that act (printed by a program) -/
section LD
variable {n t lc mc c ol ty a0 a3 Ln i MC MS NC NS : Nat} {ad : Nat → Nat} {h0 : Hp} {cs : Nat → Nat → Int32} {pm : Nat → Nat → Nat} {xs : Nat → Int32} {Q : Nat → Option Value → Hp → Prop}
theorem op_increase (L : Lay n ad h0) (S : Sx h0 a0 a3 Ln xs) (R : RWx n t cs pm lc mc c ol ty) (ht : t < 80000) (hi : i + 6 ≤ Ln) (hLn : Ln ≤ 3073) (F : FinL n t ad a0 a3 Ln xs MC MS Q (nI i) NC NS) : CKi mL_increase 8 2 12 [some (.ref (ad gEc)), some (.int (xs (i + 1))), some (.int (xs (i + 2))), some (.ref a3), none] (HN h0 ad cs pm) (fun w h' => Wm mL_law 11 MC MS Q 298 [some (.ref a0), some (.ref (ad gEc)), some (.ref (ad (gMo 0))), some (.ref a3), some (.int (nI i)), none, none] [.int w] h' NC NS) := by
  obtain ⟨rE, rH, rR, rP, rS, ⟨f0, f4, f6⟩, rt, rg, rx⟩ := id R
  have hn := L.1
  have hS0 := rH.1 0 (by omega)
  have hW := rP.W
  intro Qc kq
  have hlt : chF n (xs (i + 1)) (xs (i + 2)) < 3 := by
    unfold chF
    split
    · omega
    · split <;> omega
  have ok : ∀ s, s < n → xs (i + 1) = nI s → inB (xs (i + 2)) (nI 1) (nI 999) = true → chF n (xs (i + 1)) (xs (i + 2)) = 0 := by
    intro s hs ea hx
    rw [chF, ea, siB_n (by omega) hs, if_neg (by simp), if_neg (by rw [hx]; simp)]
  have ref : chF n (xs (i + 1)) (xs (i + 2)) ≠ 0 → ∀ z, Wm mL_law 11 MC MS Q 298 [some (.ref a0), some (.ref (ad gEc)), some (.ref (ad (gMo 0))), some (.ref a3), some (.int (nI i)), none, none] [.int (nI (chF n (xs (i + 1)) (xs (i + 2))))] (HN (stZ h0 z) ad cs pm) NC NS := by
    intro hne z
    refine bL_law_298 ⟨(S.Z z).K, (S.Z z).vi (k := 1) (by omega) (by omega), (S.Z z).vi (k := 2) (by omega) (by omega), F.1.1, F.1.2, K19 (L.Z z), ?_⟩
    rw [(S.Z z).ag (k := 1) (by omega), (S.Z z).ag (k := 2) (by omega), HN_mS]
    exact c9_increase (c := c) (lc := lc) (L.Z z) f0 f4 rH.2.2.1 hW (fun s hs ea hx => absurd (ok s hs ea hx) hne) (fun s hs ea hx => absurd (ok s hs ea hx) hne) (fun _ => tl_increase (L.Z z) (S.Z z) F.1 (by omega) upd_eq (fun e => absurd e hne) (F.2 _ _ _ (L.Z z) (S.Z z) (R.thr (by omega) (by omega) _)))
  have main : ∀ s, s < n → xs (i + 1) = nI s → inB (xs (i + 2)) (nI 1) (nI 999) = true → ∀ cs' ol', FrH cs cs' → HS n cs' pm (actP c (cs (gMo 1)) (cs (gMo 2))) (actC c) ol' → SR n lc mc cs' pm 0 (chV n lc (cs (gMo 1)) s 0 (xs (i + 2))) → ∀ J : Int64, J = (if bI (chB n lc (cs (gMo 1)) s 0 (xs (i + 2))) = 0 then 0 else 1) → Wm mL_law 11 MC MS Q 298 [some (.ref a0), some (.ref (ad gEc)), some (.ref (ad (gMo 0))), some (.ref a3), some (.int (nI i)), none, none] [.int (nI 0)] (HN (stJ h0 a3 0 J) ad cs' pm) NC NS := by
    intro s hs ea hx cs' ol' hF hH hR J hJ
    refine bL_law_298 ⟨(S.W _).K, (S.W _).vi (k := 1) (by omega) (by omega), (S.W _).vi (k := 2) (by omega) (by omega), F.1.1, F.1.2, K19 (L.W _), ?_⟩
    rw [(S.W _).ag (k := 1) (by omega), (S.W _).ag (k := 2) (by omega), HN_mS]
    refine c9_increase (c := c) (lc := lc) (L.W _) (by rw [hF.mo]; exact f0) (by rw [hF.mo]; exact f4) rH.2.2.1 (by rw [hF.mo]; exact hW) (fun s hs _ _ _ => usE_lc (by omega) hs (by rw [hF.mo]; exact hW) _) (fun s' hs' ea' hx' => ?_) (fun hne => absurd (ok s hs ea hx) hne)
    obtain rfl : s' = s := by rw [ea, nI_inj5 (by omega) (by omega)] at ea'; exact ea'.symm
    refine tl_increase (kx := 0) (L.W _) (S.W _) F.1 (by omega) actF_7 (fun _ => by rw [stJ_0, hF.mo]; exact hJ) (F.2 _ _ _ (L.W _) (S.W _) ?_)
    exact R.act (by omega) (by omega) hF hH hR ((rP.chg hn (by omega) hs (by omega) hx).mono (by omega)) (by rw [hF.mo])
  refine bL_increase_0 (mcn := 1) (msn := 6) ⟨by omega, by omega, K18 L, c8_increase L rE rH rR hW (fun s hs ea hx cs' ol' hF hH hR => bL_increase_8 ⟨fun z => ⟨S.J.1, S.J.2, by omega, by omega, kq _ _ ?_⟩, fun z => ⟨S.J.1, S.J.2, by omega, by omega, kq _ _ ?_⟩⟩) (fun hne z hz => ?_)⟩
  · rw [HN_stJ]
    exact main s hs ea hx cs' ol' hF hH hR _ (by rw [if_pos z])
  · rw [HN_stJ]
    exact main s hs ea hx cs' ol' hF hH hR _ (by rw [if_neg z])
  · have r := ref hne z
    have h3 : chF n (xs (i + 1)) (xs (i + 2)) = 1 ∨ chF n (xs (i + 1)) (xs (i + 2)) = 2 := by omega
    rcases h3 with e | e
    · rw [e] at r ⊢
      exact ⟨20, by simp, fun q => bL_increase_20 ⟨by omega, by omega, kq _ _ r⟩⟩
    · rw [e] at r ⊢
      exact ⟨24, by simp, fun q => bL_increase_24 ⟨by omega, by omega, kq _ _ r⟩⟩

theorem op_decrease (L : Lay n ad h0) (S : Sx h0 a0 a3 Ln xs) (R : RWx n t cs pm lc mc c ol ty) (ht : t < 80000) (hi : i + 6 ≤ Ln) (hLn : Ln ≤ 3073) (F : FinL n t ad a0 a3 Ln xs MC MS Q (nI i) NC NS) : CKi mL_decrease 8 2 12 [some (.ref (ad gEc)), some (.int (xs (i + 1))), some (.int (xs (i + 2))), some (.ref a3), none] (HN h0 ad cs pm) (fun w h' => Wm mL_law 11 MC MS Q 373 [some (.ref a0), some (.ref (ad gEc)), some (.ref (ad (gMo 0))), some (.ref a3), some (.int (nI i)), none, none] [.int w] h' NC NS) := by
  obtain ⟨rE, rH, rR, rP, rS, ⟨f0, f4, f6⟩, rt, rg, rx⟩ := id R
  have hn := L.1
  have hS0 := rH.1 0 (by omega)
  have hW := rP.W
  intro Qc kq
  have hlt : chF n (xs (i + 1)) (xs (i + 2)) < 3 := by
    unfold chF
    split
    · omega
    · split <;> omega
  have ok : ∀ s, s < n → xs (i + 1) = nI s → inB (xs (i + 2)) (nI 1) (nI 999) = true → chF n (xs (i + 1)) (xs (i + 2)) = 0 := by
    intro s hs ea hx
    rw [chF, ea, siB_n (by omega) hs, if_neg (by simp), if_neg (by rw [hx]; simp)]
  have ref : chF n (xs (i + 1)) (xs (i + 2)) ≠ 0 → ∀ z, Wm mL_law 11 MC MS Q 373 [some (.ref a0), some (.ref (ad gEc)), some (.ref (ad (gMo 0))), some (.ref a3), some (.int (nI i)), none, none] [.int (nI (chF n (xs (i + 1)) (xs (i + 2))))] (HN (stZ h0 z) ad cs pm) NC NS := by
    intro hne z
    refine bL_law_373 ⟨(S.Z z).K, (S.Z z).vi (k := 1) (by omega) (by omega), (S.Z z).vi (k := 2) (by omega) (by omega), F.1.1, F.1.2, K19 (L.Z z), ?_⟩
    rw [(S.Z z).ag (k := 1) (by omega), (S.Z z).ag (k := 2) (by omega), HN_mS]
    exact c9_decrease (c := c) (lc := lc) (L.Z z) f0 f4 rH.2.2.1 hW (fun s hs ea hx => absurd (ok s hs ea hx) hne) (fun s hs ea hx => absurd (ok s hs ea hx) hne) (fun _ => tl_decrease (L.Z z) (S.Z z) F.1 (by omega) upd_eq (fun e => absurd e hne) (F.2 _ _ _ (L.Z z) (S.Z z) (R.thr (by omega) (by omega) _)))
  have main : ∀ s, s < n → xs (i + 1) = nI s → inB (xs (i + 2)) (nI 1) (nI 999) = true → ∀ cs' ol', FrH cs cs' → HS n cs' pm (actP c (cs (gMo 1)) (cs (gMo 2))) (actC c) ol' → SR n lc mc cs' pm 0 (chV n lc (cs (gMo 1)) s 1 (xs (i + 2))) → ∀ J : Int64, J = (if bI (chB n lc (cs (gMo 1)) s 1 (xs (i + 2))) = 0 then 0 else 1) → Wm mL_law 11 MC MS Q 373 [some (.ref a0), some (.ref (ad gEc)), some (.ref (ad (gMo 0))), some (.ref a3), some (.int (nI i)), none, none] [.int (nI 0)] (HN (stJ h0 a3 0 J) ad cs' pm) NC NS := by
    intro s hs ea hx cs' ol' hF hH hR J hJ
    refine bL_law_373 ⟨(S.W _).K, (S.W _).vi (k := 1) (by omega) (by omega), (S.W _).vi (k := 2) (by omega) (by omega), F.1.1, F.1.2, K19 (L.W _), ?_⟩
    rw [(S.W _).ag (k := 1) (by omega), (S.W _).ag (k := 2) (by omega), HN_mS]
    refine c9_decrease (c := c) (lc := lc) (L.W _) (by rw [hF.mo]; exact f0) (by rw [hF.mo]; exact f4) rH.2.2.1 (by rw [hF.mo]; exact hW) (fun s hs _ _ _ => usE_lc (by omega) hs (by rw [hF.mo]; exact hW) _) (fun s' hs' ea' hx' => ?_) (fun hne => absurd (ok s hs ea hx) hne)
    obtain rfl : s' = s := by rw [ea, nI_inj5 (by omega) (by omega)] at ea'; exact ea'.symm
    refine tl_decrease (kx := 0) (L.W _) (S.W _) F.1 (by omega) actF_7 (fun _ => by rw [stJ_0, hF.mo]; exact hJ) (F.2 _ _ _ (L.W _) (S.W _) ?_)
    exact R.act (by omega) (by omega) hF hH hR ((rP.chg hn (by omega) hs (by omega) hx).mono (by omega)) (by rw [hF.mo])
  refine bL_decrease_0 (mcn := 1) (msn := 6) ⟨by omega, by omega, K18 L, c8_decrease L rE rH rR hW (fun s hs ea hx cs' ol' hF hH hR => bL_decrease_8 ⟨fun z => ⟨S.J.1, S.J.2, by omega, by omega, kq _ _ ?_⟩, fun z => ⟨S.J.1, S.J.2, by omega, by omega, kq _ _ ?_⟩⟩) (fun hne z hz => ?_)⟩
  · rw [HN_stJ]
    exact main s hs ea hx cs' ol' hF hH hR _ (by rw [if_pos z])
  · rw [HN_stJ]
    exact main s hs ea hx cs' ol' hF hH hR _ (by rw [if_neg z])
  · have r := ref hne z
    have h3 : chF n (xs (i + 1)) (xs (i + 2)) = 1 ∨ chF n (xs (i + 1)) (xs (i + 2)) = 2 := by omega
    rcases h3 with e | e
    · rw [e] at r ⊢
      exact ⟨20, by simp, fun q => bL_decrease_20 ⟨by omega, by omega, kq _ _ r⟩⟩
    · rw [e] at r ⊢
      exact ⟨24, by simp, fun q => bL_decrease_24 ⟨by omega, by omega, kq _ _ r⟩⟩

theorem op_transfer (L : Lay n ad h0) (S : Sx h0 a0 a3 Ln xs) (R : RWx n t cs pm lc mc c ol ty) (ht : t < 80000) (hi : i + 6 ≤ Ln) (hLn : Ln ≤ 3073) (F : FinL n t ad a0 a3 Ln xs MC MS Q (nI i) NC NS) : CKi mL_transfer 8 2 12 [some (.ref (ad gEc)), some (.int (xs (i + 1))), some (.int (xs (i + 2))), some (.int (xs (i + 3))), some (.int (xs (i + 4))), some (.ref a3), none] (HN h0 ad cs pm) (fun w h' => Wm mL_law 11 MC MS Q 460 [some (.ref a0), some (.ref (ad gEc)), some (.ref (ad (gMo 0))), some (.ref a3), some (.int (nI i)), none, none] [.int w] h' NC NS) := by
  obtain ⟨rE, rH, rR, rP, rS, ⟨f0, f4, f6⟩, rt, rg, rx⟩ := id R
  have hn := L.1
  have hS0 := rH.1 0 (by omega)
  have hW := rP.W
  intro Qc kq
  have hlt : trF n lc (cs (gMo 1)) (xs (i + 1)) (xs (i + 2)) (xs (i + 3)) (xs (i + 4)) (inB (xs (i + 4)) (nI 1) (nI 999)) < 4 := trF_lt
  have ref : trF n lc (cs (gMo 1)) (xs (i + 1)) (xs (i + 2)) (xs (i + 3)) (xs (i + 4)) (inB (xs (i + 4)) (nI 1) (nI 999)) ≠ 0 → ∀ z, Wm mL_law 11 MC MS Q 460 [some (.ref a0), some (.ref (ad gEc)), some (.ref (ad (gMo 0))), some (.ref a3), some (.int (nI i)), none, none] [.int (nI (trF n lc (cs (gMo 1)) (xs (i + 1)) (xs (i + 2)) (xs (i + 3)) (xs (i + 4)) (inB (xs (i + 4)) (nI 1) (nI 999))))] (HN (stZ h0 z) ad cs pm) NC NS := by
    intro hne z
    refine bL_law_460 ⟨(S.Z z).K, (S.Z z).vi (k := 1) (by omega) (by omega), (S.Z z).vi (k := 2) (by omega) (by omega), (S.Z z).vi (k := 3) (by omega) (by omega), (S.Z z).vi (k := 4) (by omega) (by omega), F.1.1, F.1.2, K19 (L.Z z), ?_⟩
    rw [(S.Z z).ag (k := 1) (by omega), (S.Z z).ag (k := 2) (by omega), (S.Z z).ag (k := 3) (by omega), (S.Z z).ag (k := 4) (by omega), HN_mS]
    exact c9_transfer (c := c) (lc := lc) (L.Z z) f0 f4 rH.2.2.1 hW (fun _ _ _ _ _ _ _ _ _ _ _ e0 => absurd e0 hne) (fun _ => tl_transfer (L.Z z) (S.Z z) F.1 (by omega) upd_eq (fun e => absurd e hne) (F.2 _ _ _ (L.Z z) (S.Z z) (R.thr (by omega) (by omega) _)))
  refine bL_transfer_0 (mcn := 1) (msn := 6) ⟨by omega, by omega, K18 L, c8_transfer L rE rH rR hW (fun k s u hk hs hu hsu ek ea eb hx e0 cs' ol' hF hH hR => bL_transfer_12 ⟨S.J.1, S.J.2, by omega, by omega, kq _ _ ?_⟩) (fun hne z hz => ?_)⟩
  · rw [HN_stJ]
    refine bL_law_460 ⟨(S.W _).K, (S.W _).vi (k := 1) (by omega) (by omega), (S.W _).vi (k := 2) (by omega) (by omega), (S.W _).vi (k := 3) (by omega) (by omega), (S.W _).vi (k := 4) (by omega) (by omega), F.1.1, F.1.2, K19 (L.W _), ?_⟩
    rw [(S.W _).ag (k := 1) (by omega), (S.W _).ag (k := 2) (by omega), (S.W _).ag (k := 3) (by omega), (S.W _).ag (k := 4) (by omega), HN_mS]
    have m1 := hF.mo 1
    refine c9_transfer (c := c) (lc := lc) (L.W _) (by rw [hF.mo]; exact f0) (by rw [hF.mo]; exact f4) rH.2.2.1 (by rw [hF.mo]; exact hW) (fun k' s' u' hk' hs' hu' hsu' ek' ea' eb' hx' e0' => ?_) (fun hne => absurd (by rw [m1]; exact e0) hne)
    obtain rfl : k' = k := by rw [ek, nI_inj5 (by omega) (by omega)] at ek'; exact ek'.symm
    obtain rfl : s' = s := by rw [ea, nI_inj5 (by omega) (by omega)] at ea'; exact ea'.symm
    obtain rfl : u' = u := by rw [eb, nI_inj5 (by omega) (by omega)] at eb'; exact eb'.symm
    refine tl_transfer (kx := 0) (L.W _) (S.W _) F.1 (by omega) actF_7 (fun _ => by rw [stJ_0, m1]) (F.2 _ _ _ (L.W _) (S.W _) ?_)
    have hxx := inB_am hx
    have hge := (trF_0 e0).2
    rw [ea, ek, ixI_n (by omega), ixI_n (by omega), Int32.lt_iff_toInt_lt, rP.ow hn hs hk] at hge
    exact R.act (by omega) (by omega) hF hH hR ((rP.giv hn (by omega) hs hu (fun e => hsu e.symm) hk (by omega) (by omega)).1.mono (by omega)) (by rw [m1])
  · have r := ref hne z
    have h3 : trF n lc (cs (gMo 1)) (xs (i + 1)) (xs (i + 2)) (xs (i + 3)) (xs (i + 4)) (inB (xs (i + 4)) (nI 1) (nI 999)) = 1 ∨ trF n lc (cs (gMo 1)) (xs (i + 1)) (xs (i + 2)) (xs (i + 3)) (xs (i + 4)) (inB (xs (i + 4)) (nI 1) (nI 999)) = 2 ∨ trF n lc (cs (gMo 1)) (xs (i + 1)) (xs (i + 2)) (xs (i + 3)) (xs (i + 4)) (inB (xs (i + 4)) (nI 1) (nI 999)) = 3 := by omega
    rcases h3 with e | e | e
    · rw [e] at r ⊢
      exact ⟨17, by simp, fun q => bL_transfer_17 ⟨by omega, by omega, kq _ _ r⟩⟩
    · rw [e] at r ⊢
      exact ⟨21, by simp, fun q => bL_transfer_21 ⟨by omega, by omega, kq _ _ r⟩⟩
    · rw [e] at r ⊢
      exact ⟨25, by simp, fun q => bL_transfer_25 ⟨by omega, by omega, kq _ _ r⟩⟩

theorem op_lend (L : Lay n ad h0) (S : Sx h0 a0 a3 Ln xs) (R : RWx n t cs pm lc mc c ol ty) (ht : t < 80000) (hi : i + 6 ≤ Ln) (hLn : Ln ≤ 3073) (F : FinL n t ad a0 a3 Ln xs MC MS Q (nI i) NC NS) : CKi mL_lend 8 2 12 [some (.ref (ad gEc)), some (.int (xs (i + 1))), some (.int (xs (i + 2))), some (.int (xs (i + 3))), some (.int (xs (i + 4))), some (.int (xs (i + 5))), some (.ref a3), none] (HN h0 ad cs pm) (fun w h' => Wm mL_law 11 MC MS Q 558 [some (.ref a0), some (.ref (ad gEc)), some (.ref (ad (gMo 0))), some (.ref a3), some (.int (nI i)), none, none] [.int w] h' NC NS) := by
  obtain ⟨rE, rH, rR, rP, rS, ⟨f0, f4, f6⟩, rt, rg, rx⟩ := id R
  have hn := L.1
  have hS0 := rH.1 0 (by omega)
  have hW := rP.W
  intro Qc kq
  have hlt : leF n lc (cs (gMo 1)) (xs (i + 1)) (xs (i + 2)) (xs (i + 3)) (xs (i + 4)) (inB (xs (i + 4)) (nI 1) (nI 999) && inB (xs (i + 5)) (nI 1) (nI 1000)) < 4 := leF_lt
  have ref : leF n lc (cs (gMo 1)) (xs (i + 1)) (xs (i + 2)) (xs (i + 3)) (xs (i + 4)) (inB (xs (i + 4)) (nI 1) (nI 999) && inB (xs (i + 5)) (nI 1) (nI 1000)) ≠ 0 → ∀ z, Wm mL_law 11 MC MS Q 558 [some (.ref a0), some (.ref (ad gEc)), some (.ref (ad (gMo 0))), some (.ref a3), some (.int (nI i)), none, none] [.int (nI (leF n lc (cs (gMo 1)) (xs (i + 1)) (xs (i + 2)) (xs (i + 3)) (xs (i + 4)) (inB (xs (i + 4)) (nI 1) (nI 999) && inB (xs (i + 5)) (nI 1) (nI 1000))))] (HN (stZ h0 z) ad cs pm) NC NS := by
    intro hne z
    refine bL_law_558 ⟨(S.Z z).K, (S.Z z).vi (k := 1) (by omega) (by omega), (S.Z z).vi (k := 2) (by omega) (by omega), (S.Z z).vi (k := 3) (by omega) (by omega), (S.Z z).vi (k := 4) (by omega) (by omega), (S.Z z).vi (k := 5) (by omega) (by omega), F.1.1, F.1.2, K19 (L.Z z), ?_⟩
    rw [(S.Z z).ag (k := 1) (by omega), (S.Z z).ag (k := 2) (by omega), (S.Z z).ag (k := 3) (by omega), (S.Z z).ag (k := 4) (by omega), (S.Z z).ag (k := 5) (by omega), HN_mS]
    exact c9_lend (c := c) (lc := lc) (L.Z z) f0 f4 rH.2.2.1 hW (fun _ _ _ _ _ _ _ _ _ _ _ _ e0 => absurd e0 hne) (fun _ => tl_lend (L.Z z) (S.Z z) F.1 (by omega) upd_eq (fun e => absurd e hne) (F.2 _ _ _ (L.Z z) (S.Z z) (R.thr (by omega) (by omega) _)))
  refine bL_lend_0 (mcn := 1) (msn := 6) ⟨by omega, by omega, K18 L, c8_lend L rE rH rR hW (fun k s u hk hs hu hsu ek ea eb hx hd e0 cs' ol' hF hH hR => bL_lend_14 ⟨S.J.1, S.J.2, by omega, by omega, kq _ _ ?_⟩) (fun hne z hz => ?_)⟩
  · rw [HN_stJ]
    refine bL_law_558 ⟨(S.W _).K, (S.W _).vi (k := 1) (by omega) (by omega), (S.W _).vi (k := 2) (by omega) (by omega), (S.W _).vi (k := 3) (by omega) (by omega), (S.W _).vi (k := 4) (by omega) (by omega), (S.W _).vi (k := 5) (by omega) (by omega), F.1.1, F.1.2, K19 (L.W _), ?_⟩
    rw [(S.W _).ag (k := 1) (by omega), (S.W _).ag (k := 2) (by omega), (S.W _).ag (k := 3) (by omega), (S.W _).ag (k := 4) (by omega), (S.W _).ag (k := 5) (by omega), HN_mS]
    have m1 := hF.mo 1
    refine c9_lend (c := c) (lc := lc) (L.W _) (by rw [hF.mo]; exact f0) (by rw [hF.mo]; exact f4) rH.2.2.1 (by rw [hF.mo]; exact hW) (fun k' s' u' hk' hs' hu' hsu' ek' ea' eb' hx' hd' e0' => ?_) (fun hne => absurd (by rw [m1]; exact e0) hne)
    obtain rfl : k' = k := by rw [ek, nI_inj5 (by omega) (by omega)] at ek'; exact ek'.symm
    obtain rfl : s' = s := by rw [ea, nI_inj5 (by omega) (by omega)] at ea'; exact ea'.symm
    obtain rfl : u' = u := by rw [eb, nI_inj5 (by omega) (by omega)] at eb'; exact eb'.symm
    refine tl_lend (kx := 0) (L.W _) (S.W _) F.1 (by omega) actF_7 (fun _ => stJ_0) (F.2 _ _ _ (L.W _) (S.W _) ?_)
    have hxx := inB_am hx
    obtain ⟨-, h10, hge⟩ := leF_0 e0
    rw [ea, ek, ixI_n (by omega), ixI_n (by omega), Int32.lt_iff_toInt_lt, rP.ow hn hs hk] at hge
    have hlc := hW.2.1
    exact R.act (by omega) (by omega) hF hH hR ((rP.lend hn (by omega) (by omega) hs hu (fun e => hsu e.symm) hk hx hd (by omega)).mono (by omega)) (by rw [m1])
  · have r := ref hne z
    have h3 : leF n lc (cs (gMo 1)) (xs (i + 1)) (xs (i + 2)) (xs (i + 3)) (xs (i + 4)) (inB (xs (i + 4)) (nI 1) (nI 999) && inB (xs (i + 5)) (nI 1) (nI 1000)) = 1 ∨ leF n lc (cs (gMo 1)) (xs (i + 1)) (xs (i + 2)) (xs (i + 3)) (xs (i + 4)) (inB (xs (i + 4)) (nI 1) (nI 999) && inB (xs (i + 5)) (nI 1) (nI 1000)) = 2 ∨ leF n lc (cs (gMo 1)) (xs (i + 1)) (xs (i + 2)) (xs (i + 3)) (xs (i + 4)) (inB (xs (i + 4)) (nI 1) (nI 999) && inB (xs (i + 5)) (nI 1) (nI 1000)) = 3 := by omega
    rcases h3 with e | e | e
    · rw [e] at r ⊢
      exact ⟨19, by simp, fun q => bL_lend_19 ⟨by omega, by omega, kq _ _ r⟩⟩
    · rw [e] at r ⊢
      exact ⟨23, by simp, fun q => bL_lend_23 ⟨by omega, by omega, kq _ _ r⟩⟩
    · rw [e] at r ⊢
      exact ⟨27, by simp, fun q => bL_lend_27 ⟨by omega, by omega, kq _ _ r⟩⟩

theorem op_rebalance (L : Lay n ad h0) (S : Sx h0 a0 a3 Ln xs) (R : RWx n t cs pm lc mc c ol ty) (ht : t < 80000) (hi : i + 6 ≤ Ln) (hLn : Ln ≤ 3073) (F : FinL n t ad a0 a3 Ln xs MC MS Q (nI i) NC NS) : CKi mL_rebalance 8 2 12 [some (.ref (ad gEc)), some (.int (xs (i + 1))), some (.int (xs (i + 2))), some (.ref a3), none] (HN h0 ad cs pm) (fun w h' => Wm mL_law 11 MC MS Q 644 [some (.ref a0), some (.ref (ad gEc)), some (.ref (ad (gMo 0))), some (.ref a3), some (.int (nI i)), none, none] [.int w] h' NC NS) := by
  obtain ⟨rE, rH, rR, rP, rS, ⟨f0, f4, f6⟩, rt, rg, rx⟩ := id R
  have hn := L.1
  have hS0 := rH.1 0 (by omega)
  have hW := rP.W
  intro Qc kq
  have hA : ∀ s k, s < n → k < 2 → ∀ j, j < n → ¬ rbP (cs (gMo 1)) s k (own n lc (cs (gMo 1)) s k).toInt64 (rbA (cs (gMo 1)) s k n) j ≤ 0 → rbM (cs (gMo 1)) s k (own n lc (cs (gMo 1)) s k).toInt64 (rbA (cs (gMo 1)) s k n) (j + 1) ≠ 0 := fun s k hs hk => (rP.rb hn hs hk).2.2.2.1
  refine bL_rebalance_0 (mcn := 1) (msn := 6) ⟨by omega, by omega, K18 L, c8_rebalance L rE rH rR hW (fun s k hs hk => rP.rb hn hs hk) (fun s k hs hk ea eb h0' cs' hF hH hR => bL_rebalance_8 ⟨S.J.1, S.J.2, by omega, by omega, kq _ _ ?_⟩) (fun s k hs hk ea eb h1' h2' cs' ol' hF hH hR => bL_rebalance_8 ⟨S.J.1, S.J.2, by omega, by omega, kq _ _ ?_⟩) (fun hB z hz => ⟨13, by simp, fun q => bL_rebalance_13 ⟨by omega, by omega, kq _ _ ?_⟩⟩)⟩
  · rw [HN_stJ]
    refine bL_law_644 ⟨(S.W _).K, (S.W _).vi (k := 1) (by omega) (by omega), (S.W _).vi (k := 2) (by omega) (by omega), F.1.1, F.1.2, K19 (L.W _), ?_⟩
    rw [(S.W _).ag (k := 1) (by omega), (S.W _).ag (k := 2) (by omega), HN_mS]
    have m1 := hF.mo 1
    refine c9_rebalance (c := c) (lc := lc) (L.W _) (by rw [hF.mo]; exact f0) (by rw [hF.mo]; exact f4) rH.2.2.1 (by rw [hF.mo]; exact hW) (fun s k hs hk _ _ => by rw [m1]; exact hA s k hs hk) (fun s' k' hs' hk' ea' eb' hz => ?_) (fun s' k' hs' hk' ea' eb' hz1 hz2 => ?_) (fun hB => absurd hB (by rw [ea, eb, skB hn hs hk]; simp))
    · refine tl_rebalance (kx := 0) (L.W _) (S.W _) F.1 (by omega) upd_eq (fun _ => stJ_0) (F.2 _ _ _ (L.W _) (S.W _) ?_)
      refine RW.mk (ol := ol) (ty := ty) (c := c) (lc := lc) (mc := mc) (by omega) ?_ ?_ ?_ ?_ ?_ ?_ ?_ ?_ rt ?_ ?_
      · rw [hF gEc (by unfold gEc; omega) (by unfold gEc gHi; omega)]; exact rE
      · rw [hF.mo 2]; exact hH
      · rw [m1]; exact hR
      · rw [m1]; exact rP.mono (by omega)
      · intro j hj
        rw [hF.mo 2]
        obtain ⟨a, b, h⟩ := rS j hj
        exact ⟨a, b, h.mono (by omega)⟩
      · rw [upd_ne (by omega), hF.mo]; exact f0
      · rw [upd_ne (by omega), hF.mo]; exact f4
      · rw [upd_ne (by omega), hF.mo]; exact f6
      · rw [hF gSc (by unfold gSc; omega) (by unfold gSc gHi; omega)]; exact rg
      · intro j hj
        rw [hF gSg (by unfold gSg; omega) (by unfold gSg gHi; omega), hF.mo 4]
        exact rx j hj
    · obtain rfl : s' = s := by rw [ea, nI_inj5 (by omega) (by omega)] at ea'; exact ea'.symm
      obtain rfl : k' = k := by rw [eb, nI_inj5 (by omega) (by omega)] at eb'; exact eb'.symm
      rw [m1] at hz1 hz2
      exact absurd h0' (fun q => q.elim hz1 hz2)
  · rw [HN_stJ]
    refine bL_law_644 ⟨(S.W _).K, (S.W _).vi (k := 1) (by omega) (by omega), (S.W _).vi (k := 2) (by omega) (by omega), F.1.1, F.1.2, K19 (L.W _), ?_⟩
    rw [(S.W _).ag (k := 1) (by omega), (S.W _).ag (k := 2) (by omega), HN_mS]
    have m1 := hF.mo 1
    refine c9_rebalance (c := c) (lc := lc) (L.W _) (by rw [hF.mo]; exact f0) (by rw [hF.mo]; exact f4) rH.2.2.1 (by rw [hF.mo]; exact hW) (fun s k hs hk _ _ => by rw [m1]; exact hA s k hs hk) (fun s' k' hs' hk' ea' eb' hz => ?_) (fun s' k' hs' hk' ea' eb' hz1 hz2 => ?_) (fun hB => absurd hB (by rw [ea, eb, skB hn hs hk]; simp))
    · obtain rfl : s' = s := by rw [ea, nI_inj5 (by omega) (by omega)] at ea'; exact ea'.symm
      obtain rfl : k' = k := by rw [eb, nI_inj5 (by omega) (by omega)] at eb'; exact eb'.symm
      rw [m1] at hz
      exact absurd hz (fun q => q.elim h1' h2')
    · obtain rfl : s' = s := by rw [ea, nI_inj5 (by omega) (by omega)] at ea'; exact ea'.symm
      obtain rfl : k' = k := by rw [eb, nI_inj5 (by omega) (by omega)] at eb'; exact eb'.symm
      refine tl_rebalance (kx := 0) (L.W _) (S.W _) F.1 (by omega) actF_7 (fun _ => by rw [stJ_0, m1]) (F.2 _ _ _ (L.W _) (S.W _) ?_)
      exact R.act (by omega) (by omega) hF hH hR ((rP.rbv hn (by omega) hs hk n (Nat.le_refl _)).1.mono (by omega)) (by rw [m1])
  · refine bL_law_644 ⟨(S.Z z).K, (S.Z z).vi (k := 1) (by omega) (by omega), (S.Z z).vi (k := 2) (by omega) (by omega), F.1.1, F.1.2, K19 (L.Z z), ?_⟩
    rw [(S.Z z).ag (k := 1) (by omega), (S.Z z).ag (k := 2) (by omega), HN_mS]
    exact c9_rebalance (c := c) (lc := lc) (L.Z z) f0 f4 rH.2.2.1 hW (fun s k hs hk _ _ => hA s k hs hk) (fun s' k' hs' hk' ea' eb' _ => absurd hB (by rw [ea', eb', skB hn hs' hk']; simp)) (fun s' k' hs' hk' ea' eb' _ _ => absurd hB (by rw [ea', eb', skB hn hs' hk']; simp)) (fun _ => tl_rebalance (kx := 1) (L.Z z) (S.Z z) F.1 (by omega) upd_eq (fun e => absurd e (by omega)) (F.2 _ _ _ (L.Z z) (S.Z z) (R.thr (by omega) (by omega) _)))

theorem op_pass (L : Lay n ad h0) (S : Sx h0 a0 a3 Ln xs) (R : RWx n t cs pm lc mc c ol ty) (ht : t < 80000) (hi : i + 6 ≤ Ln) (hLn : Ln ≤ 3073) (F : FinL n t ad a0 a3 Ln xs MC MS Q (nI i) NC NS) : CKi mL_pass 8 2 12 [some (.ref (ad gEc)), some (.int (xs (i + 1))), some (.ref a3), none] (HN h0 ad cs pm) (fun w h' => Wm mL_law 11 MC MS Q 706 [some (.ref a0), some (.ref (ad gEc)), some (.ref (ad (gMo 0))), some (.ref a3), some (.int (nI i)), none, none] [.int w] h' NC NS) := by
  obtain ⟨rE, rH, rR, rP, rS, ⟨f0, f4, f6⟩, rt, rg, rx⟩ := id R
  have hn := L.1
  have hS0 := rH.1 0 (by omega)
  have hW := rP.W
  intro Qc kq
  have hlt : paF (cs (gMo 1)) (xs (i + 1)) < 3 := paF_lt
  have ref : paF (cs (gMo 1)) (xs (i + 1)) ≠ 0 → ∀ z, Wm mL_law 11 MC MS Q 706 [some (.ref a0), some (.ref (ad gEc)), some (.ref (ad (gMo 0))), some (.ref a3), some (.int (nI i)), none, none] [.int (nI (paF (cs (gMo 1)) (xs (i + 1))))] (HN (stZ h0 z) ad cs pm) NC NS := by
    intro hne z
    refine bL_law_706 ⟨(S.Z z).K, (S.Z z).vi (k := 1) (by omega) (by omega), F.1.1, F.1.2, K19 (L.Z z), ?_⟩
    rw [(S.Z z).ag (k := 1) (by omega), HN_mS]
    exact c9_pass (c := c) (L.Z z) f4 rH.2.2.1 (fun e0 => absurd e0 hne) (fun _ => tl_pass (L.Z z) (S.Z z) F.1 (by omega) upd_eq (fun e => absurd e hne) (F.2 _ _ _ (L.Z z) (S.Z z) (R.thr (by omega) (by omega) _)))
  refine bL_pass_0 (mcn := 1) (msn := 6) ⟨by omega, by omega, K18 L, c8_pass L rH rR (rP.tm _) (fun e0 cs' ol' hF hH hR => bL_pass_7 ⟨S.J.1, S.J.2, by omega, by omega, kq _ _ ?_⟩) (fun hne z hz => ?_)⟩
  · rw [HN_stJ]
    refine bL_law_706 ⟨(S.W _).K, (S.W _).vi (k := 1) (by omega) (by omega), F.1.1, F.1.2, K19 (L.W _), ?_⟩
    rw [(S.W _).ag (k := 1) (by omega), HN_mS]
    have m1 := hF.mo 1
    refine c9_pass (c := c) (L.W _) (by rw [hF.mo]; exact f4) rH.2.2.1 (fun _ => ?_) (fun hne => absurd (by rw [m1]; exact e0) hne)
    refine tl_pass (kx := 0) (L.W _) (S.W _) F.1 (by omega) actF_7 (fun _ => by rw [stJ_0, m1]) (F.2 _ _ _ (L.W _) (S.W _) ?_)
    unfold paF at e0
    split at e0
    · omega
    · next h1 =>
      split at e0
      · next h2 =>
        have hxx := inB_du (by simpa using h1)
        exact R.act (by omega) (by omega) hF hH hR ((rP.pass hn hxx.1 hxx.2 h2).mono (by omega)) (by rw [m1])
      · omega
  · have r := ref hne z
    have h3 : paF (cs (gMo 1)) (xs (i + 1)) = 1 ∨ paF (cs (gMo 1)) (xs (i + 1)) = 2 := by omega
    rcases h3 with e | e
    · rw [e] at r ⊢
      exact ⟨12, by simp, fun q => bL_pass_12 ⟨by omega, by omega, kq _ _ r⟩⟩
    · rw [e] at r ⊢
      exact ⟨15, by simp, fun q => bL_pass_15 ⟨by omega, by omega, kq _ _ r⟩⟩

theorem op_send (L : Lay n ad h0) (S : Sx h0 a0 a3 Ln xs) (R : RWx n t cs pm lc mc c ol ty) (ht : t < 80000) (hi : i + 6 ≤ Ln) (hLn : Ln ≤ 3073) (F : FinL n t ad a0 a3 Ln xs MC MS Q (nI i) NC NS) : CKi mL_send 8 2 12 [some (.ref (ad gEc)), some (.int (xs (i + 1))), some (.int (xs (i + 2))), some (.ref a3), none] (HN h0 ad cs pm) (fun w h' => Wm mL_law 11 MC MS Q 768 [some (.ref a0), some (.ref (ad gEc)), some (.ref (ad (gMo 0))), some (.ref a3), some (.int (nI i)), none, none] [.int w] h' NC NS) := by
  obtain ⟨rE, rH, rR, rP, rS, ⟨f0, f4, f6⟩, rt, rg, rx⟩ := id R
  have hn := L.1
  have hS0 := rH.1 0 (by omega)
  have hW := rP.W
  intro Qc kq
  have h8 := rR.2.1.2.2.2
  have hlt : seF n mc (xs (i + 1)) (xs (i + 2)) < 4 := seF_lt
  have ref : seF n mc (xs (i + 1)) (xs (i + 2)) ≠ 0 → ∀ z, Wm mL_law 11 MC MS Q 768 [some (.ref a0), some (.ref (ad gEc)), some (.ref (ad (gMo 0))), some (.ref a3), some (.int (nI i)), none, none] [.int (nI (seF n mc (xs (i + 1)) (xs (i + 2))))] (HN (stZ h0 z) ad cs pm) NC NS := by
    intro hne z
    refine bL_law_768 ⟨(S.Z z).K, (S.Z z).vi (k := 1) (by omega) (by omega), (S.Z z).vi (k := 2) (by omega) (by omega), F.1.1, F.1.2, K19 (L.Z z), ?_⟩
    rw [(S.Z z).ag (k := 1) (by omega), (S.Z z).ag (k := 2) (by omega), HN_mS]
    exact c9_send (c := c) (mc := mc) (L.Z z) f0 f4 rH.2.2.1 rR.2.1.2.1 h8 (fun _ _ _ _ _ _ _ _ e0 => absurd e0 hne) (fun _ => tl_send (L.Z z) (S.Z z) F.1 (by omega) upd_eq (fun e => absurd e hne) (F.2 _ _ _ (L.Z z) (S.Z z) (R.thr (by omega) (by omega) _)))
  refine bL_send_0 (mcn := 1) (msn := 6) ⟨by omega, by omega, K18 L, c8_send L rE rH rR (fun s u hs hu hsu hm ea eb e0 cs' ol' hF hH hR => bL_send_8 ⟨S.J.1, S.J.2, by omega, by omega, kq _ _ ?_⟩) (fun hne z hz => ?_)⟩
  · rw [HN_stJ]
    refine bL_law_768 ⟨(S.W _).K, (S.W _).vi (k := 1) (by omega) (by omega), (S.W _).vi (k := 2) (by omega) (by omega), F.1.1, F.1.2, K19 (L.W _), ?_⟩
    rw [(S.W _).ag (k := 1) (by omega), (S.W _).ag (k := 2) (by omega), HN_mS]
    have m1 := hF.mo 1
    refine c9_send (c := c) (mc := mc) (L.W _) (by rw [hF.mo]; exact f0) (by rw [hF.mo]; exact f4) rH.2.2.1 (by rw [m1]; exact rR.2.1.2.1) h8 (fun s' u' hs' hu' hsu' hm' ea' eb' _ => ?_) (fun hne => absurd e0 hne)
    obtain rfl : s' = s := by rw [ea, nI_inj5 (by omega) (by omega)] at ea'; exact ea'.symm
    obtain rfl : u' = u := by rw [eb, nI_inj5 (by omega) (by omega)] at eb'; exact eb'.symm
    refine tl_send (kx := 0) (L.W _) (S.W _) F.1 (by omega) actF_7 (fun _ => stJ_0) (F.2 _ _ _ (L.W _) (S.W _) ?_)
    exact R.act (by omega) (by omega) hF hH hR ((rP.send hn hm hs hu).mono (by omega)) (by rw [m1])
  · have r := ref hne z
    have h3 : seF n mc (xs (i + 1)) (xs (i + 2)) = 1 ∨ seF n mc (xs (i + 1)) (xs (i + 2)) = 2 ∨ seF n mc (xs (i + 1)) (xs (i + 2)) = 3 := by omega
    rcases h3 with e | e | e
    · rw [e] at r ⊢
      exact ⟨13, by simp, fun q => bL_send_13 ⟨by omega, by omega, kq _ _ r⟩⟩
    · rw [e] at r ⊢
      exact ⟨17, by simp, fun q => bL_send_17 ⟨by omega, by omega, kq _ _ r⟩⟩
    · rw [e] at r ⊢
      exact ⟨21, by simp, fun q => bL_send_21 ⟨by omega, by omega, kq _ _ r⟩⟩

theorem op_deliver (L : Lay n ad h0) (S : Sx h0 a0 a3 Ln xs) (R : RWx n t cs pm lc mc c ol ty) (ht : t < 80000) (hi : i + 6 ≤ Ln) (hLn : Ln ≤ 3073) (F : FinL n t ad a0 a3 Ln xs MC MS Q (nI i) NC NS) : CKi mL_deliver 8 2 12 [some (.ref (ad gEc)), some (.int (xs (i + 1))), some (.ref a3), none] (HN h0 ad cs pm) (fun w h' => Wm mL_law 11 MC MS Q 830 [some (.ref a0), some (.ref (ad gEc)), some (.ref (ad (gMo 0))), some (.ref a3), some (.int (nI i)), none, none] [.int w] h' NC NS) := by
  obtain ⟨rE, rH, rR, rP, rS, ⟨f0, f4, f6⟩, rt, rg, rx⟩ := id R
  have hn := L.1
  have hS0 := rH.1 0 (by omega)
  have hW := rP.W
  intro Qc kq
  have h8 := rR.2.1.2.2.2
  have hto := rP.1.2.2.2.2.2
  refine bL_deliver_0 (mcn := 1) (msn := 6) ⟨by omega, by omega, K18 L, c8_deliver L rH rR hto (fun m u hm hu hv ea cs' pm' ol' hF hH hR => bL_deliver_7 ⟨S.J.1, S.J.2, by omega, by omega, kq _ _ ?_⟩) (fun hB z hz => ⟨12, by simp, fun q => bL_deliver_12 ⟨by omega, by omega, kq _ _ ?_⟩⟩)⟩
  · rw [HN_stJ]
    refine bL_law_830 ⟨(S.W _).K, (S.W _).vi (k := 1) (by omega) (by omega), F.1.1, F.1.2, K19 (L.W _), ?_⟩
    rw [(S.W _).ag (k := 1) (by omega), HN_mS]
    have m1 := hF.mo 1
    refine c9_deliver (c := c) (mc := mc) (L.W _) (by rw [hF.mo]; exact f0) (by rw [hF.mo]; exact f4) rH.2.2.1 (by rw [m1]; exact rR.2.1.2.1) h8 (by rw [m1]; exact hto) (fun m' u' hm' hu' hv' ea' => ?_) (fun hB => absurd hB (by rw [ea, miN (by omega) hm]; simp))
    obtain rfl : m' = m := by rw [ea, nI_inj5 (by omega) (by omega)] at ea'; exact ea'.symm
    rw [m1, hv, nI_inj5 (by omega) (by omega)] at hv'
    subst hv'
    refine tl_deliver (kx := 0) (L.W _) (S.W _) F.1 (by omega) actF_7 (fun _ => by rw [stJ_0, m1]) (F.2 _ _ _ (L.W _) (S.W _) ?_)
    exact R.act (by omega) (by omega) hF hH hR (((rP.arr hn hm hu).lose hn hm).mono (by omega)) (by rw [m1])
  · refine bL_law_830 ⟨(S.Z z).K, (S.Z z).vi (k := 1) (by omega) (by omega), F.1.1, F.1.2, K19 (L.Z z), ?_⟩
    rw [(S.Z z).ag (k := 1) (by omega), HN_mS]
    exact c9_deliver (c := c) (mc := mc) (L.Z z) f0 f4 rH.2.2.1 rR.2.1.2.1 h8 hto (fun m' u' hm' hu' hv' ea' => absurd hB (by rw [ea', miN (by omega) hm']; simp)) (fun _ => tl_deliver (kx := 1) (L.Z z) (S.Z z) F.1 (by omega) upd_eq (fun e => absurd e (by omega)) (F.2 _ _ _ (L.Z z) (S.Z z) (R.thr (by omega) (by omega) _)))

theorem op_lose (L : Lay n ad h0) (S : Sx h0 a0 a3 Ln xs) (R : RWx n t cs pm lc mc c ol ty) (ht : t < 80000) (hi : i + 6 ≤ Ln) (hLn : Ln ≤ 3073) (F : FinL n t ad a0 a3 Ln xs MC MS Q (nI i) NC NS) : CKi mL_lose 8 2 12 [some (.ref (ad gEc)), some (.int (xs (i + 1))), some (.ref a3), none] (HN h0 ad cs pm) (fun w h' => Wm mL_law 11 MC MS Q 886 [some (.ref a0), some (.ref (ad gEc)), some (.ref (ad (gMo 0))), some (.ref a3), some (.int (nI i)), none, none] [.int w] h' NC NS) := by
  obtain ⟨rE, rH, rR, rP, rS, ⟨f0, f4, f6⟩, rt, rg, rx⟩ := id R
  have hn := L.1
  have hS0 := rH.1 0 (by omega)
  have hW := rP.W
  intro Qc kq
  have h8 := rR.2.1.2.2.2
  refine bL_lose_0 (mcn := 1) (msn := 6) ⟨by omega, by omega, K18 L, c8_lose L rH rR (fun m hm ea cs' pm' ol' hF hH hR => bL_lose_7 ⟨S.J.1, S.J.2, by omega, by omega, kq _ _ ?_⟩) (fun hB z hz => ⟨12, by simp, fun q => bL_lose_12 ⟨by omega, by omega, kq _ _ ?_⟩⟩)⟩
  · rw [HN_stJ]
    refine bL_law_886 ⟨(S.W _).K, (S.W _).vi (k := 1) (by omega) (by omega), F.1.1, F.1.2, K19 (L.W _), ?_⟩
    rw [(S.W _).ag (k := 1) (by omega), HN_mS]
    have m1 := hF.mo 1
    refine c9_lose (c := c) (mc := mc) (L.W _) (by rw [hF.mo]; exact f4) rH.2.2.1 (by rw [m1]; exact rR.2.1.2.1) h8 (fun m' hm' ea' => ?_) (fun hB => absurd hB (by rw [ea, miN (by omega) hm]; simp))
    obtain rfl : m' = m := by rw [ea, nI_inj5 (by omega) (by omega)] at ea'; exact ea'.symm
    refine tl_lose (kx := 0) (L.W _) (S.W _) F.1 (by omega) actF_7 (fun _ => stJ_0) (F.2 _ _ _ (L.W _) (S.W _) ?_)
    exact R.act (by omega) (by omega) hF hH hR ((rP.lose hn hm).mono (by omega)) (by rw [m1])
  · refine bL_law_886 ⟨(S.Z z).K, (S.Z z).vi (k := 1) (by omega) (by omega), F.1.1, F.1.2, K19 (L.Z z), ?_⟩
    rw [(S.Z z).ag (k := 1) (by omega), HN_mS]
    exact c9_lose (c := c) (mc := mc) (L.Z z) f4 rH.2.2.1 rR.2.1.2.1 h8 (fun m' hm' ea' => absurd hB (by rw [ea', miN (by omega) hm']; simp)) (fun _ => tl_lose (kx := 1) (L.Z z) (S.Z z) F.1 (by omega) upd_eq (fun e => absurd e (by omega)) (F.2 _ _ _ (L.Z z) (S.Z z) (R.thr (by omega) (by omega) _)))

theorem op_repeat (L : Lay n ad h0) (S : Sx h0 a0 a3 Ln xs) (R : RWx n t cs pm lc mc c ol ty) (ht : t < 80000) (hi : i + 6 ≤ Ln) (hLn : Ln ≤ 3073) (F : FinL n t ad a0 a3 Ln xs MC MS Q (nI i) NC NS) : CKi mL_repeat 8 2 12 [some (.ref (ad gEc)), some (.int (xs (i + 1))), some (.ref a3), none] (HN h0 ad cs pm) (fun w h' => Wm mL_law 11 MC MS Q 942 [some (.ref a0), some (.ref (ad gEc)), some (.ref (ad (gMo 0))), some (.ref a3), some (.int (nI i)), none, none] [.int w] h' NC NS) := by
  obtain ⟨rE, rH, rR, rP, rS, ⟨f0, f4, f6⟩, rt, rg, rx⟩ := id R
  have hn := L.1
  have hS0 := rH.1 0 (by omega)
  have hW := rP.W
  intro Qc kq
  have h8 := rR.2.1.2.2.2
  have ok : ∀ m, m < mc → mc < 8 → xs (i + 1) = nI m → reF mc (xs (i + 1)) = 0 := by
    intro m hm h9 ea
    rw [reF, ea, miN (by omega) hm, if_neg (by simp), if_neg (by omega)]
  have hlt : reF mc (xs (i + 1)) < 3 := by
    unfold reF
    split
    · omega
    · split <;> omega
  have ref : reF mc (xs (i + 1)) ≠ 0 → ∀ z, Wm mL_law 11 MC MS Q 942 [some (.ref a0), some (.ref (ad gEc)), some (.ref (ad (gMo 0))), some (.ref a3), some (.int (nI i)), none, none] [.int (nI (reF mc (xs (i + 1))))] (HN (stZ h0 z) ad cs pm) NC NS := by
    intro hne z
    refine bL_law_942 ⟨(S.Z z).K, (S.Z z).vi (k := 1) (by omega) (by omega), F.1.1, F.1.2, K19 (L.Z z), ?_⟩
    rw [(S.Z z).ag (k := 1) (by omega), HN_mS]
    exact c9_repeat (c := c) (mc := mc) (L.Z z) f4 rH.2.2.1 rR.2.1.2.1 h8 (fun m hm h9 ea => absurd (ok m hm h9 ea) hne) (fun _ => tl_repeat (L.Z z) (S.Z z) F.1 (by omega) upd_eq (fun e => absurd e hne) (F.2 _ _ _ (L.Z z) (S.Z z) (R.thr (by omega) (by omega) _)))
  refine bL_repeat_0 (mcn := 2) (msn := 12) ⟨by omega, by omega, K18 L, c8_repeat L rH rR (fun m hm h9 ea cs' ol' hF hH hR => bL_repeat_7 ⟨S.J.1, S.J.2, by omega, by omega, kq _ _ ?_⟩) (fun hB z hz => ⟨12, by simp, fun q => bL_repeat_12 ⟨by omega, by omega, kq _ _ ?_⟩⟩) (fun hB h9 z hz => ⟨15, by simp, fun q => bL_repeat_15 ⟨by omega, by omega, kq _ _ ?_⟩⟩)⟩
  · rw [HN_stJ]
    refine bL_law_942 ⟨(S.W _).K, (S.W _).vi (k := 1) (by omega) (by omega), F.1.1, F.1.2, K19 (L.W _), ?_⟩
    rw [(S.W _).ag (k := 1) (by omega), HN_mS]
    have m1 := hF.mo 1
    refine c9_repeat (c := c) (mc := mc) (L.W _) (by rw [hF.mo]; exact f4) rH.2.2.1 (by rw [m1]; exact rR.2.1.2.1) h8 (fun m' hm' h9' ea' => ?_) (fun hne => absurd (ok m hm h9 ea) hne)
    obtain rfl : m' = m := by rw [ea, nI_inj5 (by omega) (by omega)] at ea'; exact ea'.symm
    refine tl_repeat (kx := 0) (L.W _) (S.W _) F.1 (by omega) actF_7 (fun _ => stJ_0) (F.2 _ _ _ (L.W _) (S.W _) ?_)
    exact R.act (by omega) (by omega) hF hH hR ((rP.rep hn h9 hm).mono (by omega)) (by rw [m1])
  · have e : reF mc (xs (i + 1)) = 1 := by rw [reF, if_pos hB]
    have r := ref (by omega) z
    rw [e] at r
    exact r
  · have e : reF mc (xs (i + 1)) = 2 := by rw [reF, if_neg (by rw [hB]; simp), if_pos h9]
    have r := ref (by omega) z
    rw [e] at r
    exact r

theorem op_begin (L : Lay n ad h0) (S : Sx h0 a0 a3 Ln xs) (R : RWx n t cs pm lc mc c ol ty) (ht : t < 80000) (hi : i + 6 ≤ Ln) (hLn : Ln ≤ 3073) (F : FinL n t ad a0 a3 Ln xs MC MS Q (nI i) NC NS) : CKi mL_begin 7 2 12 [some (.ref (ad gEc)), some (.int (xs (i + 1))), some (.int (xs (i + 2))), some (.int (xs (i + 3))), some (.ref a3), none] (HN h0 ad cs pm) (fun w h' => Wm mL_law 11 MC MS Q 224 [some (.ref a0), some (.ref (ad gEc)), some (.ref (ad (gMo 0))), some (.ref a3), some (.int (nI i)), none, none] [.int w] h' NC NS) := by
  obtain ⟨rE, rH, rR, rP, rS, ⟨f0, f4, f6⟩, rt, rg, rx⟩ := id R
  have hn := L.1
  have hS0 := rH.1 0 (by omega)
  have hW := rP.W
  intro Qc kq
  refine bL_begin_0 (mcn := 1) (msn := 6) ⟨by omega, by omega, K18 L, c8_begin L rH rR (fun hB cs' hF hH hR => bL_begin_10 ⟨S.J.1, S.J.2, by omega, by omega, kq _ _ ?_⟩) (fun hB z hz => ⟨15, by simp, fun q => bL_begin_15 ⟨by omega, by omega, kq _ _ ?_⟩⟩)⟩
  · rw [HN_stJ]
    refine bL_law_224 ⟨(S.W _).K, (S.W _).vi (k := 1) (by omega) (by omega), (S.W _).vi (k := 2) (by omega) (by omega), (S.W _).vi (k := 3) (by omega) (by omega), F.1.1, F.1.2, K19 (L.W _), ?_⟩
    rw [(S.W _).ag (k := 1) (by omega), (S.W _).ag (k := 2) (by omega), (S.W _).ag (k := 3) (by omega), HN_mS]
    have m1 := hF.mo 1
    refine c9_begin (L.W _) (by rw [hF.mo]; exact f0) (fun _ => ?_) (fun e => absurd e (by rw [hB]; simp))
    refine tl_begin (kx := 0) (L.W _) (S.W _) F.1 (by omega) (by rw [upd_ne (by omega), upd_eq]) (fun _ => by rw [stJ_0, m1]) (F.2 _ _ _ (L.W _) (S.W _) ?_)
    refine RW.mk (ol := 0) (ty := ty) (c := 0) (lc := 0) (mc := 0) (by omega) ?_ (hH _) ?_ ((PI.begin hn hB).mono (by omega)) (fun j hj => by omega) ?_ ?_ ?_ rt ?_ ?_
    · rw [hF gEc (by unfold gEc; omega) (by unfold gEc gHi; omega)]; exact rE
    · rw [m1]; exact hR
    · rw [upd_ne (by omega), upd_ne (by omega), hF.mo]; exact f0
    · rw [upd_eq]
    · rw [upd_ne (by omega), upd_ne (by omega), hF.mo]; exact f6
    · rw [hF gSc (by unfold gSc; omega) (by unfold gSc gHi; omega)]; exact rg
    · intro j hj
      rw [hF gSg (by unfold gSg; omega) (by unfold gSg gHi; omega), hF.mo 4]
      exact rx j hj
  · refine bL_law_224 ⟨(S.Z z).K, (S.Z z).vi (k := 1) (by omega) (by omega), (S.Z z).vi (k := 2) (by omega) (by omega), (S.Z z).vi (k := 3) (by omega) (by omega), F.1.1, F.1.2, K19 (L.Z z), ?_⟩
    rw [(S.Z z).ag (k := 1) (by omega), (S.Z z).ag (k := 2) (by omega), (S.Z z).ag (k := 3) (by omega), HN_mS]
    exact c9_begin (L.Z z) f0 (fun e => absurd e (by rw [hB]; simp)) (fun _ => tl_begin (kx := 1) (L.Z z) (S.Z z) F.1 (by omega) upd_eq (fun e => absurd e (by omega)) (F.2 _ _ _ (L.Z z) (S.Z z) (R.thr (by omega) (by omega) _)))

theorem op_type (L : Lay n ad h0) (S : Sx h0 a0 a3 Ln xs) (R : RWx n t cs pm lc mc c ol ty) (ht : t < 80000) (hi : i + 6 ≤ Ln) (hLn : Ln ≤ 3073) (F : FinL n t ad a0 a3 Ln xs MC MS Q (nI i) NC NS) : CKi mL_type 7 2 12 [some (.ref (ad gEc)), some (.int (xs (i + 1))), some (.ref a3), none] (HN h0 ad cs pm) (fun w h' => Wm mL_law 11 MC MS Q 1730 [some (.ref a0), some (.ref (ad gEc)), some (.ref (ad (gMo 0))), some (.ref a3), some (.int (nI i)), none, none] [.int w] h' NC NS) := by
  obtain ⟨rE, rH, rR, rP, rS, ⟨f0, f4, f6⟩, rt, rg, rx⟩ := id R
  have hn := L.1
  have hS0 := rH.1 0 (by omega)
  have hW := rP.W
  intro Qc kq
  have ok : ty < 60 → inB (xs (i + 1)) (nI 32) (nI 126) = true → tyF ty (xs (i + 1)) = 0 := by
    intro h1 h2
    rw [tyF, h2, if_neg (by simp), if_neg (by omega)]
  have hlt : tyF ty (xs (i + 1)) < 3 := by
    unfold tyF
    split
    · omega
    · split <;> omega
  have ref : tyF ty (xs (i + 1)) ≠ 0 → ∀ z, Wm mL_law 11 MC MS Q 1730 [some (.ref a0), some (.ref (ad gEc)), some (.ref (ad (gMo 0))), some (.ref a3), some (.int (nI i)), none, none] [.int (nI (tyF ty (xs (i + 1))))] (HN (stZ h0 z) ad cs pm) NC NS := by
    intro hne z
    refine bL_law_1730 ⟨(S.Z z).K, (S.Z z).vi (k := 1) (by omega) (by omega), F.1.1, F.1.2, K19 (L.Z z), ?_⟩
    rw [(S.Z z).ag (k := 1) (by omega), HN_mS]
    exact c9_type (ty := ty) (L.Z z) f6 rt (fun h1 h2 => absurd (ok h1 h2) hne) (fun _ => tl_type (L.Z z) (S.Z z) F.1 (by omega) upd_eq (fun e => absurd e hne) (F.2 _ _ _ (L.Z z) (S.Z z) (R.thr (by omega) (by omega) _)))
  refine bL_type_0 (mcn := 1) (msn := 6) ⟨by omega, by omega, K18 L, c8_type L rg rt (fun h1 h2 => bL_type_7 ⟨S.J.1, S.J.2, by omega, by omega, kq _ _ ?_⟩) (fun hne z hz => ?_)⟩
  · rw [HN_stJ]
    refine bL_law_1730 ⟨(S.W _).K, (S.W _).vi (k := 1) (by omega) (by omega), F.1.1, F.1.2, K19 (L.W _), ?_⟩
    rw [(S.W _).ag (k := 1) (by omega), HN_mS]
    generalize hcs : up2 (up2 cs gSg ty (xs (i + 1))) gSc 2 (nI (ty + 1)) = cs'
    have same : ∀ g, g < 80003 → cs' g = cs g := fun g hg => by
      funext j
      rw [← hcs, up2_a (by unfold gSc; omega), up2_a (by unfold gSg; omega)]
    have mo : ∀ k, cs' (gMo k) = cs (gMo k) := fun k => by
      funext j
      rw [← hcs, up2_a (by unfold gMo gSc; omega), up2_a (by unfold gMo gSg; omega)]
    have e2 : cs' gSc 2 = nI (ty + 1) := by rw [← hcs, up2_s]
    have eg : ∀ j, cs' gSg j = if j = ty then xs (i + 1) else cs gSg j := fun j => by
      rw [← hcs, up2_a (by unfold gSc gSg; omega)]
      by_cases e : j = ty
      · rw [if_pos e, e, up2_s]
      · rw [if_neg e, up2_k e]
    refine c9_type (ty := ty) (L.W _) (by rw [mo]; exact f6) rt (fun _ _ => ?_) (fun hne => absurd (ok h1 h2) hne)
    refine tl_type (kx := 0) (L.W _) (S.W _) F.1 (by omega) (by rw [upd_ne (by omega), upd_eq]) (fun _ => stJ_0) (F.2 _ _ _ (L.W _) (S.W _) ?_)
    have same2 : ∀ g, g < 80003 → up2 cs' (gMo 4) ty (xs (i + 1)) g = cs g := fun g hg => by
      funext j
      rw [up2_a (by unfold gMo; omega), same g hg]
    refine RW.mk (ol := ol) (ty := ty + 1) (c := c) (lc := lc) (mc := mc) (by omega) ?_ ?_ ?_ ?_ ?_ ?_ ?_ ?_ (by omega) ?_ ?_
    · rw [same2 gEc (by unfold gEc; omega)]; exact rE
    · rw [mo]; exact rH.same (by omega) same2
    · rw [mo]; exact rR.same (by omega) hS0 same2
    · rw [mo]; exact rP.mono (by omega)
    · intro j hj
      rw [mo]
      obtain ⟨a, b, h⟩ := rS j hj
      exact ⟨a, b, h.mono (by omega)⟩
    · rw [upd_ne (by omega), upd_ne (by omega), mo]; exact f0
    · rw [upd_ne (by omega), upd_ne (by omega), mo]; exact f4
    · rw [upd_eq]
    · rw [up2_a (by unfold gSc gMo; omega)]; exact e2
    · intro j hj
      rw [up2_a (by unfold gSg gMo; omega), eg]
      by_cases e : j = ty
      · rw [if_pos e, e, up2_s]
      · rw [if_neg e, up2_k e, mo]
        exact rx j (by omega)
  · have r := ref hne z
    have h3 : tyF ty (xs (i + 1)) = 1 ∨ tyF ty (xs (i + 1)) = 2 := by omega
    rcases h3 with e | e
    · rw [e] at r ⊢
      exact ⟨12, by simp, fun q => bL_type_12 ⟨by omega, by omega, kq _ _ r⟩⟩
    · rw [e] at r ⊢
      exact ⟨15, by simp, fun q => bL_type_15 ⟨by omega, by omega, kq _ _ r⟩⟩

theorem op_undo (L : Lay n ad h0) (S : Sx h0 a0 a3 Ln xs) (R : RWx n t cs pm lc mc c ol ty) (ht : t < 80000) (hi : i + 6 ≤ Ln) (hLn : Ln ≤ 3073) (F : FinL n t ad a0 a3 Ln xs MC MS Q (nI i) NC NS) : CKi mL_undo 7 2 12 [some (.ref (ad gEc)), some (.ref a3), none] (HN h0 ad cs pm) (fun w h' => Wm mL_law 11 MC MS Q 1806 [some (.ref a0), some (.ref (ad gEc)), some (.ref (ad (gMo 0))), some (.ref a3), some (.int (nI i)), none, none] [.int w] h' NC NS) := by
  obtain ⟨rE, rH, rR, rP, rS, ⟨f0, f4, f6⟩, rt, rg, rx⟩ := id R
  have hn := L.1
  have hS0 := rH.1 0 (by omega)
  have hW := rP.W
  intro Qc kq
  have hc5 := rH.2.2.1
  refine bL_undo_0 (mcn := 1) (msn := 6) ⟨by omega, by omega, K18 L, c8_undo L rH (fun hc cs' lc2 mc2 hF hH hR => bL_undo_6 ⟨S.J.1, S.J.2, by omega, by omega, kq _ _ ?_⟩) (fun hc z hz => ⟨11, by simp, fun q => bL_undo_11 ⟨by omega, by omega, kq _ _ ?_⟩⟩)⟩
  · rw [HN_stJ]
    refine bL_law_1806 ⟨F.1.1, F.1.2, K19 (L.W _), ?_⟩
    rw [HN_mS]
    refine c9_undo (c := c) (L.W _) (by rw [hF.mo]; exact f4) hc5 (fun _ => ?_) (fun e => absurd e hc)
    refine tl_undo (kx := 0) (L.W _) (S.W _) F.1 (by omega) (by rw [upd_ne (by omega), upd_eq]) (fun _ => stJ_0) (F.2 _ _ _ (L.W _) (S.W _) ?_)
    obtain ⟨lc3, mc3, hP3⟩ := rS (c - 1) (by omega)
    have ev : ∀ j, j < 2400 → ovw (cs' (gMo 1)) 0 (fun i => cs' (gMo 2) (2400 * (c - 1) + i)) 2400 j = cs (gMo 2) (2400 * (c - 1) + j) := fun j hj => by
      unfold ovw
      rw [if_pos (by omega), hF.mo 2, Nat.sub_zero]
    have el : lc3 = lc2 := by
      have h1 := hP3.W.1
      have h2 := hR.2.1.1
      have h3 := hP3.W.2.1
      have h4 := hR.2.1.2.2.1
      rw [h1, nI_inj5 (by omega) (by omega)] at h2
      exact h2
    have em : mc3 = mc2 := by
      have h1 := hP3.1.2.1
      have h2 := hR.2.1.2.1
      have h4 := hR.2.1.2.2.2
      rw [h1.1, nI_inj5 (by omega) (by omega)] at h2
      exact h2
    rw [el, em] at hP3
    refine RW.mk (ol := ol) (ty := ty) (c := c - 1) (lc := lc2) (mc := mc2) (by omega) ?_ ?_ (hR.congr (by omega) ev) ((hP3.mono (by omega)).cg (by omega) ev) (fun j hj => ?_) ?_ ?_ ?_ rt ?_ ?_
    · rw [hF gEc (by unfold gEc; omega) (by unfold gEc gHi; omega)]; exact rE
    · rw [hF.mo]; exact hH
    · rw [hF.mo]
      obtain ⟨a, b, h⟩ := rS j (by omega)
      exact ⟨a, b, h.mono (by omega)⟩
    · rw [upd_ne (by omega), upd_ne (by omega), hF.mo]; exact f0
    · rw [upd_eq]
    · rw [upd_ne (by omega), upd_ne (by omega), hF.mo]; exact f6
    · rw [hF gSc (by unfold gSc; omega) (by unfold gSc gHi; omega)]; exact rg
    · intro j hj
      rw [hF gSg (by unfold gSg; omega) (by unfold gSg gHi; omega), hF.mo 4]
      exact rx j hj
  · refine bL_law_1806 ⟨F.1.1, F.1.2, K19 (L.Z z), ?_⟩
    rw [HN_mS]
    exact c9_undo (c := c) (L.Z z) f4 hc5 (fun e => absurd hc e) (fun _ => tl_undo (kx := 1) (L.Z z) (S.Z z) F.1 (by omega) upd_eq (fun e => absurd e (by omega)) (F.2 _ _ _ (L.Z z) (S.Z z) (R.thr (by omega) (by omega) _)))

end LD

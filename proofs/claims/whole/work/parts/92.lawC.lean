/-! THE LAW: calls that ask (printed by a program) -/
section LC
variable {n t lc mc c ol ty a0 a3 Ln i MC MS NC NS : Nat} {ad : Nat → Nat} {h0 : Hp} {cs : Nat → Nat → Int32} {pm : Nat → Nat → Nat} {xs : Nat → Int32} {Q : Nat → Option Value → Hp → Prop}
theorem op_known (L : Lay n ad h0) (S : Sx h0 a0 a3 Ln xs) (R : RWx n t cs pm lc mc c ol ty) (hi : i + 6 ≤ Ln) (hLn : Ln ≤ 3073) (F : FinL n t ad a0 a3 Ln xs MC MS Q (nI i) NC NS) : CKi mL_known 8 2 12 [some (.ref (ad gEc)), some (.int (xs (i + 1))), some (.ref a3), none] (HN h0 ad cs pm) (fun w h' => Wm mL_law 11 MC MS Q 1105 [some (.ref a0), some (.ref (ad gEc)), some (.ref (ad (gMo 0))), some (.ref a3), some (.int (nI i)), none, none] [.int w] h' NC NS) := by
  obtain ⟨rE, rH, rR, rP, rS, ⟨f0, f4, f6⟩, rt, rg, rx⟩ := id R
  have hn := L.1
  have hS0 := rH.1 0 (by omega)
  have hW := rP.W
  intro Qc kq
  refine bL_known_0 (mcn := 1) (msn := 6) ⟨by omega, by omega, K18 L, c8_known L rE hS0 rR (fun s hs ea => bL_known_7 ⟨S.J.1, S.J.2, by omega, by omega, kq _ _ ?_⟩) (fun hB z hz => ⟨12, by simp, fun q => bL_known_12 ⟨by omega, by omega, kq _ _ ?_⟩⟩)⟩
  · rw [HN_stJ]
    refine bL_law_1105 ⟨(S.W _).K, (S.W _).vi (k := 1) (by omega) (by omega), F.1.1, F.1.2, K19 (L.W _), ?_⟩
    rw [(S.W _).ag (k := 1) (by omega), HN_mS]
    refine c9_known (L.W _) f0 (fun s' hs' ea' => ?_) (fun hB => absurd hB (by rw [ea, siB_n (by omega) hs]; simp))
    obtain rfl : s' = s := by rw [ea, nI_inj5 (by omega) (by omega)] at ea'; exact ea'.symm
    exact tl_known (kx := 0) (L.W _) (S.W _) F.1 (by omega) upd_eq (fun _ => stJ_0) (F.2 _ _ _ (L.W _) (S.W _) (R.thr (by omega) (by omega) _))
  · refine bL_law_1105 ⟨(S.Z z).K, (S.Z z).vi (k := 1) (by omega) (by omega), F.1.1, F.1.2, K19 (L.Z z), ?_⟩
    rw [(S.Z z).ag (k := 1) (by omega), HN_mS]
    exact c9_known (L.Z z) f0 (fun s' hs' ea' => absurd hB (by rw [ea', siB_n (by omega) hs']; simp)) (fun _ => tl_known (kx := 1) (L.Z z) (S.Z z) F.1 (by omega) upd_eq (fun e => absurd e (by omega)) (F.2 _ _ _ (L.Z z) (S.Z z) (R.thr (by omega) (by omega) _)))

theorem op_own (L : Lay n ad h0) (S : Sx h0 a0 a3 Ln xs) (R : RWx n t cs pm lc mc c ol ty) (hi : i + 6 ≤ Ln) (hLn : Ln ≤ 3073) (F : FinL n t ad a0 a3 Ln xs MC MS Q (nI i) NC NS) : CKi mL_own 8 2 12 [some (.ref (ad gEc)), some (.int (xs (i + 1))), some (.int (xs (i + 2))), some (.ref a3), none] (HN h0 ad cs pm) (fun w h' => Wm mL_law 11 MC MS Q 1167 [some (.ref a0), some (.ref (ad gEc)), some (.ref (ad (gMo 0))), some (.ref a3), some (.int (nI i)), none, none] [.int w] h' NC NS) := by
  obtain ⟨rE, rH, rR, rP, rS, ⟨f0, f4, f6⟩, rt, rg, rx⟩ := id R
  have hn := L.1
  have hS0 := rH.1 0 (by omega)
  have hW := rP.W
  intro Qc kq
  refine bL_own_0 (mcn := 1) (msn := 6) ⟨by omega, by omega, K18 L, c8_own L rE hS0 rR hW (fun s k hs hk ea eb => bL_own_8 ⟨S.J.1, S.J.2, by omega, by omega, kq _ _ ?_⟩) (fun hB z hz => ⟨13, by simp, fun q => bL_own_13 ⟨by omega, by omega, kq _ _ ?_⟩⟩)⟩
  · rw [HN_stJ]
    refine bL_law_1167 ⟨(S.W _).K, (S.W _).vi (k := 1) (by omega) (by omega), (S.W _).vi (k := 2) (by omega) (by omega), F.1.1, F.1.2, K19 (L.W _), ?_⟩
    rw [(S.W _).ag (k := 1) (by omega), (S.W _).ag (k := 2) (by omega), HN_mS]
    refine c9_own (lc := lc) (L.W _) f0 hW (fun s' k' hs' hk' ea' eb' => ?_) (fun hB => absurd hB (by rw [ea, eb, skB hn hs hk]; simp))
    obtain rfl : s' = s := by rw [ea, nI_inj5 (by omega) (by omega)] at ea'; exact ea'.symm
    obtain rfl : k' = k := by rw [eb, nI_inj5 (by omega) (by omega)] at eb'; exact eb'.symm
    exact tl_own (kx := 0) (L.W _) (S.W _) F.1 (by omega) upd_eq (fun _ => stJ_0) (F.2 _ _ _ (L.W _) (S.W _) (R.thr (by omega) (by omega) _))
  · refine bL_law_1167 ⟨(S.Z z).K, (S.Z z).vi (k := 1) (by omega) (by omega), (S.Z z).vi (k := 2) (by omega) (by omega), F.1.1, F.1.2, K19 (L.Z z), ?_⟩
    rw [(S.Z z).ag (k := 1) (by omega), (S.Z z).ag (k := 2) (by omega), HN_mS]
    exact c9_own (lc := lc) (L.Z z) f0 hW (fun s' k' hs' hk' ea' eb' => absurd hB (by rw [ea', eb', skB hn hs' hk']; simp)) (fun _ => tl_own (kx := 1) (L.Z z) (S.Z z) F.1 (by omega) upd_eq (fun e => absurd e (by omega)) (F.2 _ _ _ (L.Z z) (S.Z z) (R.thr (by omega) (by omega) _)))

theorem op_available (L : Lay n ad h0) (S : Sx h0 a0 a3 Ln xs) (R : RWx n t cs pm lc mc c ol ty) (hi : i + 6 ≤ Ln) (hLn : Ln ≤ 3073) (F : FinL n t ad a0 a3 Ln xs MC MS Q (nI i) NC NS) : CKi mL_available 8 2 12 [some (.ref (ad gEc)), some (.int (xs (i + 1))), some (.int (xs (i + 2))), some (.ref a3), none] (HN h0 ad cs pm) (fun w h' => Wm mL_law 11 MC MS Q 1235 [some (.ref a0), some (.ref (ad gEc)), some (.ref (ad (gMo 0))), some (.ref a3), some (.int (nI i)), none, none] [.int w] h' NC NS) := by
  obtain ⟨rE, rH, rR, rP, rS, ⟨f0, f4, f6⟩, rt, rg, rx⟩ := id R
  have hn := L.1
  have hS0 := rH.1 0 (by omega)
  have hW := rP.W
  intro Qc kq
  refine bL_available_0 (mcn := 1) (msn := 6) ⟨by omega, by omega, K18 L, c8_available L rE hS0 rR hW (fun s k hs hk ea eb => bL_available_8 ⟨S.J.1, S.J.2, by omega, by omega, kq _ _ ?_⟩) (fun hB z hz => ⟨13, by simp, fun q => bL_available_13 ⟨by omega, by omega, kq _ _ ?_⟩⟩)⟩
  · rw [HN_stJ]
    refine bL_law_1235 ⟨(S.W _).K, (S.W _).vi (k := 1) (by omega) (by omega), (S.W _).vi (k := 2) (by omega) (by omega), F.1.1, F.1.2, K19 (L.W _), ?_⟩
    rw [(S.W _).ag (k := 1) (by omega), (S.W _).ag (k := 2) (by omega), HN_mS]
    refine c9_available (lc := lc) (L.W _) f0 hW (fun s' k' hs' hk' ea' eb' => ?_) (fun hB => absurd hB (by rw [ea, eb, skB hn hs hk]; simp))
    obtain rfl : s' = s := by rw [ea, nI_inj5 (by omega) (by omega)] at ea'; exact ea'.symm
    obtain rfl : k' = k := by rw [eb, nI_inj5 (by omega) (by omega)] at eb'; exact eb'.symm
    exact tl_available (kx := 0) (L.W _) (S.W _) F.1 (by omega) upd_eq (fun _ => stJ_0) (F.2 _ _ _ (L.W _) (S.W _) (R.thr (by omega) (by omega) _))
  · refine bL_law_1235 ⟨(S.Z z).K, (S.Z z).vi (k := 1) (by omega) (by omega), (S.Z z).vi (k := 2) (by omega) (by omega), F.1.1, F.1.2, K19 (L.Z z), ?_⟩
    rw [(S.Z z).ag (k := 1) (by omega), (S.Z z).ag (k := 2) (by omega), HN_mS]
    exact c9_available (lc := lc) (L.Z z) f0 hW (fun s' k' hs' hk' ea' eb' => absurd hB (by rw [ea', eb', skB hn hs' hk']; simp)) (fun _ => tl_available (kx := 1) (L.Z z) (S.Z z) F.1 (by omega) upd_eq (fun e => absurd e (by omega)) (F.2 _ _ _ (L.Z z) (S.Z z) (R.thr (by omega) (by omega) _)))

theorem op_dormant (L : Lay n ad h0) (S : Sx h0 a0 a3 Ln xs) (R : RWx n t cs pm lc mc c ol ty) (hi : i + 6 ≤ Ln) (hLn : Ln ≤ 3073) (F : FinL n t ad a0 a3 Ln xs MC MS Q (nI i) NC NS) : CKi mL_dormant 7 2 12 [some (.ref (ad gEc)), some (.int (xs (i + 1))), some (.ref a3), none] (HN h0 ad cs pm) (fun w h' => Wm mL_law 11 MC MS Q 1297 [some (.ref a0), some (.ref (ad gEc)), some (.ref (ad (gMo 0))), some (.ref a3), some (.int (nI i)), none, none] [.int w] h' NC NS) := by
  obtain ⟨rE, rH, rR, rP, rS, ⟨f0, f4, f6⟩, rt, rg, rx⟩ := id R
  have hn := L.1
  have hS0 := rH.1 0 (by omega)
  have hW := rP.W
  intro Qc kq
  refine bL_dormant_0 (mcn := 1) (msn := 6) ⟨by omega, by omega, K18 L, c8_dormant L hS0 rR hW (fun k hk eb => bL_dormant_7 ⟨S.J.1, S.J.2, by omega, by omega, kq _ _ ?_⟩) (fun hB z hz => ⟨12, by simp, fun q => bL_dormant_12 ⟨by omega, by omega, kq _ _ ?_⟩⟩)⟩
  · rw [HN_stJ]
    refine bL_law_1297 ⟨(S.W _).K, (S.W _).vi (k := 1) (by omega) (by omega), F.1.1, F.1.2, K19 (L.W _), ?_⟩
    rw [(S.W _).ag (k := 1) (by omega), HN_mS]
    refine c9_dormant (lc := lc) (L.W _) f0 hW (fun k' hk' eb' => ?_) (fun hB => absurd hB (by rw [eb, kB hk]; simp))
    obtain rfl : k' = k := by rw [eb, nI_inj5 (by omega) (by omega)] at eb'; exact eb'.symm
    exact tl_dormant (kx := 0) (L.W _) (S.W _) F.1 (by omega) upd_eq (fun _ => stJ_0) (F.2 _ _ _ (L.W _) (S.W _) (R.thr (by omega) (by omega) _))
  · refine bL_law_1297 ⟨(S.Z z).K, (S.Z z).vi (k := 1) (by omega) (by omega), F.1.1, F.1.2, K19 (L.Z z), ?_⟩
    rw [(S.Z z).ag (k := 1) (by omega), HN_mS]
    exact c9_dormant (lc := lc) (L.Z z) f0 hW (fun k' hk' eb' => absurd hB (by rw [eb', kB hk']; simp)) (fun _ => tl_dormant (kx := 1) (L.Z z) (S.Z z) F.1 (by omega) upd_eq (fun e => absurd e (by omega)) (F.2 _ _ _ (L.Z z) (S.Z z) (R.thr (by omega) (by omega) _)))

theorem op_demand (L : Lay n ad h0) (S : Sx h0 a0 a3 Ln xs) (R : RWx n t cs pm lc mc c ol ty) (hi : i + 6 ≤ Ln) (hLn : Ln ≤ 3073) (F : FinL n t ad a0 a3 Ln xs MC MS Q (nI i) NC NS) : CKi mL_demand 8 2 12 [some (.ref (ad gEc)), some (.int (xs (i + 1))), some (.int (xs (i + 2))), some (.int (xs (i + 3))), some (.ref a3), none] (HN h0 ad cs pm) (fun w h' => Wm mL_law 11 MC MS Q 1365 [some (.ref a0), some (.ref (ad gEc)), some (.ref (ad (gMo 0))), some (.ref a3), some (.int (nI i)), none, none] [.int w] h' NC NS) := by
  obtain ⟨rE, rH, rR, rP, rS, ⟨f0, f4, f6⟩, rt, rg, rx⟩ := id R
  have hn := L.1
  have hS0 := rH.1 0 (by omega)
  have hW := rP.W
  intro Qc kq
  refine bL_demand_0 (mcn := 2) (msn := 12) ⟨by omega, by omega, K18 L, c8_demand L rE rR (fun s o k hs ho hk ea eb ec => bL_demand_10 ⟨S.J.1, S.J.2, by omega, by omega, kq _ _ ?_⟩) (fun hB z hz => ⟨15, by simp, fun q => bL_demand_15 ⟨by omega, by omega, kq _ _ ?_⟩⟩)⟩
  · rw [HN_stJ]
    refine bL_law_1365 ⟨(S.W _).K, (S.W _).vi (k := 1) (by omega) (by omega), (S.W _).vi (k := 2) (by omega) (by omega), (S.W _).vi (k := 3) (by omega) (by omega), F.1.1, F.1.2, K19 (L.W _), ?_⟩
    rw [(S.W _).ag (k := 1) (by omega), (S.W _).ag (k := 2) (by omega), (S.W _).ag (k := 3) (by omega), HN_mS]
    refine c9_demand (L.W _) f0 (fun s' o' k' hs' ho' hk' ea' eb' ec' => ?_) (fun hB => absurd hB (by rw [ea, eb, ec, siB_n (by omega) hs, skB hn ho hk]; simp))
    obtain rfl : s' = s := by rw [ea, nI_inj5 (by omega) (by omega)] at ea'; exact ea'.symm
    obtain rfl : o' = o := by rw [eb, nI_inj5 (by omega) (by omega)] at eb'; exact eb'.symm
    obtain rfl : k' = k := by rw [ec, nI_inj5 (by omega) (by omega)] at ec'; exact ec'.symm
    exact tl_demand (kx := 0) (L.W _) (S.W _) F.1 (by omega) upd_eq (fun _ => stJ_0) (F.2 _ _ _ (L.W _) (S.W _) (R.thr (by omega) (by omega) _))
  · refine bL_law_1365 ⟨(S.Z z).K, (S.Z z).vi (k := 1) (by omega) (by omega), (S.Z z).vi (k := 2) (by omega) (by omega), (S.Z z).vi (k := 3) (by omega) (by omega), F.1.1, F.1.2, K19 (L.Z z), ?_⟩
    rw [(S.Z z).ag (k := 1) (by omega), (S.Z z).ag (k := 2) (by omega), (S.Z z).ag (k := 3) (by omega), HN_mS]
    exact c9_demand (L.Z z) f0 (fun s' o' k' hs' ho' hk' ea' eb' ec' => absurd hB (by rw [ea', eb', ec', siB_n (by omega) hs', skB hn ho' hk']; simp)) (fun _ => tl_demand (kx := 1) (L.Z z) (S.Z z) F.1 (by omega) upd_eq (fun e => absurd e (by omega)) (F.2 _ _ _ (L.Z z) (S.Z z) (R.thr (by omega) (by omega) _)))

theorem op_version (L : Lay n ad h0) (S : Sx h0 a0 a3 Ln xs) (R : RWx n t cs pm lc mc c ol ty) (hi : i + 6 ≤ Ln) (hLn : Ln ≤ 3073) (F : FinL n t ad a0 a3 Ln xs MC MS Q (nI i) NC NS) : CKi mL_version 8 2 12 [some (.ref (ad gEc)), some (.int (xs (i + 1))), some (.int (xs (i + 2))), some (.ref a3), none] (HN h0 ad cs pm) (fun w h' => Wm mL_law 11 MC MS Q 1439 [some (.ref a0), some (.ref (ad gEc)), some (.ref (ad (gMo 0))), some (.ref a3), some (.int (nI i)), none, none] [.int w] h' NC NS) := by
  obtain ⟨rE, rH, rR, rP, rS, ⟨f0, f4, f6⟩, rt, rg, rx⟩ := id R
  have hn := L.1
  have hS0 := rH.1 0 (by omega)
  have hW := rP.W
  intro Qc kq
  refine bL_version_0 (mcn := 2) (msn := 12) ⟨by omega, by omega, K18 L, c8_version L rE rR (fun s o hs ho ea eb => bL_version_8 ⟨S.J.1, S.J.2, by omega, by omega, kq _ _ ?_⟩) (fun hB z hz => ⟨13, by simp, fun q => bL_version_13 ⟨by omega, by omega, kq _ _ ?_⟩⟩)⟩
  · rw [HN_stJ]
    refine bL_law_1439 ⟨(S.W _).K, (S.W _).vi (k := 1) (by omega) (by omega), (S.W _).vi (k := 2) (by omega) (by omega), F.1.1, F.1.2, K19 (L.W _), ?_⟩
    rw [(S.W _).ag (k := 1) (by omega), (S.W _).ag (k := 2) (by omega), HN_mS]
    refine c9_version (L.W _) f0 (fun s' o' hs' ho' ea' eb' => ?_) (fun hB => absurd hB (by rw [ea, eb, siB_n (by omega) hs, siB_n (by omega) ho]; simp))
    obtain rfl : s' = s := by rw [ea, nI_inj5 (by omega) (by omega)] at ea'; exact ea'.symm
    obtain rfl : o' = o := by rw [eb, nI_inj5 (by omega) (by omega)] at eb'; exact eb'.symm
    exact tl_version (kx := 0) (L.W _) (S.W _) F.1 (by omega) upd_eq (fun _ => stJ_0) (F.2 _ _ _ (L.W _) (S.W _) (R.thr (by omega) (by omega) _))
  · refine bL_law_1439 ⟨(S.Z z).K, (S.Z z).vi (k := 1) (by omega) (by omega), (S.Z z).vi (k := 2) (by omega) (by omega), F.1.1, F.1.2, K19 (L.Z z), ?_⟩
    rw [(S.Z z).ag (k := 1) (by omega), (S.Z z).ag (k := 2) (by omega), HN_mS]
    exact c9_version (L.Z z) f0 (fun s' o' hs' ho' ea' eb' => absurd hB (by rw [ea', eb', siB_n (by omega) hs', siB_n (by omega) ho']; simp)) (fun _ => tl_version (kx := 1) (L.Z z) (S.Z z) F.1 (by omega) upd_eq (fun e => absurd e (by omega)) (F.2 _ _ _ (L.Z z) (S.Z z) (R.thr (by omega) (by omega) _)))

theorem op_copyTime (L : Lay n ad h0) (S : Sx h0 a0 a3 Ln xs) (R : RWx n t cs pm lc mc c ol ty) (hi : i + 6 ≤ Ln) (hLn : Ln ≤ 3073) (F : FinL n t ad a0 a3 Ln xs MC MS Q (nI i) NC NS) : CKi mL_copyTime 8 2 12 [some (.ref (ad gEc)), some (.int (xs (i + 1))), some (.int (xs (i + 2))), some (.ref a3), none] (HN h0 ad cs pm) (fun w h' => Wm mL_law 11 MC MS Q 1507 [some (.ref a0), some (.ref (ad gEc)), some (.ref (ad (gMo 0))), some (.ref a3), some (.int (nI i)), none, none] [.int w] h' NC NS) := by
  obtain ⟨rE, rH, rR, rP, rS, ⟨f0, f4, f6⟩, rt, rg, rx⟩ := id R
  have hn := L.1
  have hS0 := rH.1 0 (by omega)
  have hW := rP.W
  intro Qc kq
  refine bL_copyTime_0 (mcn := 2) (msn := 12) ⟨by omega, by omega, K18 L, c8_copyTime L rE rR (fun s o hs ho ea eb => bL_copyTime_8 ⟨S.J.1, S.J.2, by omega, by omega, kq _ _ ?_⟩) (fun hB z hz => ⟨13, by simp, fun q => bL_copyTime_13 ⟨by omega, by omega, kq _ _ ?_⟩⟩)⟩
  · rw [HN_stJ]
    refine bL_law_1507 ⟨(S.W _).K, (S.W _).vi (k := 1) (by omega) (by omega), (S.W _).vi (k := 2) (by omega) (by omega), F.1.1, F.1.2, K19 (L.W _), ?_⟩
    rw [(S.W _).ag (k := 1) (by omega), (S.W _).ag (k := 2) (by omega), HN_mS]
    refine c9_copyTime (L.W _) f0 (fun s' o' hs' ho' ea' eb' => ?_) (fun hB => absurd hB (by rw [ea, eb, siB_n (by omega) hs, siB_n (by omega) ho]; simp))
    obtain rfl : s' = s := by rw [ea, nI_inj5 (by omega) (by omega)] at ea'; exact ea'.symm
    obtain rfl : o' = o := by rw [eb, nI_inj5 (by omega) (by omega)] at eb'; exact eb'.symm
    exact tl_copyTime (kx := 0) (L.W _) (S.W _) F.1 (by omega) upd_eq (fun _ => stJ_0) (F.2 _ _ _ (L.W _) (S.W _) (R.thr (by omega) (by omega) _))
  · refine bL_law_1507 ⟨(S.Z z).K, (S.Z z).vi (k := 1) (by omega) (by omega), (S.Z z).vi (k := 2) (by omega) (by omega), F.1.1, F.1.2, K19 (L.Z z), ?_⟩
    rw [(S.Z z).ag (k := 1) (by omega), (S.Z z).ag (k := 2) (by omega), HN_mS]
    exact c9_copyTime (L.Z z) f0 (fun s' o' hs' ho' ea' eb' => absurd hB (by rw [ea', eb', siB_n (by omega) hs', siB_n (by omega) ho']; simp)) (fun _ => tl_copyTime (kx := 1) (L.Z z) (S.Z z) F.1 (by omega) upd_eq (fun e => absurd e (by omega)) (F.2 _ _ _ (L.Z z) (S.Z z) (R.thr (by omega) (by omega) _)))

theorem op_message (L : Lay n ad h0) (S : Sx h0 a0 a3 Ln xs) (R : RWx n t cs pm lc mc c ol ty) (hi : i + 6 ≤ Ln) (hLn : Ln ≤ 3073) (F : FinL n t ad a0 a3 Ln xs MC MS Q (nI i) NC NS) : CKi mL_message 8 2 12 [some (.ref (ad gEc)), some (.int (xs (i + 1))), some (.int (xs (i + 2))), some (.ref a3), none] (HN h0 ad cs pm) (fun w h' => Wm mL_law 11 MC MS Q 1017 [some (.ref a0), some (.ref (ad gEc)), some (.ref (ad (gMo 0))), some (.ref a3), some (.int (nI i)), none, none] [.int w] h' NC NS) := by
  obtain ⟨rE, rH, rR, rP, rS, ⟨f0, f4, f6⟩, rt, rg, rx⟩ := id R
  have hn := L.1
  have hS0 := rH.1 0 (by omega)
  have hW := rP.W
  intro Qc kq
  refine bL_message_0 (mcn := 2) (msn := 12) ⟨by omega, by omega, K18 L, c8_message L hS0 rR (fun m w hm hw ea eb => bL_message_8 ⟨S.J.1, S.J.2, by omega, by omega, kq _ _ ?_⟩) (fun hB z hz => ⟨13, by simp, fun q => bL_message_13 ⟨by omega, by omega, kq _ _ ?_⟩⟩)⟩
  · rw [HN_stJ]
    refine bL_law_1017 ⟨(S.W _).K, (S.W _).vi (k := 1) (by omega) (by omega), (S.W _).vi (k := 2) (by omega) (by omega), F.1.1, F.1.2, K19 (L.W _), ?_⟩
    rw [(S.W _).ag (k := 1) (by omega), (S.W _).ag (k := 2) (by omega), HN_mS]
    refine c9_message (mc := mc) (L.W _) rR.2.1.2.1 rR.2.1.2.2.2 (fun m' w' hm' hw' ea' eb' => ?_) (fun hB => absurd hB (by rw [ea, eb, inB3, miN (by have := rR.2.1.2.2.2; omega) hm, miN (by omega) hw]; simp))
    have h8 := rR.2.1.2.2.2
    obtain rfl : m' = m := by rw [ea, nI_inj5 (by omega) (by omega)] at ea'; exact ea'.symm
    obtain rfl : w' = w := by rw [eb, nI_inj5 (by omega) (by omega)] at eb'; exact eb'.symm
    exact tl_message (kx := 0) (L.W _) (S.W _) F.1 (by omega) upd_eq (fun _ => stJ_0) (F.2 _ _ _ (L.W _) (S.W _) (R.thr (by omega) (by omega) _))
  · refine bL_law_1017 ⟨(S.Z z).K, (S.Z z).vi (k := 1) (by omega) (by omega), (S.Z z).vi (k := 2) (by omega) (by omega), F.1.1, F.1.2, K19 (L.Z z), ?_⟩
    rw [(S.Z z).ag (k := 1) (by omega), (S.Z z).ag (k := 2) (by omega), HN_mS]
    exact c9_message (mc := mc) (L.Z z) rR.2.1.2.1 rR.2.1.2.2.2 (fun m' w' hm' hw' ea' eb' => absurd hB (by rw [ea', eb', inB3, miN (by have := rR.2.1.2.2.2; omega) hm', miN (by omega) hw']; simp)) (fun _ => tl_message (kx := 1) (L.Z z) (S.Z z) F.1 (by omega) upd_eq (fun e => absurd e (by omega)) (F.2 _ _ _ (L.Z z) (S.Z z) (R.thr (by omega) (by omega) _)))

theorem op_loan (L : Lay n ad h0) (S : Sx h0 a0 a3 Ln xs) (R : RWx n t cs pm lc mc c ol ty) (hi : i + 6 ≤ Ln) (hLn : Ln ≤ 3073) (F : FinL n t ad a0 a3 Ln xs MC MS Q (nI i) NC NS) : CKi mL_loan 7 2 12 [some (.ref (ad gEc)), some (.int (xs (i + 1))), some (.int (xs (i + 2))), some (.ref a3), none] (HN h0 ad cs pm) (fun w h' => Wm mL_law 11 MC MS Q 1588 [some (.ref a0), some (.ref (ad gEc)), some (.ref (ad (gMo 0))), some (.ref a3), some (.int (nI i)), none, none] [.int w] h' NC NS) := by
  obtain ⟨rE, rH, rR, rP, rS, ⟨f0, f4, f6⟩, rt, rg, rx⟩ := id R
  have hn := L.1
  have hS0 := rH.1 0 (by omega)
  have hW := rP.W
  intro Qc kq
  refine bL_loan_0 (mcn := 1) (msn := 6) ⟨by omega, by omega, K18 L, c8_loan L hS0 rR hW (fun l w hl hw ea eb => bL_loan_8 ⟨S.J.1, S.J.2, by omega, by omega, kq _ _ ?_⟩) (fun hB z hz => ⟨13, by simp, fun q => bL_loan_13 ⟨by omega, by omega, kq _ _ ?_⟩⟩)⟩
  · rw [HN_stJ]
    refine bL_law_1588 ⟨(S.W _).K, (S.W _).vi (k := 1) (by omega) (by omega), (S.W _).vi (k := 2) (by omega) (by omega), F.1.1, F.1.2, K19 (L.W _), ?_⟩
    rw [(S.W _).ag (k := 1) (by omega), (S.W _).ag (k := 2) (by omega), HN_mS]
    refine c9_loan (lc := lc) (L.W _) hW (fun l' w' hl' hw' ea' eb' => ?_) (fun hB => absurd hB (by rw [ea, eb, inB8, ← miB, miN (by have := hW.2.1; omega) hl, miN (by omega) hw]; simp))
    have h8 := hW.2.1
    obtain rfl : l' = l := by rw [ea, nI_inj5 (by omega) (by omega)] at ea'; exact ea'.symm
    obtain rfl : w' = w := by rw [eb, nI_inj5 (by omega) (by omega)] at eb'; exact eb'.symm
    exact tl_loan (kx := 0) (L.W _) (S.W _) F.1 (by omega) upd_eq (fun _ => stJ_0) (F.2 _ _ _ (L.W _) (S.W _) (R.thr (by omega) (by omega) _))
  · refine bL_law_1588 ⟨(S.Z z).K, (S.Z z).vi (k := 1) (by omega) (by omega), (S.Z z).vi (k := 2) (by omega) (by omega), F.1.1, F.1.2, K19 (L.Z z), ?_⟩
    rw [(S.Z z).ag (k := 1) (by omega), (S.Z z).ag (k := 2) (by omega), HN_mS]
    exact c9_loan (lc := lc) (L.Z z) hW (fun l' w' hl' hw' ea' eb' => absurd hB (by rw [ea', eb', inB8, ← miB, miN (by have := hW.2.1; omega) hl', miN (by omega) hw']; simp)) (fun _ => tl_loan (kx := 1) (L.Z z) (S.Z z) F.1 (by omega) upd_eq (fun e => absurd e (by omega)) (F.2 _ _ _ (L.Z z) (S.Z z) (R.thr (by omega) (by omega) _)))

theorem op_helpers (L : Lay n ad h0) (S : Sx h0 a0 a3 Ln xs) (R : RWx n t cs pm lc mc c ol ty) (hi : i + 6 ≤ Ln) (hLn : Ln ≤ 3073) (F : FinL n t ad a0 a3 Ln xs MC MS Q (nI i) NC NS) : CKi mL_helpers 8 2 12 [some (.ref (ad gEc)), some (.int (xs (i + 1))), some (.int (xs (i + 2))), some (.int (xs (i + 3))), some (.ref a3), none] (HN h0 ad cs pm) (fun w h' => Wm mL_law 11 MC MS Q 1662 [some (.ref a0), some (.ref (ad gEc)), some (.ref (ad (gMo 0))), some (.ref a3), some (.int (nI i)), none, none] [.int w] h' NC NS) := by
  obtain ⟨rE, rH, rR, rP, rS, ⟨f0, f4, f6⟩, rt, rg, rx⟩ := id R
  have hn := L.1
  have hS0 := rH.1 0 (by omega)
  have hW := rP.W
  intro Qc kq
  have hlt : heF n (xs (i + 1)) (xs (i + 2)) (xs (i + 3)) < 3 := by
    unfold heF
    split
    · omega
    · split <;> omega
  have ok : ∀ s k, s < n → k < 2 → xs (i + 1) = nI s → xs (i + 2) = nI k → inB (xs (i + 3)) (nI 0) (nI 30000) = true → heF n (xs (i + 1)) (xs (i + 2)) (xs (i + 3)) = 0 := by
    intro s k hs hk ea eb hx
    rw [heF, ea, eb, siB_n (by omega) hs, kB hk, if_neg (by simp), if_neg (by rw [hx]; simp)]
  have ref : heF n (xs (i + 1)) (xs (i + 2)) (xs (i + 3)) ≠ 0 → ∀ z, Wm mL_law 11 MC MS Q 1662 [some (.ref a0), some (.ref (ad gEc)), some (.ref (ad (gMo 0))), some (.ref a3), some (.int (nI i)), none, none] [.int (nI (heF n (xs (i + 1)) (xs (i + 2)) (xs (i + 3))))] (HN (stZ h0 z) ad cs pm) NC NS := by
    intro hne z
    refine bL_law_1662 ⟨(S.Z z).K, (S.Z z).vi (k := 1) (by omega) (by omega), (S.Z z).vi (k := 2) (by omega) (by omega), (S.Z z).vi (k := 3) (by omega) (by omega), F.1.1, F.1.2, K19 (L.Z z), ?_⟩
    rw [(S.Z z).ag (k := 1) (by omega), (S.Z z).ag (k := 2) (by omega), (S.Z z).ag (k := 3) (by omega), HN_mS]
    exact c9_helpers (lc := lc) (L.Z z) f0 hW (fun s k hs hk ea eb hx => absurd (ok s k hs hk ea eb hx) hne) (fun _ => tl_helpers (L.Z z) (S.Z z) F.1 (by omega) upd_eq (fun e => absurd e hne) (F.2 _ _ _ (L.Z z) (S.Z z) (R.thr (by omega) (by omega) _)))
  refine bL_helpers_0 (mcn := 2) (msn := 12) ⟨by omega, by omega, K18 L, c8_helpers L rE hS0 rR hW (fun s k hs hk ea eb hx => bL_helpers_10 ⟨S.J.1, S.J.2, by omega, by omega, kq _ _ ?_⟩) (fun hne z hz => ?_)⟩
  · rw [HN_stJ]
    refine bL_law_1662 ⟨(S.W _).K, (S.W _).vi (k := 1) (by omega) (by omega), (S.W _).vi (k := 2) (by omega) (by omega), (S.W _).vi (k := 3) (by omega) (by omega), F.1.1, F.1.2, K19 (L.W _), ?_⟩
    rw [(S.W _).ag (k := 1) (by omega), (S.W _).ag (k := 2) (by omega), (S.W _).ag (k := 3) (by omega), HN_mS]
    refine c9_helpers (lc := lc) (L.W _) f0 hW (fun s' k' hs' hk' ea' eb' hx' => ?_) (fun hne => absurd (ok s k hs hk ea eb hx) hne)
    obtain rfl : s' = s := by rw [ea, nI_inj5 (by omega) (by omega)] at ea'; exact ea'.symm
    obtain rfl : k' = k := by rw [eb, nI_inj5 (by omega) (by omega)] at eb'; exact eb'.symm
    exact tl_helpers (kx := 0) (L.W _) (S.W _) F.1 (by omega) upd_eq (fun _ => by rw [stJ_0, rP.he hn hs hk hx]) (F.2 _ _ _ (L.W _) (S.W _) (R.thr (by omega) (by omega) _))
  · have h3 : heF n (xs (i + 1)) (xs (i + 2)) (xs (i + 3)) = 1 ∨ heF n (xs (i + 1)) (xs (i + 2)) (xs (i + 3)) = 2 := by omega
    have r := ref hne z
    rcases h3 with e | e
    · rw [e] at r ⊢
      exact ⟨15, by simp, fun q => bL_helpers_15 ⟨by omega, by omega, kq _ _ r⟩⟩
    · rw [e] at r ⊢
      exact ⟨19, by simp, fun q => bL_helpers_19 ⟨by omega, by omega, kq _ _ r⟩⟩

end LC

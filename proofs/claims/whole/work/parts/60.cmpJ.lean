/-! THE CLASS: a message is handed over; a state is copied, begun anew -/
section CJ
variable {n lc mc : Nat} {ad : Nat → Nat} {h0 : Hp} {cs cs' : Nat → Nat → Int32} {pm : Nat → Nat → Nat} {k k0 k1 s o l t m : Nat} {v v' : Nat → Int32}
theorem arV_rc (hn : n ≤ 5) (ht : t < n) (hs : s < n) (ho : o < n) {x : Nat} (hx : x < 27) : arV v m t n (rcA s o + x) = if s = t ∧ rpB v m t o = true then v (mgA m + 3 + 30 * o + x) else v (rcA s o + x) := by
  unfold arV
  by_cases c : s = t
  · subst c
    have e : (rcA s o + x - rcA s 0) / 30 = o := by rw [rcA_i s o]; omega
    have e2 : rcA s o + x - rcA s 0 = 30 * o + x := by rw [rcA_i s o]; omega
    have b : rcA s 0 ≤ rcA s o + x ∧ rcA s o + x < rcA s n := by rw [rcA_i s o, rcA_i s n]; omega
    rw [e, e2]
    by_cases c2 : rpB v m s o = true
    · rw [if_pos ⟨b, c2⟩, if_pos ⟨rfl, c2⟩]
      exact congrArg v (by omega)
    · rw [if_neg (fun e => c2 e.2), if_neg (fun e => c2 e.2)]
  · rw [if_neg (show ¬ (s = t ∧ rpB v m t o = true) from fun e => c e.1)]
    refine if_neg (fun e => ?_)
    have := e.1
    unfold rcA at this
    omega
theorem arV_y (hn : n ≤ 5) (ht : t < n) (ho : o < n) {x : Nat} (hx : x < 27) (h : rpB v m t o = true) : arV v m t n (rcA t o + x) = v (mgA m + 3 + 30 * o + x) := by
  rw [arV_rc hn ht ht ho hx, if_pos ⟨rfl, h⟩]
theorem arV_z (hn : n ≤ 5) (ht : t < n) (hs : s < n) (ho : o < n) {x : Nat} (hx : x < 27) (h : ¬ (s = t ∧ rpB v m t o = true)) : arV v m t n (rcA s o + x) = v (rcA s o + x) := by
  rw [arV_rc hn ht hs ho hx, if_neg h]
theorem arV_lo (hn : n ≤ 5) (ht : t < n) {j : Nat} (hj : j < 60 ∨ 900 ≤ j) : arV v m t n j = v j := by
  unfold arV
  rw [if_neg]
  intro e
  have := e.1
  unfold rcA at this
  omega
theorem c6_handOver (L : Lay n ad h0) (h0' : S0 n cs pm k) (h : SR n lc mc cs pm k v) (hm : m < mc) (ht : t < n) (hv : v (mgA m + 1) = nI t) {X : Int32 → Hp → Prop} (q : ∀ cs' pm', FrS k cs cs' → (∀ k', k' ≠ k → pm' k' = pm k') → S0 n cs' pm' k → SR n lc (mc - 1) cs' pm' k (goV (arV v m t n) mc m) → X (nI (arN v m t n)) (HN h0 ad cs' pm')) : CKi mX6_handOver 3 0 0 [some (.ref (ad (gSt k))), some (.int (nI m)), none, none] (HN h0 ad cs pm) X := by
  intro Qc kq
  have hb := L.1
  have h0'' := h0'
  obtain ⟨hk, hn, hp1, hp2⟩ := h0'
  have h' := h
  obtain ⟨⟨a1, a2, a3, a4, a5, a6⟩, ⟨b1, b2, b3, b4⟩, c, d, e⟩ := h'
  have hp := hp1 m (by omega)
  obtain ⟨e1, e2⟩ := e m hm
  have eT : cs (gMg k (pm k m)) 1 = nI t := by rw [e1 1 (by omega)]; exact hv
  have eB : ∀ o, o < n → leB cs k t k (5 + pm k m) t o = rpB v m t o := by
    intro o ho
    unfold leB rpB olB
    by_cases c1 : o = t
    · simp [c1]
    · have r0 : rdC cs k t o 0 = v (rcA t o) := h.rd ht ho (by omega) (by omega)
      have r1 : rdC cs k t o 1 = v (rcA t o + 1) := by rw [c t o ht ho 1 (by omega), if_pos rfl, tOf, if_neg (Ne.symm c1)]
      rw [r0, r1, e2 o ho 0 (by omega), e2 o ho 1 (by omega)]
      rfl
  have eN : ∀ i, i ≤ n → leN cs k t k (5 + pm k m) t i = arN v m t i := by
    intro i
    induction i with
    | zero => intro _; rfl
    | succ i ih =>
      intro hi
      rw [leN, arN, ih (by omega), eB i (by omega)]
  refine tX6_handOver_0 L ⟨hk, m, rfl, by omega, hp, t, eT, ht, ?_⟩
  rw [eT]
  refine c7_learn L ⟨hk, Or.inr ⟨by omega, by omega⟩⟩ ⟨hk, Or.inl ht⟩ (by omega) ht (fun D hF hD => tX6_handOver_27 L ⟨hk, ?_⟩)
  rw [eN n (Nat.le_refl _)]
  have rO : ∀ w o x, w < 13 → o < 5 → w ≠ t → rdC D k w o x = rdC cs k w o x := fun w o x hw ho hne => hF.rd (by omega) (by omega) hw (by omega) ho
  have fG : ∀ g, g ≠ g + 1 → (g = gSt k ∨ (∃ l, l < 10 ∧ g = gLn k l) ∨ (∃ j, j < 8 ∧ g = gMg k j)) → D g = cs g := by
    intro g _ hg
    refine hF g (fun o ho => ?_)
    rcases hg with rfl | ⟨l, hl, rfl⟩ | ⟨j, hj, rfl⟩
    · exact ⟨by unfold gSt gRc; omega, fun t ht => by unfold gSt gAr; omega⟩
    · exact ⟨by unfold gLn gRc; omega, fun t ht => by unfold gLn gAr; omega⟩
    · exact ⟨by unfold gMg gRc; omega, fun t ht => by unfold gMg gAr; omega⟩
  have eS : D (gSt k) = cs (gSt k) := fG _ (by omega) (Or.inl rfl)
  have hS2 : S0 n D pm k := ⟨hk, by rw [eS]; exact hn, hp1, hp2⟩
  have hR2 : SR n lc mc D pm k (arV v m t n) := by
    have lo : ∀ j, (j < 60 ∨ 900 ≤ j) → arV v m t n j = v j := fun j hj => arV_lo (by omega) ht hj
    refine ⟨?_, ⟨?_, ?_, b3, b4⟩, ?_, ?_, ?_⟩
    · rw [eS, lo 0 (by omega), lo 1 (by omega), lo 2 (by omega), lo 3 (by omega)]
      exact ⟨a1, a2, a3, a4, a5, a6⟩
    · rw [lo 4 (by omega)]; exact b1
    · rw [lo 5 (by omega)]; exact b2
    · intro s o hs ho x hx
      by_cases c1 : s = t
      · subst c1
        rw [hD o ho x hx, eB o ho]
        by_cases c2 : rpB v m s o = true
        · have so : s ≠ o := by
            intro e9
            subst e9
            simp [rpB] at c2
          rw [if_pos c2, e2 o ho x hx, arV_y (by omega) hs ho hx c2]
          by_cases cx : x = 1
          · subst cx
            rw [if_pos rfl, tOf, if_neg so, arV_y (by omega) hs ho (by omega) c2]
          · rw [if_neg cx]
        · rw [if_neg c2, c s o hs ho x hx, arV_z (by omega) hs hs ho hx (fun e => c2 e.2)]
          unfold tOf
          rw [lo 0 (by omega), arV_z (by omega) hs hs ho (by omega) (fun e => c2 e.2)]
      · rw [rO s o x (by omega) (by omega) c1, c s o hs ho x hx, arV_z (by omega) ht hs ho hx (fun e => c1 e.1)]
        unfold tOf
        rw [lo 0 (by omega), arV_z (by omega) ht hs ho (by omega) (fun e => c1 e.1)]
    · intro l hl x hx
      rw [fG _ (by omega) (Or.inr (Or.inl ⟨l, by omega, rfl⟩)), d l hl x hx, lo]
      unfold lnA; omega
    · intro j hj
      obtain ⟨f1, f2⟩ := e j hj
      have hpj := hp1 j (by omega)
      have hmj := mgA_ge j
      refine ⟨fun x hx => ?_, fun o ho x hx => ?_⟩
      · rw [fG _ (by omega) (Or.inr (Or.inr ⟨pm k j, hpj, rfl⟩)), f1 x hx, lo _ (by omega)]
      · rw [rO _ o x (by omega) (by omega) (by omega), f2 o ho x hx, lo _ (by omega)]
  exact c6_drop L hS2 hR2 hm (fun E pm' hFE hpE hSE hRE => tX6_handOver_33 L (kq _ _ (q E pm' ((hF.S (by omega) (by omega)).trans hFE) hpE hSE hRE)))
theorem c6_copyFrom (L : Lay n ad h0) (h0' : S0 n cs pm k0) (h1' : S0 n cs pm k1) (hne : k1 ≠ k0) (h : SR n lc mc cs pm k1 v) {X : Hp → Prop} (q : ∀ cs', FrS k0 cs cs' → S0 n cs' pm k0 → SR n lc mc cs' pm k0 v → X (HN h0 ad cs' pm)) : CKv mX6_copyFrom 4 0 0 [some (.ref (ad (gSt k0))), some (.ref (ad (gSt k1))), none] (HN h0 ad cs pm) X := by
  intro Qc kq
  have hb := L.1
  obtain ⟨hk0, hn0, hp01, hp02⟩ := h0'
  obtain ⟨hk1, hn1, hp11, hp12⟩ := h1'
  obtain ⟨⟨a1, a2, a3, a4, a5, a6⟩, ⟨b1, b2, b3, b4⟩, c, dl, e⟩ := h
  let P : Nat → Nat → Nat → (Nat → Nat → Int32) → Prop := fun iv il im d => FrS k0 cs d ∧ d (gSt k0) 0 = nI n ∧ (∀ y, 1 ≤ y → y < 7 → d (gSt k0) y = cs (gSt k1) y) ∧ (∀ s o, s < iv → o < n → ∀ x, x < 27 → rdC d k0 s o x = rdC cs k1 s o x) ∧ (∀ l, l < il → ∀ x, x < 5 → d (gLn k0 l) x = cs (gLn k1 l) x) ∧ (∀ j, j < im → (∀ x, x < 3 → d (gMg k0 (pm k0 j)) x = cs (gMg k1 (pm k1 j)) x) ∧ ∀ o, o < n → ∀ x, x < 27 → rdC d k0 (5 + pm k0 j) o x = rdC cs k1 (5 + pm k1 j) o x)
  have oth : ∀ d, FrS k0 cs d → ∀ w o x, w < 13 → o < 5 → rdC d k1 w o x = rdC cs k1 w o x := by
    intro d hF w o x hw ho
    refine rd_same (fun g hg => hF g ?_)
    rcases hg with rfl | ⟨t, ht, rfl⟩
    · unfold gRc; omega
    · unfold gAr; omega
  have lm : ∀ i, i ≤ mc → ∀ d, P n lc i d → Wm mX6_copyFrom 4 0 0 Qc 112 [some (.ref (ad (gSt k0))), some (.ref (ad (gSt k1))), some (.int (nI i))] [] (HN h0 ad d pm) 0 0 := by
    refine loopU mc _ ?_ ?_
    · intro d hd
      obtain ⟨p1, p2, p3, p4, p5, p6⟩ := hd
      refine tX6_copyFrom_112 L ⟨hk0, fun _ => kq _ (q d p1 ⟨hk0, p2, hp01, hp02⟩ ⟨⟨by rw [p3 1 (by omega) (by omega)]; exact a1, by rw [p3 2 (by omega) (by omega)]; exact a2, by rw [p3 3 (by omega) (by omega)]; exact a3, by rw [p3 4 (by omega) (by omega)]; exact a4, by rw [p3 5 (by omega) (by omega)]; exact a5, by rw [p3 6 (by omega) (by omega)]; exact a6⟩, ⟨b1, b2, b3, b4⟩, fun s o hs ho x hx => by rw [p4 s o hs ho x hx]; exact c s o hs ho x hx, fun l hl x hx => by rw [p5 l hl x hx]; exact dl l hl x hx, fun j hj => ⟨fun x hx => by rw [(p6 j hj).1 x hx]; exact (e j hj).1 x hx, fun o ho x hx => by rw [(p6 j hj).2 o ho x hx]; exact (e j hj).2 o ho x hx⟩⟩), fun cc => absurd (by rw [p3 6 (by omega) (by omega), a6]; exact nI_le (Nat.le_refl _) (by omega)) cc⟩
    · intro i hi ih d hd
      obtain ⟨p1, p2, p3, p4, p5, p6⟩ := hd
      have q0 := hp01 i (by omega)
      have q1 := hp11 i (by omega)
      refine tX6_copyFrom_112 L ⟨hk0, fun cc => absurd cc (by rw [p3 6 (by omega) (by omega), a6]; exact nI_ge hi (by omega)), fun _ => ⟨i, rfl, by omega, q0, hk1, q1, c3_copyFrom L hk0 hk1 q0 q1 (by omega) (fun E hF hE1 hE2 => tX6_copyFrom_135 L ?_)⟩⟩
      rw [nI_add]
      have fE : ∀ g, (g = gSt k0 ∨ (∃ l, l < 10 ∧ g = gLn k0 l) ∨ (∃ j, j < 8 ∧ j ≠ pm k0 i ∧ g = gMg k0 j)) → E g = d g := by
        intro g hg
        refine hF g ?_ (fun o ho => ?_)
        · rcases hg with rfl | ⟨l, hl, rfl⟩ | ⟨j, hj, hj2, rfl⟩
          · unfold gSt gMg; omega
          · unfold gLn gMg; omega
          · unfold gMg; omega
        · rcases hg with rfl | ⟨l, hl, rfl⟩ | ⟨j, hj, hj2, rfl⟩
          · exact ⟨by unfold gSt gRc; omega, fun t ht => by unfold gSt gAr; omega⟩
          · exact ⟨by unfold gLn gRc; omega, fun t ht => by unfold gLn gAr; omega⟩
          · exact ⟨by unfold gMg gRc; omega, fun t ht => by unfold gMg gAr; omega⟩
      have rE : ∀ w o x, w < 13 → o < 5 → w ≠ 5 + pm k0 i → rdC E k0 w o x = rdC d k0 w o x := by
        intro w o x hw ho hwe
        refine rd_same (fun g hg => hF g ?_ (fun o' ho' => ?_))
        · rcases hg with rfl | ⟨t, ht, rfl⟩
          · unfold gMg gRc; omega
          · unfold gMg gAr; omega
        · rcases hg with rfl | ⟨t, ht, rfl⟩
          · exact ⟨by unfold gRc; omega, fun t ht => by unfold gRc gAr; omega⟩
          · exact ⟨by unfold gRc gAr; omega, fun t' ht' => by unfold gAr; omega⟩
      refine ih E ⟨?_, ?_, ?_, ?_, ?_, ?_⟩
      · refine p1.trans (fun g hg => hF g ?_ (fun o ho => ⟨?_, fun t ht => ?_⟩))
        · intro e9; apply hg; rw [e9]; unfold gMg; omega
        · intro e9; apply hg; rw [e9]; unfold gRc; omega
        · intro e9; apply hg; rw [e9]; unfold gAr; omega
      · rw [fE _ (Or.inl rfl)]; exact p2
      · intro y h1 h2; rw [fE _ (Or.inl rfl)]; exact p3 y h1 h2
      · intro s o hs ho x hx
        rw [rE s o x (by omega) (by omega) (by omega)]; exact p4 s o hs ho x hx
      · intro l hl x hx
        rw [fE _ (Or.inr (Or.inl ⟨l, by omega, rfl⟩))]; exact p5 l hl x hx
      · intro j hj
        by_cases cj : j = i
        · subst cj
          refine ⟨fun x hx => ?_, fun o ho x hx => ?_⟩
          · rw [hE1 x hx, p1 _ (by unfold gMg; omega)]
          · rw [hE2 o ho x hx]; exact oth d p1 _ o x (by omega) (by omega)
        · have hpne : pm k0 j ≠ pm k0 i := fun e9 => cj (hp02 _ _ (by omega) (by omega) e9)
          have hpj := hp01 j (by omega)
          obtain ⟨f1, f2⟩ := p6 j (by omega)
          refine ⟨fun x hx => ?_, fun o ho x hx => ?_⟩
          · rw [fE _ (Or.inr (Or.inr ⟨pm k0 j, hpj, hpne, rfl⟩))]; exact f1 x hx
          · rw [rE _ o x (by omega) (by omega) (by omega)]; exact f2 o ho x hx
  have ll : ∀ i, i ≤ lc → ∀ d, P n i 0 d → Wm mX6_copyFrom 4 0 0 Qc 81 [some (.ref (ad (gSt k0))), some (.ref (ad (gSt k1))), some (.int (nI i))] [] (HN h0 ad d pm) 0 0 := by
    refine loopU lc _ ?_ ?_
    · intro d hd
      exact tX6_copyFrom_81 L ⟨hk0, fun _ => lm 0 (Nat.zero_le _) d hd, fun cc => absurd (by rw [hd.2.2.1 5 (by omega) (by omega), a5]; exact nI_le (Nat.le_refl _) (by omega)) cc⟩
    · intro i hi ih d hd
      obtain ⟨p1, p2, p3, p4, p5, p6⟩ := hd
      refine tX6_copyFrom_81 L ⟨hk0, fun cc => absurd cc (by rw [p3 5 (by omega) (by omega), a5]; exact nI_ge hi (by omega)), fun _ => ⟨i, rfl, by omega, hk1, c2_copyFrom L hk0 hk1 (by omega) (by omega) (fun E hF hE => tX6_copyFrom_104 L ?_)⟩⟩
      rw [nI_add]
      refine ih E ⟨?_, ?_, ?_, ?_, ?_, fun j hj => absurd hj (by omega)⟩
      · exact p1.trans (fun g hg => hF g (by intro e9; apply hg; rw [e9]; unfold gLn; omega))
      · rw [hF _ (by unfold gSt gLn; omega)]; exact p2
      · intro y h1 h2; rw [hF _ (by unfold gSt gLn; omega)]; exact p3 y h1 h2
      · intro s o hs ho x hx
        rw [← p4 s o hs ho x hx]
        refine rd_same (fun g hg => hF g ?_)
        rcases hg with rfl | ⟨t, ht, rfl⟩
        · unfold gLn gRc; omega
        · unfold gLn gAr; omega
      · intro l hl x hx
        by_cases cl : l = i
        · subst cl
          rw [hE x hx, p1 _ (by unfold gLn; omega)]
        · rw [hF _ (by unfold gLn; omega)]; exact p5 l (by omega) x hx
  have lv : ∀ i, i ≤ n → ∀ d, P i 0 0 d → Wm mX6_copyFrom 4 0 0 Qc 50 [some (.ref (ad (gSt k0))), some (.ref (ad (gSt k1))), some (.int (nI i))] [] (HN h0 ad d pm) 0 0 := by
    refine loopU n _ ?_ ?_
    · intro d hd
      exact tX6_copyFrom_50 L ⟨hk0, fun _ => ll 0 (Nat.zero_le _) d hd, fun cc => absurd (by rw [hd.2.1]; exact nI_le (Nat.le_refl _) (by omega)) cc⟩
    · intro i hi ih d hd
      obtain ⟨p1, p2, p3, p4, p5, p6⟩ := hd
      refine tX6_copyFrom_50 L ⟨hk0, fun cc => absurd cc (by rw [p2]; exact nI_ge hi (by omega)), fun _ => ⟨i, rfl, hi, hk1, c7_copyFrom L ⟨hk1, Or.inl hi⟩ ⟨hk0, Or.inl hi⟩ (by omega) (fun E hF hE => tX6_copyFrom_73 L ?_)⟩⟩
      rw [nI_add]
      have eS : E (gSt k0) = d (gSt k0) := hF _ (fun o ho => ⟨by unfold gSt gRc; omega, fun t ht => by unfold gSt gAr; omega⟩)
      refine ih E ⟨p1.trans (hF.S (by omega) (by omega)), by rw [eS]; exact p2, fun y h1 h2 => by rw [eS]; exact p3 y h1 h2, fun s o hs ho x hx => ?_, fun l hl => absurd hl (by omega), fun j hj => absurd hj (by omega)⟩
      by_cases cs' : s = i
      · subst cs'
        rw [hE o ho x hx]; exact oth d p1 _ o x (by omega) (by omega)
      · rw [hF.rd (by omega) (by omega) (by omega) (by omega) (by omega)]; exact p4 s o (by omega) ho x hx
  refine tX6_copyFrom_0 L ⟨hk1, hk0, lv 0 (Nat.zero_le _) _ ⟨?_, ?_, ?_, fun s o hs => absurd hs (by omega), fun l hl => absurd hl (by omega), fun j hj => absurd hj (by omega)⟩⟩
  · intro g hg
    have g1 : g ≠ gSt k0 := by intro e9; apply hg; rw [e9]; unfold gSt; omega
    funext y
    rw [up2_a g1, up2_a g1, up2_a g1, up2_a g1, up2_a g1, up2_a g1]
  · rw [up2_k (by omega), up2_k (by omega), up2_k (by omega), up2_k (by omega), up2_k (by omega), up2_k (by omega)]; exact hn0
  · intro y h1 h2
    by_cases c6 : y = 6
    · rw [c6, up2_s]
    rw [up2_k c6]
    by_cases c5 : y = 5
    · rw [c5, up2_s]
    rw [up2_k c5]
    by_cases c4 : y = 4
    · rw [c4, up2_s]
    rw [up2_k c4]
    by_cases c3 : y = 3
    · rw [c3, up2_s]
    rw [up2_k c3]
    by_cases c2 : y = 2
    · rw [c2, up2_s]
    rw [up2_k c2, show y = 1 by omega, up2_s]
theorem c6_beginAnew (L : Lay n ad h0) (h0' : S0 n cs pm k) {x y z : Int32} {X : Hp → Prop} (q : ∀ cs', FrS k cs cs' → S0 n cs' pm k → SR n 0 0 cs' pm k (staV v x y z) → X (HN h0 ad cs' pm)) : CKv mX6_beginAnew 2 0 0 [some (.ref (ad (gSt k))), some (.int x), some (.int y), some (.int z), none] (HN h0 ad cs pm) X := by
  intro Qc kq
  have hb := L.1
  obtain ⟨hk, hn, hp1, hp2⟩ := h0'
  have zr : ∀ j, j ≠ 1 → j ≠ 2 → j ≠ 3 → j < 2400 → staV v x y z j = nI 0 := by
    intro j h1 h2 h3 h4
    rw [staV, upd_ne h3, upd_ne h2, upd_ne h1]
    unfold ovw
    rw [if_pos (by omega)]
  let P : Nat → (Nat → Nat → Int32) → Prop := fun i d => FrS k cs d ∧ (d (gSt k) 0 = nI n ∧ d (gSt k) 1 = x ∧ d (gSt k) 2 = y ∧ d (gSt k) 3 = z ∧ d (gSt k) 4 = nI 0 ∧ d (gSt k) 5 = nI 0 ∧ d (gSt k) 6 = nI 0) ∧ (∀ s o, s < i → o < n → ∀ x, x < 27 → rdC d k s o x = nI 0)
  have lv : ∀ i, i ≤ n → ∀ d, P i d → Wm mX6_beginAnew 2 0 0 Qc 33 [some (.ref (ad (gSt k))), none, none, none, some (.int (nI i))] [] (HN h0 ad d pm) 0 0 := by
    refine loopU n _ ?_ ?_
    · intro d hd
      obtain ⟨p1, ⟨p20, p21, p22, p23, p24, p25, p26⟩, p3⟩ := hd
      refine tX6_beginAnew_33 L ⟨hk, fun _ => kq _ (q d p1 ⟨hk, p20, hp1, hp2⟩ ⟨⟨?_, ?_, ?_, ?_, p25, p26⟩, ⟨zr 4 (by omega) (by omega) (by omega) (by omega), zr 5 (by omega) (by omega) (by omega) (by omega), by omega, by omega⟩, fun s o hs ho x hx => ?_, fun l hl => absurd hl (by omega), fun j hj => absurd hj (by omega)⟩), fun cc => absurd (by rw [p20]; exact nI_le (Nat.le_refl _) (by omega)) cc⟩
      · rw [p21, staV, upd_ne (by omega), upd_ne (by omega), upd_eq]
      · rw [p22, staV, upd_ne (by omega), upd_eq]
      · rw [p23, staV, upd_eq]
      · rw [p24, zr 0 (by omega) (by omega) (by omega) (by omega)]
      · have r1 := rcA_ge s o
        have r2 := rcA_lt (s := s) (i := o) (by omega) (by omega)
        rw [p3 s o hs ho x hx]
        unfold tOf
        rw [zr 0 (by omega) (by omega) (by omega) (by omega), zr (rcA s o + 1) (by omega) (by omega) (by omega) (by omega), zr (rcA s o + x) (by omega) (by omega) (by omega) (by omega)]
        split
        · split <;> rfl
        · rfl
    · intro i hi ih d hd
      obtain ⟨p1, p2, p3⟩ := hd
      refine tX6_beginAnew_33 L ⟨hk, fun cc => absurd cc (by rw [p2.1]; exact nI_ge hi (by omega)), fun _ => ⟨i, rfl, hi, c7_clear L ⟨hk, Or.inl hi⟩ (fun E hF hE => tX6_beginAnew_52 L ?_)⟩⟩
      rw [nI_add]
      have eS : E (gSt k) = d (gSt k) := hF _ (fun o ho => ⟨by unfold gSt gRc; omega, fun t ht => by unfold gSt gAr; omega⟩)
      refine ih E ⟨p1.trans (hF.S (by omega) (by omega)), by rw [eS]; exact p2, fun s o hs ho x hx => ?_⟩
      by_cases cs' : s = i
      · subst cs'
        exact hE o ho x hx
      · rw [hF.rd (by omega) (by omega) (by omega) (by omega) (by omega)]; exact p3 s o (by omega) ho x hx
  refine tX6_beginAnew_0 L ⟨hk, lv 0 (Nat.zero_le _) _ ⟨?_, ⟨?_, ?_, ?_, ?_, ?_, ?_, up2_s⟩, fun s o hs => absurd hs (by omega)⟩⟩
  · intro g hg
    have g1 : g ≠ gSt k := by intro e9; apply hg; rw [e9]; unfold gSt; omega
    funext y
    rw [up2_a g1, up2_a g1, up2_a g1, up2_a g1, up2_a g1, up2_a g1]
  · rw [up2_k (by omega), up2_k (by omega), up2_k (by omega), up2_k (by omega), up2_k (by omega), up2_k (by omega)]; exact hn
  · rw [up2_k (by omega), up2_k (by omega), up2_k (by omega), up2_k (by omega), up2_k (by omega), up2_s]
  · rw [up2_k (by omega), up2_k (by omega), up2_k (by omega), up2_k (by omega), up2_s]
  · rw [up2_k (by omega), up2_k (by omega), up2_k (by omega), up2_s]
  · rw [up2_k (by omega), up2_k (by omega), up2_s]
  · rw [up2_k (by omega), up2_s]
end CJ

/-! THE CLASS: a loan is made, time passes -/
section CF
variable {n lc mc : Nat} {ad : Nat → Nat} {h0 : Hp} {cs cs' : Nat → Nat → Int32} {pm : Nat → Nat → Nat} {k s o l t : Nat} {v v' : Nat → Int32}
theorem SR.loan (h : SR n lc mc cs pm k v) (hn : n ≤ 5) (hlc : lc < 10) (hpm : ∀ j, j < 8 → pm k j < 8) (f : ∀ g, g ≠ gLn k lc → g ≠ gSt k → cs' g = cs g) (f2 : ∀ j, j ≠ 5 → cs' (gSt k) j = cs (gSt k) j) (f5 : cs' (gSt k) 5 = nI (lc + 1)) (hx : ∀ x, x < 5 → cs' (gLn k lc) x = v' (lnA lc + x)) (h4 : v' 4 = nI (lc + 1)) (hv : ∀ j, j ≠ 4 → (j < lnA lc ∨ lnA lc + 5 ≤ j) → v' j = v j) : SR n (lc + 1) mc cs' pm k v' := by
  obtain ⟨⟨a1, a2, a3, a4, a5, a6⟩, ⟨b1, b2, b3, b4⟩, c, d, e⟩ := h
  have hln : 10 ≤ lnA lc ∧ lnA lc + 5 ≤ 60 := by unfold lnA; omega
  have rr : ∀ w o x, w < 13 → o < 5 → rdC cs' k w o x = rdC cs k w o x := by
    intro w o x hw ho
    refine rd_same (fun g hg => f g ?_ ?_)
    · rcases hg with rfl | ⟨t, ht, rfl⟩
      · unfold gLn gRc; omega
      · unfold gLn gAr; omega
    · rcases hg with rfl | ⟨t, ht, rfl⟩
      · unfold gSt gRc; omega
      · unfold gSt gAr; omega
  have tO : ∀ s' o', s' < n → o' < n → tOf v' s' o' = tOf v s' o' := by
    intro s' o' hs' ho'
    have := rcA_ge s' o'
    unfold tOf
    rw [hv 0 (by omega) (by omega), hv (rcA s' o' + 1) (by omega) (by omega)]
  refine ⟨⟨?_, ?_, ?_, ?_, f5, ?_⟩, ⟨h4, ?_, by omega, b4⟩, ?_, ?_, ?_⟩
  · rw [f2 1 (by omega), hv 1 (by omega) (by omega)]; exact a1
  · rw [f2 2 (by omega), hv 2 (by omega) (by omega)]; exact a2
  · rw [f2 3 (by omega), hv 3 (by omega) (by omega)]; exact a3
  · rw [f2 4 (by omega), hv 0 (by omega) (by omega)]; exact a4
  · rw [f2 6 (by omega)]; exact a6
  · rw [hv 5 (by omega) (by omega)]; exact b2
  · intro s' o' hs' ho' x hx27
    have := rcA_ge s' o'
    rw [rr s' o' x (by omega) (by omega), c s' o' hs' ho' x hx27, tO s' o' hs' ho', hv (rcA s' o' + x) (by omega) (by omega)]
  · intro l hl x hx5
    by_cases c1 : l = lc
    · rw [c1]; exact hx x hx5
    · rw [f (gLn k l) (by unfold gLn; omega) (by unfold gLn gSt; omega), d l (by omega) x hx5, hv]
      · unfold lnA; omega
      · unfold lnA; omega
  · intro j hj
    obtain ⟨e1, e2⟩ := e j hj
    have hp := hpm j (by omega)
    have hm := mgA_ge j
    refine ⟨fun x hx3 => ?_, fun o' ho' x hx27 => ?_⟩
    · rw [f (gMg k (pm k j)) (by unfold gMg gLn; omega) (by unfold gMg gSt; omega), e1 x hx3, hv _ (by omega) (by omega)]
    · rw [rr (5 + pm k j) o' x (by omega) (by omega), e2 o' ho' x hx27, hv _ (by omega) (by omega)]
theorem c6_makeLoan (L : Lay n ad h0) (h0' : S0 n cs pm k) (h : SR n lc mc cs pm k v) (hlc : lc < 10) (hs : s < n) {x d : Int32} {X : Int32 → Hp → Prop} (q : ∀ cs', FrS k cs cs' → S0 n cs' pm k → SR n (lc + 1) mc cs' pm k (lnV v lc t s o x d) → X (nI lc) (HN h0 ad cs' pm)) : CKi mX6_makeLoan 1 0 0 [some (.ref (ad (gSt k))), some (.int (nI t)), some (.int (nI s)), some (.int (nI o)), some (.int x), some (.int d), none, none, none] (HN h0 ad cs pm) X := by
  intro Qc kq
  have hb := L.1
  have hk := h0'.1
  have hpm := h0'.2.2.1
  have hr := rcA_ge s s
  have hln : 10 ≤ lnA lc ∧ lnA lc + 5 ≤ 60 := by unfold lnA; omega
  have h5 : cs (gSt k) 5 = nI lc := h.1.2.2.2.2.1
  refine tX6_makeLoan_0 L ⟨hk, lc, h5, hlc, ?_⟩
  rw [h5, nI_add, show cs (gSt k) 4 = v 0 from h.1.2.2.2.1]
  have nSL : gSt k ≠ gLn k lc := by unfold gSt gLn; omega
  have hR1 : SR n (lc + 1) mc (up2 (up2 (up2 (up2 (up2 (up2 cs (gLn k lc) 0 (nI s)) (gLn k lc) 1 (nI o)) (gLn k lc) 2 (nI t)) (gLn k lc) 3 x) (gLn k lc) 4 (v 0 + d)) (gSt k) 5 (nI (lc + 1))) pm k (upd (upd (upd (upd (upd (upd v (lnA lc) (nI s)) (lnA lc + 1) (nI o)) (lnA lc + 2) (nI t)) (lnA lc + 3) x) (lnA lc + 4) (v 0 + d)) 4 (nI (lc + 1))) := by
    refine h.loan (by omega) hlc hpm ?_ ?_ up2_s ?_ upd_eq ?_
    · intro g g1 g2
      funext y
      rw [up2_a g2, up2_a g1, up2_a g1, up2_a g1, up2_a g1, up2_a g1]
    · intro j hj
      rw [up2_k hj, up2_a nSL, up2_a nSL, up2_a nSL, up2_a nSL, up2_a nSL]
    · intro y hy
      rw [up2_a (Ne.symm nSL), upd_ne (by omega)]
      by_cases c4 : y = 4
      · rw [c4, up2_s, upd_eq]
      rw [up2_k c4, upd_ne (by omega)]
      by_cases c3 : y = 3
      · rw [c3, up2_s, upd_eq]
      rw [up2_k c3, upd_ne (by omega)]
      by_cases c2 : y = 2
      · rw [c2, up2_s, upd_eq]
      rw [up2_k c2, upd_ne (by omega)]
      by_cases c1 : y = 1
      · rw [c1, up2_s, upd_eq]
      rw [up2_k c1, upd_ne (by omega)]
      have c0 : y = 0 := by omega
      subst c0
      rw [up2_s, show lnA lc + 0 = lnA lc from rfl, upd_eq]
    · intro j h4 hj
      rw [upd_ne h4, upd_ne (by omega), upd_ne (by omega), upd_ne (by omega), upd_ne (by omega), upd_ne (by omega)]
  have hF1 : FrS k cs (up2 (up2 (up2 (up2 (up2 (up2 cs (gLn k lc) 0 (nI s)) (gLn k lc) 1 (nI o)) (gLn k lc) 2 (nI t)) (gLn k lc) 3 x) (gLn k lc) 4 (v 0 + d)) (gSt k) 5 (nI (lc + 1))) := by
    intro g hg
    have g1 : g ≠ gLn k lc := by intro e; apply hg; rw [e]; unfold gLn; omega
    have g2 : g ≠ gSt k := by intro e; apply hg; rw [e]; unfold gSt; omega
    funext y
    rw [up2_a g2, up2_a g1, up2_a g1, up2_a g1, up2_a g1, up2_a g1]
  have hS1 : S0 n (up2 (up2 (up2 (up2 (up2 (up2 cs (gLn k lc) 0 (nI s)) (gLn k lc) 1 (nI o)) (gLn k lc) 2 (nI t)) (gLn k lc) 3 x) (gLn k lc) 4 (v 0 + d)) (gSt k) 5 (nI (lc + 1))) pm k := by
    obtain ⟨a, b, c, e⟩ := h0'
    refine ⟨a, ?_, c, e⟩
    rw [up2_k (by omega), up2_a nSL, up2_a nSL, up2_a nSL, up2_a nSL, up2_a nSL]
    exact b
  have eL : lnV v lc t s o x d = upd (upd (upd (upd (upd (upd (upd (upd v (lnA lc) (nI s)) (lnA lc + 1) (nI o)) (lnA lc + 2) (nI t)) (lnA lc + 3) x) (lnA lc + 4) (v 0 + d)) 4 (nI (lc + 1))) (rcA s s + 16) (v (rcA s s + 16) ||| (nI 1 <<< (nI lc &&& 31)))) (rcA s s) (v (rcA s s) + nI 1) := by
    unfold lnV
    simp only
    rw [show upd (upd (upd (upd v (lnA lc) (nI s)) (lnA lc + 1) (nI o)) (lnA lc + 2) (nI t)) (lnA lc + 3) x 0 = v 0 by rw [upd_ne (by omega), upd_ne (by omega), upd_ne (by omega), upd_ne (by omega)]]
    generalize hW2 : upd (upd (upd (upd (upd v (lnA lc) (nI s)) (lnA lc + 1) (nI o)) (lnA lc + 2) (nI t)) (lnA lc + 3) x) (lnA lc + 4) (v 0 + d) = W2
    have w16 : W2 (rcA s s + 16) = v (rcA s s + 16) := by rw [← hW2, upd_ne (by omega), upd_ne (by omega), upd_ne (by omega), upd_ne (by omega), upd_ne (by omega)]
    have w0 : W2 (rcA s s) = v (rcA s s) := by rw [← hW2, upd_ne (by omega), upd_ne (by omega), upd_ne (by omega), upd_ne (by omega), upd_ne (by omega)]
    have w4 : W2 4 = nI lc := by rw [← hW2, upd_ne (by omega), upd_ne (by omega), upd_ne (by omega), upd_ne (by omega), upd_ne (by omega)]; exact h.2.1.1
    rw [w16, upd_ne (show (4 : Nat) ≠ rcA s s + 16 by omega), w4, nI_add]
    unfold chgV
    rw [upd_ne (show rcA s s ≠ 4 by omega), upd_ne (show rcA s s ≠ rcA s s + 16 by omega), w0]
    rw [upd_comm (show rcA s s + 16 ≠ 4 by omega)]
  refine c6_recordOf L hk hs (tX6_makeLoan_67 L ⟨vRc_s hk hs hs, kq _ _ (q _ ?_ ?_ ?_)⟩)
  · exact hF1.trans ((FrR_R.trans FrR_R).S (by omega) (by omega))
  · exact (hS1.rec FrR_R (by omega) (by omega)).rec FrR_R (by omega) (by omega)
  · generalize hD : (up2 (up2 (up2 (up2 (up2 (up2 cs (gLn k lc) 0 (nI s)) (gLn k lc) 1 (nI o)) (gLn k lc) 2 (nI t)) (gLn k lc) 3 x) (gLn k lc) 4 (v 0 + d)) (gSt k) 5 (nI (lc + 1))) = D at *
    generalize hW : (upd (upd (upd (upd (upd (upd v (lnA lc) (nI s)) (lnA lc + 1) (nI o)) (lnA lc + 2) (nI t)) (lnA lc + 3) x) (lnA lc + 4) (v 0 + d)) 4 (nI (lc + 1))) = W at *
    have e16 : D (gRc k s s) 5 = v (rcA s s + 16) := by
      rw [show D (gRc k s s) 5 = W (rcA s s + 16) from rd_nt hR1 hs (x := 16) (by omega) (by omega), ← hW, upd_ne (by omega), upd_ne (by omega), upd_ne (by omega), upd_ne (by omega), upd_ne (by omega), upd_ne (by omega)]
    have e0 : D (gRc k s s) 0 = v (rcA s s) := by
      rw [show D (gRc k s s) 0 = W (rcA s s) from rd_nt hR1 hs (x := 0) (by omega) (by omega), ← hW, upd_ne (by omega), upd_ne (by omega), upd_ne (by omega), upd_ne (by omega), upd_ne (by omega), upd_ne (by omega)]
    rw [e16, e0, eL]
    have c1 := hR1.cell hpm (by omega) hs (z := 16) (x := v (rcA s s + 16) ||| (nI 1 <<< (nI lc &&& 31))) (by omega) (by omega) FrR_R (fun y hy => rd_upR (Or.inr ⟨rfl, rfl⟩) y hy)
    exact c1.cell hpm (by omega) hs (z := 0) (x := v (rcA s s) + nI 1) (by omega) (by omega) FrR_R (fun y hy => rd_upR (Or.inl ⟨rfl, rfl⟩) y hy)
theorem c6_letPass (L : Lay n ad h0) (h0' : S0 n cs pm k) (h : SR n lc mc cs pm k v) {x : Int32} {X : Hp → Prop} (q : ∀ cs', FrS k cs cs' → S0 n cs' pm k → SR n lc mc cs' pm k (upd v 0 (v 0 + x)) → X (HN h0 ad cs' pm)) : CKv mX6_letPass 1 0 0 [some (.ref (ad (gSt k))), some (.int x), none] (HN h0 ad cs pm) X := by
  intro Qc kq
  have hb := L.1
  have hk := h0'.1
  have hpm := h0'.2.2.1
  have h4 : cs (gSt k) 4 = v 0 := h.1.2.2.2.1
  let P : Nat → (Nat → Nat → Int32) → Prop := fun i d => (∀ g, g ≠ gSt k → (∀ j, j < n → g ≠ gRc k j j) → d g = cs g) ∧ (∀ y, y ≠ 4 → d (gSt k) y = cs (gSt k) y) ∧ d (gSt k) 4 = v 0 + x ∧ (∀ j, j < n → ∀ y, y ≠ 1 → d (gRc k j j) y = cs (gRc k j j) y) ∧ (∀ j, j < i → d (gRc k j j) 1 = v 0 + x)
  have fin : ∀ d, P n d → X (HN h0 ad d pm) := by
    intro d hd
    obtain ⟨p1, p2, p3, p4, p5⟩ := hd
    obtain ⟨⟨a1, a2, a3, a4, a5, a6⟩, ⟨b1, b2, b3, b4⟩, c, dl, e⟩ := h
    have rr : ∀ w o y, w < 13 → o < n → ¬ (w = o ∧ w < n) → rdC d k w o y = rdC cs k w o y := by
      intro w o y hw ho hne
      refine rd_same (fun g hg => p1 g ?_ (fun j hj => ?_))
      · rcases hg with rfl | ⟨t, ht, rfl⟩
        · unfold gSt gRc; omega
        · unfold gSt gAr; omega
      · rcases hg with rfl | ⟨t, ht, rfl⟩
        · unfold gRc; omega
        · unfold gRc gAr; omega
    have ra : ∀ s t, s < n → t < 4 → d (gAr k s s t) = cs (gAr k s s t) := fun s t hs ht => p1 _ (by unfold gSt gAr; omega) (fun j hj => by unfold gRc gAr; omega)
    refine q d ?_ ⟨hk, ?_, hpm, h0'.2.2.2⟩ ⟨⟨?_, ?_, ?_, ?_, ?_, ?_⟩, ⟨?_, ?_, b3, b4⟩, ?_, ?_, ?_⟩
    · intro g hg
      refine p1 g ?_ (fun j hj => ?_)
      · intro e9; apply hg; rw [e9]; unfold gSt; omega
      · intro e9; apply hg; rw [e9]; unfold gRc; omega
    · rw [p2 0 (by omega)]; exact h0'.2.1
    · rw [p2 1 (by omega), upd_ne (by omega)]; exact a1
    · rw [p2 2 (by omega), upd_ne (by omega)]; exact a2
    · rw [p2 3 (by omega), upd_ne (by omega)]; exact a3
    · rw [p3, upd_eq]
    · rw [p2 5 (by omega)]; exact a5
    · rw [p2 6 (by omega)]; exact a6
    · rw [upd_ne (by omega)]; exact b1
    · rw [upd_ne (by omega)]; exact b2
    · intro s o hs ho y hy
      have hr := rcA_ge s o
      by_cases same : s = o
      · subst same
        have hc := c s s hs hs
        by_cases c1 : y = 1
        · subst c1
          rw [if_pos rfl, tOf, if_pos rfl, upd_eq]
          exact p5 s hs
        · rw [if_neg c1, upd_ne (by omega)]
          have e9 : rdC d k s s y = rdC cs k s s y := by
            unfold rdC
            rw [ra s 0 hs (by omega), ra s 1 hs (by omega), ra s 2 hs (by omega), ra s 3 hs (by omega), p4 s hs 0 (by omega), p4 s hs 5 (by omega), if_neg c1, if_neg c1]
          have := hc y hy
          rw [if_neg c1] at this
          rw [e9, this]
      · rw [rr s o y (by omega) ho (by omega), c s o hs ho y hy, upd_ne (by omega)]
        unfold tOf
        rw [if_neg same, if_neg same, upd_ne (by omega)]
    · intro l hl y hy
      rw [p1 (gLn k l) (by unfold gLn gSt; omega) (fun j hj => by unfold gLn gRc; omega), dl l hl y hy, upd_ne (by unfold lnA; omega)]
    · intro j hj
      have hp := hpm j (by omega)
      have hm := mgA_ge j
      obtain ⟨e1, e2⟩ := e j hj
      refine ⟨fun y hy => ?_, fun o ho y hy => ?_⟩
      · rw [p1 (gMg k (pm k j)) (by unfold gMg gSt; omega) (fun j hj => by unfold gMg gRc; omega), e1 y hy, upd_ne (by omega)]
      · rw [rr (5 + pm k j) o y (by omega) ho (by omega), e2 o ho y hy, upd_ne (by omega)]
  have loop : ∀ i, i ≤ n → ∀ d, P i d → Wm mX6_letPass 1 0 0 Qc 12 [some (.ref (ad (gSt k))), none, some (.int (nI i))] [] (HN h0 ad d pm) 0 0 := by
    refine loopU n _ ?_ ?_
    · intro d hd
      exact tX6_letPass_12 L ⟨hk, fun _ => kq _ (fin d hd), fun c => absurd (by rw [hd.2.1 0 (by omega), h0'.2.1]; exact nI_le (Nat.le_refl _) (by omega)) c⟩
    · intro i hi ih d hd
      have hd' := hd
      obtain ⟨p1, p2, p3, p4, p5⟩ := hd'
      refine tX6_letPass_12 L ⟨hk, fun c => absurd c (by rw [p2 0 (by omega), h0'.2.1]; exact nI_ge hi (by omega)), fun _ => c6_recordOf L hk hi (tX6_letPass_25 L ⟨hk, vRc_s hk hi hi, ?_⟩)⟩
      rw [p3, nI_add]
      refine ih _ ⟨fun g g1 g2 => ?_, fun y hy => ?_, ?_, fun j hj y hy => ?_, fun j hj => ?_⟩
      · funext y; rw [up2_a (g2 i hi)]; exact congrFun (p1 g g1 g2) y
      · rw [up2_a (by unfold gSt gRc; omega)]; exact p2 y hy
      · rw [up2_a (by unfold gSt gRc; omega)]; exact p3
      · rw [up2_k hy]; exact p4 j hj y hy
      · by_cases c : j = i
        · rw [c, up2_s]
        · rw [up2_a (by unfold gRc; omega)]; exact p5 j (by omega)
  refine tX6_letPass_0 L ⟨hk, ?_⟩
  rw [h4]
  refine loop 0 (Nat.zero_le _) _ ⟨fun g g1 g2 => ?_, fun y hy => up2_k hy, up2_s, fun j hj y hy => ?_, fun j hj => absurd hj (by omega)⟩
  · funext y; rw [up2_a g1]
  · rw [up2_a (by unfold gRc gSt; omega)]
end CF

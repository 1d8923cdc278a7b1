/-! THE CLASS: views, loans, messages as objects -/
def FrV (n k w : Nat) (cs cs' : Nat → Nat → Int32) : Prop := ∀ g, (∀ o, o < n → g ≠ gRc k w o ∧ ∀ t, t < 4 → g ≠ gAr k w o t) → cs' g = cs g
def olB (a b : Nat → Int32) : Bool := decide (a 0 < b 0) || (decide (a 0 = b 0) && decide (a 1 < b 1))
def leB (cs : Nat → Nat → Int32) (k0 w0 k1 w1 s o : Nat) : Bool := decide (o ≠ s) && olB (rdC cs k0 w0 o) (rdC cs k1 w1 o)
def leN (cs : Nat → Nat → Int32) (k0 w0 k1 w1 s : Nat) : Nat → Nat
  | 0 => 0
  | i + 1 => leN cs k0 w0 k1 w1 s i + (if leB cs k0 w0 k1 w1 s i = true then 1 else 0)
section CG
variable {n : Nat} {ad : Nat → Nat} {h0 : Hp} {cs cs' : Nat → Nat → Int32} {pm : Nat → Nat → Nat} {k k0 k1 w w0 w1 o s t x : Nat}
theorem FrV.refl : FrV n k w cs cs := fun _ _ => rfl
theorem FrV.rec {cs'' : Nat → Nat → Int32} (a : FrV n k w cs cs') (ho : o < n) (b : FrR k w o cs' cs'') : FrV n k w cs cs'' := fun g hg => by rw [b g (hg o ho), a g hg]
theorem FrV.rd (h : FrV n k0 w0 cs cs') (hne : ¬ (k = k0 ∧ w = w0)) (hn : n ≤ 5) (hw : w < 13) (hw0 : w0 < 13) (ho : o < 5) : rdC cs' k w o x = rdC cs k w o x := by
  refine rd_same (fun g hg => h g (fun o' ho' => ?_))
  rcases hg with rfl | ⟨t, ht, rfl⟩
  · exact ⟨by unfold gRc; omega, fun t ht => by unfold gRc gAr; omega⟩
  · exact ⟨by unfold gRc gAr; omega, fun t' ht' => by unfold gAr; omega⟩
theorem FrV.S (h : FrV n k w cs cs') (hn : n ≤ 5) (hw : w < 13) : FrS k cs cs' := by
  intro g hg
  refine h g (fun o ho => ⟨?_, fun t ht => ?_⟩)
  · intro e; apply hg; rw [e]; unfold gRc; omega
  · intro e; apply hg; rw [e]; unfold gAr; omega
theorem vVw_b (hn : n ≤ 5) (h : vVw n k w) : k < 7 ∧ w < 13 := by
  obtain ⟨a, b⟩ := h
  exact ⟨a, by omega⟩
theorem c7_copyFrom (L : Lay n ad h0) (h1 : vVw n k1 w1) (h2 : vVw n k0 w0) (hne : ¬ (k1 = k0 ∧ w1 = w0)) {X : Hp → Prop} (q : ∀ cs', FrV n k0 w0 cs cs' → (∀ o, o < n → ∀ x, x < 27 → rdC cs' k0 w0 o x = rdC cs k1 w1 o x) → X (HN h0 ad cs' pm)) : CKv mX7_copyFrom 2 0 0 [some (.ref (ad (gVw k0 w0))), some (.ref (ad (gVw k1 w1))), none] (HN h0 ad cs pm) X := by
  intro Qc kq
  have hb := L.1
  have b1 := vVw_b (by omega) h1
  have b2 := vVw_b (by omega) h2
  have loop : ∀ i, i ≤ n → ∀ d, FrV n k0 w0 cs d → (∀ o, o < i → ∀ x, x < 27 → rdC d k0 w0 o x = rdC cs k1 w1 o x) → Wm mX7_copyFrom 2 0 0 Qc 2 [some (.ref (ad (gVw k0 w0))), some (.ref (ad (gVw k1 w1))), some (.int (nI i))] [] (HN h0 ad d pm) 0 0 := by
    refine loopU n _ ?_ ?_
    · intro d hF hd
      exact tX7_copyFrom_2 L ⟨h2, fun _ => kq _ (q d hF hd), fun c => absurd (nI_le (Nat.le_refl _) (by omega)) c⟩
    · intro i hi ih d hF hd
      refine tX7_copyFrom_2 L ⟨h2, fun c => absurd c (nI_ge hi (by omega)), fun _ => ⟨i, rfl, hi, h1, c5_copyFrom L ⟨h1, hi⟩ ⟨h2, hi⟩ (by omega) (fun d2 hF2 hd2 => tX7_copyFrom_26 L ?_)⟩⟩
      rw [nI_add]
      refine ih d2 (hF.rec hi hF2) (fun o ho x hx => ?_)
      by_cases c : o = i
      · rw [c, hd2 x hx, hF.rd hne (by omega) (by omega) (by omega) (by omega)]
      · rw [hF2.rd (by omega) (by omega) (by omega) (by omega) (by omega)]
        exact hd o (by omega) x hx
  exact tX7_copyFrom_0 L (loop 0 (Nat.zero_le _) cs FrV.refl (fun o ho => absurd ho (by omega)))
theorem c7_clear (L : Lay n ad h0) (h2 : vVw n k0 w0) {X : Hp → Prop} (q : ∀ cs', FrV n k0 w0 cs cs' → (∀ o, o < n → ∀ x, x < 27 → rdC cs' k0 w0 o x = nI 0) → X (HN h0 ad cs' pm)) : CKv mX7_clear 1 0 0 [some (.ref (ad (gVw k0 w0))), none] (HN h0 ad cs pm) X := by
  intro Qc kq
  have hb := L.1
  have b2 := vVw_b (by omega) h2
  have loop : ∀ i, i ≤ n → ∀ d, FrV n k0 w0 cs d → (∀ o, o < i → ∀ x, x < 27 → rdC d k0 w0 o x = nI 0) → Wm mX7_clear 1 0 0 Qc 2 [some (.ref (ad (gVw k0 w0))), some (.int (nI i))] [] (HN h0 ad d pm) 0 0 := by
    refine loopU n _ ?_ ?_
    · intro d hF hd
      exact tX7_clear_2 L ⟨h2, fun _ => kq _ (q d hF hd), fun c => absurd (nI_le (Nat.le_refl _) (by omega)) c⟩
    · intro i hi ih d hF hd
      refine tX7_clear_2 L ⟨h2, fun c => absurd c (nI_ge hi (by omega)), fun _ => ⟨i, rfl, hi, c5_clear L ⟨h2, hi⟩ (fun d2 hF2 hd2 => tX7_clear_20 L ?_)⟩⟩
      rw [nI_add]
      refine ih d2 (hF.rec hi hF2) (fun o ho x hx => ?_)
      by_cases c : o = i
      · rw [c, hd2 x hx]
      · rw [hF2.rd (by omega) (by omega) (by omega) (by omega) (by omega)]
        exact hd o (by omega) x hx
  exact tX7_clear_0 L (loop 0 (Nat.zero_le _) cs FrV.refl (fun o ho => absurd ho (by omega)))
theorem c7_learn (L : Lay n ad h0) (h1 : vVw n k1 w1) (h2 : vVw n k0 w0) (hne : ¬ (k1 = k0 ∧ w1 = w0)) (hs : s < n) {X : Int32 → Hp → Prop} (q : ∀ cs', FrV n k0 w0 cs cs' → (∀ o, o < n → ∀ x, x < 27 → rdC cs' k0 w0 o x = if leB cs k0 w0 k1 w1 s o = true then rdC cs k1 w1 o x else rdC cs k0 w0 o x) → X (nI (leN cs k0 w0 k1 w1 s n)) (HN h0 ad cs' pm)) : CKi mX7_learn 2 0 0 [some (.ref (ad (gVw k0 w0))), some (.ref (ad (gVw k1 w1))), some (.int (nI s)), none, none] (HN h0 ad cs pm) X := by
  intro Qc kq
  have hb := L.1
  have b1 := vVw_b (by omega) h1
  have b2 := vVw_b (by omega) h2
  have loop : ∀ i, i ≤ n → ∀ d, FrV n k0 w0 cs d → (∀ o, o < n → ∀ x, x < 27 → rdC d k0 w0 o x = if o < i ∧ leB cs k0 w0 k1 w1 s o = true then rdC cs k1 w1 o x else rdC cs k0 w0 o x) → Wm mX7_learn 2 0 0 Qc 5 [some (.ref (ad (gVw k0 w0))), some (.ref (ad (gVw k1 w1))), some (.int (nI s)), some (.int (nI (leN cs k0 w0 k1 w1 s i))), some (.int (nI i))] [] (HN h0 ad d pm) 0 0 := by
    refine loopU n _ ?_ ?_
    · intro d hF hd
      refine tX7_learn_5 L ⟨h2, fun _ => kq _ _ (q d hF (fun o ho x hx => ?_)), fun c => absurd (nI_le (Nat.le_refl _) (by omega)) c⟩
      rw [hd o ho x hx]
      simp only [ho, true_and]
    · intro i hi ih d hF hd
      have skip : leB cs k0 w0 k1 w1 s i = false → Wm mX7_learn 2 0 0 Qc 61 [some (.ref (ad (gVw k0 w0))), some (.ref (ad (gVw k1 w1))), some (.int (nI s)), some (.int (nI (leN cs k0 w0 k1 w1 s i))), some (.int (nI i))] [] (HN h0 ad d pm) 0 0 := by
        intro hl
        have e : leN cs k0 w0 k1 w1 s (i + 1) = leN cs k0 w0 k1 w1 s i := by rw [leN, hl]; simp
        rw [e] at ih
        refine tX7_learn_61 L ?_
        rw [nI_add]
        refine ih d hF (fun o ho x hx => ?_)
        rw [hd o ho x hx]
        by_cases c : o = i
        · subst c; simp [hl]
        · simp only [show o < i + 1 ↔ o < i by omega]
      have e0 : ∀ y, y < 27 → rdC d k0 w0 i y = rdC cs k0 w0 i y := fun y hy => by rw [hd i hi y hy, if_neg (by omega)]
      have e1 : ∀ y, rdC d k1 w1 i y = rdC cs k1 w1 i y := fun y => hF.rd hne (by omega) (by omega) (by omega) (by omega)
      refine tX7_learn_5 L ⟨h2, fun c => absurd c (nI_ge hi (by omega)), fun _ => ⟨fun c => skip ?_, fun c => ⟨i, rfl, hi, h1, c5_isOlderThan L ⟨h2, hi⟩ ⟨h1, hi⟩ ?_⟩⟩⟩
      · rw [nI_inj5 (by omega) (by omega)] at c
        simp [leB, c]
      · rw [nI_inj5 (by omega) (by omega)] at c
        rw [e0 0 (by omega), e0 1 (by omega), e1 0, e1 1]
        have eB : leB cs k0 w0 k1 w1 s i = (decide (rdC cs k0 w0 i 0 < rdC cs k1 w1 i 0) || (decide (rdC cs k0 w0 i 0 = rdC cs k1 w1 i 0) && decide (rdC cs k0 w0 i 1 < rdC cs k1 w1 i 1))) := by
          simp [leB, olB, c]
        rw [← eB]
        refine tX7_learn_38 L ⟨fun c2 => skip (bI_z.mp c2), fun c2 => ⟨h2, i, rfl, hi, h1, c5_copyFrom L ⟨h1, hi⟩ ⟨h2, hi⟩ (by omega) (fun d2 hF2 hd2 => tX7_learn_58 L (tX7_learn_61 L ?_))⟩⟩
        rw [bI_z] at c2
        have hl : leB cs k0 w0 k1 w1 s i = true := by simpa using c2
        have e : leN cs k0 w0 k1 w1 s (i + 1) = leN cs k0 w0 k1 w1 s i + 1 := by rw [leN, hl]; simp
        rw [e] at ih
        rw [nI_add, nI_add]
        refine ih d2 (hF.rec hi hF2) (fun o ho x hx => ?_)
        by_cases c3 : o = i
        · subst c3
          rw [hd2 x hx, e1 x, if_pos ⟨by omega, hl⟩]
        · rw [hF2.rd (by omega) (by omega) (by omega) (by omega) (by omega), hd o ho x hx]
          simp only [show o < i + 1 ↔ o < i by omega]
  refine tX7_learn_0 L (loop 0 (Nat.zero_le _) cs FrV.refl (fun o ho x hx => ?_))
  rw [if_neg (by omega)]
theorem c2_copyFrom (L : Lay n ad h0) {l0 l1 : Nat} (hk0 : k0 < 7) (hk1 : k1 < 7) (hl0 : l0 < 10) (hl1 : l1 < 10) {X : Hp → Prop} (q : ∀ cs', (∀ g, g ≠ gLn k0 l0 → cs' g = cs g) → (∀ x, x < 5 → cs' (gLn k0 l0) x = cs (gLn k1 l1) x) → X (HN h0 ad cs' pm)) : CKv mX2_copyFrom 0 0 0 [some (.ref (ad (gLn k0 l0))), some (.ref (ad (gLn k1 l1)))] (HN h0 ad cs pm) X := by
  intro Qc kq
  refine tX2_copyFrom_0 L ⟨⟨hk1, hl1⟩, ⟨hk0, hl0⟩, kq _ (q _ ?_ ?_)⟩
  · intro g hg
    funext y
    rw [up2_a hg, up2_a hg, up2_a hg, up2_a hg, up2_a hg]
  · intro x hx
    by_cases c4 : x = 4
    · rw [c4, up2_s]
    rw [up2_k c4]
    by_cases c3 : x = 3
    · rw [c3, up2_s]
    rw [up2_k c3]
    by_cases c2 : x = 2
    · rw [c2, up2_s]
    rw [up2_k c2]
    by_cases c1 : x = 1
    · rw [c1, up2_s]
    rw [up2_k c1, show x = 0 by omega, up2_s]
/-- a message's frame: its facts and its view -/
def FrM (n k m : Nat) (cs cs' : Nat → Nat → Int32) : Prop := ∀ g, g ≠ gMg k m → (∀ o, o < n → g ≠ gRc k (5 + m) o ∧ ∀ t, t < 4 → g ≠ gAr k (5 + m) o t) → cs' g = cs g
theorem c3_copyFrom (L : Lay n ad h0) {m0 m1 : Nat} (hk0 : k0 < 7) (hk1 : k1 < 7) (hm0 : m0 < 8) (hm1 : m1 < 8) (hne : ¬ (k1 = k0 ∧ m1 = m0)) {X : Hp → Prop} (q : ∀ cs', FrM n k0 m0 cs cs' → (∀ x, x < 3 → cs' (gMg k0 m0) x = cs (gMg k1 m1) x) → (∀ o, o < n → ∀ x, x < 27 → rdC cs' k0 (5 + m0) o x = rdC cs k1 (5 + m1) o x) → X (HN h0 ad cs' pm)) : CKv mX3_copyFrom 3 0 0 [some (.ref (ad (gMg k0 m0))), some (.ref (ad (gMg k1 m1)))] (HN h0 ad cs pm) X := by
  intro Qc kq
  have hb := L.1
  refine tX3_copyFrom_0 L ⟨⟨hk1, hm1⟩, ⟨hk0, hm0⟩, c7_copyFrom L ⟨hk1, Or.inr ⟨by omega, by omega⟩⟩ ⟨hk0, Or.inr ⟨by omega, by omega⟩⟩ (by omega) (fun d hF hd => tX3_copyFrom_35 L (kq _ (q d ?_ ?_ ?_)))⟩
  · intro g g1 g2
    rw [hF g g2]
    funext y
    rw [up2_a g1, up2_a g1, up2_a g1]
  · intro x hx
    rw [hF (gMg k0 m0) (fun o ho => ⟨by unfold gMg gRc; omega, fun t ht => by unfold gMg gAr; omega⟩)]
    by_cases c2 : x = 2
    · rw [c2, up2_s]
    rw [up2_k c2]
    by_cases c1 : x = 1
    · rw [c1, up2_s]
    rw [up2_k c1, show x = 0 by omega, up2_s]
  · intro o ho x hx
    rw [hd o ho x hx]
    refine rd_same (fun g hg => ?_)
    have g1 : g ≠ gMg k0 m0 := by
      rcases hg with rfl | ⟨t, ht, rfl⟩
      · unfold gMg gRc; omega
      · unfold gMg gAr; omega
    funext y
    rw [up2_a g1, up2_a g1, up2_a g1]
end CG

/-! THE CLASS: a record's cells as one row of the reference's scheme; frames -/
def rdC (cs : Nat → Nat → Int32) (k w o x : Nat) : Int32 := if x = 0 then cs (gRc k w o) 0 else if x = 1 then cs (gRc k w o) 1 else if x < 4 then cs (gAr k w o 0) (x - 2) else if x < 14 then cs (gAr k w o 2) (x - 4) else if x < 16 then cs (gAr k w o 1) (x - 14) else if x = 16 then cs (gRc k w o) 5 else cs (gAr k w o 3) (x - 17)
def FrR (k w o : Nat) (cs cs' : Nat → Nat → Int32) : Prop := ∀ g, (g ≠ gRc k w o ∧ (∀ t, t < 4 → g ≠ gAr k w o t)) → cs' g = cs g
def FrS (k : Nat) (cs cs' : Nat → Nat → Int32) : Prop := ∀ g, g / 10000 ≠ k → cs' g = cs g
section CA
variable {n : Nat} {ad : Nat → Nat} {h0 : Hp} {cs cs' : Nat → Nat → Int32} {pm : Nat → Nat → Nat} {k k0 k1 w w0 w1 o o0 o1 x s t l j : Nat}
theorem rd0 (cs : Nat → Nat → Int32) : cs (gRc k w o) 0 = rdC cs k w o 0 := rfl
theorem rd1 (cs : Nat → Nat → Int32) : cs (gRc k w o) 1 = rdC cs k w o 1 := rfl
theorem rd5 (cs : Nat → Nat → Int32) : cs (gRc k w o) 5 = rdC cs k w o 16 := rfl
theorem rdA0 (cs : Nat → Nat → Int32) (h : j < 2) : cs (gAr k w o 0) j = rdC cs k w o (2 + j) := by
  unfold rdC; rw [if_neg (by omega), if_neg (by omega), if_pos (by omega), Nat.add_sub_cancel_left]
theorem rdA2 (cs : Nat → Nat → Int32) (h : j < 10) : cs (gAr k w o 2) j = rdC cs k w o (4 + j) := by
  unfold rdC; rw [if_neg (by omega), if_neg (by omega), if_neg (by omega), if_pos (by omega), Nat.add_sub_cancel_left]
theorem rdA1 (cs : Nat → Nat → Int32) (h : j < 2) : cs (gAr k w o 1) j = rdC cs k w o (14 + j) := by
  unfold rdC; rw [if_neg (by omega), if_neg (by omega), if_neg (by omega), if_neg (by omega), if_pos (by omega), Nat.add_sub_cancel_left]
theorem rdA3 (cs : Nat → Nat → Int32) (h : j < 10) : cs (gAr k w o 3) j = rdC cs k w o (17 + j) := by
  unfold rdC; rw [if_neg (by omega), if_neg (by omega), if_neg (by omega), if_neg (by omega), if_neg (by omega), if_neg (by omega), Nat.add_sub_cancel_left]
/-- a record is its 27 cells -/
theorem rd_ext {f : Nat → Int32} (h0 : cs (gRc k w o) 0 = f 0) (h1 : cs (gRc k w o) 1 = f 1) (h5 : cs (gRc k w o) 5 = f 16) (a0 : ∀ j, j < 2 → cs (gAr k w o 0) j = f (2 + j)) (a2 : ∀ j, j < 10 → cs (gAr k w o 2) j = f (4 + j)) (a1 : ∀ j, j < 2 → cs (gAr k w o 1) j = f (14 + j)) (a3 : ∀ j, j < 10 → cs (gAr k w o 3) j = f (17 + j)) (hx : x < 27) : rdC cs k w o x = f x := by
  unfold rdC
  by_cases c0 : x = 0
  · rw [if_pos c0, h0, c0]
  rw [if_neg c0]
  by_cases c1 : x = 1
  · rw [if_pos c1, h1, c1]
  rw [if_neg c1]
  by_cases c2 : x < 4
  · rw [if_pos c2, a0 _ (by omega), show 2 + (x - 2) = x by omega]
  rw [if_neg c2]
  by_cases c3 : x < 14
  · rw [if_pos c3, a2 _ (by omega), show 4 + (x - 4) = x by omega]
  rw [if_neg c3]
  by_cases c4 : x < 16
  · rw [if_pos c4, a1 _ (by omega), show 14 + (x - 14) = x by omega]
  rw [if_neg c4]
  by_cases c5 : x = 16
  · rw [if_pos c5, h5, c5]
  rw [if_neg c5, a3 _ (by omega), show 17 + (x - 17) = x by omega]
theorem rd_same (h : ∀ g, (g = gRc k w o ∨ ∃ t, t < 4 ∧ g = gAr k w o t) → cs' g = cs g) : rdC cs' k w o x = rdC cs k w o x := by
  unfold rdC
  rw [h _ (Or.inl rfl), h _ (Or.inr ⟨0, by omega, rfl⟩), h _ (Or.inr ⟨1, by omega, rfl⟩), h _ (Or.inr ⟨2, by omega, rfl⟩), h _ (Or.inr ⟨3, by omega, rfl⟩)]
/-- another record stays -/
theorem FrR.rd (h : FrR k0 w0 o0 cs cs') (hne : ¬ (k = k0 ∧ w = w0 ∧ o = o0)) (hw : w < 13) (hw0 : w0 < 13) (ho : o < 5) (ho0 : o0 < 5) : rdC cs' k w o x = rdC cs k w o x := by
  refine rd_same (fun g hg => h g ?_)
  rcases hg with rfl | ⟨t, ht, rfl⟩
  · exact ⟨by unfold gRc; omega, fun t ht => by unfold gRc gAr; omega⟩
  · exact ⟨by unfold gRc gAr; omega, fun t' ht' => by unfold gAr; omega⟩
theorem FrR.trans {cs'' : Nat → Nat → Int32} (a : FrR k w o cs cs') (b : FrR k w o cs' cs'') : FrR k w o cs cs'' := fun g hg => by rw [b g hg, a g hg]
theorem vRc_b (L : Lay n ad h0) (h : vRc n k w o) : k < 7 ∧ w < 13 ∧ o < 5 := by
  have := L.1
  obtain ⟨⟨a, b⟩, c⟩ := h
  refine ⟨a, ?_, ?_⟩ <;> omega
theorem c5_copyFrom (L : Lay n ad h0) (h1 : vRc n k1 w1 o1) (h2 : vRc n k0 w0 o0) (hne : ¬ (k1 = k0 ∧ w1 = w0 ∧ o1 = o0)) {X : Hp → Prop} (q : ∀ cs', FrR k0 w0 o0 cs cs' → (∀ x, x < 27 → rdC cs' k0 w0 o0 x = rdC cs k1 w1 o1 x) → X (HN h0 ad cs' pm)) : CKv mX5_copyFrom 1 0 0 [some (.ref (ad (gRc k0 w0 o0))), some (.ref (ad (gRc k1 w1 o1)))] (HN h0 ad cs pm) X := by
  intro Qc kq
  have b1 := vRc_b L h1
  have b2 := vRc_b L h2
  refine tX5_copyFrom_0 L ⟨h1, h2, tX5_copyFrom_38 L ⟨h1, h2, tX5_copyFrom_52 L ⟨h1, h2, tX5_copyFrom_67 L ⟨h1, h2, tX5_copyFrom_82 L (kq _ (q _ ?_ ?_))⟩⟩⟩⟩
  · intro g hg
    obtain ⟨g1, g2⟩ := hg
    have a0 := g2 0 (by omega)
    have a1 := g2 1 (by omega)
    have a2 := g2 2 (by omega)
    have a3 := g2 3 (by omega)
    rw [seR_n a3, seR_n a2, seR_n a1, seR_n a0]
    funext j
    rw [up2_a g1, up2_a g1, up2_a g1]
  · have nA : ∀ t t', t < 4 → t' < 4 → gAr k1 w1 o1 t ≠ gAr k0 w0 o0 t' := fun t t' ht ht' => by unfold gAr; omega
    have nB : ∀ t t', t < 4 → t' < 4 → t ≠ t' → gAr k0 w0 o0 t ≠ gAr k0 w0 o0 t' := fun t t' ht ht' hne => by unfold gAr; omega
    have nC : ∀ t, t < 4 → gRc k0 w0 o0 ≠ gAr k0 w0 o0 t := fun t ht => by unfold gAr gRc; omega
    have nD : ∀ t, t < 4 → gAr k1 w1 o1 t ≠ gRc k0 w0 o0 := fun t ht => by unfold gAr gRc; omega
    intro x hx
    refine rd_ext (f := fun x => rdC cs k1 w1 o1 x) ?_ ?_ ?_ ?_ ?_ ?_ ?_ hx
    · rw [seR_n (nC 3 (by omega)), seR_n (nC 2 (by omega)), seR_n (nC 1 (by omega)), seR_n (nC 0 (by omega)), up2_k (by omega), up2_k (by omega), up2_s]; rfl
    · rw [seR_n (nC 3 (by omega)), seR_n (nC 2 (by omega)), seR_n (nC 1 (by omega)), seR_n (nC 0 (by omega)), up2_k (by omega), up2_s]; rfl
    · rw [seR_n (nC 3 (by omega)), seR_n (nC 2 (by omega)), seR_n (nC 1 (by omega)), seR_n (nC 0 (by omega)), up2_s]; rfl
    · intro j hj
      rw [seR_n (nB 0 3 (by omega) (by omega) (by omega)), seR_n (nB 0 2 (by omega) (by omega) (by omega)), seR_n (nB 0 1 (by omega) (by omega) (by omega)), seR_s, if_pos hj, up2_a (nD 0 (by omega)), up2_a (nD 0 (by omega)), up2_a (nD 0 (by omega))]
      exact rdA0 cs hj
    · intro j hj
      rw [seR_n (nB 2 3 (by omega) (by omega) (by omega)), seR_s, if_pos hj, seR_n (nA 2 1 (by omega) (by omega)), seR_n (nA 2 0 (by omega) (by omega)), up2_a (nD 2 (by omega)), up2_a (nD 2 (by omega)), up2_a (nD 2 (by omega))]
      exact rdA2 cs hj
    · intro j hj
      rw [seR_n (nB 1 3 (by omega) (by omega) (by omega)), seR_n (nB 1 2 (by omega) (by omega) (by omega)), seR_s, if_pos hj, seR_n (nA 1 0 (by omega) (by omega)), up2_a (nD 1 (by omega)), up2_a (nD 1 (by omega)), up2_a (nD 1 (by omega))]
      exact rdA1 cs hj
    · intro j hj
      rw [seR_s, if_pos hj, seR_n (nA 3 2 (by omega) (by omega)), seR_n (nA 3 1 (by omega) (by omega)), seR_n (nA 3 0 (by omega) (by omega)), up2_a (nD 3 (by omega)), up2_a (nD 3 (by omega)), up2_a (nD 3 (by omega))]
      exact rdA3 cs hj
theorem c5_hasLent (L : Lay n ad h0) (h : vRc n k w o) {x : Int32} {X : Int32 → Hp → Prop} (q : X (bI (decide (((rdC cs k w o 16) >>> (x &&& 31)) &&& nI 1 = nI 1))) (HN h0 ad cs pm)) : CKi mX5_hasLent 0 0 0 [some (.ref (ad (gRc k w o))), some (.int x)] (HN h0 ad cs pm) X := by
  intro Qc kq
  refine tX5_hasLent_0 L ⟨h, fun c => kq _ _ ?_, fun c => kq _ _ ?_⟩
  · rw [rd5 cs] at c; rw [decide_eq_false c] at q; exact q
  · rw [rd5 cs] at c; rw [decide_eq_true c] at q; exact q
theorem c5_isOlderThan (L : Lay n ad h0) (h1 : vRc n k0 w0 o0) (h2 : vRc n k1 w1 o1) {X : Int32 → Hp → Prop} (q : X (bI (decide (rdC cs k0 w0 o0 0 < rdC cs k1 w1 o1 0) || (decide (rdC cs k0 w0 o0 0 = rdC cs k1 w1 o1 0) && decide (rdC cs k0 w0 o0 1 < rdC cs k1 w1 o1 1)))) (HN h0 ad cs pm)) : CKi mX5_isOlderThan 0 0 0 [some (.ref (ad (gRc k0 w0 o0))), some (.ref (ad (gRc k1 w1 o1)))] (HN h0 ad cs pm) X := by
  intro Qc kq
  refine tX5_isOlderThan_0 L ⟨h1, h2, fun c => kq _ _ ?_, fun c => ⟨fun c2 => kq _ _ ?_, fun c2 => ⟨fun c3 => kq _ _ ?_, fun c3 => kq _ _ ?_⟩⟩⟩
  · rw [rd0 cs, rd0 cs] at c; simp only [c, decide_true, Bool.true_or] at q; exact q
  · rw [rd0 cs, rd0 cs] at c c2; simp only [c, c2, decide_false, Bool.false_or, Bool.false_and] at q; exact q
  · rw [rd0 cs, rd0 cs] at c c2; rw [rd1 cs, rd1 cs] at c3; simp only [c, Int32.not_lt.mpr c3, decide_false, Bool.false_or, Bool.and_false] at q; exact q
  · rw [rd0 cs, rd0 cs] at c c2; rw [rd1 cs, rd1 cs] at c3; simp only [c2, Int32.not_le.mp c3, decide_true, Bool.and_true, Bool.or_true] at q; exact q
theorem c5_givenTo (L : Lay n ad h0) (h : vRc n k w o) (hs : s < 5) (ht : t < 2) {X : Int32 → Hp → Prop} (q : X (rdC cs k w o (4 + 5 * t + s)) (HN h0 ad cs pm)) : CKi mX5_givenTo 0 0 0 [some (.ref (ad (gRc k w o))), some (.int (nI s)), some (.int (nI t))] (HN h0 ad cs pm) X := by
  intro Qc kq
  refine tX5_givenTo_0 L ⟨h, t * 5 + s, by simp only [nI_add, pk_mul], by omega, kq _ _ ?_⟩
  rw [rdA2 cs (by omega), show 4 + (t * 5 + s) = 4 + 5 * t + s by omega]
  exact q
/-- a record with one cell anew and its version one up -/
theorem c5_give (L : Lay n ad h0) (h : vRc n k w o) (hs : s < 5) (ht : t < 2) {x : Int32} {X : Hp → Prop} (q : ∀ cs', FrR k w o cs cs' → (∀ y, y < 27 → rdC cs' k w o y = if y = 0 then rdC cs k w o 0 + nI 1 else if y = 4 + 5 * t + s then rdC cs k w o (4 + 5 * t + s) + x else rdC cs k w o y) → X (HN h0 ad cs' pm)) : CKv mX5_give 0 0 0 [some (.ref (ad (gRc k w o))), some (.int (nI s)), some (.int (nI t)), some (.int x)] (HN h0 ad cs pm) X := by
  intro Qc kq
  have b := vRc_b L h
  refine tX5_give_0 L ⟨h, t * 5 + s, by simp only [nI_add, pk_mul], by omega, kq _ (q _ ?_ ?_)⟩
  · intro g hg
    obtain ⟨g1, g2⟩ := hg
    funext j
    rw [up2_a g1, up2_a (g2 2 (by omega))]
  · have nB : ∀ t t', t < 4 → t' < 4 → t ≠ t' → gAr k w o t ≠ gAr k w o t' := fun t t' ht ht' hne => by unfold gAr; omega
    have nC : ∀ t, t < 4 → gRc k w o ≠ gAr k w o t := fun t ht => by unfold gAr gRc; omega
    intro y hy
    refine rd_ext (f := fun y => if y = 0 then rdC cs k w o 0 + nI 1 else if y = 4 + 5 * t + s then rdC cs k w o (4 + 5 * t + s) + x else rdC cs k w o y) ?_ ?_ ?_ ?_ ?_ ?_ ?_ hy
    · rw [up2_s, up2_a (nC 2 (by omega))]; rfl
    · rw [up2_k (by omega), up2_a (nC 2 (by omega))]
      show _ = if 1 = 0 then _ else if 1 = 4 + 5 * t + s then _ else _
      rw [if_neg (by omega), if_neg (by omega)]; rfl
    · rw [up2_k (by omega), up2_a (nC 2 (by omega))]
      show _ = if 16 = 0 then _ else if 16 = 4 + 5 * t + s then _ else _
      rw [if_neg (by omega), if_neg (by omega)]; rfl
    · intro j hj
      rw [up2_a (Ne.symm (nC 0 (by omega))), up2_a (nB 0 2 (by omega) (by omega) (by omega)), rdA0 cs hj]
      show _ = if 2 + j = 0 then _ else if 2 + j = 4 + 5 * t + s then _ else _
      rw [if_neg (by omega), if_neg (by omega)]
    · intro j hj
      rw [up2_a (Ne.symm (nC 2 (by omega)))]
      show _ = if 4 + j = 0 then _ else if 4 + j = 4 + 5 * t + s then _ else _
      rw [if_neg (by omega)]
      by_cases c : j = t * 5 + s
      · rw [if_pos (by omega), c, up2_s, rdA2 cs (by omega), show 4 + (t * 5 + s) = 4 + 5 * t + s by omega]
      · rw [if_neg (by omega), up2_k c, rdA2 cs hj]
    · intro j hj
      rw [up2_a (Ne.symm (nC 1 (by omega))), up2_a (nB 1 2 (by omega) (by omega) (by omega)), rdA1 cs hj]
      show _ = if 14 + j = 0 then _ else if 14 + j = 4 + 5 * t + s then _ else _
      rw [if_neg (by omega), if_neg (by omega)]
    · intro j hj
      rw [up2_a (Ne.symm (nC 3 (by omega))), up2_a (nB 3 2 (by omega) (by omega) (by omega)), rdA3 cs hj]
      show _ = if 17 + j = 0 then _ else if 17 + j = 4 + 5 * t + s then _ else _
      rw [if_neg (by omega), if_neg (by omega)]
theorem c5_clear (L : Lay n ad h0) (h : vRc n k w o) {X : Hp → Prop} (q : ∀ cs', FrR k w o cs cs' → (∀ y, y < 27 → rdC cs' k w o y = nI 0) → X (HN h0 ad cs' pm)) : CKv mX5_clear 0 0 0 [some (.ref (ad (gRc k w o))), none] (HN h0 ad cs pm) X := by
  intro Qc kq
  have b := vRc_b L h
  have nB : ∀ t t', t < 4 → t' < 4 → t ≠ t' → gAr k w o t ≠ gAr k w o t' := fun t t' ht ht' hne => by unfold gAr; omega
  have nC : ∀ t, t < 4 → gRc k w o ≠ gAr k w o t := fun t ht => by unfold gAr gRc; omega
  have fa : ∀ (d : Nat → Nat → Int32) (t j : Nat) (x : Int32), t < 4 → FrR k w o cs d → FrR k w o cs (up2 d (gAr k w o t) j x) := by
    intro d t j x ht hd g hg
    rw [← hd g hg]
    funext y
    rw [up2_a (hg.2 t ht)]
  have fr : ∀ (d : Nat → Nat → Int32) (j : Nat) (x : Int32), FrR k w o cs d → FrR k w o cs (up2 d (gRc k w o) j x) := by
    intro d j x hd g hg
    rw [← hd g hg]
    funext y
    rw [up2_a hg.1]
  let P0 : (Nat → Nat → Int32) → Prop := fun d => d (gRc k w o) 0 = nI 0 ∧ d (gRc k w o) 1 = nI 0 ∧ d (gRc k w o) 5 = nI 0
  have l3 : ∀ i, i ≤ 10 → ∀ d, FrR k w o cs d → P0 d → (∀ j, j < 2 → d (gAr k w o 0) j = nI 0 ∧ d (gAr k w o 1) j = nI 0) → (∀ j, j < 10 → d (gAr k w o 2) j = nI 0) → (∀ j, j < i → d (gAr k w o 3) j = nI 0) → Wm mX5_clear 0 0 0 Qc 68 [some (.ref (ad (gRc k w o))), some (.int (nI i))] [] (HN h0 ad d pm) 0 0 := by
    refine loopU 10 _ ?_ ?_
    · intro d hd hp h01 h2 h3
      refine tX5_clear_68 L ⟨fun _ => kq _ (q d hd (fun y hy => ?_)), fun c => absurd (nI_le (Nat.le_refl _) (by omega)) c⟩
      exact rd_ext (f := fun _ => nI 0) hp.1 hp.2.1 hp.2.2 (fun j hj => (h01 j hj).1) h2 (fun j hj => (h01 j hj).2) h3 hy
    · intro i hi ih d hd hp h01 h2 h3
      refine tX5_clear_68 L ⟨fun c => absurd c (nI_ge hi (by omega)), fun _ => ⟨h, i, rfl, hi, ?_⟩⟩
      rw [nI_add]
      refine ih _ (fa _ _ _ _ (by omega) hd) ⟨by rw [up2_a (nC 3 (by omega))]; exact hp.1, by rw [up2_a (nC 3 (by omega))]; exact hp.2.1, by rw [up2_a (nC 3 (by omega))]; exact hp.2.2⟩ (fun j hj => ⟨by rw [up2_a (nB 0 3 (by omega) (by omega) (by omega))]; exact (h01 j hj).1, by rw [up2_a (nB 1 3 (by omega) (by omega) (by omega))]; exact (h01 j hj).2⟩) (fun j hj => by rw [up2_a (nB 2 3 (by omega) (by omega) (by omega))]; exact h2 j hj) (fun j hj => ?_)
      by_cases c : j = i
      · rw [c, up2_s]
      · rw [up2_k c]; exact h3 j (by omega)
  have l2 : ∀ i, i ≤ 10 → ∀ d, FrR k w o cs d → P0 d → (∀ j, j < 2 → d (gAr k w o 0) j = nI 0 ∧ d (gAr k w o 1) j = nI 0) → (∀ j, j < i → d (gAr k w o 2) j = nI 0) → Wm mX5_clear 0 0 0 Qc 44 [some (.ref (ad (gRc k w o))), some (.int (nI i))] [] (HN h0 ad d pm) 0 0 := by
    refine loopU 10 _ ?_ ?_
    · intro d hd hp h01 h2
      exact tX5_clear_44 L ⟨h, fun _ => l3 0 (by omega) d hd hp h01 h2 (fun j hj => absurd hj (by omega)), fun c => absurd (nI_le (Nat.le_refl _) (by omega)) c⟩
    · intro i hi ih d hd hp h01 h2
      refine tX5_clear_44 L ⟨h, fun c => absurd c (nI_ge hi (by omega)), fun _ => ⟨i, rfl, hi, ?_⟩⟩
      rw [nI_add]
      refine ih _ (fa _ _ _ _ (by omega) hd) ⟨by rw [up2_a (nC 2 (by omega))]; exact hp.1, by rw [up2_a (nC 2 (by omega))]; exact hp.2.1, by rw [up2_a (nC 2 (by omega))]; exact hp.2.2⟩ (fun j hj => ⟨by rw [up2_a (nB 0 2 (by omega) (by omega) (by omega))]; exact (h01 j hj).1, by rw [up2_a (nB 1 2 (by omega) (by omega) (by omega))]; exact (h01 j hj).2⟩) (fun j hj => ?_)
      by_cases c : j = i
      · rw [c, up2_s]
      · rw [up2_k c]; exact h2 j (by omega)
  have l1 : ∀ i, i ≤ 2 → ∀ d, FrR k w o cs d → P0 d → (∀ j, j < i → d (gAr k w o 0) j = nI 0 ∧ d (gAr k w o 1) j = nI 0) → Wm mX5_clear 0 0 0 Qc 17 [some (.ref (ad (gRc k w o))), some (.int (nI i))] [] (HN h0 ad d pm) 0 0 := by
    refine loopU 2 _ ?_ ?_
    · intro d hd hp h01
      exact tX5_clear_17 L ⟨fun _ => l2 0 (by omega) d hd hp h01 (fun j hj => absurd hj (by omega)), fun c => absurd (nI_le (Nat.le_refl _) (by omega)) c⟩
    · intro i hi ih d hd hp h01
      refine tX5_clear_17 L ⟨fun c => absurd c (nI_ge hi (by omega)), fun _ => ⟨h, i, rfl, hi, ?_⟩⟩
      rw [nI_add]
      refine ih _ (fa _ _ _ _ (by omega) (fa _ _ _ _ (by omega) hd)) ⟨by rw [up2_a (nC 1 (by omega)), up2_a (nC 0 (by omega))]; exact hp.1, by rw [up2_a (nC 1 (by omega)), up2_a (nC 0 (by omega))]; exact hp.2.1, by rw [up2_a (nC 1 (by omega)), up2_a (nC 0 (by omega))]; exact hp.2.2⟩ (fun j hj => ?_)
      rw [up2_a (nB 0 1 (by omega) (by omega) (by omega))]
      by_cases c : j = i
      · rw [c, up2_s, up2_s]; exact ⟨rfl, rfl⟩
      · rw [up2_k c, up2_k c, up2_a (nB 1 0 (by omega) (by omega) (by omega))]; exact h01 j (by omega)
  refine tX5_clear_0 L ⟨h, l1 0 (by omega) _ (fr _ _ _ (fr _ _ _ (fr _ _ _ (fun _ _ => rfl)))) ⟨by rw [up2_k (by omega), up2_k (by omega), up2_s], by rw [up2_k (by omega), up2_s], up2_s⟩ (fun j hj => absurd hj (by omega))⟩
end CA

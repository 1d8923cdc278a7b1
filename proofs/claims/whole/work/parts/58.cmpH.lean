/-! THE CLASS: a state's messages -/
section CH
variable {n lc mc mc' : Nat} {ad : Nat → Nat} {h0 : Hp} {cs cs' : Nat → Nat → Int32} {pm pm' : Nat → Nat → Nat} {k s o l t m : Nat} {v v' : Nat → Int32}
def MsR (n mc : Nat) (cs : Nat → Nat → Int32) (pm : Nat → Nat → Nat) (k : Nat) (v : Nat → Int32) : Prop := ∀ j, j < mc → (∀ x, x < 3 → cs (gMg k (pm k j)) x = v (mgA j + x)) ∧ ∀ o, o < n → ∀ x, x < 27 → rdC cs k (5 + pm k j) o x = v (mgA j + 3 + 30 * o + x)
theorem SR.msg (h : SR n lc mc cs pm k v) (hn : n ≤ 5) (hm : mc' ≤ 8) (f1 : ∀ y, y ≠ 6 → cs' (gSt k) y = cs (gSt k) y) (f6 : cs' (gSt k) 6 = nI mc') (f2 : ∀ s o x, s < n → o < n → x < 27 → rdC cs' k s o x = rdC cs k s o x) (f3 : ∀ l, l < 10 → cs' (gLn k l) = cs (gLn k l)) (hv : ∀ j, j < 900 → j ≠ 5 → v' j = v j) (h5 : v' 5 = nI mc') (hM : MsR n mc' cs' pm' k v') : SR n lc mc' cs' pm' k v' := by
  obtain ⟨⟨a1, a2, a3, a4, a5, a6⟩, ⟨b1, b2, b3, b4⟩, c, d, e⟩ := h
  refine ⟨⟨?_, ?_, ?_, ?_, ?_, f6⟩, ⟨?_, h5, b3, hm⟩, ?_, ?_, hM⟩
  · rw [f1 1 (by omega), hv 1 (by omega) (by omega)]; exact a1
  · rw [f1 2 (by omega), hv 2 (by omega) (by omega)]; exact a2
  · rw [f1 3 (by omega), hv 3 (by omega) (by omega)]; exact a3
  · rw [f1 4 (by omega), hv 0 (by omega) (by omega)]; exact a4
  · rw [f1 5 (by omega)]; exact a5
  · rw [hv 4 (by omega) (by omega)]; exact b1
  · intro s o hs ho x hx
    have r1 := rcA_ge s o
    have r2 := rcA_lt (s := s) (i := o) (by omega) (by omega)
    rw [f2 s o x hs ho hx, c s o hs ho x hx]
    unfold tOf
    rw [hv 0 (by omega) (by omega), hv (rcA s o + 1) (by omega) (by omega), hv (rcA s o + x) (by omega) (by omega)]
  · intro l hl x hx
    rw [f3 l (by omega), d l hl x hx, hv]
    · unfold lnA; omega
    · unfold lnA; omega
def drP (pm : Nat → Nat → Nat) (k m i : Nat) : Nat → Nat → Nat := fun k' j => if k' = k ∧ m ≤ j ∧ j < i then pm k (j + 1) else pm k' j
theorem drP_0 : drP pm k m m = pm := by
  funext k' j; unfold drP; rw [if_neg (by omega)]
theorem drP_u {i : Nat} (h : m ≤ i) : up2 (drP pm k m i) k i (drP pm k m i k (i + 1)) = drP pm k m (i + 1) := by
  funext k' j
  unfold up2 drP
  by_cases c : k' = k ∧ j = i
  · rw [if_pos c, if_neg (by omega), if_pos (by omega), c.2]
  · rw [if_neg c]
    by_cases c2 : k' = k ∧ m ≤ j ∧ j < i
    · rw [if_pos c2, if_pos (by omega)]
    · rw [if_neg c2, if_neg (by omega)]
/-- the places of the messages once one is dropped -/
def drQ (pm : Nat → Nat → Nat) (k m mc : Nat) : Nat → Nat → Nat := up2 (drP pm k m (mc - 1)) k (mc - 1) (pm k m)
theorem drQ_in (j : Nat) : drQ pm k m mc k j = if j = mc - 1 then pm k m else if m ≤ j ∧ j < mc - 1 then pm k (j + 1) else pm k j := by
  unfold drQ
  by_cases c : j = mc - 1
  · rw [if_pos c, c, up2_s]
  · rw [if_neg c, up2_k c]
    unfold drP
    by_cases c2 : m ≤ j ∧ j < mc - 1
    · rw [if_pos c2, if_pos ⟨rfl, c2⟩]
    · rw [if_neg c2, if_neg (fun e => c2 e.2)]
theorem drQ_out {k' : Nat} (h : k' ≠ k) : drQ pm k m mc k' = pm k' := by
  funext j
  unfold drQ
  rw [up2_a h]
  unfold drP
  rw [if_neg (fun e => h e.1)]
theorem goV_lo {j : Nat} (h : j < 900) (h5 : j ≠ 5) : goV v mc m j = v j := by
  have := mgA_ge m
  unfold goV shf
  rw [if_neg (by omega), upd_ne h5]
theorem goV_5 : goV v mc m 5 = nI (mc - 1) := by
  have := mgA_ge m
  unfold goV shf
  rw [if_neg (by omega), upd_eq]
theorem goV_mg {j y : Nat} (hj : j < mc - 1) (hy : y < 160) : goV v mc m (mgA j + y) = if m ≤ j then v (mgA (j + 1) + y) else v (mgA j + y) := by
  have h9 := mgA_ge j
  unfold goV shf
  by_cases c : m ≤ j
  · rw [if_pos c, if_pos (by unfold mgA; omega), upd_ne (by omega)]
    exact congrArg v (by unfold mgA; omega)
  · rw [if_neg c, if_neg (by unfold mgA; omega), upd_ne (by omega)]
theorem c6_drop (L : Lay n ad h0) (h0' : S0 n cs pm k) (h : SR n lc mc cs pm k v) (hm : m < mc) {X : Hp → Prop} (q : ∀ cs' pm', FrS k cs cs' → (∀ k', k' ≠ k → pm' k' = pm k') → S0 n cs' pm' k → SR n lc (mc - 1) cs' pm' k (goV v mc m) → X (HN h0 ad cs' pm')) : CKv mX6_drop 0 0 0 [some (.ref (ad (gSt k))), some (.int (nI m)), none, none] (HN h0 ad cs pm) X := by
  intro Qc kq
  have hb := L.1
  have h0'' := h0'
  obtain ⟨hk, hn, hp1, hp2⟩ := h0'
  have h' := h
  obtain ⟨⟨a1, a2, a3, a4, a5, a6⟩, ⟨b1, b2, b3, b4⟩, c, d, e⟩ := h'
  have fin : X (HN h0 ad (up2 cs (gSt k) 6 (nI (mc - 1))) (drQ pm k m mc)) := by
    refine q _ _ ?_ (fun k' hk' => drQ_out hk') ⟨hk, ?_, ?_, ?_⟩ ?_
    · intro g hg
      funext y
      rw [up2_a (by intro e9; apply hg; rw [e9]; unfold gSt; omega)]
    · rw [up2_k (by omega)]; exact hn
    · intro j hj
      rw [drQ_in]
      split
      · exact hp1 m (by omega)
      · split
        · exact hp1 (j + 1) (by omega)
        · exact hp1 j hj
    · intro i j hi hj hij
      rw [drQ_in, drQ_in] at hij
      split at hij
      · split at hij
        · omega
        · split at hij
          · have := hp2 _ _ (by omega) (by omega) hij; omega
          · have := hp2 _ _ (by omega) (by omega) hij; omega
      · split at hij
        · split at hij
          · have := hp2 _ _ (by omega) (by omega) hij; omega
          · split at hij
            · have := hp2 _ _ (by omega) (by omega) hij; omega
            · have := hp2 _ _ (by omega) (by omega) hij; omega
        · split at hij
          · have := hp2 _ _ (by omega) (by omega) hij; omega
          · split at hij
            · have := hp2 _ _ (by omega) (by omega) hij; omega
            · exact hp2 _ _ (by omega) (by omega) hij
    · have rr : ∀ w o x, w < 13 → o < 5 → rdC (up2 cs (gSt k) 6 (nI (mc - 1))) k w o x = rdC cs k w o x := by
        intro w o x hw ho
        refine rd_same (fun g hg => ?_)
        have g1 : g ≠ gSt k := by
          rcases hg with rfl | ⟨t, ht, rfl⟩
          · unfold gSt gRc; omega
          · unfold gSt gAr; omega
        funext y
        rw [up2_a g1]
      refine h.msg (by omega) (by omega) (fun y hy => up2_k hy) up2_s (fun s o x hs ho hx => rr s o x (by omega) (by omega)) (fun l hl => ?_) (fun j hj h5 => goV_lo hj h5) goV_5 ?_
      · funext y; rw [up2_a (by unfold gLn gSt; omega)]
      · intro j hj
        rw [drQ_in, if_neg (by omega)]
        have hj1 : j < mc - 1 := hj
        by_cases cm : m ≤ j
        · rw [if_pos ⟨cm, hj1⟩]
          obtain ⟨e1, e2⟩ := e (j + 1) (by omega)
          have hp := hp1 (j + 1) (by omega)
          refine ⟨fun x hx => ?_, fun o ho x hx => ?_⟩
          · rw [up2_a (by unfold gMg gSt; omega), e1 x hx, goV_mg hj1 (by omega), if_pos cm]
          · rw [rr _ o x (by omega) (by omega), e2 o ho x hx, show mgA j + 3 + 30 * o + x = mgA j + (3 + 30 * o + x) by omega, goV_mg hj1 (by omega), if_pos cm]
            exact congrArg v (by omega)
        · rw [if_neg (fun e => cm e.1)]
          obtain ⟨e1, e2⟩ := e j (by omega)
          have hp := hp1 j (by omega)
          refine ⟨fun x hx => ?_, fun o ho x hx => ?_⟩
          · rw [up2_a (by unfold gMg gSt; omega), e1 x hx, goV_mg hj1 (by omega), if_neg cm]
          · rw [rr _ o x (by omega) (by omega), e2 o ho x hx, show mgA j + 3 + 30 * o + x = mgA j + (3 + 30 * o + x) by omega, goV_mg hj1 (by omega), if_neg cm]
  have loop : ∀ g i, i + g = mc - 1 → m ≤ i → Wm mX6_drop 0 0 0 Qc 9 [some (.ref (ad (gSt k))), none, some (.ref (ad (gMg k (pm k m)))), some (.int (nI i))] [] (HN h0 ad cs (drP pm k m i)) 0 0 := by
    intro g
    induction g with
    | zero =>
      intro i hi hmi
      rw [Nat.add_zero] at hi
      subst hi
      refine tX6_drop_9 L ⟨hk, fun _ => ⟨mc - 1, by rw [a6, pk_sub (by omega)], by omega, rfl, hp1 m (by omega), ?_⟩, fun c => absurd (by rw [a6, nI_add]; exact nI_le (by omega) (by omega)) c⟩
      rw [a6, pk_sub (by omega)]
      exact kq _ fin
    | succ g ih =>
      intro i hi hmi
      refine tX6_drop_9 L ⟨hk, fun c => absurd c (by rw [a6, nI_add]; exact nI_ge (by omega) (by omega)), fun _ => ⟨i + 1, nI_add _ _, by omega, ?_, i, rfl, by omega, ?_⟩⟩
      · show (if k = k ∧ m ≤ i + 1 ∧ i + 1 < i then pm k (i + 1 + 1) else pm k (i + 1)) < 8
        rw [if_neg (by omega)]
        exact hp1 _ (by omega)
      · rw [drP_u hmi, nI_add]
        exact ih (i + 1) (by omega) (by omega)
  have l0 := loop (mc - 1 - m) m (by omega) (Nat.le_refl _)
  rw [drP_0] at l0
  exact tX6_drop_0 L ⟨hk, m, rfl, by omega, hp1 m (by omega), l0⟩
end CH

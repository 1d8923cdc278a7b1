/-! THE CLASS: a change -/
theorem reL_v {v : Nat → Int32} {s l : Nat} {y : Int32} (hl : l < 10) : reL (upd v (rcA s s) y) l = reL v l := by
  have h := rcA_ge s s
  have e1 : la (upd v (rcA s s) y) l = la v l := la_upd (by unfold lnA; omega)
  have e2 : lb (upd v (rcA s s) y) l = lb v l := lb_upd (by unfold lnA; omega)
  unfold reL knB usL
  rw [e1, e2, upd_ne (show rcA (lb v l) (la v l) + 16 ≠ rcA s s by unfold rcA; omega), upd_ne (show lnA l + 4 ≠ rcA s s by unfold lnA; omega), upd_ne (show (0 : Nat) ≠ rcA s s by omega), upd_ne (show lnA l + 3 ≠ rcA s s by unfold lnA; omega), upd_ne (show rcA (lb v l) (lb v l) + 17 + l ≠ rcA s s by unfold rcA; omega)]
theorem flN_v {v : Nat → Int32} {s t : Nat} {y : Int32} : ∀ i, i ≤ 10 → flN (upd v (rcA s s) y) s t i = flN v s t i
  | 0, _ => rfl
  | i + 1, hi => by
    have h := rcA_ge s s
    have ih := flN_v (v := v) (s := s) (t := t) (y := y) i (by omega)
    rw [flN, flN, ih, reL_v (by omega), upd_ne (show lnA i + 1 ≠ rcA s s by unfold lnA; omega), upd_ne (show lnA i + 2 ≠ rcA s s by unfold lnA; omega)]
    cases e : flN v s t i with
    | none => rfl
    | some b =>
      have := flN_lt e
      simp only
      rw [upd_ne (show lnA b + 4 ≠ rcA s s by unfold lnA; omega), upd_ne (show lnA i + 4 ≠ rcA s s by unfold lnA; omega)]
theorem chg_upd {v : Nat → Int32} {s z : Nat} {y : Int32} (hz : z ≠ rcA s s) : chgV (upd v z y) s = upd (chgV v s) z y := by
  unfold chgV
  rw [upd_ne (Ne.symm hz), upd_comm hz]
theorem usR_chg {lc s t : Nat} (hlc : lc ≤ 10) : ∀ (g : Nat) (v : Nat → Int32) (left : Int32), usR lc s t g (chgV v s) left = chgV (usR lc s t g v left) s
  | 0, _, _ => rfl
  | g + 1, v, left => by
    rw [usR, usR]
    have e : flN (chgV v s) s t lc = flN v s t lc := flN_v lc hlc
    rw [e]
    cases e2 : flN v s t lc with
    | none => rfl
    | some b =>
      have hb := flN_lt e2
      simp only
      by_cases c : left ≤ 0
      · rw [if_pos c, if_pos c]
      · rw [if_neg c, if_neg c]
        have e3 : prt (chgV v s) b left = prt v b left := by
          unfold prt chgV
          rw [reL_v (by omega)]
        have e4 : ∀ y, usS (chgV v s) s b y = chgV (usS v s b y) s := by
          intro y
          unfold usS
          rw [chg_upd (by omega)]
          rw [show chgV v s (rcA s s + 17 + b) = v (rcA s s + 17 + b) by unfold chgV; rw [upd_ne (by omega)]]
        rw [e3, e4]
        exact usR_chg hlc g _ _
section CE
variable {n lc mc : Nat} {ad : Nat → Nat} {h0 : Hp} {cs cs' : Nat → Nat → Int32} {pm : Nat → Nat → Nat} {k s o l t : Nat} {v v' : Nat → Int32}
theorem c6_change (L : Lay n ad h0) (h0' : S0 n cs pm k) (h : SR n lc mc cs pm k v) (hw : WL n lc v) (hs : s < n) (ht : t < 2) {x : Int32} {X : Int32 → Hp → Prop} (q : ∀ cs', FrS k cs cs' → S0 n cs' pm k → SR n lc mc cs' pm k (chV n lc v s t x) → X (bI (chB n lc v s t x)) (HN h0 ad cs' pm)) : CKi mX6_change 4 0 0 [some (.ref (ad (gSt k))), some (.int (nI s)), some (.int (nI t)), some (.int x), none, none] (HN h0 ad cs pm) X := by
  intro Qc kq
  have hb := L.1
  have hk := h0'.1
  have hpm := h0'.2.2.1
  have hlc := hw.2.1
  have hr := rcA_ge s s
  have hS1 : S0 n (up2 cs (gRc k s s) 0 (cs (gRc k s s) 0 + nI 1)) pm k := h0'.rec FrR_R (by omega) (by omega)
  have hR1 : SR n lc mc (up2 cs (gRc k s s) 0 (cs (gRc k s s) 0 + nI 1)) pm k (chgV v s) := by
    have := h.cell hpm (by omega) hs (z := 0) (x := cs (gRc k s s) 0 + nI 1) (by omega) (by omega) FrR_R (fun y hy => rd_upR (Or.inl ⟨rfl, rfl⟩) y hy)
    rw [show cs (gRc k s s) 0 = v (rcA s s) from rd_nt h hs (x := 0) (by omega) (by omega)] at this ⊢
    exact this
  have hW1 : WL n lc (chgV v s) := hw.upd hr _
  refine tX6_change_0 L ⟨hk, c6_recordOf L hk hs (tX6_change_5 L ⟨hk, c6_availableRights L h0' h hw hs ht (tX6_change_14 L ⟨vRc_s hk hs hs, fun c => ⟨hk, ?_⟩, fun c => ⟨t, rfl, ht, ?_⟩⟩)⟩)⟩
  · rw [show chB n lc v s t x = true by simp [chB, c]] at q
    refine c6_useLoans L hs ht hS1 hR1 hW1 (fun d hF hS hR => tX6_change_64 L ⟨vRc_s hk hs hs, t, rfl, ht, kq _ _ (q _ ?_ (hS.rec (FrR_A (by omega)) (by omega) (by omega)) ?_)⟩)
    · exact ((FrR_R.trans hF).trans (FrR_A (by omega))).S (by omega) (by omega)
    · have hc := hR.cell hpm (by omega) hs (z := 2 + t) (x := d (gAr k s s 0) t + x) (by omega) (by omega) (FrR_A (t := 0) (j := t) (by omega)) (fun y hy => rd_up0 ht y hy)
      rw [chV, if_pos c, donV, chg_upd (by omega), ← usR_chg hlc]
      rw [hR.ch hs hs ht, usR_chg hlc] at hc
      rw [usR_chg hlc]
      rw [hR.ch hs hs ht, usR_chg hlc, ← Nat.add_assoc] at *
      have e9 : chgV (usR lc s t lc v x) s (rcA s s + 2 + t) = usR lc s t lc v x (rcA s s + 2 + t) := by unfold chgV; rw [upd_ne (by omega)]
      rw [e9] at hc ⊢
      exact hc
  · rw [show chB n lc v s t x = false by simp [chB, c]] at q
    refine kq _ _ (q _ ((FrR_R.trans (FrR_A (by omega))).S (by omega) (by omega)) (hS1.rec (FrR_A (by omega)) (by omega) (by omega)) ?_)
    rw [hR1.dm hs hs ht, show chgV v s (rcA s s + 14 + t) = v (rcA s s + 14 + t) by unfold chgV; rw [upd_ne (by omega)]]
    have hc := fun y => hR1.cell hpm (by omega) hs (z := 14 + t) (x := y) (by omega) (by omega) (FrR_A (t := 1) (j := t) (by omega)) (fun z hz => rd_up1 ht z hz)
    rw [chV, if_neg c, demV, chg_upd (by omega)]
    rw [← Nat.add_assoc] at hc
    have eD : (if v (rcA s s + 14 + t) + (x - avl n lc v s t) < nI 100000 then v (rcA s s + 14 + t) + (x - avl n lc v s t) else nI 100000) = (if v (rcA s s + 14 + t) + (x - avl n lc v s t) ≤ nI 100000 then v (rcA s s + 14 + t) + (x - avl n lc v s t) else nI 100000) := by
      by_cases c1 : v (rcA s s + 14 + t) + (x - avl n lc v s t) < nI 100000
      · rw [if_pos c1, if_pos (Int32.le_of_lt c1)]
      · rw [if_neg c1]
        by_cases c2 : v (rcA s s + 14 + t) + (x - avl n lc v s t) ≤ nI 100000
        · rw [if_pos c2]
          exact Int32.le_antisymm (Int32.not_lt.mp c1) c2
        · rw [if_neg c2]
    rw [eD]
    exact hc _
end CE

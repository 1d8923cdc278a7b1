/-! THE CLASS: a site writes into its own record -/
theorem FrR.S {k w o : Nat} {cs cs' : Nat → Nat → Int32} (h : FrR k w o cs cs') (hw : w < 13) (ho : o < 5) : FrS k cs cs' := by
  intro g hg
  refine h g ⟨?_, fun t ht => ?_⟩
  · intro e; apply hg; rw [e]; unfold gRc; omega
  · intro e; apply hg; rw [e]; unfold gAr; omega
theorem FrS.trans {k : Nat} {cs cs' cs'' : Nat → Nat → Int32} (a : FrS k cs cs') (b : FrS k cs' cs'') : FrS k cs cs'' := fun g hg => by rw [b g hg, a g hg]
theorem FrS.refl {k : Nat} {cs : Nat → Nat → Int32} : FrS k cs cs := fun _ _ => rfl
section CD
variable {n lc mc : Nat} {ad : Nat → Nat} {h0 : Hp} {cs cs' : Nat → Nat → Int32} {pm : Nat → Nat → Nat} {k s o l t : Nat} {v v' : Nat → Int32}
theorem S0.rec (h : S0 n cs pm k) (f : FrR k s o cs cs') (hs : s < 13) (ho : o < 5) : S0 n cs' pm k := by
  obtain ⟨a, b, c, d⟩ := h
  refine ⟨a, ?_, c, d⟩
  rw [f (gSt k) ⟨by unfold gSt gRc; omega, fun t ht => by unfold gSt gAr; omega⟩]
  exact b
theorem SR.rec (h : SR n lc mc cs pm k v) (hpm : ∀ j, j < 8 → pm k j < 8) (hn : n ≤ 5) (hs : s < n) (f : FrR k s s cs cs') (hv : ∀ j, (j < rcA s s ∨ rcA s s + 27 ≤ j) → v' j = v j) (hx : ∀ x, x < 27 → x ≠ 1 → rdC cs' k s s x = v' (rcA s s + x)) (h1 : rdC cs' k s s 1 = rdC cs k s s 1) : SR n lc mc cs' pm k v' := by
  obtain ⟨⟨a1, a2, a3, a4, a5, a6⟩, ⟨b1, b2, b3, b4⟩, c, d, e⟩ := h
  have hr := rcA_ge s s
  have hr2 := rcA_lt (s := s) (i := s) (by omega) (by omega)
  have lo : ∀ j, j < 60 → v' j = v j := fun j hj => hv j (by omega)
  have fs : cs' (gSt k) = cs (gSt k) := f (gSt k) ⟨by unfold gSt gRc; omega, fun t ht => by unfold gSt gAr; omega⟩
  have tO : ∀ s' o', s' < n → o' < n → tOf v' s' o' = tOf v s' o' := by
    intro s' o' hs' ho'
    unfold tOf
    by_cases c1 : s' = o'
    · rw [if_pos c1, if_pos c1, lo 0 (by omega)]
    · rw [if_neg c1, if_neg c1, hv]
      unfold rcA
      omega
  refine ⟨?_, ⟨?_, ?_, b3, b4⟩, ?_, ?_, ?_⟩
  · rw [fs, lo 0 (by omega), lo 1 (by omega), lo 2 (by omega), lo 3 (by omega)]
    exact ⟨a1, a2, a3, a4, a5, a6⟩
  · rw [lo 4 (by omega)]; exact b1
  · rw [lo 5 (by omega)]; exact b2
  · intro s' o' hs' ho' x hx27
    by_cases same : s' = s ∧ o' = s
    · obtain ⟨rfl, rfl⟩ := same
      by_cases c1 : x = 1
      · subst c1
        rw [h1, c o' o' hs' ho' 1 (by omega), if_pos rfl, if_pos rfl, tO o' o' hs' ho']
      · rw [if_neg c1, hx x hx27 c1]
    · rw [f.rd (by omega) (by omega) (by omega) (by omega) (by omega), c s' o' hs' ho' x hx27, tO s' o' hs' ho', hv (rcA s' o' + x)]
      unfold rcA
      omega
  · intro l hl x hx5
    rw [f (gLn k l) ⟨by unfold gLn gRc; omega, fun t ht => by unfold gLn gAr; omega⟩, d l hl x hx5, lo]
    unfold lnA
    omega
  · intro j hj
    obtain ⟨e1, e2⟩ := e j hj
    have hp := hpm j (by omega)
    refine ⟨fun x hx3 => ?_, fun o' ho' x hx27 => ?_⟩
    · rw [f (gMg k (pm k j)) ⟨by unfold gMg gRc; omega, fun t ht => by unfold gMg gAr; omega⟩, e1 x hx3, hv]
      have := mgA_ge j
      omega
    · rw [f.rd (by omega) (by omega) (by omega) (by omega) (by omega), e2 o' ho' x hx27, hv]
      have := mgA_ge j
      omega
theorem rd_nt (h : SR n lc mc cs pm k v) (hs : s < n) {x : Nat} (hx : x < 27) (h1 : x ≠ 1) : rdC cs k s s x = v (rcA s s + x) := h.rd hs hs hx h1
theorem c6_give (L : Lay n ad h0) (h0' : S0 n cs pm k) (h : SR n lc mc cs pm k v) (hs : s < n) (ho : o < n) (ht : t < 2) {x : Int32} {X : Hp → Prop} (q : ∀ cs', FrS k cs cs' → S0 n cs' pm k → SR n lc mc cs' pm k (givV v t s o x) → X (HN h0 ad cs' pm)) : CKv mX6_give 1 0 0 [some (.ref (ad (gSt k))), some (.int (nI t)), some (.int (nI s)), some (.int (nI o)), some (.int x)] (HN h0 ad cs pm) X := by
  intro Qc kq
  have hb := L.1
  have hk := h0'.1
  refine tX6_give_0 L ⟨hk, c6_recordOf L hk hs (tX6_give_5 L ⟨vRc_s hk hs hs, c5_give L (vRc_s hk hs hs) (by omega) ht (fun cs' hF hR => tX6_give_12 L (kq _ (q cs' (hF.S (by omega) (by omega)) (h0'.rec hF (by omega) (by omega)) (h.rec h0'.2.2.1 (by omega) hs hF ?_ ?_ ?_))))⟩)⟩
  · intro j hj
    rw [givV, chgV, upd_ne (by omega), upd_ne (by omega)]
  · intro y hy y1
    rw [hR y hy, givV, chgV]
    by_cases c0 : y = 0
    · subst c0
      rw [if_pos rfl, show rcA s s + 0 = rcA s s from rfl, upd_eq, upd_ne (by omega), rd_nt h hs (by omega) (by omega)]; rfl
    · rw [if_neg c0, upd_ne (by omega)]
      by_cases c1 : y = 4 + 5 * t + o
      · rw [if_pos c1, c1, show rcA s s + (4 + 5 * t + o) = rcA s s + 4 + 5 * t + o by omega, upd_eq, rd_nt h hs (by omega) (by omega), show rcA s s + (4 + 5 * t + o) = rcA s s + 4 + 5 * t + o by omega]
      · rw [if_neg c1, upd_ne (by omega), rd_nt h hs (by omega) (by omega)]
  · rw [hR 1 (by omega), if_neg (by omega), if_neg (by omega)]
/-- one of a record's cells is written -/
theorem rd_up3 {j : Nat} {x : Int32} (hj : j < 10) (y : Nat) (hy : y < 27) : rdC (up2 cs (gAr k s o 3) j x) k s o y = if y = 17 + j then x else rdC cs k s o y := by
  refine rd_ext (f := fun y => if y = 17 + j then x else rdC cs k s o y) ?_ ?_ ?_ ?_ ?_ ?_ ?_ hy
  · rw [up2_a (by unfold gRc gAr; omega)]; show _ = if 0 = 17 + j then _ else _; rw [if_neg (by omega)]; rfl
  · rw [up2_a (by unfold gRc gAr; omega)]; show _ = if 1 = 17 + j then _ else _; rw [if_neg (by omega)]; rfl
  · rw [up2_a (by unfold gRc gAr; omega)]; show _ = if 16 = 17 + j then _ else _; rw [if_neg (by omega)]; rfl
  · intro i hi; rw [up2_a (by unfold gAr; omega), rdA0 cs hi]; show _ = if 2 + i = 17 + j then _ else _; rw [if_neg (by omega)]
  · intro i hi; rw [up2_a (by unfold gAr; omega), rdA2 cs hi]; show _ = if 4 + i = 17 + j then _ else _; rw [if_neg (by omega)]
  · intro i hi; rw [up2_a (by unfold gAr; omega), rdA1 cs hi]; show _ = if 14 + i = 17 + j then _ else _; rw [if_neg (by omega)]
  · intro i hi
    show _ = if 17 + i = 17 + j then _ else _
    by_cases c : i = j
    · rw [c, up2_s, if_pos rfl]
    · rw [up2_k c, if_neg (by omega), rdA3 cs hi]
theorem rd_up0 {j : Nat} {x : Int32} (hj : j < 2) (y : Nat) (hy : y < 27) : rdC (up2 cs (gAr k s o 0) j x) k s o y = if y = 2 + j then x else rdC cs k s o y := by
  refine rd_ext (f := fun y => if y = 2 + j then x else rdC cs k s o y) ?_ ?_ ?_ ?_ ?_ ?_ ?_ hy
  · rw [up2_a (by unfold gRc gAr; omega)]; show _ = if 0 = 2 + j then _ else _; rw [if_neg (by omega)]; rfl
  · rw [up2_a (by unfold gRc gAr; omega)]; show _ = if 1 = 2 + j then _ else _; rw [if_neg (by omega)]; rfl
  · rw [up2_a (by unfold gRc gAr; omega)]; show _ = if 16 = 2 + j then _ else _; rw [if_neg (by omega)]; rfl
  · intro i hi
    show _ = if 2 + i = 2 + j then _ else _
    by_cases c : i = j
    · rw [c, up2_s, if_pos rfl]
    · rw [up2_k c, if_neg (by omega), rdA0 cs hi]
  · intro i hi; rw [up2_a (by unfold gAr; omega), rdA2 cs hi]; show _ = if 4 + i = 2 + j then _ else _; rw [if_neg (by omega)]
  · intro i hi; rw [up2_a (by unfold gAr; omega), rdA1 cs hi]; show _ = if 14 + i = 2 + j then _ else _; rw [if_neg (by omega)]
  · intro i hi; rw [up2_a (by unfold gAr; omega), rdA3 cs hi]; show _ = if 17 + i = 2 + j then _ else _; rw [if_neg (by omega)]
theorem rd_up1 {j : Nat} {x : Int32} (hj : j < 2) (y : Nat) (hy : y < 27) : rdC (up2 cs (gAr k s o 1) j x) k s o y = if y = 14 + j then x else rdC cs k s o y := by
  refine rd_ext (f := fun y => if y = 14 + j then x else rdC cs k s o y) ?_ ?_ ?_ ?_ ?_ ?_ ?_ hy
  · rw [up2_a (by unfold gRc gAr; omega)]; show _ = if 0 = 14 + j then _ else _; rw [if_neg (by omega)]; rfl
  · rw [up2_a (by unfold gRc gAr; omega)]; show _ = if 1 = 14 + j then _ else _; rw [if_neg (by omega)]; rfl
  · rw [up2_a (by unfold gRc gAr; omega)]; show _ = if 16 = 14 + j then _ else _; rw [if_neg (by omega)]; rfl
  · intro i hi; rw [up2_a (by unfold gAr; omega), rdA0 cs hi]; show _ = if 2 + i = 14 + j then _ else _; rw [if_neg (by omega)]
  · intro i hi; rw [up2_a (by unfold gAr; omega), rdA2 cs hi]; show _ = if 4 + i = 14 + j then _ else _; rw [if_neg (by omega)]
  · intro i hi
    show _ = if 14 + i = 14 + j then _ else _
    by_cases c : i = j
    · rw [c, up2_s, if_pos rfl]
    · rw [up2_k c, if_neg (by omega), rdA1 cs hi]
  · intro i hi; rw [up2_a (by unfold gAr; omega), rdA3 cs hi]; show _ = if 17 + i = 14 + j then _ else _; rw [if_neg (by omega)]
theorem rd_upR {j z : Nat} {x : Int32} (hj : (j = 0 ∧ z = 0) ∨ (j = 5 ∧ z = 16)) (y : Nat) (hy : y < 27) : rdC (up2 cs (gRc k s o) j x) k s o y = if y = z then x else rdC cs k s o y := by
  have nA : ∀ t, t < 4 → gAr k s o t ≠ gRc k s o → True := fun _ _ _ => trivial
  refine rd_ext (f := fun y => if y = z then x else rdC cs k s o y) ?_ ?_ ?_ ?_ ?_ ?_ ?_ hy
  · show _ = if 0 = z then _ else _
    rcases hj with ⟨rfl, rfl⟩ | ⟨rfl, rfl⟩
    · rw [up2_s, if_pos rfl]
    · rw [up2_k (by omega), if_neg (by omega)]; rfl
  · show _ = if 1 = z then _ else _
    rw [up2_k (by omega), if_neg (by omega)]; rfl
  · show _ = if 16 = z then _ else _
    rcases hj with ⟨rfl, rfl⟩ | ⟨rfl, rfl⟩
    · rw [up2_k (by omega), if_neg (by omega)]; rfl
    · rw [up2_s, if_pos rfl]
  · intro i hi; rw [up2_a (by unfold gAr gRc; omega), rdA0 cs hi]; show _ = if 2 + i = z then _ else _; rw [if_neg (by omega)]
  · intro i hi; rw [up2_a (by unfold gAr gRc; omega), rdA2 cs hi]; show _ = if 4 + i = z then _ else _; rw [if_neg (by omega)]
  · intro i hi; rw [up2_a (by unfold gAr gRc; omega), rdA1 cs hi]; show _ = if 14 + i = z then _ else _; rw [if_neg (by omega)]
  · intro i hi; rw [up2_a (by unfold gAr gRc; omega), rdA3 cs hi]; show _ = if 17 + i = z then _ else _; rw [if_neg (by omega)]
theorem FrR_A {j : Nat} {x : Int32} (ht : t < 4) : FrR k s o cs (up2 cs (gAr k s o t) j x) := by
  intro g hg; funext y; rw [up2_a (hg.2 t ht)]
theorem FrR_R {j : Nat} {x : Int32} : FrR k s o cs (up2 cs (gRc k s o) j x) := by
  intro g hg; funext y; rw [up2_a hg.1]
/-- the cell z of a site's own record is written, in both -/
theorem SR.cell (h : SR n lc mc cs pm k v) (hpm : ∀ j, j < 8 → pm k j < 8) (hn : n ≤ 5) (hs : s < n) {z : Nat} {x : Int32} (hz : z < 27) (hz1 : z ≠ 1) (f : FrR k s s cs cs') (hx : ∀ y, y < 27 → rdC cs' k s s y = if y = z then x else rdC cs k s s y) : SR n lc mc cs' pm k (upd v (rcA s s + z) x) := by
  refine h.rec hpm hn hs f (fun j hj => upd_ne (by omega)) (fun y hy h1 => ?_) ?_
  · rw [hx y hy]
    by_cases c : y = z
    · rw [if_pos c, c, upd_eq]
    · rw [if_neg c, upd_ne (by omega), rd_nt h hs hy h1]
  · rw [hx 1 (by omega), if_neg (by omega)]
theorem c6_useLoans (L : Lay n ad h0) (hs : s < n) (ht : t < 2) {x : Int32} {X : Hp → Prop} (h0' : S0 n cs pm k) (h : SR n lc mc cs pm k v) (hw : WL n lc v) (q : ∀ cs', FrR k s s cs cs' → S0 n cs' pm k → SR n lc mc cs' pm k (usR lc s t lc v x) → X (HN h0 ad cs' pm)) : CKv mX6_useLoans 3 0 0 [some (.ref (ad (gSt k))), some (.int (nI s)), some (.int (nI t)), some (.int x), none, none, none, none] (HN h0 ad cs pm) X := by
  intro Qc kq
  have hb := L.1
  have hk := h0'.1
  have hlc := hw.2.1
  have main : ∀ (g i : Nat) (d : Nat → Nat → Int32) (w : Nat → Int32) (left : Int32), i + g = lc → FrR k s s cs d → S0 n d pm k → SR n lc mc d pm k w → WL n lc w → usR lc s t g w left = usR lc s t lc v x → Wm mX6_useLoans 3 0 0 Qc 6 [some (.ref (ad (gSt k))), some (.int (nI s)), some (.int (nI t)), none, some (.int left), some (.int (nI i)), none, none] [] (HN h0 ad d pm) 0 0 := by
    intro g
    induction g with
    | zero =>
      intro i d w left hi hF hS hR hW he
      rw [usR] at he
      rw [← he] at q
      exact tX6_useLoans_6 L ⟨hk, fun _ => kq _ (q d hF hS hR), fun c => absurd (by rw [hR.1.2.2.2.2.1]; exact nI_le (by omega) (by omega)) c⟩
    | succ g ih =>
      intro i d w left hi hF hS hR hW he
      refine tX6_useLoans_6 L ⟨hk, fun c => absurd c (by rw [hR.1.2.2.2.2.1]; exact nI_ge (by omega) (by omega)), fun _ => ⟨fun c => ?_, fun c => c6_soonestLoan L hk hR hW ?_⟩⟩
      · have : usR lc s t (g + 1) w left = w := by
          rw [usR]
          split
          · rfl
          · rw [if_pos c]
        rw [this] at he
        rw [← he] at q
        exact kq _ (q d hF hS hR)
      · rw [usR] at he
        cases e : flN w s t lc with
        | none =>
          rw [e] at he
          simp only at he
          rw [← he] at q
          exact tX6_useLoans_26 L ⟨fun c2 => absurd rfl c2, fun _ => kq _ (q d hF hS hR)⟩
        | some b =>
          rw [e] at he
          simp only [if_neg c] at he
          have hbl := flN_lt e
          refine tX6_useLoans_26 L ⟨fun _ => ⟨hk, c6_restOf L hk hR hW hbl (tX6_useLoans_43 L ⟨hk, c6_recordOf L hk hs (tX6_useLoans_53 L ⟨vRc_s hk hs hs, b, rfl, by omega, ?_⟩)⟩)⟩, fun c2 => absurd c2 (oI_m1 (by omega))⟩
          have ep : (if reL w b < left then reL w b else left) = prt w b left := by
            unfold prt
            by_cases c3 : left ≤ reL w b
            · rw [if_pos c3, if_neg (Int32.not_lt.mpr c3)]
            · rw [if_neg c3, if_pos (Int32.not_le.mp c3)]
          rw [ep, hR.us hs hs (by omega), nI_add]
          refine ih (i + 1) _ (usS w s b (prt w b left)) _ (by omega) (hF.trans (FrR_A (by omega))) (hS.rec (FrR_A (by omega)) (by omega) (by omega)) ?_ (hW.upd (by have := rcA_ge s s; omega) _) he
          have hc := hR.cell h0'.2.2.1 (by omega) hs (z := 17 + b) (x := w (rcA s s + 17 + b) + prt w b left) (by omega) (by omega) (FrR_A (t := 3) (j := b) (by omega)) (fun y hy => rd_up3 (by omega) y hy)
          rw [← Nat.add_assoc] at hc
          exact hc
  exact tX6_useLoans_0 L (main lc 0 cs v x (by omega) (fun _ _ => rfl) h0' h hw rfl)
end CD

/-! THE PURE SIDE: a change, a loan, time -/
section PF
variable {t n lc mc : Nat} {v v' : Nat → Int32} {s k o l q u : Nat}
theorem tn1 : (nI 1).toInt = 1 := rfl
theorem don_c {x : Int32} (j : Nat) : donV v k s x j = if j = rcA s s then v (rcA s s) + nI 1 else if j = rcA s s + 2 + k then v (rcA s s + 2 + k) + x else v j := by
  unfold donV chgV
  by_cases e : j = rcA s s
  · rw [if_pos e, e, upd_eq, upd_ne (by omega)]
  · rw [if_neg e, upd_ne e]
    by_cases e2 : j = rcA s s + 2 + k
    · rw [if_pos e2, e2, upd_eq]
    · rw [if_neg e2, upd_ne e2]
theorem don_o {x : Int32} {j : Nat} (h1 : j ≠ rcA s s) (h2 : j ≠ rcA s s + 2 + k) : donV v k s x j = v j := by rw [don_c, if_neg h1, if_neg h2]
theorem dem_c {x : Int32} (j : Nat) : demV v k s x j = if j = rcA s s then v (rcA s s) + nI 1 else if j = rcA s s + 14 + k then (if v (rcA s s + 14 + k) + x ≤ nI 100000 then v (rcA s s + 14 + k) + x else nI 100000) else v j := by
  unfold demV chgV
  by_cases e : j = rcA s s
  · rw [if_pos e, e, upd_eq, upd_ne (by omega)]
  · rw [if_neg e, upd_ne e]
    by_cases e2 : j = rcA s s + 14 + k
    · rw [if_pos e2, e2, upd_eq]
    · rw [if_neg e2, upd_ne e2]
theorem dem_o {x : Int32} {j : Nat} (h1 : j ≠ rcA s s) (h2 : j ≠ rcA s s + 14 + k) : demV v k s x j = v j := by rw [dem_c, if_neg h1, if_neg h2]
theorem PI.ver (h : PI t n lc mc v) (ht : t < 100000) (hs : s < n) : (v (rcA s s) + nI 1).toInt = tz v (rcA s s) + 1 := by
  have hb : 0 ≤ tz v (rcA s s) ∧ tz v (rcA s s) ≤ 20000 * (t : Int) := (h.2.1 s hs).1 0 (Or.inl rfl)
  unfold tz at hb ⊢
  rw [tI_add (by rw [tn1]; omega) (by rw [tn1]; omega), tn1]
theorem PI.dem (h : PI t n lc mc v) (hn : n ≤ 5) (hs : s < n) (hk : k < 2) : 0 ≤ tz v (rcA s s + 14 + k) ∧ tz v (rcA s s + 14 + k) ≤ 100000 := by
  have := (h.2.2.1 s hs s (vq_o hs)).2.2.1 k hk
  rw [sp_v (by omega) (by omega), show rcA s s + (14 + k) = rcA s s + 14 + k by omega] at this
  exact this
theorem PI.refuse (hn : 2 ≤ n ∧ n ≤ 5) (h : PI t n lc mc v) (ht : t < 100000) (hs : s < n) (hk : k < 2) {y : Int32} (hy : 0 ≤ y.toInt) (hy2 : y.toInt ≤ 999) : PI (t + 1) n lc mc (demV v k s y) := by
  have hW := h.W
  have hlc := hW.2.1
  have hr := h.2.1 s hs
  have hlo : ∀ j, j < 60 → demV v k s y j = v j := fun j hj => dem_o (by unfold rcA; omega) (by unfold rcA; omega)
  have hW' : WL n lc (demV v k s y) := (hW.upd (by have := rcA_ge s s; omega) _).upd (rcA_ge s s) _
  have hV : tz (demV v k s y) (rcA s s) = tz v (rcA s s) + 1 := by
    rw [← h.ver ht hs]
    unfold tz
    rw [dem_c, if_pos rfl]
  refine h.step hn hs (Nat.le_refl lc) hW' (hlo 5 (by omega)) (hlo 1 (by omega)) (hlo 2 (by omega)) (hlo 3 (by omega)) (hlo 0 (by omega)) (fun l hl x hx => hlo _ (by unfold lnA; omega)) (fun l h1 h2 => by omega) (fun j h1 h2 => dem_o (by omega) (by omega)) hV (fun x h1 h2 => ?_) (fun x h1 h2 => ?_) (fun k' hk' => ?_) (fun l hl => ?_) (fun l h1 h2 => ?_) (fun l hl hb => ?_) (fun l hl hb he => ?_) (fun s' k' hs' hk' => ?_)
  · have := hr.1 x (by omega)
    rw [tz_eq (show demV v k s y (rcA s s + x) = v (rcA s s + x) from dem_o (by omega) (by omega))]
    omega
  · rw [tz_eq (show demV v k s y (rcA s s + x) = v (rcA s s + x) from dem_o (by omega) (by omega))]
    omega
  · have hd := h.dem (by omega) hs hk'
    by_cases e : k' = k
    · subst e
      unfold tz at hd ⊢
      rw [dem_c, if_neg (by omega), if_pos rfl]
      have hs1 : (v (rcA s s + 14 + k') + y).toInt = (v (rcA s s + 14 + k')).toInt + y.toInt := tI_add (by omega) (by omega)
      have h6 : (nI 100000).toInt = 100000 := nI_toInt (by omega)
      by_cases c : v (rcA s s + 14 + k') + y ≤ nI 100000
      · rw [if_pos c]
        rw [Int32.le_iff_toInt_le, h6] at c
        omega
      · rw [if_neg c, h6]
        omega
    · rw [tz_eq (show demV v k s y (rcA s s + 14 + k') = v (rcA s s + 14 + k') from dem_o (by omega) (by omega))]
      exact hd
  · rw [tz_eq (show demV v k s y (rcA s s + 17 + l) = v (rcA s s + 17 + l) from dem_o (by omega) (by omega))]
    exact Int.le_refl _
  · rw [tz_eq (show demV v k s y (rcA s s + 17 + l) = v (rcA s s + 17 + l) from dem_o (by omega) (by omega))]
    exact hr.2.1 l h1 h2
  · rw [tz_eq (show demV v k s y (rcA s s + 17 + l) = v (rcA s s + 17 + l) from dem_o (by omega) (by omega)), tz_eq (show demV v k s y (lnA l + 3) = v (lnA l + 3) from hlo _ (by unfold lnA; omega))]
    rw [lb_cg (hlo _ (by unfold lnA; omega))] at hb
    exact hr.2.2 l hl hb
  · exact tz_eq (dem_o (by omega) (by omega))
  · rw [ownZ_cg (v := v) (by omega) hW hs' hk' (hlo 1 (by omega)) (hlo 2 (by omega)) (hlo 3 (by omega)) (hlo 0 (by omega)) (fun l hl x hx => hlo _ (by unfold lnA; omega)) (fun o ho x hx x0 x1 _ => dem_o (by unfold rcA; omega) (by unfold rcA; omega))]
    exact h.2.2.2 s' k' hs' hk'
theorem PI.done (hn : 2 ≤ n ∧ n ≤ 5) (h : PI t n lc mc v) (ht : t < 100000) (hs : s < n) (hk : k < 2) {x : Int32} (hx : inB x (nI 1) (nI 999) = true) (hav : x.toInt ≤ (avl n lc v s k).toInt) : PI (t + 1) n lc mc (donV (usR lc s k lc v x) k s x) := by
  have hW := h.W
  have hlc := hW.2.1
  have hr := h.2.1 s hs
  have hxx := inB_am hx
  obtain ⟨v1, v2, v3⟩ := h.av hn hs hk
  rw [v1] at hav
  obtain ⟨g1, g2, d, d0, d1, d2, d3⟩ := usR_spec (k := k) (by omega) hs lc v x hW (fun l hl hb => ⟨h.us (by omega) hs (by omega), hr.2.2 l hl hb, (h.1.2.2.2.2.1 l hl).2⟩) (by omega) (usE_lc (by omega) hs hW x)
  generalize usR lc s k lc v x = w at *
  have hlo : ∀ j, j < 60 → donV w k s x j = v j := fun j hj => by rw [don_o (by unfold rcA; omega) (by unfold rcA; omega), g1 j (fun l hl => by unfold rcA; omega)]
  have hot : ∀ j, (j < rcA s s ∨ rcA s s + 27 ≤ j) → donV w k s x j = v j := fun j hj => by rw [don_o (by omega) (by omega), g1 j (fun l hl => by omega)]
  have hin : ∀ y, y < 27 → y ≠ 0 → y ≠ 2 + k → y < 17 → donV w k s x (rcA s s + y) = v (rcA s s + y) := fun y h1 h2 h3 h4 => by rw [don_o (by omega) (by omega), g1 _ (fun l hl => by omega)]
  have hus : ∀ l, l < 10 → donV w k s x (rcA s s + 17 + l) = w (rcA s s + 17 + l) := fun l hl => don_o (by omega) (by omega)
  have hus2 : ∀ l, lc ≤ l → l < 10 → w (rcA s s + 17 + l) = v (rcA s s + 17 + l) := fun l h1 h2 => g1 _ (fun l' hl' => by omega)
  have hW' : WL n lc (donV w k s x) := by
    refine ⟨by rw [hlo 4 (by omega)]; exact hW.1, hlc, fun l hl => ?_⟩
    have := hW.2.2 l hl
    rw [la_cg (hlo _ (by unfold lnA; omega)), lb_cg (hlo _ (by unfold lnA; omega)), hlo _ (by unfold lnA; omega), hlo _ (by unfold lnA; omega), hlo _ (by unfold lnA; omega)]
    exact this
  have hV : tz (donV w k s x) (rcA s s) = tz v (rcA s s) + 1 := by
    rw [← h.ver ht hs]
    unfold tz
    rw [don_c, if_pos rfl, g1 _ (fun l hl => by omega)]
  have hCc : tz (donV w k s x) (rcA s s + 2 + k) = tz v (rcA s s + 2 + k) + x.toInt := by
    have hb := hr.1 (2 + k) (by omega)
    rw [show rcA s s + (2 + k) = rcA s s + 2 + k by omega] at hb
    unfold tz at hb ⊢
    rw [don_c, if_neg (by omega), if_pos rfl, g1 _ (fun l hl => by omega)]
    exact tI_add (by omega) (by omega)
  have hBs : ∀ k', k' < 2 → owBZ (donV w k s x) s k' = owBZ v s k' + (if k' = k then -x.toInt else x.toInt) := by
    intro k' hk'
    unfold owBZ
    rw [tz_eq (hlo 1 (by omega)), tz_eq (hlo 2 (by omega)), tz_eq (hlo 3 (by omega))]
    have hk2 : k = 0 ∨ k = 1 := by omega
    have hk2' : k' = 0 ∨ k' = 1 := by omega
    rcases hk2 with rfl | rfl
    · have e2 : tz (donV w 0 s x) (rcA s s + 2) = tz v (rcA s s + 2) + x.toInt := hCc
      have e3 : tz (donV w 0 s x) (rcA s s + 3) = tz v (rcA s s + 3) := tz_eq (hin 3 (by omega) (by omega) (by omega) (by omega))
      rw [e2, e3]
      rcases hk2' with rfl | rfl
      · simp only [if_true]; omega
      · simp only [Nat.one_ne_zero, if_false]; omega
    · have e3 : tz (donV w 1 s x) (rcA s s + 3) = tz v (rcA s s + 3) + x.toInt := hCc
      have e2 : tz (donV w 1 s x) (rcA s s + 2) = tz v (rcA s s + 2) := tz_eq (hin 2 (by omega) (by omega) (by omega) (by omega))
      rw [e2, e3]
      rcases hk2' with rfl | rfl
      · simp only [if_true, Nat.zero_ne_one, if_false]; omega
      · simp only [Nat.one_ne_zero, if_false, if_true]; omega
  have hGs : ∀ k', k' < 2 → sumZ n (owGZ (donV w k s x) s k') = sumZ n (owGZ v s k') := by
    intro k' hk'
    refine sumZ_congr (fun o ho => ?_)
    unfold owGZ
    by_cases e : o = s
    · rw [if_pos e, if_pos e]
    · rw [if_neg e, if_neg e, tz_eq (hot _ (by unfold rcA; omega)), show rcA s s + 4 + 5 * k' + o = rcA s s + (4 + 5 * k' + o) by omega, tz_eq (hin _ (by omega) (by omega) (by omega) (by omega))]
  have hLs : ∀ k', k' < 2 → sumZ lc (owLZ (donV w k s x) s k') = sumZ lc (owLZ v s k') + (if k' = k then d else 0) := by
    intro k' hk'
    have each : ∀ l, l < lc → owLZ (donV w k s x) s k' l = owLZ v s k' l + (if k' = k then duZ v w s k l else 0) := by
      intro l hl
      obtain ⟨a1, a2, a3, a4, a5, a6⟩ := hW.2.2 l hl
      have ebk : la v l = s → bkB (donV w k s x) l = bkB v l := fun e => bkB_cg (hlo _ (by unfold lnA; omega)) (hlo _ (by unfold lnA; omega)) (hlo _ (by unfold lnA; omega)) (hlo 0 (by omega)) (fun _ => hot _ (by unfold rcA; omega))
      have eu := g2 l hl
      unfold owLZ duZ
      rw [hlo (lnA l + 2) (by unfold lnA; omega), hlo (lnA l + 1) (by unfold lnA; omega), hlo (lnA l) (by unfold lnA; omega), lb_cg (hlo _ (by unfold lnA; omega)), tz_eq (hus l (by omega)), tz_eq (hlo (lnA l + 3) (by unfold lnA; omega))]
      have hY : (if v (lnA l) = nI s then (if bkB (donV w k s x) l = true then tz (donV w k s x) (rcA s (lb v l) + 17 + l) else tz v (lnA l + 3)) else 0) = (if v (lnA l) = nI s then (if bkB v l = true then tz v (rcA s (lb v l) + 17 + l) else tz v (lnA l + 3)) else 0) := by
        by_cases e : v (lnA l) = nI s
        · rw [if_pos e, if_pos e]
          have e' : la v l = s := by
            rw [a1, nI_inj5 (by omega) (by omega)] at e
            exact e
          rw [ebk e', tz_eq (hot _ (by unfold rcA; omega))]
        · rw [if_neg e, if_neg e]
      rw [hY]
      by_cases c2 : v (lnA l + 2) = nI k'
      · rw [if_pos c2, if_pos c2]
        by_cases e : k' = k
        · subst e
          rw [if_pos rfl]
          by_cases c1 : v (lnA l + 1) = nI s
          · have c12 : v (lnA l + 1) = nI s ∧ v (lnA l + 2) = nI k' := ⟨c1, c2⟩
            rw [if_pos c1, if_pos c1, if_pos c12]; omega
          · have c12 : ¬ (v (lnA l + 1) = nI s ∧ v (lnA l + 2) = nI k') := fun q => c1 q.1
            rw [if_neg c1, if_neg c1, if_neg c12]; omega
        · rw [if_neg e]
          have : tz w (rcA s s + 17 + l) = tz v (rcA s s + 17 + l) := eu.2.2 (fun q => e (by
            have := q.2.1
            rw [c2, nI_inj5 (by omega) (by omega)] at this
            exact this))
          rw [this]; omega
      · rw [if_neg c2, if_neg c2]
        by_cases e : k' = k
        · subst e
          rw [if_pos rfl, if_neg (fun q => c2 q.2)]; rfl
        · rw [if_neg e]; rfl
    rw [sumZ_congr each, sumZ_add]
    by_cases e : k' = k
    · simp only [e, if_true]
      rw [d2]
    · simp only [e, if_false]
      rw [sumZ_zero]
  refine h.step hn hs (Nat.le_refl lc) hW' (hlo 5 (by omega)) (hlo 1 (by omega)) (hlo 2 (by omega)) (hlo 3 (by omega)) (hlo 0 (by omega)) (fun l hl y hy => hlo _ (by unfold lnA; omega)) (fun l h1 h2 => by omega) (fun j h1 h2 => hot j h2) hV (fun y h1 h2 => ?_) (fun y h1 h2 => ?_) (fun k' hk' => ?_) (fun l hl => ?_) (fun l h1 h2 => ?_) (fun l hl hb => ?_) (fun l hl hb he => ?_) (fun s' k' hs' hk' => ?_)
  · have hb := hr.1 y (by omega)
    by_cases e : y = 2 + k
    · rw [e, show rcA s s + (2 + k) = rcA s s + 2 + k by omega, hCc]
      rw [e, show rcA s s + (2 + k) = rcA s s + 2 + k by omega] at hb
      omega
    · rw [tz_eq (hin y (by omega) (by omega) e (by omega))]
      omega
  · rw [tz_eq (hin y (by omega) (by omega) (by omega) (by omega))]
    omega
  · have hd := h.dem (by omega) hs hk'
    rw [show rcA s s + 14 + k' = rcA s s + (14 + k') by omega, tz_eq (hin _ (by omega) (by omega) (by omega) (by omega)), show rcA s s + (14 + k') = rcA s s + 14 + k' by omega]
    exact hd
  · rw [tz_eq (hus l hl)]
    by_cases e : l < lc
    · exact (g2 l e).1
    · rw [tz_eq (hus2 l (by omega) hl)]; exact Int.le_refl _
  · rw [tz_eq (hus l h2), tz_eq (hus2 l h1 h2)]
    exact hr.2.1 l h1 h2
  · rw [tz_eq (hus l (by omega)), tz_eq (hlo (lnA l + 3) (by unfold lnA; omega))]
    rw [lb_cg (hlo _ (by unfold lnA; omega))] at hb
    exact (g2 l hl).2.1 hb
  · rw [tz_eq (hus l (by omega))]
    exact (g2 l hl).2.2 (fun q => q.2.2 (Int32.le_iff_toInt_le.mpr he))
  · by_cases e : s' = s
    · rw [e]
      have h0 := h.2.2.2 s k' hs hk'
      unfold ownZ at h0 hav ⊢
      rw [hBs k' hk', hGs k' hk', hLs k' hk']
      by_cases e2 : k' = k
      · subst e2
        rw [if_pos rfl, if_pos rfl]
        rcases d3 with d3 | d3 <;> omega
      · rw [if_neg e2, if_neg e2]
        omega
    · rw [ownZ_cg (v := v) (by omega) hW hs' hk' (hlo 1 (by omega)) (hlo 2 (by omega)) (hlo 3 (by omega)) (hlo 0 (by omega)) (fun l hl y hy => hlo _ (by unfold lnA; omega)) (fun o ho y hy y0 y1 _ => hot _ (by unfold rcA; omega))]
      exact h.2.2.2 s' k' hs' hk'
theorem PI.chg (hn : 2 ≤ n ∧ n ≤ 5) (h : PI t n lc mc v) (ht : t < 100000) (hs : s < n) (hk : k < 2) {x : Int32} (hx : inB x (nI 1) (nI 999) = true) : PI (t + 1) n lc mc (chV n lc v s k x) := by
  have hxx := inB_am hx
  have h20 := h.own20 hn hs hk
  obtain ⟨v1, v2, v3⟩ := h.av hn hs hk
  have hd : (x - avl n lc v s k).toInt = x.toInt - (avl n lc v s k).toInt := tI_sub (by omega) (by omega)
  unfold chV
  by_cases c : x - avl n lc v s k ≤ 0
  · rw [if_pos c]
    rw [le0, hd] at c
    exact h.done hn ht hs hk hx (by omega)
  · rw [if_neg c]
    rw [le0, hd] at c
    exact h.refuse hn ht hs hk (by omega) (by omega)
end PF

/-! THE PURE SIDE: messages -/
section PH
variable {t n lc mc : Nat} {v v' : Nat → Int32} {s k o l q u m : Nat}
theorem mg_lt (hm : m < 8) : mgA m + 160 ≤ 2180 := by unfold mgA; omega
/-- a row that is the same below 900 but for the number of messages -/
theorem own_lo (hn : n ≤ 5) (h : PI t n lc mc v) (hlo : ∀ j, j < 900 → j ≠ 5 → v' j = v j) : PIo n lc v' := by
  intro s k hs hk
  have hlc := h.W.2.1
  rw [ownZ_cg (v := v) hn h.W hs hk (hlo 1 (by omega) (by omega)) (hlo 2 (by omega) (by omega)) (hlo 3 (by omega) (by omega)) (hlo 0 (by omega) (by omega)) (fun l hl x hx => hlo _ (by unfold lnA; omega) (by unfold lnA; omega)) (fun o ho x hx _ _ _ => hlo _ (by unfold rcA; omega) (by unfold rcA; omega))]
  exact h.2.2.2 s k hs hk
theorem sp_lo (hq : q < 5) (ho : o < 5) (hlo : ∀ j, j < 900 → j ≠ 5 → v' j = v j) {x : Nat} (hx : x < 27) : sp v' o q x = sp v o q x := by
  by_cases e : x = 1
  · subst e
    rw [sp_t hq, sp_t hq]
    unfold tOf
    by_cases e2 : q = o
    · rw [if_pos e2, if_pos e2, hlo 0 (by omega) (by omega)]
    · rw [if_neg e2, if_neg e2, hlo _ (by unfold rcA; omega) (by unfold rcA; omega)]
  · rw [sp_v hq e, sp_v hq e]
    exact tz_eq (hlo _ (by unfold rcA; omega) (by unfold rcA; omega))
theorem PI.send (hn : 2 ≤ n ∧ n ≤ 5) (h : PI t n lc mc v) (hmc : mc < 8) (hs : s < n) (hu : u < n) : PI t n lc (mc + 1) (upd (wrV v mc s (nI s) (nI u) n) 5 (nI (mc + 1))) := by
  have hlo : ∀ j, j < 900 → j ≠ 5 → upd (wrV v mc s (nI s) (nI u) n) 5 (nI (mc + 1)) j = v j := fun j h1 h2 => by rw [upd_ne h2, wrV_lo h1]
  have hmg : ∀ j y, j < mc → y < 160 → upd (wrV v mc s (nI s) (nI u) n) 5 (nI (mc + 1)) (mgA j + y) = v (mgA j + y) := fun j y h1 h2 => by rw [upd_ne (by unfold mgA; omega), wrV_mg h1 h2]
  refine h.copy (by omega) (fun j h1 h2 => hlo j (by omega) h2) upd_eq (by omega) (fun m hm => ?_) (fun o ho x hx _ => hlo _ (by unfold rcA; omega) (by unfold rcA; omega)) (fun o ho q hq => ?_) (own_lo (by omega) h hlo)
  · by_cases e : m = mc
    · subst e
      refine ⟨u, hu, ?_⟩
      rw [upd_ne (by unfold mgA; omega)]
      unfold wrV
      rw [if_neg (by omega), if_pos rfl]
    · obtain ⟨w, hw, e2⟩ := h.1.2.2.2.2.2 m (by omega)
      exact ⟨w, hw, by rw [hmg m 1 (by omega) (by omega)]; exact e2⟩
  · rcases hq with hq | hq
    · exact ⟨q, Or.inl hq, id, fun x hx => sp_lo (by omega) (by omega) hlo hx⟩
    · obtain ⟨m, rfl⟩ : ∃ m, q = 5 + m := ⟨q - 5, by omega⟩
      by_cases e : m = mc
      · subst e
        refine ⟨s, Or.inl hs, fun e => by omega, fun x hx => ?_⟩
        rw [sp_m]
        unfold tz
        rw [upd_ne (by unfold mgA; omega), wrV_rc ho hx]
        by_cases e1 : x = 1
        · rw [if_pos e1, e1, sp_t (by omega)]
        · rw [if_neg e1, sp_v (by omega) e1]; rfl
      · refine ⟨5 + m, Or.inr ⟨by omega, by omega⟩, id, fun x hx => ?_⟩
        rw [sp_m, sp_m, show mgA m + 3 + 30 * o + x = mgA m + (3 + 30 * o + x) by omega]
        exact tz_eq (hmg m _ (by omega) (by omega))
theorem PI.rep (hn : 2 ≤ n ∧ n ≤ 5) (h : PI t n lc mc v) (hmc : mc < 8) (hm : m < mc) : PI t n lc (mc + 1) (reV v mc m) := by
  have hc : ∀ j, j ≠ 5 → reV v mc m j = if mgA mc ≤ j ∧ j < mgA mc + 160 then v (mgA m + (j - mgA mc)) else v j := fun j hj => by unfold reV ovw; rw [upd_ne hj]
  have hlo : ∀ j, j < 900 → j ≠ 5 → reV v mc m j = v j := fun j h1 h2 => by rw [hc j h2, if_neg (by unfold mgA; omega)]
  have hmg : ∀ j y, j < mc → y < 160 → reV v mc m (mgA j + y) = v (mgA j + y) := fun j y h1 h2 => by rw [hc _ (by unfold mgA; omega), if_neg (by unfold mgA; omega)]
  have hnw : ∀ y, y < 160 → reV v mc m (mgA mc + y) = v (mgA m + y) := fun y hy => by rw [hc _ (by unfold mgA; omega), if_pos (by omega), show mgA mc + y - mgA mc = y by omega]
  refine h.copy (by omega) (fun j h1 h2 => hlo j (by omega) h2) upd_eq (by omega) (fun m' hm' => ?_) (fun o ho x hx _ => hlo _ (by unfold rcA; omega) (by unfold rcA; omega)) (fun o ho q hq => ?_) (own_lo (by omega) h hlo)
  · by_cases e : m' = mc
    · obtain ⟨w, hw, e2⟩ := h.1.2.2.2.2.2 m hm
      exact ⟨w, hw, by rw [e, hnw 1 (by omega)]; exact e2⟩
    · obtain ⟨w, hw, e2⟩ := h.1.2.2.2.2.2 m' (by omega)
      exact ⟨w, hw, by rw [hmg m' 1 (by omega) (by omega)]; exact e2⟩
  · rcases hq with hq | hq
    · exact ⟨q, Or.inl hq, id, fun x hx => sp_lo (by omega) (by omega) hlo hx⟩
    · obtain ⟨m', rfl⟩ : ∃ m', q = 5 + m' := ⟨q - 5, by omega⟩
      by_cases e : m' = mc
      · refine ⟨5 + m, Or.inr ⟨by omega, by omega⟩, fun e => by omega, fun x hx => ?_⟩
        rw [sp_m, sp_m, e, show mgA mc + 3 + 30 * o + x = mgA mc + (3 + 30 * o + x) by omega, show mgA m + 3 + 30 * o + x = mgA m + (3 + 30 * o + x) by omega]
        exact tz_eq (hnw _ (by omega))
      · refine ⟨5 + m', Or.inr ⟨by omega, by omega⟩, id, fun x hx => ?_⟩
        rw [sp_m, sp_m, show mgA m' + 3 + 30 * o + x = mgA m' + (3 + 30 * o + x) by omega]
        exact tz_eq (hmg m' _ (by omega) (by omega))
theorem PI.lose (hn : 2 ≤ n ∧ n ≤ 5) (h : PI t n lc mc v) (hm : m < mc) : PI t n lc (mc - 1) (goV v mc m) := by
  have h8 := h.1.2.1.2
  have hlo : ∀ j, j < 900 → j ≠ 5 → goV v mc m j = v j := fun j h1 h2 => goV_lo h1 h2
  refine h.copy (by omega) (fun j h1 h2 => hlo j (by omega) h2) goV_5 (by omega) (fun m' hm' => ?_) (fun o ho x hx _ => hlo _ (by unfold rcA; omega) (by unfold rcA; omega)) (fun o ho q hq => ?_) (own_lo (by omega) h hlo)
  · rw [goV_mg hm' (by omega)]
    by_cases e : m ≤ m'
    · rw [if_pos e]; exact h.1.2.2.2.2.2 (m' + 1) (by omega)
    · rw [if_neg e]; exact h.1.2.2.2.2.2 m' (by omega)
  · rcases hq with hq | hq
    · exact ⟨q, Or.inl hq, id, fun x hx => sp_lo (by omega) (by omega) hlo hx⟩
    · obtain ⟨m', rfl⟩ : ∃ m', q = 5 + m' := ⟨q - 5, by omega⟩
      by_cases e : m ≤ m'
      · refine ⟨5 + (m' + 1), Or.inr ⟨by omega, by omega⟩, fun e => by omega, fun x hx => ?_⟩
        rw [sp_m, sp_m, show mgA m' + 3 + 30 * o + x = mgA m' + (3 + 30 * o + x) by omega, show mgA (m' + 1) + 3 + 30 * o + x = mgA (m' + 1) + (3 + 30 * o + x) by omega]
        refine tz_eq ?_
        rw [goV_mg (by omega) (by omega), if_pos e]
      · refine ⟨5 + m', Or.inr ⟨by omega, by omega⟩, id, fun x hx => ?_⟩
        rw [sp_m, sp_m, show mgA m' + 3 + 30 * o + x = mgA m' + (3 + 30 * o + x) by omega]
        refine tz_eq ?_
        rw [goV_mg (by omega) (by omega), if_neg e]
theorem rpB_lx (hn : n ≤ 5) (hu : u < n) (h : rpB v m u o = true) : o ≠ u ∧ Lx (sp v o u) (sp v o (5 + m)) := by
  unfold rpB at h
  rw [Bool.and_eq_true, Bool.or_eq_true, Bool.and_eq_true, decide_eq_true_eq, decide_eq_true_eq, decide_eq_true_eq, decide_eq_true_eq, Int32.lt_iff_toInt_lt, Int32.lt_iff_toInt_lt, ← Int32.toInt_inj] at h
  refine ⟨h.1, ?_⟩
  unfold Lx
  rw [sp_v (by omega) (by omega), sp_c (by omega) (fun e => h.1 e.symm), sp_m, sp_m]
  have h2 := h.2
  unfold tz
  rcases h2 with h2 | h2
  · exact Or.inl h2
  · exact Or.inr ⟨h2.1, Int.le_of_lt h2.2⟩
/-- a message is taken in: rights grow -/
theorem PI.arr (hn : 2 ≤ n ∧ n ≤ 5) (h : PI t n lc mc v) (hm : m < mc) (hu : u < n) : PI t n lc mc (arV v m u n) := by
  have hW := h.W
  have hlc := hW.2.1
  have h8 := h.1.2.1.2
  have hlo : ∀ j, j < 60 → arV v m u n j = v j := fun j hj => arV_lo (by omega) hu (Or.inl hj)
  have hhi : ∀ j, 900 ≤ j → arV v m u n j = v j := fun j hj => arV_lo (by omega) hu (Or.inr hj)
  have hrc : ∀ s o x, s < n → o < n → x < 27 → arV v m u n (rcA s o + x) = if s = u ∧ rpB v m u o = true then v (mgA m + 3 + 30 * o + x) else v (rcA s o + x) := fun s o x h1 h2 h3 => arV_rc (by omega) hu h1 h2 h3
  have hself : rpB v m u u = false := by unfold rpB; simp
  have hT : ∀ o, o < n → ∀ x, x < 27 → arV v m u n (rcA o o + x) = v (rcA o o + x) := by
    intro o ho x hx
    rw [hrc o o x ho ho hx, if_neg]
    intro e
    rw [e.1, hself] at e
    cases e.2
  have hvm : vq n mc (5 + m) := Or.inr ⟨by omega, by omega⟩
  refine h.copy (by omega) (fun j h1 _ => hlo j h1) (by rw [hlo 5 (by omega)]; exact h.1.2.1.1) h8 (fun m' hm' => by rw [hhi _ (by unfold mgA; omega)]; exact h.1.2.2.2.2.2 m' hm') (fun o ho x hx _ => hT o ho x hx) (fun o ho q hq => ?_) (fun s k hs hk => ?_)
  · rcases hq with hq | hq
    · by_cases e : q = u ∧ rpB v m u o = true
      · refine ⟨5 + m, hvm, fun e2 => ?_, fun x hx => ?_⟩
        · rw [← e2, e.1, hself] at e
          cases e.2
        · rw [sp_m]
          have hne : q ≠ o := fun e2 => by
            rw [← e2, e.1, hself] at e
            cases e.2
          by_cases e1 : x = 1
          · rw [e1, sp_c (by omega) hne]
            refine tz_eq ?_
            rw [hrc q o 1 hq ho (by omega), if_pos e]
          · rw [sp_v (by omega) e1]
            refine tz_eq ?_
            rw [hrc q o x hq ho hx, if_pos e]
      · refine ⟨q, Or.inl hq, id, fun x hx => ?_⟩
        by_cases e1 : x = 1
        · rw [e1, sp_t (by omega), sp_t (by omega)]
          unfold tOf
          by_cases e2 : q = o
          · rw [if_pos e2, if_pos e2, hlo 0 (by omega)]
          · rw [if_neg e2, if_neg e2, hrc q o 1 hq ho (by omega), if_neg e]
        · rw [sp_v (by omega) e1, sp_v (by omega) e1]
          refine tz_eq ?_
          rw [hrc q o x hq ho hx, if_neg e]
    · obtain ⟨m', rfl⟩ : ∃ m', q = 5 + m' := ⟨q - 5, by omega⟩
      refine ⟨5 + m', Or.inr hq, id, fun x hx => ?_⟩
      rw [sp_m, sp_m]
      exact tz_eq (hhi _ (by unfold mgA; omega))
  · have h0 := h.2.2.2 s k hs hk
    by_cases es : s = u
    · subst es
      have e1 : owBZ (arV v m s n) s k = owBZ v s k := owBZ_cg (hlo 1 (by omega)) (hlo 2 (by omega)) (hlo 3 (by omega)) (hT s hs 2 (by omega)) (hT s hs 3 (by omega))
      have e2 : sumZ n (owGZ v s k) ≤ sumZ n (owGZ (arV v m s n) s k) := by
        refine sumZ_le (fun o ho => ?_)
        unfold owGZ
        by_cases e : o = s
        · rw [if_pos e, if_pos e]; exact Int.le_refl _
        · rw [if_neg e, if_neg e, show rcA s s + 4 + 5 * k + o = rcA s s + (4 + 5 * k + o) by omega, tz_eq (hT s hs _ (by omega)), show rcA s o + 4 + 5 * k + s = rcA s o + (4 + 5 * k + s) by omega]
          have hc : tz v (rcA s o + (4 + 5 * k + s)) ≤ tz (arV v m s n) (rcA s o + (4 + 5 * k + s)) := by
            by_cases c : rpB v m s o = true
            · have := ((h.2.2.1 o ho s (Or.inl hs)).2.2.2 (5 + m) hvm (rpB_lx (by omega) hs c).2).2.2.1 (4 + 5 * k + s) (by omega) (by omega)
              rw [sp_v (by omega) (by omega), sp_m] at this
              rw [show tz (arV v m s n) (rcA s o + (4 + 5 * k + s)) = tz v (mgA m + 3 + 30 * o + (4 + 5 * k + s)) from tz_eq (by rw [hrc s o _ hs ho (by omega), if_pos ⟨rfl, c⟩])]
              exact this
            · rw [show tz (arV v m s n) (rcA s o + (4 + 5 * k + s)) = tz v (rcA s o + (4 + 5 * k + s)) from tz_eq (by rw [hrc s o _ hs ho (by omega), if_neg (fun q => c q.2)])]
              exact Int.le_refl _
          omega
      have e3 : sumZ lc (owLZ v s k) ≤ sumZ lc (owLZ (arV v m s n) s k) := by
        refine sumZ_le (fun l hl => ?_)
        obtain ⟨a1, a2, a3, a4, a5, a6⟩ := hW.2.2 l hl
        have hL : ∀ y, y < 5 → arV v m s n (lnA l + y) = v (lnA l + y) := fun y hy => hlo _ (by unfold lnA; omega)
        have hu1 : arV v m s n (rcA s s + 17 + l) = v (rcA s s + 17 + l) := by
          rw [show rcA s s + 17 + l = rcA s s + (17 + l) by omega]; exact hT s hs _ (by omega)
        by_cases ea : la v l = s
        · by_cases c : rpB v m s (lb v l) = true
          · -- the lender learns of the borrower
            have hle := (h.2.2.1 (lb v l) a4 s (Or.inl hs)).2.2.2 (5 + m) hvm (rpB_lx (by omega) hs c).2
            obtain ⟨-, b2, -, -, b5⟩ := hle
            have b5' := b5 l hl rfl
            have htop := (h.le (o := lb v l) (q := 5 + m) a4 hvm).2.2.2.1 l (by omega)
            have hua := (h.2.1 (lb v l) a4).2.2 l hl rfl
            rw [ea] at a5
            rw [sp_c (by omega) a5, sp_m] at b2
            rw [sp_c (by omega) a5, sp_v (by omega) (by omega), sp_m] at b5'
            rw [sp_m, sp_v (by omega) (by omega)] at htop
            have hnew : tz (arV v m s n) (rcA s (lb v l) + 17 + l) = tz v (mgA m + 3 + 30 * lb v l + (17 + l)) := by
              rw [show rcA s (lb v l) + 17 + l = rcA s (lb v l) + (17 + l) by omega]
              exact tz_eq (by rw [hrc s _ _ hs a4 (by omega), if_pos ⟨rfl, c⟩])
            have htm : tz (arV v m s n) (rcA s (lb v l) + 1) = tz v (mgA m + 3 + 30 * lb v l + 1) := tz_eq (by rw [hrc s _ _ hs a4 (by omega), if_pos ⟨rfl, c⟩])
            have hbk : ∀ w : Nat → Int32, la w l = s → lb w l = lb v l → (bkB w l = true ↔ tz w (lnA l + 4) ≤ tz w 0 ∧ tz w (lnA l + 4) ≤ tz w (rcA s (lb v l) + 1)) := by
              intro w w1 w2
              unfold bkB tOf
              rw [w1, w2, if_neg a5, Bool.and_eq_true, decide_eq_true_eq, decide_eq_true_eq, Int32.le_iff_toInt_le, Int32.le_iff_toInt_le]
              exact Iff.rfl
            have hb0 := hbk v ea rfl
            have hb1 := hbk (arV v m s n) (by rw [la_cg (hL 0 (by omega))]; exact ea) (lb_cg (hL 1 (by omega)))
            rw [tz_eq (hL 4 (by omega)), tz_eq (hlo 0 (by omega)), htm] at hb1
            unfold owLZ
            rw [hL 2 (by omega), hL 1 (by omega), show arV v m s n (lnA l) = v (lnA l) from hL 0 (by omega), lb_cg (hL 1 (by omega)), tz_eq hu1, tz_eq (hL 3 (by omega)), hnew]
            by_cases ek : v (lnA l + 2) = nI k
            · rw [if_pos ek, if_pos ek]
              have el : v (lnA l) = nI s := by rw [a1, ea]
              rw [if_pos el, if_pos el]
              rw [show rcA (lb v l) (lb v l) + (17 + l) = rcA (lb v l) (lb v l) + 17 + l by omega] at htop
              rw [show rcA s (lb v l) + (17 + l) = rcA s (lb v l) + 17 + l by omega] at b5'
              by_cases c1 : bkB v l = true
              · have c1' := hb0.mp c1
                have c2 : bkB (arV v m s n) l = true := hb1.mpr ⟨c1'.1, by omega⟩
                rw [if_pos c1, if_pos c2, b5' c1'.2]
                exact Int.le_refl _
              · rw [if_neg c1]
                by_cases c2 : bkB (arV v m s n) l = true
                · rw [if_pos c2]; omega
                · rw [if_neg c2]; exact Int.le_refl _
            · rw [if_neg ek, if_neg ek]; exact Int.le_refl _
          · rw [owLZ_cg (v := v) (by omega) hW hl hs hL hu1 (fun _ => ⟨bkB_cg (hL 0 (by omega)) (hL 1 (by omega)) (hL 4 (by omega)) (hlo 0 (by omega)) (fun _ => by rw [ea, hrc s _ 1 hs a4 (by omega), if_neg (fun q => c q.2)]), fun _ => by rw [show rcA s (lb v l) + 17 + l = rcA s (lb v l) + (17 + l) by omega, hrc s _ _ hs a4 (by omega), if_neg (fun q => c q.2)]⟩)]
            exact Int.le_refl _
        · rw [owLZ_cg (v := v) (by omega) hW hl hs hL hu1 (fun e => absurd e ea)]
          exact Int.le_refl _
      unfold ownZ at h0 ⊢
      rw [e1]
      omega
    · rw [ownZ_cg (v := v) (by omega) hW hs hk (hlo 1 (by omega)) (hlo 2 (by omega)) (hlo 3 (by omega)) (hlo 0 (by omega)) (fun l hl x hx => hlo _ (by unfold lnA; omega)) (fun o ho x hx _ _ _ => by rw [hrc s o x hs ho hx, if_neg (fun q => es q.1)])]
      exact h0
theorem PI.msg (hn : 2 ≤ n ∧ n ≤ 5) (h : PI t n lc mc v) (hmc : mc < 8) (hs : s < n) (hu : u < n) : PI t n lc mc (arV (wrV v mc s (nI s) (nI u) n) mc u n) := by
  have h1 := h.send hn hmc hs hu
  have h2 := h1.arr hn (m := mc) (by omega) hu
  have h3 := h2.lose hn (m := mc) (by omega)
  rw [go_ar (by rw [wrV_lo (by omega)]; exact h.1.2.1.1), Nat.add_sub_cancel] at h3
  exact h3
end PH

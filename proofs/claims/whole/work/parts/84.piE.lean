/-! THE PURE SIDE: loans are used up; a change -/
section PE
variable {t n lc mc : Nat} {v v' : Nat → Int32} {s k o l q u : Nat}
def cnt (f : Nat → Bool) : Nat → Nat
  | 0 => 0
  | i + 1 => cnt f i + (if f i = true then 1 else 0)
theorem cnt_le {f : Nat → Bool} : ∀ i, cnt f i ≤ i
  | 0 => Nat.le_refl _
  | i + 1 => by
    have := cnt_le (f := f) i
    rw [cnt]
    split <;> omega
theorem cnt_0 {f : Nat → Bool} : ∀ {i : Nat}, cnt f i = 0 → ∀ l, l < i → f l = false
  | 0, _, l, hl => absurd hl (by omega)
  | i + 1, h, l, hl => by
    rw [cnt] at h
    by_cases e : l = i
    · rw [e]
      cases e2 : f i with
      | false => rfl
      | true => rw [if_pos e2] at h; omega
    · exact cnt_0 (i := i) (by omega) l (by omega)
theorem cnt_cg {f g : Nat → Bool} : ∀ {i : Nat}, (∀ j, j < i → g j = f j) → cnt g i = cnt f i
  | 0, _ => rfl
  | i + 1, h => by rw [cnt, cnt, cnt_cg (fun j hj => h j (by omega)), h i (by omega)]
theorem cnt_dec {f g : Nat → Bool} {l : Nat} (h1 : f l = true) (h2 : g l = false) : ∀ {i : Nat}, l < i → (∀ j, j < i → j ≠ l → g j = f j) → cnt g i + 1 = cnt f i
  | 0, h, _ => absurd h (by omega)
  | i + 1, h, hh => by
    rw [cnt, cnt]
    by_cases e : l = i
    · rw [← e, h1, h2, cnt_cg (f := f) (g := g) (fun j hj => hh j (by omega) (by omega))]
      simp
    · have := cnt_dec h1 h2 (i := i) (by omega) (fun j hj hn => hh j (by omega) hn)
      rw [hh i (by omega) (fun q => e q.symm)]
      omega
def usB (v : Nat → Int32) (s k l : Nat) : Bool := decide (v (lnA l + 1) = nI s ∧ v (lnA l + 2) = nI k ∧ ¬ reL v l ≤ 0)
theorem flN_us : ∀ {i b : Nat}, flN v s k i = some b → usB v s k b = true
  | 0, b, h => by simp [flN] at h
  | i + 1, b, h => by
    rw [flN] at h
    split at h
    · next c =>
      split at h
      · cases h
        exact decide_eq_true c
      · next b' hb' =>
        split at h
        · cases h
          exact decide_eq_true c
        · cases h
          exact flN_us hb'
    · exact flN_us h
theorem flN_no : ∀ {i : Nat}, flN v s k i = none → ∀ l, l < i → usB v s k l = false
  | 0, _, l, hl => absurd hl (by omega)
  | i + 1, h, l, hl => by
    rw [flN] at h
    split at h
    · split at h
      · cases h
      · split at h <;> cases h
    · next c =>
      by_cases e : l = i
      · rw [e]; exact decide_eq_false c
      · exact flN_no h l (by omega)
theorem usS_o {x : Int32} {j : Nat} (h : j ≠ rcA s s + 17 + l) : usS v s l x j = v j := upd_ne h
theorem usS_s {x : Int32} : usS v s l x (rcA s s + 17 + l) = v (rcA s s + 17 + l) + x := upd_eq
theorem usS_lb {x : Int32} {l' : Nat} (hl : l' < 10) : lb (usS v s l x) l' = lb v l' := lb_cg (usS_o (by unfold rcA lnA; omega))
theorem usS_la {x : Int32} {l' : Nat} (hl : l' < 10) : la (usS v s l x) l' = la v l' := la_cg (usS_o (by unfold rcA lnA; omega))
theorem usS_kn {x : Int32} {l' : Nat} (hl' : l' < 10) (hl : l < 10) : knB (usS v s l x) l' = knB v l' := by
  unfold knB
  rw [usS_lb hl', usS_la hl', usS_o (by unfold rcA; omega)]
theorem reL_o {x : Int32} {l' : Nat} (hl' : l' < 10) (hl : l < 10) (h : l' ≠ l) : reL (usS v s l x) l' = reL v l' := by
  unfold reL usL
  rw [usS_kn hl' hl, usS_lb hl', usS_o (by unfold rcA lnA; omega), usS_o (by unfold rcA; omega), usS_o (by unfold rcA lnA; omega), usS_o (by unfold rcA; omega)]
theorem reL_s {x : Int32} (hl : l < 10) (hb : lb v l = s) : reL (usS v s l x) l = if knB v l = true ∧ ¬ v (lnA l + 4) ≤ v 0 then v (lnA l + 3) - (v (rcA s s + 17 + l) + x) else nI 0 := by
  unfold reL usL
  rw [usS_kn hl hl, usS_lb hl, usS_o (by unfold rcA lnA; omega), usS_o (by unfold rcA; omega), usS_o (by unfold rcA lnA; omega), hb, usS_s]
theorem usB_b (hn : n ≤ 5) (hW : WL n lc v) (hl : l < lc) (hs : s < n) (h : usB v s k l = true) : lb v l = s ∧ v (lnA l + 1) = nI s ∧ v (lnA l + 2) = nI k ∧ ¬ reL v l ≤ 0 := by
  obtain ⟨a1, a2, a3, a4, a5, a6⟩ := hW.2.2 l hl
  have h' := of_decide_eq_true h
  refine ⟨?_, h'⟩
  have := h'.1
  rw [a3, nI_inj5 (by omega) (by omega)] at this
  exact this
theorem WL.usS (h : WL n lc v) {x : Int32} : WL n lc (usS v s l x) := h.upd (by have := rcA_ge s s; omega) _
theorem usE_0 : ∀ (i : Nat) (v : Nat → Int32), usE lc s k i v 0
  | 0, v => Or.inr (Int32.le_refl _)
  | i + 1, v => by
    rw [usE]
    split
    · trivial
    · exact Or.inl (Int32.le_refl _)
theorem usE_ok (hn : n ≤ 5) (hs : s < n) : ∀ (i : Nat) (v : Nat → Int32) (left : Int32), WL n lc v → cnt (usB v s k) lc ≤ i → usE lc s k i v left
  | 0, v, left, hW, hc => by
    refine Or.inl ?_
    cases e : flN v s k lc with
    | none => rfl
    | some b =>
      have h1 := cnt_0 (by omega : cnt (usB v s k) lc = 0) b (flN_lt e)
      rw [flN_us e] at h1
      cases h1
  | i + 1, v, left, hW, hc => by
    rw [usE]
    split
    · trivial
    · next l e =>
      have hl := flN_lt e
      have hlc := hW.2.1
      obtain ⟨hb, h1, h2, h3⟩ := usB_b hn hW hl hs (flN_us e)
      refine Or.inr ?_
      unfold prt
      by_cases c : left ≤ reL v l
      · rw [if_pos c, Int32.sub_self]
        exact usE_0 i _
      · rw [if_neg c]
        refine usE_ok hn hs i _ _ hW.usS ?_
        have hd := cnt_dec (f := usB v s k) (g := usB (usS v s l (reL v l)) s k) (l := l) (flN_us e) ?_ hl (fun j hj hne => ?_)
        · omega
        · refine decide_eq_false (fun hh => hh.2.2 ?_)
          rw [reL_s (by omega) hb]
          by_cases e2 : knB v l = true ∧ ¬ v (lnA l + 4) ≤ v 0
          · rw [if_pos e2]
            have e3 : reL v l = v (lnA l + 3) - v (rcA s s + 17 + l) := by unfold reL usL; rw [if_pos e2, hb]
            rw [e3, Int32.add_comm (v (rcA s s + 17 + l)), Int32.sub_add_cancel, Int32.sub_self]
            exact Int32.le_refl _
          · rw [if_neg e2]
            exact Int32.le_refl _
        · unfold usB
          rw [reL_o (by omega) (by omega) hne, usS_o (by unfold rcA lnA; omega), usS_o (by unfold rcA lnA; omega)]
theorem usE_lc (hn : n ≤ 5) (hs : s < n) (hW : WL n lc v) (x : Int32) : usE lc s k lc v x := usE_ok hn hs lc v x hW (cnt_le lc)
theorem rest_z (ha : tz v (lnA l + 3) ≤ 999) (hu : 0 ≤ tz v (rcA s s + 17 + l)) (hua : tz v (rcA s s + 17 + l) ≤ tz v (lnA l + 3)) (hb : lb v l = s) : (reL v l).toInt = if knB v l = true ∧ ¬ v (lnA l + 4) ≤ v 0 then tz v (lnA l + 3) - tz v (rcA s s + 17 + l) else 0 := by
  unfold reL
  by_cases e : knB v l = true ∧ ¬ v (lnA l + 4) ≤ v 0
  · rw [if_pos e, if_pos e]
    unfold usL
    rw [hb]
    exact tI_sub (by show _ ≤ tz v (lnA l + 3) - tz v (rcA s s + 17 + l); omega) (by show tz v (lnA l + 3) - tz v (rcA s s + 17 + l) < _; omega)
  · rw [if_neg e, if_neg e]
    rfl
/-- what is used of loans of this kind -/
def duZ (v w : Nat → Int32) (s k l : Nat) : Int := if v (lnA l + 1) = nI s ∧ v (lnA l + 2) = nI k then tz w (rcA s s + 17 + l) - tz v (rcA s s + 17 + l) else 0
theorem usR_spec (hn : n ≤ 5) (hs : s < n) : ∀ (i : Nat) (v : Nat → Int32) (left : Int32), WL n lc v → (∀ l, l < lc → lb v l = s → 0 ≤ tz v (rcA s s + 17 + l) ∧ tz v (rcA s s + 17 + l) ≤ tz v (lnA l + 3) ∧ tz v (lnA l + 3) ≤ 999) → 0 ≤ left.toInt → usE lc s k i v left →
    (∀ j, (∀ l, l < lc → j ≠ rcA s s + 17 + l) → usR lc s k i v left j = v j) ∧ (∀ l, l < lc → tz v (rcA s s + 17 + l) ≤ tz (usR lc s k i v left) (rcA s s + 17 + l) ∧ (lb v l = s → tz (usR lc s k i v left) (rcA s s + 17 + l) ≤ tz v (lnA l + 3)) ∧ (¬ (v (lnA l + 1) = nI s ∧ v (lnA l + 2) = nI k ∧ ¬ v (lnA l + 4) ≤ v 0) → tz (usR lc s k i v left) (rcA s s + 17 + l) = tz v (rcA s s + 17 + l))) ∧ ∃ d, 0 ≤ d ∧ d ≤ left.toInt ∧ sumZ lc (duZ v (usR lc s k i v left) s k) = d ∧ (d = left.toInt ∨ d = sumZ lc (fun l => (leL v s k l).toInt)) := by
  have stay : ∀ (v : Nat → Int32) (left : Int32), WL n lc v → (∀ l, l < lc → lb v l = s → 0 ≤ tz v (rcA s s + 17 + l) ∧ tz v (rcA s s + 17 + l) ≤ tz v (lnA l + 3) ∧ tz v (lnA l + 3) ≤ 999) → 0 ≤ left.toInt → (flN v s k lc = none ∨ left ≤ 0) →
      (∀ j, (∀ l, l < lc → j ≠ rcA s s + 17 + l) → v j = v j) ∧ (∀ l, l < lc → tz v (rcA s s + 17 + l) ≤ tz v (rcA s s + 17 + l) ∧ (lb v l = s → tz v (rcA s s + 17 + l) ≤ tz v (lnA l + 3)) ∧ (¬ (v (lnA l + 1) = nI s ∧ v (lnA l + 2) = nI k ∧ ¬ v (lnA l + 4) ≤ v 0) → tz v (rcA s s + 17 + l) = tz v (rcA s s + 17 + l))) ∧ ∃ d, 0 ≤ d ∧ d ≤ left.toInt ∧ sumZ lc (duZ v v s k) = d ∧ (d = left.toInt ∨ d = sumZ lc (fun l => (leL v s k l).toInt)) := by
    intro v left hW hU h0 hE
    have ez : sumZ lc (duZ v v s k) = 0 := by
      rw [sumZ_congr (g := fun _ => 0) (fun l _ => by unfold duZ; split; omega; rfl), sumZ_zero]
    refine ⟨fun _ _ => rfl, fun l hl => ⟨Int.le_refl _, fun hb => (hU l hl hb).2.1, fun _ => rfl⟩, 0, Int.le_refl _, h0, ez, ?_⟩
    rcases hE with e | e
    · refine Or.inr ?_
      rw [sumZ_congr (g := fun _ => 0) (fun l hl => ?_), sumZ_zero]
      unfold leL
      by_cases c : v (lnA l + 1) = nI s ∧ v (lnA l + 2) = nI k
      · rw [if_pos c]
        have hno := of_decide_eq_false (flN_no e l hl)
        have hle : reL v l ≤ 0 := by
          by_cases q : reL v l ≤ 0
          · exact q
          · exact absurd ⟨c.1, c.2, q⟩ hno
        obtain ⟨a1, a2, a3, a4, a5, a6⟩ := hW.2.2 l hl
        have hb : lb v l = s := by
          have := c.1
          rw [a3, nI_inj5 (by omega) (by omega)] at this
          exact this
        obtain ⟨u1, u2, u3⟩ := hU l hl hb
        have hr := rest_z u3 u1 u2 hb
        rw [le0] at hle
        by_cases c2 : knB v l = true ∧ ¬ v (lnA l + 4) ≤ v 0
        · rw [if_pos c2] at hr; omega
        · rw [if_neg c2] at hr; exact hr
      · rw [if_neg c]; rfl
    · refine Or.inl ?_
      rw [le0] at e
      omega
  intro i
  induction i with
  | zero => exact fun v left hW hU h0 hE => stay v left hW hU h0 hE
  | succ i ih =>
    intro v left hW hU h0 hE
    rw [usR]
    rw [usE] at hE
    cases e : flN v s k lc with
    | none => exact stay v left hW hU h0 (Or.inl e)
    | some l =>
      rw [e] at hE
      simp only at hE ⊢
      by_cases c0 : left ≤ 0
      · rw [if_pos c0]
        exact stay v left hW hU h0 (Or.inr c0)
      · rw [if_neg c0]
        have hE2 := hE.resolve_left c0
        have hl := flN_lt e
        have hlc := hW.2.1
        obtain ⟨hb, h1, h2, h3⟩ := usB_b hn hW hl hs (flN_us e)
        obtain ⟨u1, u2, u3⟩ := hU l hl hb
        have hr := rest_z u3 u1 u2 hb
        rw [le0] at h3 c0
        have hcond : knB v l = true ∧ ¬ v (lnA l + 4) ≤ v 0 := by
          by_cases q : knB v l = true ∧ ¬ v (lnA l + 4) ≤ v 0
          · exact q
          · rw [if_neg q] at hr; omega
        rw [if_pos hcond] at hr
        have hp : (prt v l left).toInt ≤ left.toInt ∧ (prt v l left).toInt ≤ (reL v l).toInt ∧ 0 ≤ (prt v l left).toInt := by
          unfold prt
          by_cases c : left ≤ reL v l
          · rw [if_pos c]
            rw [Int32.le_iff_toInt_le] at c
            exact ⟨Int.le_refl _, c, h0⟩
          · rw [if_neg c]
            rw [Int32.le_iff_toInt_le] at c
            exact ⟨by omega, Int.le_refl _, by omega⟩
        generalize hpp : prt v l left = p at *
        have hcell : tz (usS v s l p) (rcA s s + 17 + l) = tz v (rcA s s + 17 + l) + p.toInt := by
          unfold tz at u1 u2 u3 hr ⊢
          rw [usS_s]
          exact tI_add (by omega) (by omega)
        have hoc : ∀ l', l' < lc → l' ≠ l → tz (usS v s l p) (rcA s s + 17 + l') = tz v (rcA s s + 17 + l') := fun l' _ hne => tz_eq (usS_o (by omega))
        have hln : ∀ l', l' < lc → ∀ x, x < 5 → usS v s l p (lnA l' + x) = v (lnA l' + x) := fun l' hl' x hx => usS_o (by unfold rcA lnA; omega)
        have hleft : (left - p).toInt = left.toInt - p.toInt := by
          have := Int32.toInt_lt left
          exact tI_sub (by omega) (by omega)
        have hU' : ∀ l', l' < lc → lb (usS v s l p) l' = s → 0 ≤ tz (usS v s l p) (rcA s s + 17 + l') ∧ tz (usS v s l p) (rcA s s + 17 + l') ≤ tz (usS v s l p) (lnA l' + 3) ∧ tz (usS v s l p) (lnA l' + 3) ≤ 999 := by
          intro l' hl' hb'
          rw [usS_lb (by omega)] at hb'
          have hu := hU l' hl' hb'
          rw [tz_eq (hln l' hl' 3 (by omega))]
          by_cases e2 : l' = l
          · rw [e2, hcell]
            rw [e2] at hu
            omega
          · rw [hoc l' hl' e2]; exact hu
        obtain ⟨g1, g2, d, d0, d1, d2, d3⟩ := ih (usS v s l p) (left - p) hW.usS hU' (by omega) hE2
        generalize usR lc s k i (usS v s l p) (left - p) = w at *
        refine ⟨fun j hj => ?_, fun l' hl' => ?_, d + p.toInt, by omega, by omega, ?_, ?_⟩
        · rw [g1 j hj, usS_o (hj l hl)]
        · obtain ⟨f1, f2, f3⟩ := g2 l' hl'
          rw [usS_lb (by omega), tz_eq (hln l' hl' 3 (by omega))] at f2
          rw [hln l' hl' 1 (by omega), hln l' hl' 2 (by omega), hln l' hl' 4 (by omega), usS_o (show 0 ≠ _ by unfold rcA; omega)] at f3
          by_cases e2 : l' = l
          · subst e2
            rw [hcell] at f1 f3
            refine ⟨by omega, f2, fun hno => absurd ⟨h1, h2, hcond.2⟩ hno⟩
          · rw [hoc l' hl' e2] at f1 f3
            exact ⟨f1, f2, f3⟩
        · have e2 : sumZ lc (duZ v w s k) = sumZ lc (fun l' => duZ (usS v s l p) w s k l' + (if l = l' then p.toInt else 0)) := by
            refine sumZ_congr (fun l' hl' => ?_)
            unfold duZ
            rw [hln l' hl' 1 (by omega), hln l' hl' 2 (by omega)]
            by_cases e3 : l = l'
            · subst e3
              rw [if_pos ⟨h1, h2⟩, if_pos ⟨h1, h2⟩, if_pos rfl, hcell]
              omega
            · rw [if_neg e3, hoc l' hl' (fun q => e3 q.symm)]
              omega
          rw [e2, sumZ_add, d2, sumZ_one (f := fun _ => p.toInt) hl]
        · have e2 : sumZ lc (fun l' => (leL (usS v s l p) s k l').toInt) = sumZ lc (fun l' => (leL v s k l').toInt) - p.toInt := by
            rw [sumZ_upd (f := fun l' => (leL v s k l').toInt) (t := l) hl (fun l' hl' hne => ?_)]
            · unfold leL
              rw [hln l hl 1 (by omega), hln l hl 2 (by omega), if_pos ⟨h1, h2⟩, if_pos ⟨h1, h2⟩, hr]
              have hb' : lb (usS v s l p) l = s := by rw [usS_lb (by omega)]; exact hb
              obtain ⟨y1, y2, y3⟩ := hU' l hl hb'
              rw [rest_z y3 y1 y2 hb', usS_kn (by omega) (by omega), hln l hl 4 (by omega), usS_o (show 0 ≠ _ by unfold rcA; omega), if_pos hcond, hcell, tz_eq (hln l hl 3 (by omega))]
              omega
            · unfold leL
              rw [hln l' hl' 1 (by omega), hln l' hl' 2 (by omega), reL_o (by omega) (by omega) hne]
          rw [e2] at d3
          rcases d3 with d3 | d3
          · exact Or.inl (by omega)
          · exact Or.inr (by omega)
end PE

/-! THE PURE SIDE: a loan is made, time passes -/
section PG
variable {t n lc mc : Nat} {v v' : Nat → Int32} {s k o l q u : Nat}
theorem ln_c {x d : Int32} (hlc : lc < 10) (j : Nat) : lnV v lc k s u x d j = if j = rcA s s then v (rcA s s) + nI 1 else if j = 4 then v 4 + nI 1 else if j = rcA s s + 16 then v (rcA s s + 16) ||| (nI 1 <<< (nI lc &&& 31)) else if j = lnA lc + 4 then v 0 + d else if j = lnA lc + 3 then x else if j = lnA lc + 2 then nI k else if j = lnA lc + 1 then nI u else if j = lnA lc then nI s else v j := by
  have g := rcA_ge s s
  have g2 : lnA lc + 4 < 60 ∧ 10 ≤ lnA lc := by unfold lnA; omega
  unfold lnV chgV
  by_cases e1 : j = rcA s s
  · rw [if_pos e1, e1, upd_eq, upd_ne (by omega), upd_ne (by omega), upd_ne (by omega), upd_ne (by omega), upd_ne (by omega), upd_ne (by omega), upd_ne (by omega)]
  · rw [if_neg e1, upd_ne e1]
    by_cases e2 : j = 4
    · rw [if_pos e2, e2, upd_eq, upd_ne (by omega), upd_ne (by omega), upd_ne (by omega), upd_ne (by omega), upd_ne (by omega), upd_ne (by omega)]
    · rw [if_neg e2, upd_ne e2]
      by_cases e3 : j = rcA s s + 16
      · rw [if_pos e3, e3, upd_eq, upd_ne (by omega), upd_ne (by omega), upd_ne (by omega), upd_ne (by omega), upd_ne (by omega)]
      · rw [if_neg e3, upd_ne e3]
        by_cases e4 : j = lnA lc + 4
        · rw [if_pos e4, e4, upd_eq, upd_ne (by omega), upd_ne (by omega), upd_ne (by omega), upd_ne (by omega)]
        · rw [if_neg e4, upd_ne e4]
          by_cases e5 : j = lnA lc + 3
          · rw [if_pos e5, e5, upd_eq]
          · rw [if_neg e5, upd_ne e5]
            by_cases e6 : j = lnA lc + 2
            · rw [if_pos e6, e6, upd_eq]
            · rw [if_neg e6, upd_ne e6]
              by_cases e7 : j = lnA lc + 1
              · rw [if_pos e7, e7, upd_eq]
              · rw [if_neg e7, upd_ne e7]
                by_cases e8 : j = lnA lc
                · rw [if_pos e8, e8, upd_eq]
                · rw [if_neg e8, upd_ne e8]
theorem ln_o {x d : Int32} (hlc : lc < 10) {j : Nat} (h1 : j ≠ rcA s s) (h2 : j ≠ 4) (h3 : j ≠ rcA s s + 16) (h4 : j < lnA lc ∨ lnA lc + 5 ≤ j) : lnV v lc k s u x d j = v j := by
  rw [ln_c hlc, if_neg h1, if_neg h2, if_neg h3, if_neg (by omega), if_neg (by omega), if_neg (by omega), if_neg (by omega), if_neg (by omega)]
theorem PI.lend (hn : 2 ≤ n ∧ n ≤ 5) (h : PI t n lc mc v) (ht : t < 100000) (hlc : lc < 10) (hs : s < n) (hu : u < n) (hus : u ≠ s) (hk : k < 2) {x d : Int32} (hx : inB x (nI 1) (nI 999) = true) (hd : inB d (nI 1) (nI 1000) = true) (hxo : x.toInt ≤ ownZ n lc v s k) : PI (t + 1) n (lc + 1) mc (lnV v lc k s u x d) := by
  have hW := h.W
  have hr := h.2.1 s hs
  have hxx := inB_am hx
  have hdd := inB_du hd
  have hg := rcA_ge s s
  have hnow := h.1.2.2.2.1
  have hlo : ∀ j, j < 60 → j ≠ 4 → (j < lnA lc ∨ lnA lc + 5 ≤ j) → lnV v lc k s u x d j = v j := fun j hj h4 h5 => ln_o hlc (by omega) h4 (by omega) h5
  have hl0 : 10 ≤ lnA lc ∧ lnA lc + 5 ≤ 60 := by unfold lnA; omega
  have c0 : lnV v lc k s u x d (lnA lc) = nI s := by rw [ln_c hlc, if_neg (by omega), if_neg (by omega), if_neg (by omega), if_neg (by omega), if_neg (by omega), if_neg (by omega), if_neg (by omega), if_pos rfl]
  have c1 : lnV v lc k s u x d (lnA lc + 1) = nI u := by rw [ln_c hlc, if_neg (by omega), if_neg (by omega), if_neg (by omega), if_neg (by omega), if_neg (by omega), if_neg (by omega), if_pos rfl]
  have c2 : lnV v lc k s u x d (lnA lc + 2) = nI k := by rw [ln_c hlc, if_neg (by omega), if_neg (by omega), if_neg (by omega), if_neg (by omega), if_neg (by omega), if_pos rfl]
  have c3 : lnV v lc k s u x d (lnA lc + 3) = x := by rw [ln_c hlc, if_neg (by omega), if_neg (by omega), if_neg (by omega), if_neg (by omega), if_pos rfl]
  have c4 : lnV v lc k s u x d (lnA lc + 4) = v 0 + d := by rw [ln_c hlc, if_neg (by omega), if_neg (by omega), if_neg (by omega), if_pos rfl]
  have c5 : lnV v lc k s u x d 4 = nI (lc + 1) := by rw [ln_c hlc, if_neg (by omega), if_pos rfl, hW.1, nI_add]
  have hL : ∀ l, l < lc → ∀ y, y < 5 → lnV v lc k s u x d (lnA l + y) = v (lnA l + y) := fun l hl y hy => hlo _ (by unfold lnA; omega) (by unfold lnA; omega) (by unfold lnA; omega)
  have hla : la (lnV v lc k s u x d) lc = s := by unfold la; rw [c0]; exact ixI_n (by omega)
  have hlb : lb (lnV v lc k s u x d) lc = u := by unfold lb; rw [c1]; exact ixI_n (by omega)
  have hend : tz (lnV v lc k s u x d) (lnA lc + 4) = tz v 0 + d.toInt := by
    unfold tz at hnow ⊢
    rw [c4]
    exact tI_add (by omega) (by omega)
  have hW' : WL n (lc + 1) (lnV v lc k s u x d) := by
    refine ⟨c5, by omega, fun l hl => ?_⟩
    by_cases e : l = lc
    · subst e
      rw [hla, hlb, c0, c1, c2]
      have hk2 : k = 0 ∨ k = 1 := by omega
      exact ⟨rfl, hs, rfl, hu, fun e => hus e.symm, by rcases hk2 with rfl | rfl; exact Or.inl rfl; exact Or.inr rfl⟩
    · have hl' : l < lc := by omega
      have := hW.2.2 l hl'
      rw [la_cg (hL l hl' 0 (by omega)), lb_cg (hL l hl' 1 (by omega)), show lnV v lc k s u x d (lnA l) = v (lnA l) from hL l hl' 0 (by omega), hL l hl' 1 (by omega), hL l hl' 2 (by omega)]
      exact this
  have hrec : ∀ s' o y, s' < n → o < n → y < 27 → y ≠ 0 → y ≠ 16 → lnV v lc k s u x d (rcA s' o + y) = v (rcA s' o + y) := fun s' o y h1 h2 h3 h4 h5 => ln_o hlc (by unfold rcA; omega) (by unfold rcA; omega) (by unfold rcA; omega) (by have := rcA_ge s' o; omega)
  have hV : tz (lnV v lc k s u x d) (rcA s s) = tz v (rcA s s) + 1 := by
    rw [← h.ver ht hs]
    unfold tz
    rw [ln_c hlc, if_pos rfl]
  have hus' : ∀ l, l < 10 → ∀ o, o < n → tz (lnV v lc k s u x d) (rcA o o + 17 + l) = tz v (rcA o o + 17 + l) := fun l hl o ho => by
    rw [show rcA o o + 17 + l = rcA o o + (17 + l) by omega]
    exact tz_eq (hrec o o _ ho ho (by omega) (by omega) (by omega))
  have hown : ∀ s' k', s' < n → k' < 2 → ownZ n (lc + 1) (lnV v lc k s u x d) s' k' = ownZ n lc v s' k' + owLZ (lnV v lc k s u x d) s' k' lc := by
    intro s' k' hs' hk'
    have e1 : ownZ n lc (lnV v lc k s u x d) s' k' = ownZ n lc v s' k' := ownZ_cg (by omega) hW hs' hk' (hlo 1 (by omega) (by omega) (by omega)) (hlo 2 (by omega) (by omega) (by omega)) (hlo 3 (by omega) (by omega) (by omega)) (hlo 0 (by omega) (by omega) (by omega)) hL (fun o ho y hy y0 y1 _ => hrec s' o y hs' ho hy y0 (by omega))
    rw [← e1]
    unfold ownZ
    rw [sumZ]
    omega
  have hbk : bkB (lnV v lc k s u x d) lc = false := by
    unfold bkB
    have e0 : lnV v lc k s u x d 0 = v 0 := hlo 0 (by omega) (by omega) (by omega)
    have : ¬ lnV v lc k s u x d (lnA lc + 4) ≤ lnV v lc k s u x d 0 := by
      rw [e0, Int32.le_iff_toInt_le]
      have h1 : (lnV v lc k s u x d (lnA lc + 4)).toInt = tz v 0 + d.toInt := hend
      have h2 : (v 0).toInt = tz v 0 := rfl
      omega
    simp [this]
  refine h.step hn hs (Nat.le_succ lc) hW' (hlo 5 (by omega) (by omega) (by omega)) (hlo 1 (by omega) (by omega) (by omega)) (hlo 2 (by omega) (by omega) (by omega)) (hlo 3 (by omega) (by omega) (by omega)) (hlo 0 (by omega) (by omega) (by omega)) hL (fun l h1 h2 => ?_) (fun j h1 h2 => ln_o hlc (by omega) (by omega) (by omega) (by omega)) hV (fun y h1 h2 => ?_) (fun y h1 h2 => ?_) (fun k' hk' => ?_) (fun l hl => ?_) (fun l h1 h2 => ?_) (fun l hl hb => ?_) (fun l hl hb he => ?_) (fun s' k' hs' hk' => ?_)
  · have : l = lc := by omega
    subst this
    refine ⟨?_, ?_, by omega⟩
    · unfold tz; rw [c3]; exact hxx.1
    · unfold tz; rw [c3]; exact hxx.2
  · have := hr.1 y (by omega)
    rw [tz_eq (hrec s s y hs hs (by omega) (by omega) (by omega))]
    omega
  · rw [tz_eq (hrec s s y hs hs (by omega) (by omega) (by omega))]
    omega
  · have hdm := h.dem (by omega) hs hk'
    rw [show rcA s s + 14 + k' = rcA s s + (14 + k') by omega, tz_eq (hrec s s _ hs hs (by omega) (by omega) (by omega)), show rcA s s + (14 + k') = rcA s s + 14 + k' by omega]
    exact hdm
  · rw [hus' l hl s hs]; exact Int.le_refl _
  · rw [hus' l h2 s hs]
    exact hr.2.1 l (by omega) h2
  · rw [hus' l (by omega) s hs]
    by_cases e : l = lc
    · subst e
      rw [hr.2.1 l (Nat.le_refl _) hlc]
      unfold tz
      rw [c3]
      omega
    · have hl' : l < lc := by omega
      rw [lb_cg (hL l hl' 1 (by omega))] at hb
      rw [tz_eq (hL l hl' 3 (by omega))]
      exact hr.2.2 l hl' hb
  · exact hus' l (by omega) s hs
  · rw [hown s' k' hs' hk']
    have h0 := h.2.2.2 s' k' hs' hk'
    have hz : tz (lnV v lc k s u x d) (rcA s' s' + 17 + lc) = 0 := by rw [hus' lc hlc s' hs']; exact (h.2.1 s' hs').2.1 lc (Nat.le_refl _) hlc
    unfold owLZ
    rw [c0, c1, c2, hbk, hz]
    by_cases e1 : nI k = nI k'
    · rw [if_pos e1]
      have ek : k = k' := by rw [nI_inj5 (by omega) (by omega)] at e1; exact e1
      have hA : (if nI u = nI s' then (0 : Int) else 0) = 0 := by split <;> rfl
      rw [hA]
      by_cases e2 : nI s = nI s'
      · have es : s = s' := by rw [nI_inj5 (by omega) (by omega)] at e2; exact e2
        subst es
        subst ek
        rw [if_pos rfl]
        simp only [Bool.false_eq_true, if_false]
        unfold tz
        rw [c3]
        omega
      · rw [if_neg e2]
        omega
    · rw [if_neg e1]
      omega
/-- time passes -/
theorem PI.pass (hn : 2 ≤ n ∧ n ≤ 5) (h : PI t n lc mc v) {x : Int32} (hx : 1 ≤ x.toInt) (hx2 : x.toInt ≤ 1000) (hT : v 0 + x ≤ nI 1000000) : PI t n lc mc (upd v 0 (v 0 + x)) := by
  obtain ⟨⟨p1, ⟨p2, p3⟩, p4, p5, p6, p7⟩, hr, hsn, ho0⟩ := id h
  have hlc := p1.2.1
  have hot : ∀ j, j ≠ 0 → upd v 0 (v 0 + x) j = v j := fun j hj => upd_ne hj
  have hot' : ∀ j, j ≠ 0 → tz (upd v 0 (v 0 + x)) j = tz v j := fun j hj => tz_eq (hot j hj)
  have h0 : tz (upd v 0 (v 0 + x)) 0 = tz v 0 + x.toInt := by
    unfold tz at p5 ⊢
    rw [upd_eq]
    exact tI_add (by omega) (by omega)
  have hT' : tz v 0 + x.toInt ≤ 1000000 := by
    rw [Int32.le_iff_toInt_le, nI_toInt (by omega)] at hT
    have : (v 0 + x).toInt = tz v 0 + x.toInt := by
      unfold tz at p5 ⊢
      exact tI_add (by omega) (by omega)
    omega
  generalize hv' : upd v 0 (v 0 + x) = v' at *
  have hLn : ∀ l y, v' (lnA l + y) = v (lnA l + y) := fun l y => hot _ (by unfold lnA; omega)
  have hlb : ∀ l, lb v' l = lb v l := fun l => lb_cg (hLn l 1)
  have hla : ∀ l, la v' l = la v l := fun l => la_cg (hLn l 0)
  have hsp : ∀ o q y, q ≠ o → vq n mc q → o < n → sp v' o q y = sp v o q y := by
    intro o q y hne hq ho
    rcases hq with hq | hq
    · by_cases e : y = 1
      · subst e
        rw [sp_c (by omega) hne, sp_c (by omega) hne]
        exact hot' _ (by unfold rcA; omega)
      · rw [sp_v (by omega) e, sp_v (by omega) e]
        exact hot' _ (by unfold rcA; omega)
    · obtain ⟨m, rfl⟩ : ∃ m, q = 5 + m := ⟨q - 5, by omega⟩
      rw [sp_m, sp_m]
      exact hot' _ (by unfold mgA; omega)
  have hso : ∀ o y, y ≠ 1 → o < n → sp v' o o y = sp v o o y := fun o y hy ho => by
    rw [sp_v (by omega) hy, sp_v (by omega) hy]
    exact hot' _ (by unfold rcA; omega)
  have hs1 : ∀ o, o < n → sp v' o o 1 = sp v o o 1 + x.toInt := fun o ho => by rw [sp_o (by omega), sp_o (by omega), h0]
  have hL' : ∀ l, l < lc → lb v' l = lb v l ∧ tz v' (lnA l + 4) = tz v (lnA l + 4) := fun l _ => ⟨hlb l, tz_eq (hLn l 4)⟩
  refine ⟨⟨⟨by rw [hot 4 (by omega)]; exact p1.1, hlc, fun l hl => ?_⟩, ⟨by rw [hot 5 (by omega)]; exact p2, p3⟩, by rw [hot' 1 (by omega), hot' 2 (by omega), hot' 3 (by omega)]; exact p4, by omega, fun l hl => by rw [tz_eq (hLn l 3)]; exact p6 l hl, fun m hm => ?_⟩, fun o ho => ?_, fun o ho q hq => ?_, fun s k hs hk => ?_⟩
  · have := p1.2.2 l hl
    rw [hla, hlb, show v' (lnA l) = v (lnA l) from hLn l 0, hLn l 1, hLn l 2]
    exact this
  · obtain ⟨u, hu, e⟩ := p7 m hm
    exact ⟨u, hu, by rw [hot _ (by unfold mgA; omega)]; exact e⟩
  · obtain ⟨r1, r2, r3⟩ := hr o ho
    have hz : ∀ y, tz v' (rcA o o + y) = tz v (rcA o o + y) := fun y => hot' _ (by unfold rcA; omega)
    refine ⟨fun y hy => by rw [hz]; exact r1 y hy, fun l h1 h2 => ?_, fun l hl hb => ?_⟩
    · rw [show rcA o o + 17 + l = rcA o o + (17 + l) by omega, hz, show rcA o o + (17 + l) = rcA o o + 17 + l by omega]; exact r2 l h1 h2
    · rw [hlb] at hb
      rw [show rcA o o + 17 + l = rcA o o + (17 + l) by omega, hz, show rcA o o + (17 + l) = rcA o o + 17 + l by omega, tz_eq (hLn l 3)]; exact r3 l hl hb
  · obtain ⟨s1, s2, s3, s4⟩ := hsn o ho q hq
    by_cases e : q = o
    · subst e
      refine ⟨Lx.refl, fun l hl => by rw [hso q _ (by omega) ho]; exact s2 l hl, fun k hk => by rw [hso q _ (by omega) ho]; exact s3 k hk, fun q' hq' hx' => ?_⟩
      by_cases e2 : q' = q
      · subst e2; exact Lr.refl
      · exfalso
        have hle := (hsn q ho q' hq').1
        unfold Lx at hx' hle
        rw [hso q 0 (by omega) ho, hs1 q ho, hsp q q' 0 e2 hq' ho, hsp q q' 1 e2 hq' ho] at hx'
        omega
    · refine ⟨?_, fun l hl => by rw [hsp o q _ e hq ho]; exact s2 l hl, fun k hk => by rw [hsp o q _ e hq ho]; exact s3 k hk, fun q' hq' hx' => ?_⟩
      · unfold Lx at s1 ⊢
        rw [hso o 0 (by omega) ho, hs1 o ho, hsp o q 0 e hq ho, hsp o q 1 e hq ho]
        omega
      · by_cases e2 : q' = o
        · subst e2
          obtain ⟨a1, a2, a3, a4, a5⟩ := h.le ho hq
          refine ⟨?_, ?_, fun y h1 h2 => ?_, fun l hl => ?_, fun l hl hb he => ?_⟩
          · rw [hso q' 0 (by omega) ho, hsp q' q 0 e hq ho]; exact a1
          · rw [hs1 q' ho, hsp q' q 1 e hq ho]; omega
          · rw [hso q' y (by omega) ho, hsp q' q y e hq ho]; exact a3 y h1 h2
          · rw [hso q' _ (by omega) ho, hsp q' q _ e hq ho]; exact a4 l hl
          · rw [hso q' _ (by omega) ho, hsp q' q _ e hq ho]
            rw [hlb] at hb
            rw [hsp q' q 1 e hq ho, tz_eq (hLn l 4)] at he
            exact a5 l hl hb he
        · rw [Lx.cg (fun y _ => hsp o q y e hq ho) (fun y _ => hsp o q' y e2 hq' ho)] at hx'
          exact Lr.cg (fun y _ => hsp o q y e hq ho) (fun y _ => hsp o q' y e2 hq' ho) hL' (fun l h1 h2 => by omega) hlc (s4 q' hq' hx')
  · have e1 : owBZ v' s k = owBZ v s k := owBZ_cg (hot 1 (by omega)) (hot 2 (by omega)) (hot 3 (by omega)) (hot _ (by unfold rcA; omega)) (hot _ (by unfold rcA; omega))
    have e2 : sumZ n (owGZ v' s k) = sumZ n (owGZ v s k) := sumZ_congr (fun o ho => by
      unfold owGZ
      rw [hot' _ (by unfold rcA; omega), hot' _ (by unfold rcA; omega)])
    have e3 : sumZ lc (owLZ v' s k) = sumZ lc (owLZ v s k) := by
      refine sumZ_congr (fun l hl => ?_)
      obtain ⟨a1, a2, a3, a4, a5, a6⟩ := p1.2.2 l hl
      refine owLZ_cg (by omega) p1 hl hs (fun y hy => hLn l y) (hot _ (by unfold rcA; omega)) (fun e => ⟨?_, fun _ => hot _ (by unfold rcA; omega)⟩)
      have ht := (h.le (o := lb v l) (q := la v l) a4 (Or.inl a2)).2.1
      rw [sp_c (by omega) a5, sp_o (by omega)] at ht
      unfold bkB tOf
      rw [hla, hlb, if_neg a5, if_neg a5, hLn l 4, hot _ (show rcA (la v l) (lb v l) + 1 ≠ 0 by omega)]
      have z1 : (v' 0).toInt = tz v 0 + x.toInt := h0
      have z2 : (v 0).toInt = tz v 0 := rfl
      have z3 : (v (rcA (la v l) (lb v l) + 1)).toInt = tz v (rcA (la v l) (lb v l) + 1) := rfl
      rw [Bool.eq_iff_iff, Bool.and_eq_true, Bool.and_eq_true, decide_eq_true_eq, decide_eq_true_eq, decide_eq_true_eq, Int32.le_iff_toInt_le, Int32.le_iff_toInt_le, Int32.le_iff_toInt_le]
      omega
    have := ho0 s k hs hk
    unfold ownZ at this ⊢
    rw [e1, e2, e3]
    exact this
end PG

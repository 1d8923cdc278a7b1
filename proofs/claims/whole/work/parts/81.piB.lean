/-! THE PURE SIDE: the copies of a record, as a view or a message has them; what always holds of a row -/
def sp (v : Nat → Int32) (o q x : Nat) : Int := if q < 5 then (if x = 1 then (tOf v q o).toInt else tz v (rcA q o + x)) else tz v (mgA (q - 5) + 3 + 30 * o + x)
def vq (n mc q : Nat) : Prop := q < n ∨ (5 ≤ q ∧ q < 5 + mc)
def Lx (r r' : Nat → Int) : Prop := r 0 < r' 0 ∨ (r 0 = r' 0 ∧ r 1 ≤ r' 1)
def Lr (lc : Nat) (v : Nat → Int32) (o : Nat) (r r' : Nat → Int) : Prop := r 0 ≤ r' 0 ∧ r 1 ≤ r' 1 ∧ (∀ y, 4 ≤ y → y < 14 → r y ≤ r' y) ∧ (∀ l, l < 10 → r (17 + l) ≤ r' (17 + l)) ∧ ∀ l, l < lc → lb v l = o → tz v (lnA l + 4) ≤ r 1 → r (17 + l) = r' (17 + l)
def PIb (n lc mc : Nat) (v : Nat → Int32) : Prop := WL n lc v ∧ (v 5 = nI mc ∧ mc ≤ 8) ∧ (-10000 ≤ tz v 1 ∧ tz v 1 ≤ tz v 3 ∧ tz v 3 ≤ tz v 2 ∧ tz v 2 ≤ 10000) ∧ (0 ≤ tz v 0 ∧ tz v 0 ≤ 1000000) ∧ (∀ l, l < lc → 1 ≤ tz v (lnA l + 3) ∧ tz v (lnA l + 3) ≤ 999) ∧ ∀ m, m < mc → ∃ t, t < n ∧ v (mgA m + 1) = nI t
def PIr (t n lc : Nat) (v : Nat → Int32) : Prop := ∀ o, o < n → (∀ x, (x = 0 ∨ (2 ≤ x ∧ x < 14)) → 0 ≤ tz v (rcA o o + x) ∧ tz v (rcA o o + x) ≤ 20000 * (t : Int)) ∧ (∀ l, lc ≤ l → l < 10 → tz v (rcA o o + 17 + l) = 0) ∧ ∀ l, l < lc → lb v l = o → tz v (rcA o o + 17 + l) ≤ tz v (lnA l + 3)
def PIs (n lc mc : Nat) (v : Nat → Int32) : Prop := ∀ o, o < n → ∀ q, vq n mc q → Lx (sp v o q) (sp v o o) ∧ (∀ l, l < 10 → 0 ≤ sp v o q (17 + l)) ∧ (∀ k, k < 2 → 0 ≤ sp v o q (14 + k) ∧ sp v o q (14 + k) ≤ 100000) ∧ ∀ q', vq n mc q' → Lx (sp v o q) (sp v o q') → Lr lc v o (sp v o q) (sp v o q')
def PIo (n lc : Nat) (v : Nat → Int32) : Prop := ∀ s k, s < n → k < 2 → 0 ≤ ownZ n lc v s k
def PI (t n lc mc : Nat) (v : Nat → Int32) : Prop := PIb n lc mc v ∧ PIr t n lc v ∧ PIs n lc mc v ∧ PIo n lc v
section PB
variable {t n lc lc' mc mc' : Nat} {v v' : Nat → Int32} {s k o l q x : Nat} {r r' r1 r1' : Nat → Int}
theorem Lx.refl : Lx r r := Or.inr ⟨rfl, Int.le_refl _⟩
theorem Lr.refl : Lr lc v o r r := ⟨Int.le_refl _, Int.le_refl _, fun _ _ _ => Int.le_refl _, fun _ _ => Int.le_refl _, fun _ _ _ _ => rfl⟩
theorem Lx.cg (h : ∀ x, x < 27 → r1 x = r x) (h' : ∀ x, x < 27 → r1' x = r' x) : Lx r1 r1' ↔ Lx r r' := by
  unfold Lx
  rw [h 0 (by omega), h 1 (by omega), h' 0 (by omega), h' 1 (by omega)]
theorem Lr.cg (h : ∀ x, x < 27 → r1 x = r x) (h' : ∀ x, x < 27 → r1' x = r' x) (hL : ∀ l, l < lc → lb v' l = lb v l ∧ tz v' (lnA l + 4) = tz v (lnA l + 4)) (hN : ∀ l, lc ≤ l → l < lc' → r 1 < tz v' (lnA l + 4)) (hlc : lc' ≤ 10) (a : Lr lc v o r r') : Lr lc' v' o r1 r1' := by
  obtain ⟨a1, a2, a3, a4, a5⟩ := a
  refine ⟨by rw [h 0 (by omega), h' 0 (by omega)]; exact a1, by rw [h 1 (by omega), h' 1 (by omega)]; exact a2, fun y h1 h2 => by rw [h y (by omega), h' y (by omega)]; exact a3 y h1 h2, fun l hl => by rw [h _ (by omega), h' _ (by omega)]; exact a4 l hl, fun l hl hb he => ?_⟩
  rw [h 1 (by omega)] at he
  rw [h _ (by omega), h' _ (by omega)]
  by_cases e : l < lc
  · obtain ⟨e1, e2⟩ := hL l e
    rw [e1] at hb
    rw [e2] at he
    exact a5 l e hb he
  · have := hN l (by omega) hl
    omega
theorem sp_v (hq : q < 5) (hx : x ≠ 1) : sp v o q x = tz v (rcA q o + x) := by unfold sp; rw [if_pos hq, if_neg hx]
theorem sp_m (m : Nat) : sp v o (5 + m) x = tz v (mgA m + 3 + 30 * o + x) := by
  unfold sp
  rw [if_neg (by omega), show 5 + m - 5 = m by omega]
theorem sp_t (hq : q < 5) : sp v o q 1 = (tOf v q o).toInt := by unfold sp; rw [if_pos hq, if_pos rfl]
theorem sp_o (ho : o < 5) : sp v o o 1 = tz v 0 := by rw [sp_t ho, tOf, if_pos rfl]; rfl
theorem sp_c (hq : q < 5) (h : q ≠ o) : sp v o q 1 = tz v (rcA q o + 1) := by rw [sp_t hq, tOf, if_neg h]; rfl
theorem vq_o (h : o < n) : vq n mc o := Or.inl h
theorem PI.W (h : PI t n lc mc v) : WL n lc v := h.1.1
theorem PI.le (h : PI t n lc mc v) (ho : o < n) (hq : vq n mc q) : Lr lc v o (sp v o q) (sp v o o) := (h.2.2.1 o ho q hq).2.2.2 o (vq_o ho) (h.2.2.1 o ho q hq).1
theorem PI.mono (h : PI t n lc mc v) {t' : Nat} (ht : t ≤ t') : PI t' n lc mc v := ⟨h.1, fun o ho => ⟨fun x hx => by have := (h.2.1 o ho).1 x hx; omega, (h.2.1 o ho).2⟩, h.2.2⟩
/-- what a site itself has used -/
theorem PI.us (h : PI t n lc mc v) (hn : n ≤ 5) (ho : o < n) (hl : l < 10) : 0 ≤ tz v (rcA o o + 17 + l) := by
  have := (h.2.2.1 o ho o (vq_o ho)).2.1 l hl
  rw [sp_v (by omega) (by omega), show rcA o o + (17 + l) = rcA o o + 17 + l by omega] at this
  exact this
/-- a site's own record goes on (and a loan may be made) -/
theorem PI.step (hn : 2 ≤ n ∧ n ≤ 5) (h : PI t n lc mc v) (hs : s < n) (hlc : lc ≤ lc') (hW : WL n lc' v') (h5 : v' 5 = v 5) (hb1 : v' 1 = v 1) (hb2 : v' 2 = v 2) (hb3 : v' 3 = v 3) (hb0 : v' 0 = v 0) (hL : ∀ l, l < lc → ∀ x, x < 5 → v' (lnA l + x) = v (lnA l + x))
    (hLn : ∀ l, lc ≤ l → l < lc' → 1 ≤ tz v' (lnA l + 3) ∧ tz v' (lnA l + 3) ≤ 999 ∧ tz v 0 < tz v' (lnA l + 4)) (hF : ∀ j, 60 ≤ j → (j < rcA s s ∨ rcA s s + 27 ≤ j) → v' j = v j) (hV : tz v' (rcA s s) = tz v (rcA s s) + 1)
    (hC : ∀ x, 2 ≤ x → x < 4 → 0 ≤ tz v' (rcA s s + x) ∧ tz v' (rcA s s + x) ≤ tz v (rcA s s + x) + 20000) (hG : ∀ x, 4 ≤ x → x < 14 → tz v (rcA s s + x) ≤ tz v' (rcA s s + x) ∧ tz v' (rcA s s + x) ≤ tz v (rcA s s + x) + 20000) (hD : ∀ k, k < 2 → 0 ≤ tz v' (rcA s s + 14 + k) ∧ tz v' (rcA s s + 14 + k) ≤ 100000)
    (hU : ∀ l, l < 10 → tz v (rcA s s + 17 + l) ≤ tz v' (rcA s s + 17 + l)) (hU0 : ∀ l, lc' ≤ l → l < 10 → tz v' (rcA s s + 17 + l) = 0) (hUa : ∀ l, l < lc' → lb v' l = s → tz v' (rcA s s + 17 + l) ≤ tz v' (lnA l + 3)) (hUf : ∀ l, l < lc → lb v l = s → tz v (lnA l + 4) ≤ tz v 0 → tz v' (rcA s s + 17 + l) = tz v (rcA s s + 17 + l)) (hO : PIo n lc' v') : PI (t + 1) n lc' mc v' := by
  have hlc10 := hW.2.1
  obtain ⟨⟨p1, ⟨p2, p3⟩, p4, p5, p6, p7⟩, hr, hsn, ho0⟩ := id h
  have hsp : ∀ o q x, o < n → vq n mc q → x < 27 → ¬ (o = s ∧ q = s) → sp v' o q x = sp v o q x := by
    intro o q x ho hq hx hne
    rcases hq with hq | hq
    · by_cases e : x = 1
      · subst e
        rw [sp_t (by omega), sp_t (by omega)]
        unfold tOf
        by_cases e2 : q = o
        · rw [if_pos e2, if_pos e2, hb0]
        · rw [if_neg e2, if_neg e2, hF _ (by have := rcA_ge q o; omega) (by unfold rcA; omega)]
      · rw [sp_v (by omega) e, sp_v (by omega) e]
        exact tz_eq (hF _ (by have := rcA_ge q o; omega) (by unfold rcA; omega))
    · obtain ⟨m, rfl⟩ : ∃ m, q = 5 + m := ⟨q - 5, by omega⟩
      rw [sp_m, sp_m]
      exact tz_eq (hF _ (by unfold mgA; omega) (by unfold mgA rcA; omega))
  have hL' : ∀ l, l < lc → lb v' l = lb v l ∧ tz v' (lnA l + 4) = tz v (lnA l + 4) := fun l hl => ⟨lb_cg (hL l hl 1 (by omega)), tz_eq (hL l hl 4 (by omega))⟩
  have hT : ∀ x, x < 27 → x ≠ 1 → sp v s s x = tz v (rcA s s + x) ∧ sp v' s s x = tz v' (rcA s s + x) := fun x _ hx => ⟨sp_v (by omega) hx, sp_v (by omega) hx⟩
  have h1s : sp v' s s 1 = sp v s s 1 := by rw [sp_o (by omega), sp_o (by omega)]; exact tz_eq hb0
  refine ⟨⟨hW, ⟨by rw [h5]; exact p2, p3⟩, by rw [tz_eq hb1, tz_eq hb2, tz_eq hb3]; exact p4, by rw [tz_eq hb0]; exact p5, fun l hl => ?_, fun m hm => ?_⟩, fun o ho => ?_, fun o ho q hq => ?_, hO⟩
  · by_cases e : l < lc
    · rw [tz_eq (hL l e 3 (by omega))]; exact p6 l e
    · have := hLn l (by omega) hl; omega
  · obtain ⟨u, hu, e⟩ := p7 m hm
    exact ⟨u, hu, by rw [hF _ (by unfold mgA; omega) (by unfold mgA rcA; omega)]; exact e⟩
  · obtain ⟨r1, r2, r3⟩ := hr o ho
    by_cases e : o = s
    · subst e
      refine ⟨fun x hx => ?_, hU0, hUa⟩
      have hx0 := r1 x hx
      rcases hx with rfl | ⟨hx1, hx2⟩
      · have : tz v' (rcA o o + 0) = tz v (rcA o o + 0) + 1 := hV
        omega
      · by_cases e4 : x < 4
        · have := hC x hx1 e4; omega
        · have := hG x (by omega) hx2; omega
    · have hk : ∀ y, y < 27 → tz v' (rcA o o + y) = tz v (rcA o o + y) := fun y hy => tz_eq (hF _ (by have := rcA_ge o o; omega) (by unfold rcA; omega))
      refine ⟨fun x hx => ?_, fun l hl hl2 => ?_, fun l hl hb => ?_⟩
      · have := r1 x hx
        rw [hk x (by omega)]
        omega
      · rw [show rcA o o + 17 + l = rcA o o + (17 + l) by omega, hk _ (by omega), show rcA o o + (17 + l) = rcA o o + 17 + l by omega]
        exact r2 l (by omega) hl2
      · rw [show rcA o o + 17 + l = rcA o o + (17 + l) by omega, hk _ (by omega), show rcA o o + (17 + l) = rcA o o + 17 + l by omega]
        by_cases e2 : l < lc
        · rw [(hL' l e2).1] at hb
          rw [tz_eq (hL l e2 3 (by omega))]
          exact r3 l e2 hb
        · have := hLn l (by omega) hl
          rw [r2 l (by omega) (by omega)]
          omega
  · obtain ⟨s1, s2, s3, s4⟩ := hsn o ho q hq
    have hnow : sp v o q 1 ≤ tz v 0 := by
      have := (h.le ho hq).2.1
      rw [sp_o (by omega)] at this
      exact this
    have hN : ∀ l, lc ≤ l → l < lc' → sp v o q 1 < tz v' (lnA l + 4) := fun l h1 h2 => by have := hLn l h1 h2; omega
    by_cases e : o = s
    · subst e
      have hV0 : sp v' o o 0 = sp v o o 0 + 1 := by rw [(hT 0 (by omega) (by omega)).1, (hT 0 (by omega) (by omega)).2]; exact hV
      have hTT : Lr lc v o (sp v o o) (sp v' o o) := by
        refine ⟨by omega, by omega, fun y h1 h2 => ?_, fun l hl => ?_, fun l hl hb he => ?_⟩
        · rw [(hT y (by omega) (by omega)).1, (hT y (by omega) (by omega)).2]; exact (hG y h1 h2).1
        · rw [(hT _ (by omega) (by omega)).1, (hT _ (by omega) (by omega)).2, show rcA o o + (17 + l) = rcA o o + 17 + l by omega]; exact hU l hl
        · rw [sp_o (by omega)] at he
          rw [(hT _ (by omega) (by omega)).1, (hT _ (by omega) (by omega)).2, show rcA o o + (17 + l) = rcA o o + 17 + l by omega]
          exact (hUf l hl hb he).symm
      by_cases eq : q = o
      · subst eq
        refine ⟨Lx.refl, fun l hl => ?_, fun k hk => ?_, fun q' hq' hx => ?_⟩
        · have h1 := s2 l hl
          rw [(hT _ (by omega) (by omega)).1] at h1
          rw [(hT _ (by omega) (by omega)).2]
          have h2 := hU l hl
          rw [show rcA q q + 17 + l = rcA q q + (17 + l) by omega] at h2
          omega
        · rw [(hT _ (by omega) (by omega)).2, show rcA q q + (14 + k) = rcA q q + 14 + k by omega]
          exact hD k hk
        · by_cases e2 : q' = q
          · subst e2; exact Lr.refl
          · exfalso
            have hle := (h.le ho hq').1
            rw [Lx.cg (fun x _ => rfl) (fun x hx => hsp q q' x ho hq' hx (fun e => e2 e.2))] at hx
            rcases hx with hx | hx <;> omega
      · have hsq : ∀ x, x < 27 → sp v' o q x = sp v o q x := fun x hx => hsp o q x ho hq hx (fun e => eq e.2)
        refine ⟨Or.inl ?_, fun l hl => by rw [hsq _ (by omega)]; exact s2 l hl, fun k hk => by rw [hsq _ (by omega)]; exact s3 k hk, fun q' hq' hx => ?_⟩
        · rw [hsq 0 (by omega), hV0]
          have := (h.le ho hq).1
          omega
        · by_cases e2 : q' = o
          · subst e2
            refine Lr.cg (r := sp v q' q) (r' := sp v' q' q') hsq (fun _ _ => rfl) hL' hN hlc10 ?_
            obtain ⟨a1, a2, a3, a4, a5⟩ := h.le ho hq
            obtain ⟨b1, b2, b3, b4, b5⟩ := hTT
            exact ⟨by omega, by omega, fun y h1 h2 => Int.le_trans (a3 y h1 h2) (b3 y h1 h2), fun l hl => Int.le_trans (a4 l hl) (b4 l hl), fun l hl hb he => (a5 l hl hb he).trans (b5 l hl hb (Int.le_trans he a2))⟩
          · have hsq' : ∀ x, x < 27 → sp v' o q' x = sp v o q' x := fun x hx => hsp o q' x ho hq' hx (fun e => e2 e.2)
            rw [Lx.cg hsq hsq'] at hx
            exact Lr.cg hsq hsq' hL' hN hlc10 (s4 q' hq' hx)
    · have hsq : ∀ q', vq n mc q' → ∀ x, x < 27 → sp v' o q' x = sp v o q' x := fun q' hq' x hx => hsp o q' x ho hq' hx (fun e2 => e e2.1)
      refine ⟨(Lx.cg (hsq q hq) (hsq o (vq_o ho))).mpr s1, fun l hl => by rw [hsq q hq _ (by omega)]; exact s2 l hl, fun k hk => by rw [hsq q hq _ (by omega)]; exact s3 k hk, fun q' hq' hx => ?_⟩
      rw [Lx.cg (hsq q hq) (hsq q' hq')] at hx
      exact Lr.cg (hsq q hq) (hsq q' hq') hL' hN hlc10 (s4 q' hq' hx)
/-- copies are made, moved, dropped -/
theorem PI.copy (hn : n ≤ 5) (h : PI t n lc mc v) (hA : ∀ j, j < 60 → j ≠ 5 → v' j = v j) (h5 : v' 5 = nI mc') (h8 : mc' ≤ 8) (hM : ∀ m, m < mc' → ∃ t, t < n ∧ v' (mgA m + 1) = nI t) (hT : ∀ o, o < n → ∀ x, x < 27 → x ≠ 1 → v' (rcA o o + x) = v (rcA o o + x)) (hS : ∀ o, o < n → ∀ q, vq n mc' q → ∃ q', vq n mc q' ∧ (q = o → q' = o) ∧ ∀ x, x < 27 → sp v' o q x = sp v o q' x) (hO : PIo n lc v') : PI t n lc mc' v' := by
  obtain ⟨⟨p1, ⟨p2, p3⟩, p4, p5, p6, p7⟩, hr, hsn, ho0⟩ := id h
  have hlc := p1.2.1
  have hLn : ∀ l, l < lc → ∀ x, x < 5 → v' (lnA l + x) = v (lnA l + x) := fun l hl x hx => hA _ (by unfold lnA; omega) (by unfold lnA; omega)
  have hL' : ∀ l, l < lc → lb v' l = lb v l ∧ tz v' (lnA l + 4) = tz v (lnA l + 4) := fun l hl => ⟨lb_cg (hLn l hl 1 (by omega)), tz_eq (hLn l hl 4 (by omega))⟩
  refine ⟨⟨⟨by rw [hA 4 (by omega) (by omega)]; exact p1.1, hlc, fun l hl => ?_⟩, ⟨h5, h8⟩, by rw [tz_eq (hA 1 (by omega) (by omega)), tz_eq (hA 2 (by omega) (by omega)), tz_eq (hA 3 (by omega) (by omega))]; exact p4, by rw [tz_eq (hA 0 (by omega) (by omega))]; exact p5, fun l hl => by rw [tz_eq (hLn l hl 3 (by omega))]; exact p6 l hl, hM⟩, fun o ho => ?_, fun o ho q hq => ?_, hO⟩
  · have := p1.2.2 l hl
    rw [la_cg (hLn l hl 0 (by omega)), lb_cg (hLn l hl 1 (by omega)), show v' (lnA l) = v (lnA l) from hLn l hl 0 (by omega), hLn l hl 1 (by omega), hLn l hl 2 (by omega)]
    exact this
  · obtain ⟨r1, r2, r3⟩ := hr o ho
    have hu : ∀ l, l < 10 → tz v' (rcA o o + 17 + l) = tz v (rcA o o + 17 + l) := fun l hl => by
      rw [show rcA o o + 17 + l = rcA o o + (17 + l) by omega]
      exact tz_eq (hT o ho _ (by omega) (by omega))
    exact ⟨fun x hx => by rw [tz_eq (hT o ho x (by omega) (by omega))]; exact r1 x hx, fun l h1 h2 => by rw [hu l h2]; exact r2 l h1 h2, fun l hl hb => by
      rw [hu l (by omega), tz_eq (hLn l hl 3 (by omega))]
      rw [(hL' l hl).1] at hb
      exact r3 l hl hb⟩
  · obtain ⟨q1, hq1, -, e1⟩ := hS o ho q hq
    obtain ⟨o1, ho1, e0, eo⟩ := hS o ho o (vq_o ho)
    rw [e0 rfl] at eo
    obtain ⟨s1, s2, s3, s4⟩ := hsn o ho q1 hq1
    refine ⟨(Lx.cg e1 eo).mpr s1, fun l hl => by rw [e1 _ (by omega)]; exact s2 l hl, fun k hk => by rw [e1 _ (by omega)]; exact s3 k hk, fun q' hq' hx => ?_⟩
    obtain ⟨q2, hq2, -, e2⟩ := hS o ho q' hq'
    rw [Lx.cg e1 e2] at hx
    exact Lr.cg e1 e2 hL' (fun l h1 h2 => by omega) hlc (s4 q2 hq2 hx)
end PB

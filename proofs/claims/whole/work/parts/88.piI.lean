/-! THE PURE SIDE: begin, rows that are alike, commands, helpers -/
section PIX
variable {t n lc mc : Nat} {v v' : Nat → Int32} {s k o l q u m : Nat}
theorem PI.cg (hn : n ≤ 5) (h : PI t n lc mc v) (e : ∀ j, j < 2400 → v' j = v j) : PI t n lc mc v' := by
  have h8 := h.1.2.1.2
  refine h.copy hn (fun j h1 _ => e j (by omega)) (by rw [e 5 (by omega)]; exact h.1.2.1.1) h8 (fun m hm => by rw [e _ (by unfold mgA; omega)]; exact h.1.2.2.2.2.2 m hm) (fun o ho x hx _ => e _ (by unfold rcA; omega)) (fun o ho q hq => ⟨q, hq, id, fun x hx => ?_⟩) (own_lo hn h (fun j h1 _ => e j (by omega)))
  rcases hq with hq | hq
  · exact sp_lo (by omega) (by omega) (fun j h1 _ => e j (by omega)) hx
  · obtain ⟨m, rfl⟩ : ∃ m, q = 5 + m := ⟨q - 5, by omega⟩
    rw [sp_m, sp_m]
    exact tz_eq (e _ (by unfold mgA; omega))
theorem sta_c {x y z : Int32} {j : Nat} (hj : j < 2400) (h1 : j ≠ 1) (h2 : j ≠ 2) (h3 : j ≠ 3) : staV v x y z j = nI 0 := by
  unfold staV ovw
  rw [upd_ne h3, upd_ne h2, upd_ne h1, if_pos (by omega)]
theorem PI.begin (hn : 2 ≤ n ∧ n ≤ 5) {x y z : Int32} (hb : beB x y z = true) : PI 0 n 0 0 (staV v x y z) := by
  rw [beB, Bool.and_eq_true, Bool.and_eq_true, inB_z, inB_z, inB_z] at hb
  have e1 : (-10000 : Int32).toInt = -10000 := by decide
  have e2 : (nI 10000).toInt = 10000 := nI_toInt (by omega)
  rw [e1, e2] at hb
  have c1 : tz (staV v x y z) 1 = x.toInt := by unfold tz staV; rw [upd_ne (by omega), upd_ne (by omega), upd_eq]
  have c2 : tz (staV v x y z) 2 = y.toInt := by unfold tz staV; rw [upd_ne (by omega), upd_eq]
  have c3 : tz (staV v x y z) 3 = z.toInt := by unfold tz staV; rw [upd_eq]
  have c0 : ∀ j, j < 2400 → j ≠ 1 → j ≠ 2 → j ≠ 3 → tz (staV v x y z) j = 0 := fun j h h1 h2 h3 => by unfold tz; rw [sta_c h h1 h2 h3]; rfl
  have hsp : ∀ o q y', o < n → vq n 0 q → y' < 27 → sp (staV v x y z) o q y' = 0 := by
    intro o q y' ho hq hy
    rcases hq with hq | hq
    · by_cases e : y' = 1
      · subst e
        rw [sp_t (by omega)]
        unfold tOf
        by_cases e2 : q = o
        · rw [if_pos e2]; exact c0 0 (by omega) (by omega) (by omega) (by omega)
        · rw [if_neg e2]; exact c0 _ (by unfold rcA; omega) (by unfold rcA; omega) (by unfold rcA; omega) (by unfold rcA; omega)
      · rw [sp_v (by omega) e]; exact c0 _ (by unfold rcA; omega) (by unfold rcA; omega) (by unfold rcA; omega) (by unfold rcA; omega)
    · omega
  refine ⟨⟨⟨sta_c (by omega) (by omega) (by omega) (by omega), by omega, fun l hl => by omega⟩, ⟨sta_c (by omega) (by omega) (by omega) (by omega), by omega⟩, by omega, by rw [c0 0 (by omega) (by omega) (by omega) (by omega)]; omega, fun l hl => by omega, fun m hm => by omega⟩, fun o ho => ⟨fun y' hy => ?_, fun l h1 h2 => c0 _ (by unfold rcA; omega) (by unfold rcA; omega) (by unfold rcA; omega) (by unfold rcA; omega), fun l hl => by omega⟩, fun o ho q hq => ⟨Or.inr ⟨?_, ?_⟩, fun l hl => ?_, fun k hk => ?_, fun q' hq' _ => ⟨?_, ?_, fun y' h1 h2 => ?_, fun l hl => ?_, fun l hl => by omega⟩⟩, fun s k hs hk => ?_⟩
  · rw [c0 _ (by unfold rcA; omega) (by unfold rcA; omega) (by unfold rcA; omega) (by unfold rcA; omega)]; omega
  · rw [hsp o q 0 ho hq (by omega), hsp o o 0 ho (Or.inl ho) (by omega)]
  · rw [hsp o q 1 ho hq (by omega), hsp o o 1 ho (Or.inl ho) (by omega)]; exact Int.le_refl _
  · rw [hsp o q _ ho hq (by omega)]; exact Int.le_refl _
  · rw [hsp o q _ ho hq (by omega)]; omega
  · rw [hsp o q _ ho hq (by omega), hsp o q' _ ho hq' (by omega)]; exact Int.le_refl _
  · rw [hsp o q _ ho hq (by omega), hsp o q' _ ho hq' (by omega)]; exact Int.le_refl _
  · rw [hsp o q _ ho hq (by omega), hsp o q' _ ho hq' (by omega)]; exact Int.le_refl _
  · rw [hsp o q _ ho hq (by omega), hsp o q' _ ho hq' (by omega)]; exact Int.le_refl _
  · have eB : 0 ≤ owBZ (staV v x y z) s k := by
      unfold owBZ
      rw [c0 _ (by unfold rcA; omega) (by unfold rcA; omega) (by unfold rcA; omega) (by unfold rcA; omega), c0 (rcA s s + 2) (by unfold rcA; omega) (by unfold rcA; omega) (by unfold rcA; omega) (by unfold rcA; omega), c1, c2, c3]
      split <;> split <;> omega
    have eG : sumZ n (owGZ (staV v x y z) s k) = 0 := by
      rw [sumZ_congr (g := fun _ => 0) (fun o ho => ?_), sumZ_zero]
      unfold owGZ
      rw [c0 _ (by unfold rcA; omega) (by unfold rcA; omega) (by unfold rcA; omega) (by unfold rcA; omega), c0 (rcA s s + 4 + 5 * k + o) (by unfold rcA; omega) (by unfold rcA; omega) (by unfold rcA; omega) (by unfold rcA; omega)]
      split <;> rfl
    have eL : sumZ 0 (owLZ (staV v x y z) s k) = 0 := rfl
    unfold ownZ
    rw [eG, eL]
    omega
theorem PI.rdy (hn : n ≤ 5) (h : PI t n lc mc v) : Rdy n lc mc v := ⟨h.W, h.1.2.1.1, h.1.2.1.2, fun _ _ x hs _ _ _ => usE_lc hn hs h.W x⟩
theorem PI.dov (hn : 2 ≤ n ∧ n ≤ 5) (h : PI t n lc mc v) (ht : t < 100000) {r : Bool × Nat × Int32 × Int32 × Int32 × Int32} (hB : doB n lc mc v r = true) (hK : isK r.2.2.1 = true) : PI (t + 1) n lc mc (doV n lc mc v r) := by
  obtain ⟨r1, r2, c, a, b, x⟩ := r
  unfold doB at hB
  unfold doV
  simp only at hB hK ⊢
  by_cases e1 : c = nI 116
  · rw [if_pos e1] at hB ⊢
    rw [Bool.and_eq_true, decide_eq_true_eq] at hB
    have := inB_am hB.1
    exact (h.pass hn (by omega) (by omega) hB.2).mono (by omega)
  · rw [if_neg e1] at hB ⊢
    by_cases e2 : c = nI 43
    · rw [if_pos e2] at hB ⊢
      rw [Bool.and_eq_true, Bool.and_eq_true] at hB
      obtain ⟨s, hs, rfl⟩ := siB_t (by omega) hB.1
      rw [ixI_n (by omega)]
      exact h.chg hn ht hs (by omega) hB.2.1
    · rw [if_neg e2] at hB ⊢
      by_cases e3 : c = nI 45
      · rw [if_pos e3] at hB ⊢
        rw [Bool.and_eq_true, Bool.and_eq_true] at hB
        obtain ⟨s, hs, rfl⟩ := siB_t (by omega) hB.1
        rw [ixI_n (by omega)]
        exact h.chg hn ht hs (by omega) hB.2.1
      · rw [if_neg e3] at hB ⊢
        rw [Bool.and_eq_true, Bool.and_eq_true, Bool.and_eq_true, decide_eq_true_eq] at hB
        obtain ⟨h1, h2, h3, h4⟩ := hB
        obtain ⟨s, hs, rfl⟩ := siB_t (by omega) h1
        obtain ⟨u, hu, rfl⟩ := siB_t (by omega) h2
        rw [nI_inj5 (by omega) (by omega)] at h3
        rw [ixI_n (by omega), ixI_n (by omega)]
        by_cases e4 : c = nI 109
        · rw [if_pos e4] at h4 ⊢
          rw [decide_eq_true_eq] at h4
          exact (h.msg hn h4 hs hu).mono (by omega)
        · rw [if_neg e4] at h4 ⊢
          have e10 : (nI 1).toInt = 1 := rfl
          by_cases e5 : c = nI 117
          · rw [if_pos e5] at h4 ⊢
            rw [Bool.and_eq_true, decide_eq_true_eq, decide_eq_true_eq, Int32.lt_iff_toInt_lt, e10, Int32.le_iff_toInt_le, ixI_n (by omega), h.ow hn hs (by omega)] at h4
            exact (h.giv hn ht hs hu (fun e => h3 e.symm) (by omega) (by omega) h4.2).1
          · rw [if_neg e5] at h4 ⊢
            rw [Bool.and_eq_true, decide_eq_true_eq, decide_eq_true_eq, Int32.lt_iff_toInt_lt, e10, Int32.le_iff_toInt_le, ixI_n (by omega), h.ow hn hs (by omega)] at h4
            exact (h.giv hn ht hs hu (fun e => h3 e.symm) (by omega) (by omega) h4.2).1
theorem PI.rn (hn : 2 ≤ n ∧ n ≤ 5) (h : PI t n lc mc v) (ht : t < 90000) {R : Nat → Bool × Nat × Int32 × Int32 × Int32 × Int32} : ∀ i, i ≤ 100 → (∀ j, j < i → isK (R j).2.2.1 = true) → (∀ j, j < i → doB n lc mc (rnV n lc mc v R j) (R j) = true) → PI (t + i) n lc mc (rnV n lc mc v R i)
  | 0, _, _, _ => h
  | i + 1, hi, hK, hd => (h.rn hn ht i (by omega) (fun j hj => hK j (by omega)) (fun j hj => hd j (by omega))).dov hn (by omega) (hd i (by omega)) (hK i (by omega))
/-! helpers: both count alike -/
theorem heR_n {w : Nat → Int32} {x : Int32} : ∀ (g i : Nat) (sum tk : Int32), bsN w tk n = none → sum < x → heR n w x g i sum tk = -1
  | 0, _, _, _, _, _ => rfl
  | g + 1, i, sum, tk, h1, h2 => by
    rw [heR, if_pos h2, h1]
    simp only
    rw [nIz, Int32.add_zero, Int32.or_zero]
    exact heR_n g (i + 1) sum tk h1 h2
theorem he_eq {w : Nat → Int32} {x : Int32} (hw : ∀ b, b < n → 0 ≤ (w b).toInt ∧ (w b).toInt ≤ 20000) (hx : 0 ≤ x.toInt ∧ x.toInt ≤ 30000) : ∀ (g i : Nat) (sum mis tk : Int32), 0 ≤ sum.toInt → sum.toInt + 20000 * (g : Int) ≤ 1000000 → mis.toInt = x.toInt - sum.toInt → heC n w g i mis tk = heR n w x g i sum tk
  | 0, _, _, _, _, _, _, _ => rfl
  | g + 1, i, sum, mis, tk, h1, h2, h3 => by
    rw [heC, heR]
    have hc : 0 < mis ↔ sum < x := by
      rw [Int32.lt_iff_toInt_lt, Int32.lt_iff_toInt_lt, t0]
      omega
    by_cases c : sum < x
    · rw [if_pos c, if_pos (hc.mpr c)]
      cases e : bsN w tk n with
      | none =>
        simp only
        rw [nIz, Int32.add_zero, Int32.or_zero, heR_n g (i + 1) sum tk e c]
      | some b =>
        simp only
        have hb := hw b (bsN_lt e)
        have e1 : (sum + w b).toInt = sum.toInt + (w b).toInt := tI_add (by omega) (by omega)
        have e2 : (mis - w b).toInt = mis.toInt - (w b).toInt := tI_sub (by omega) (by omega)
        exact he_eq hw hx g (i + 1) _ _ _ (by omega) (by omega) (by omega)
    · rw [if_neg c, if_neg (fun q => c (hc.mp q))]
theorem PI.he (hn : 2 ≤ n ∧ n ≤ 5) (h : PI t n lc mc v) (hs : s < n) (hk : k < 2) {x tk : Int32} (hx : inB x (nI 0) (nI 30000) = true) : heC n (fun o => own n lc v o k) n 0 (x - avl n lc v s k) tk = heR n (fun o => own n lc v o k) x n 0 (avl n lc v s k) tk := by
  rw [inB_z, tn0, nI_toInt (by omega)] at hx
  have h20 := h.own20 hn hs hk
  obtain ⟨v1, v2, v3⟩ := h.av hn hs hk
  refine he_eq (fun b hb => ?_) hx n 0 _ _ tk (by omega) (by omega) (tI_sub (by omega) (by omega))
  have := h.own20 hn hb hk
  rw [h.ow hn hb hk]
  exact this
end PIX

/-! THE PURE SIDE: all rights together are at most the room; rests of loans; what a site has available -/
section PC
variable {t n lc mc : Nat} {v v' : Nat → Int32} {s k o l q x : Nat}
theorem PI.gsum (hn : n ≤ 5) (h : PI t n lc mc v) (hk : k < 2) : sumZ n (fun s => sumZ n (owGZ v s k)) ≤ 0 := by
  have e : sumZ n (fun s => sumZ n (owGZ v s k)) = sumZ n (fun s => sumZ n (fun o => if o = s then 0 else tz v (rcA s o + 4 + 5 * k + s))) - sumZ n (fun s => sumZ n (fun o => if o = s then 0 else tz v (rcA s s + 4 + 5 * k + o))) := by
    rw [← sumZ_sub]
    refine sumZ_congr (fun s _ => ?_)
    rw [← sumZ_sub]
    refine sumZ_congr (fun o _ => ?_)
    unfold owGZ
    by_cases e : o = s
    · rw [if_pos e, if_pos e, if_pos e]; rfl
    · rw [if_neg e, if_neg e, if_neg e]
  rw [sumZ_swap (f := fun s o => if o = s then 0 else tz v (rcA s s + 4 + 5 * k + o))] at e
  have hle : sumZ n (fun s => sumZ n (fun o => if o = s then 0 else tz v (rcA s o + 4 + 5 * k + s))) ≤ sumZ n (fun j => sumZ n (fun i => if j = i then 0 else tz v (rcA i i + 4 + 5 * k + j))) := by
    refine sumZ_le (fun s hs => sumZ_le (fun o ho => ?_))
    by_cases e : o = s
    · rw [if_pos e, if_pos e.symm]; exact Int.le_refl _
    · rw [if_neg e, if_neg (fun e2 => e e2.symm)]
      have := (h.le (o := o) (q := s) ho (Or.inl hs)).2.2.1 (4 + 5 * k + s) (by omega) (by omega)
      rw [sp_v (by omega) (by omega), sp_v (by omega) (by omega)] at this
      rw [show rcA s o + 4 + 5 * k + s = rcA s o + (4 + 5 * k + s) by omega, show rcA o o + 4 + 5 * k + s = rcA o o + (4 + 5 * k + s) by omega]
      exact this
  omega
theorem PI.lsum (hn : n ≤ 5) (h : PI t n lc mc v) : sumZ n (fun s => sumZ lc (owLZ v s k)) ≤ 0 := by
  have hW := h.W
  have hlc := hW.2.1
  rw [sumZ_swap (f := fun s l => owLZ v s k l)]
  have : sumZ lc (fun j => sumZ n (fun i => owLZ v i k j)) ≤ sumZ lc (fun _ => 0) := by
    refine sumZ_le (fun l hl => ?_)
    obtain ⟨a1, a2, a3, a4, a5, a6⟩ := hW.2.2 l hl
    by_cases ek : v (lnA l + 2) = nI k
    · have e : sumZ n (fun i => owLZ v i k l) = sumZ n (fun i => if lb v l = i then tz v (rcA i i + 17 + l) else 0) - sumZ n (fun i => if la v l = i then (if bkB v l = true then tz v (rcA i (lb v l) + 17 + l) else tz v (lnA l + 3)) else 0) := by
        rw [← sumZ_sub]
        refine sumZ_congr (fun i hi => ?_)
        have eb : v (lnA l + 1) = nI i ↔ lb v l = i := by rw [a3, nI_inj5 (by omega) (by omega)]
        have ea : v (lnA l) = nI i ↔ la v l = i := by rw [a1, nI_inj5 (by omega) (by omega)]
        unfold owLZ
        rw [if_pos ek]
        simp only [eb, ea]
      rw [e, sumZ_one (f := fun i => tz v (rcA i i + 17 + l)) a4, sumZ_one (f := fun i => if bkB v l = true then tz v (rcA i (lb v l) + 17 + l) else tz v (lnA l + 3)) a2]
      have hu := (h.2.1 (lb v l) a4).2.2 l hl rfl
      by_cases eb : bkB v l = true
      · rw [if_pos eb]
        have hle := (h.le (o := lb v l) (q := la v l) a4 (Or.inl a2)).2.2.2.2 l hl rfl
        rw [sp_c (by omega) a5, sp_v (by omega) (by omega), sp_v (by omega) (by omega)] at hle
        unfold bkB at eb
        rw [Bool.and_eq_true, decide_eq_true_eq, decide_eq_true_eq, tOf, if_neg a5, Int32.le_iff_toInt_le, Int32.le_iff_toInt_le] at eb
        have := hle eb.2
        rw [show rcA (la v l) (lb v l) + (17 + l) = rcA (la v l) (lb v l) + 17 + l by omega, show rcA (lb v l) (lb v l) + (17 + l) = rcA (lb v l) (lb v l) + 17 + l by omega] at this
        omega
      · rw [if_neg eb]
        omega
    · rw [sumZ_congr (g := fun _ => 0) (fun i _ => by unfold owLZ; rw [if_neg ek]), sumZ_zero]
      exact Int.le_refl _
  rw [sumZ_zero] at this
  exact this
theorem bsumZ (hn : 0 < n) : sumZ n (fun s => owBZ v s 0) + sumZ n (fun s => owBZ v s 1) = tz v 2 - tz v 1 := by
  rw [← sumZ_add, sumZ_congr (g := fun s => if 0 = s then tz v 2 - tz v 1 else 0) (fun i _ => ?_), sumZ_one (f := fun _ => tz v 2 - tz v 1) hn]
  unfold owBZ
  by_cases e : i = 0
  · subst e
    simp only [if_true, Nat.one_ne_zero, if_false]
    omega
  · have e' : ¬ 0 = i := fun q => e q.symm
    simp only [e, e', if_true, Nat.one_ne_zero, if_false]
    omega
theorem ownS (k : Nat) : sumZ n (fun s => ownZ n lc v s k) = sumZ n (fun s => owBZ v s k) + sumZ n (fun s => sumZ n (owGZ v s k)) + sumZ n (fun s => sumZ lc (owLZ v s k)) := by
  rw [← sumZ_add, ← sumZ_add]
  rfl
theorem PI.own20 (hn : 2 ≤ n ∧ n ≤ 5) (h : PI t n lc mc v) (hs : s < n) (hk : k < 2) : 0 ≤ ownZ n lc v s k ∧ ownZ n lc v s k ≤ 20000 := by
  have h0 := h.2.2.2 s k hs hk
  refine ⟨h0, ?_⟩
  have a0 := h.gsum (k := 0) (by omega) (by omega)
  have a1 := h.gsum (k := 1) (by omega) (by omega)
  have b0 := h.lsum (k := 0) (by omega)
  have b1 := h.lsum (k := 1) (by omega)
  have c := bsumZ (n := n) (v := v) (by omega)
  have e0 := ownS (n := n) (lc := lc) (v := v) 0
  have e1 := ownS (n := n) (lc := lc) (v := v) 1
  have n0 : 0 ≤ sumZ n (fun s => ownZ n lc v s 0) := sumZ_nn (fun i hi => h.2.2.2 i 0 hi (by omega))
  have n1 : 0 ≤ sumZ n (fun s => ownZ n lc v s 1) := sumZ_nn (fun i hi => h.2.2.2 i 1 hi (by omega))
  have m : ownZ n lc v s k ≤ sumZ n (fun s => ownZ n lc v s k) := sumZ_mem (f := fun s => ownZ n lc v s k) (fun i hi => h.2.2.2 i k hi hk) hs
  obtain ⟨p1, p2, p3, p4⟩ := h.1.2.2.1
  have hk2 : k = 0 ∨ k = 1 := by omega
  rcases hk2 with rfl | rfl
  · omega
  · omega
theorem PI.ow (hn : 2 ≤ n ∧ n ≤ 5) (h : PI t n lc mc v) (hs : s < n) (hk : k < 2) : (own n lc v s k).toInt = ownZ n lc v s k := by
  have := h.own20 hn hs hk
  exact tI_of own_of (by omega) (by omega)
/-- a loan's rest -/
theorem PI.rest (hn : n ≤ 5) (h : PI t n lc mc v) (hl : l < lc) : (reL v l).toInt = (if knB v l = true ∧ ¬ v (lnA l + 4) ≤ v 0 then tz v (lnA l + 3) - tz v (rcA (lb v l) (lb v l) + 17 + l) else 0) ∧ 0 ≤ (reL v l).toInt ∧ (reL v l).toInt ≤ 999 := by
  have hW := h.W
  have hlc := hW.2.1
  obtain ⟨a1, a2, a3, a4, a5, a6⟩ := hW.2.2 l hl
  have hu := (h.2.1 (lb v l) a4).2.2 l hl rfl
  have hu0 := h.us hn a4 (l := l) (by omega)
  have ha := h.1.2.2.2.2.1 l hl
  unfold reL
  by_cases e : knB v l = true ∧ ¬ v (lnA l + 4) ≤ v 0
  · rw [if_pos e, if_pos e]
    have hd : (v (lnA l + 3) - usL v (lb v l) l).toInt = tz v (lnA l + 3) - tz v (rcA (lb v l) (lb v l) + 17 + l) := tI_sub (by show _ ≤ tz v (lnA l + 3) - tz v (rcA (lb v l) (lb v l) + 17 + l); omega) (by show tz v (lnA l + 3) - tz v (rcA (lb v l) (lb v l) + 17 + l) < _; omega)
    rw [hd]
    exact ⟨rfl, by omega, by omega⟩
  · rw [if_neg e, if_neg e]
    exact ⟨rfl, by decide, by decide⟩
theorem PI.lel (hn : n ≤ 5) (h : PI t n lc mc v) (hl : l < lc) : 0 ≤ (leL v s k l).toInt ∧ (leL v s k l).toInt ≤ 999 := by
  unfold leL
  split
  · exact (h.rest hn hl).2
  · exact ⟨by decide, by decide⟩
theorem sumZ_b {f : Nat → Int} {m : Nat} (h : ∀ i, i < m → 0 ≤ f i ∧ f i ≤ 999) : 0 ≤ sumZ m f ∧ sumZ m f ≤ 999 * (m : Int) := by
  induction m with
  | zero => exact ⟨Int.le_refl _, Int.le_refl _⟩
  | succ m ih =>
    have h1 := ih (fun i hi => h i (by omega))
    have h2 := h m (by omega)
    rw [sumZ]
    omega
theorem PI.av (hn : 2 ≤ n ∧ n ≤ 5) (h : PI t n lc mc v) (hs : s < n) (hk : k < 2) : (avl n lc v s k).toInt = ownZ n lc v s k + sumZ lc (fun l => (leL v s k l).toInt) ∧ 0 ≤ sumZ lc (fun l => (leL v s k l).toInt) ∧ sumZ lc (fun l => (leL v s k l).toInt) ≤ 9990 := by
  have ho := h.own20 hn hs hk
  have hlc := h.W.2.1
  have hb := sumZ_b (f := fun l => (leL v s k l).toInt) (m := lc) (fun l hl => h.lel (by omega) hl)
  refine ⟨?_, hb.1, by omega⟩
  refine tI_of ?_ (by omega) (by omega)
  unfold avl
  rw [Int32.ofInt_add, ← own_of, sumI_of (g := fun l => (leL v s k l).toInt) (fun i _ => (Int32.ofInt_toInt _).symm)]
/-- the time can be tested either way -/
theorem PI.tm (h : PI t n lc mc v) : TmK v := by
  intro x hx
  have hx2 := inB_du hx
  have h0 := h.1.2.2.2.1
  have hz : (v 0).toInt = tz v 0 := rfl
  have e6 : (nI 1000000).toInt = 1000000 := nI_toInt (by omega)
  rw [Int32.le_iff_toInt_le, Int32.le_iff_toInt_le, tI_sub (by omega) (by omega), tI_add (by omega) (by omega), e6]
  omega
end PC

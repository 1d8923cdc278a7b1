/-! THE PURE SIDE: a transfer; sharing out -/
section PD
variable {t n lc mc : Nat} {v v' : Nat → Int32} {s k o l q u : Nat}
theorem giv_c {x : Int32} (j : Nat) : givV v k s u x j = if j = rcA s s then v (rcA s s) + nI 1 else if j = rcA s s + 4 + 5 * k + u then v (rcA s s + 4 + 5 * k + u) + x else v j := by
  unfold givV chgV
  by_cases e : j = rcA s s
  · rw [if_pos e, e, upd_eq, upd_ne (by omega)]
  · rw [if_neg e, upd_ne e]
    by_cases e2 : j = rcA s s + 4 + 5 * k + u
    · rw [if_pos e2, e2, upd_eq]
    · rw [if_neg e2, upd_ne e2]
theorem giv_o {x : Int32} {j : Nat} (h1 : j ≠ rcA s s) (h2 : j ≠ rcA s s + 4 + 5 * k + u) : givV v k s u x j = v j := by rw [giv_c, if_neg h1, if_neg h2]
theorem PI.giv (hn : 2 ≤ n ∧ n ≤ 5) (h : PI t n lc mc v) (ht : t < 100000) (hs : s < n) (hu : u < n) (hus : u ≠ s) (hk : k < 2) {x : Int32} (hx : 1 ≤ x.toInt) (hxo : x.toInt ≤ ownZ n lc v s k) : PI (t + 1) n lc mc (givV v k s u x) ∧ ownZ n lc (givV v k s u x) s k = ownZ n lc v s k - x.toInt := by
  have h20 := h.own20 hn hs hk
  have hW := h.W
  have hlc := hW.2.1
  have hr := h.2.1 s hs
  have hlo : ∀ j, j < 60 → givV v k s u x j = v j := fun j hj => giv_o (by unfold rcA; omega) (by unfold rcA; omega)
  have hcell : tz (givV v k s u x) (rcA s s + 4 + 5 * k + u) = tz v (rcA s s + 4 + 5 * k + u) + x.toInt := by
    have hb := hr.1 (4 + 5 * k + u) (by omega)
    rw [show rcA s s + (4 + 5 * k + u) = rcA s s + 4 + 5 * k + u by omega] at hb
    unfold tz at hb ⊢
    rw [giv_c, if_neg (by omega), if_pos rfl]
    exact tI_add (by omega) (by omega)
  have hoth : ∀ s', s' < n → s' ≠ s → ∀ k', k' < 2 → ownZ n lc (givV v k s u x) s' k' = ownZ n lc v s' k' := by
    intro s' hs' hne k' hk'
    exact ownZ_cg (by omega) hW hs' hk' (hlo 1 (by omega)) (hlo 2 (by omega)) (hlo 3 (by omega)) (hlo 0 (by omega)) (fun l hl y hy => hlo _ (by unfold lnA; omega)) (fun o ho y hy _ _ _ => giv_o (by unfold rcA; omega) (by unfold rcA; omega))
  have hown : ∀ k', k' < 2 → ownZ n lc (givV v k s u x) s k' = ownZ n lc v s k' - (if k' = k then x.toInt else 0) := by
    intro k' hk'
    have e1 : owBZ (givV v k s u x) s k' = owBZ v s k' := owBZ_cg (hlo 1 (by omega)) (hlo 2 (by omega)) (hlo 3 (by omega)) (giv_o (by omega) (by omega)) (giv_o (by omega) (by omega))
    have e3 : sumZ lc (owLZ (givV v k s u x) s k') = sumZ lc (owLZ v s k') := by
      refine sumZ_congr (fun l hl => ?_)
      obtain ⟨a1, a2, a3, a4, a5, a6⟩ := hW.2.2 l hl
      refine owLZ_cg (by omega) hW hl hs (fun y hy => hlo _ (by unfold lnA; omega)) (giv_o (by omega) (by omega)) (fun e => ⟨bkB_cg (hlo _ (by unfold lnA; omega)) (hlo _ (by unfold lnA; omega)) (hlo _ (by unfold lnA; omega)) (hlo 0 (by omega)) (fun _ => giv_o (by unfold rcA; omega) (by unfold rcA; omega)), fun _ => giv_o (by unfold rcA; omega) (by unfold rcA; omega)⟩)
    have e2 : sumZ n (owGZ (givV v k s u x) s k') = sumZ n (owGZ v s k') + (owGZ (givV v k s u x) s k' u - owGZ v s k' u) := by
      refine sumZ_upd hu (fun o ho hne => ?_)
      unfold owGZ
      by_cases e : o = s
      · rw [if_pos e, if_pos e]
      · rw [if_neg e, if_neg e, tz_eq (giv_o (by unfold rcA; omega) (by unfold rcA; omega)), tz_eq (giv_o (by unfold rcA; omega) (by unfold rcA; omega))]
    have e4 : owGZ (givV v k s u x) s k' u - owGZ v s k' u = -(if k' = k then x.toInt else 0) := by
      unfold owGZ
      rw [if_neg hus, if_neg hus, tz_eq (show givV v k s u x (rcA s u + 4 + 5 * k' + s) = v (rcA s u + 4 + 5 * k' + s) from giv_o (by unfold rcA; omega) (by unfold rcA; omega))]
      by_cases e : k' = k
      · rw [if_pos e, e, hcell]; omega
      · rw [if_neg e, tz_eq (show givV v k s u x (rcA s s + 4 + 5 * k' + u) = v (rcA s s + 4 + 5 * k' + u) from giv_o (by omega) (by omega))]; omega
    unfold ownZ
    rw [e1, e2, e3, e4]
    omega
  have hV : tz (givV v k s u x) (rcA s s) = tz v (rcA s s) + 1 := by
    have hb := hr.1 0 (Or.inl rfl)
    unfold tz at hb ⊢
    rw [giv_c, if_pos rfl]
    have e1 : (nI 1).toInt = 1 := rfl
    rw [← e1]
    refine tI_add ?_ ?_
    · rw [e1]; have : 0 ≤ (v (rcA s s)).toInt := hb.1; omega
    · rw [e1]; have : (v (rcA s s)).toInt ≤ 20000 * (t : Int) := hb.2; omega
  refine ⟨h.step hn hs (Nat.le_refl lc) hW.giv (hlo 5 (by omega)) (hlo 1 (by omega)) (hlo 2 (by omega)) (hlo 3 (by omega)) (hlo 0 (by omega)) (fun l hl y hy => hlo _ (by unfold lnA; omega)) (fun l h1 h2 => by omega) (fun j h1 h2 => giv_o (by omega) (by omega)) hV (fun y h1 h2 => ?_) (fun y h1 h2 => ?_) (fun k' hk' => ?_) (fun l hl => ?_) (fun l h1 h2 => ?_) (fun l hl hb => ?_) (fun l hl hb he => ?_) (fun s' k' hs' hk' => ?_), ?_⟩
  · have := hr.1 y (by omega)
    rw [tz_eq (show givV v k s u x (rcA s s + y) = v (rcA s s + y) from giv_o (by omega) (by omega))]
    omega
  · by_cases e : y = 4 + 5 * k + u
    · rw [e, show rcA s s + (4 + 5 * k + u) = rcA s s + 4 + 5 * k + u by omega, hcell]
      omega
    · rw [tz_eq (show givV v k s u x (rcA s s + y) = v (rcA s s + y) from giv_o (by omega) (by omega))]
      omega
  · have := (h.2.2.1 s hs s (vq_o hs)).2.2.1 k' hk'
    rw [sp_v (by omega) (by omega), show rcA s s + (14 + k') = rcA s s + 14 + k' by omega] at this
    rw [tz_eq (show givV v k s u x (rcA s s + 14 + k') = v (rcA s s + 14 + k') from giv_o (by omega) (by omega))]
    exact this
  · rw [tz_eq (show givV v k s u x (rcA s s + 17 + l) = v (rcA s s + 17 + l) from giv_o (by omega) (by omega))]
    exact Int.le_refl _
  · rw [tz_eq (show givV v k s u x (rcA s s + 17 + l) = v (rcA s s + 17 + l) from giv_o (by omega) (by omega))]
    exact hr.2.1 l h1 h2
  · rw [tz_eq (show givV v k s u x (rcA s s + 17 + l) = v (rcA s s + 17 + l) from giv_o (by omega) (by omega)), tz_eq (show givV v k s u x (lnA l + 3) = v (lnA l + 3) from hlo _ (by unfold lnA; omega))]
    rw [lb_cg (hlo _ (by unfold lnA; omega))] at hb
    exact hr.2.2 l hl hb
  · exact tz_eq (giv_o (by omega) (by omega))
  · by_cases e : s' = s
    · rw [e, hown k' hk']
      by_cases e2 : k' = k
      · rw [if_pos e2, e2]; omega
      · rw [if_neg e2]
        have := h.2.2.2 s k' hs hk'
        omega
    · rw [hoth s' hs' e k' hk']
      exact h.2.2.2 s' k' hs' hk'
  · rw [hown k hk, if_pos rfl]
/-! sharing out -/
theorem tL_of {x : Int64} {X : Int} (h : x = Int64.ofInt X) (h1 : -9223372036854775808 ≤ X) (h2 : X < 9223372036854775808) : x.toInt = X := by
  rw [h]
  exact Int64.toInt_ofInt_of_le (by omega) (by omega)
theorem tL_add {a b : Int64} (h1 : -9223372036854775808 ≤ a.toInt + b.toInt) (h2 : a.toInt + b.toInt < 9223372036854775808) : (a + b).toInt = a.toInt + b.toInt :=
  tL_of (by rw [Int64.ofInt_add, Int64.ofInt_toInt, Int64.ofInt_toInt]) h1 h2
theorem tL_mul {a b : Int64} (h1 : -9223372036854775808 ≤ a.toInt * b.toInt) (h2 : a.toInt * b.toInt < 9223372036854775808) : (a * b).toInt = a.toInt * b.toInt :=
  tL_of (by rw [Int64.ofInt_mul, Int64.ofInt_toInt, Int64.ofInt_toInt]) h1 h2
def dz (v : Nat → Int32) (s k o : Nat) : Int := tz v (rcA s o + 14 + k)
theorem PI.dzb (hn : n ≤ 5) (h : PI t n lc mc v) (hs : s < n) (hk : k < 2) (ho : o < n) : 0 ≤ dz v s k o ∧ dz v s k o ≤ 100000 := by
  have := (h.2.2.1 o ho s (Or.inl hs)).2.2.1 k hk
  rw [sp_v (by omega) (by omega), show rcA s o + (14 + k) = rcA s o + 14 + k by omega] at this
  exact this
theorem PI.dsum (hn : n ≤ 5) (h : PI t n lc mc v) (hs : s < n) (hk : k < 2) : ∀ i, i ≤ n → (rbA v s k i).toInt = sumZ i (dz v s k) ∧ (dmS v s k i).toInt = sumZ i (dz v s k) ∧ 0 ≤ sumZ i (dz v s k) ∧ sumZ i (dz v s k) ≤ 100000 * (i : Int)
  | 0, _ => ⟨rfl, rfl, Int.le_refl _, Int.le_refl _⟩
  | i + 1, hi => by
    obtain ⟨a1, a2, a3, a4⟩ := h.dsum hn hs hk i (by omega)
    have hd := h.dzb hn hs hk (o := i) (by omega)
    have e1 : (v (rcA s i + 14 + k)).toInt64.toInt = dz v s k i := Int32.toInt_toInt64 _
    have e2 : (v (rcA s i + 14 + k)).toInt = dz v s k i := rfl
    rw [rbA, dmS, sumZ]
    refine ⟨?_, ?_, by omega, by omega⟩
    · rw [tL_add (by omega) (by omega), a1, e1]
    · rw [tI_add (by omega) (by omega), a2, e2]
/-- a share -/
def shZ (W : Int) (v : Nat → Int32) (s k n o : Nat) : Int := if o = s then 0 else W * dz v s k o / sumZ n (dz v s k)
theorem shZ_b {W D d : Int} (hW : 0 ≤ W) (hW2 : W ≤ 20000) (hD : 0 ≤ D) (hd : 0 ≤ d) (hdD : d ≤ D) : 0 ≤ W * d / D ∧ W * d / D ≤ W ∧ (W * d / D) * D ≤ W * d := by
  by_cases e : D = 0
  · subst e
    have : d = 0 := by omega
    subst this
    simp
    omega
  · have hp : 0 < D := by omega
    have h1 : 0 ≤ W * d := Int.mul_nonneg hW hd
    refine ⟨Int.ediv_nonneg h1 hD, ?_, Int.ediv_mul_le _ e⟩
    have h2 : W * d ≤ W * D := Int.mul_le_mul_of_nonneg_left hdD hW
    exact Int.ediv_le_of_le_mul hp h2
theorem PI.shP (hn : 2 ≤ n ∧ n ≤ 5) (h : PI t n lc mc v) (hs : s < n) (hk : k < 2) (ho : o < n) : (((own n lc v s k).toInt64 * (v (rcA s o + 14 + k)).toInt64) / rbA v s k n).toInt = ownZ n lc v s k * dz v s k o / sumZ n (dz v s k) ∧ 0 ≤ ownZ n lc v s k * dz v s k o / sumZ n (dz v s k) ∧ ownZ n lc v s k * dz v s k o / sumZ n (dz v s k) ≤ 20000 ∧ (ownZ n lc v s k * dz v s k o / sumZ n (dz v s k)) * sumZ n (dz v s k) ≤ ownZ n lc v s k * dz v s k o := by
  have h20 := h.own20 hn hs hk
  have hd := h.dzb (by omega) hs hk ho
  obtain ⟨a1, a2, a3, a4⟩ := h.dsum (by omega) hs hk n (Nat.le_refl _)
  have hm : dz v s k o ≤ sumZ n (dz v s k) := sumZ_mem (fun i hi => (h.dzb (by omega) hs hk hi).1) ho
  obtain ⟨b1, b2, b3⟩ := shZ_b h20.1 h20.2 a3 hd.1 hm
  have hm1 : 0 ≤ ownZ n lc v s k * dz v s k o := Int.mul_nonneg h20.1 hd.1
  have hm2 : ownZ n lc v s k * dz v s k o ≤ 20000 * 100000 := Int.mul_le_mul h20.2 hd.2 hd.1 (by omega)
  have e1 : (own n lc v s k).toInt64.toInt = ownZ n lc v s k := by rw [Int32.toInt_toInt64]; exact h.ow hn hs hk
  have e2 : (v (rcA s o + 14 + k)).toInt64.toInt = dz v s k o := Int32.toInt_toInt64 _
  have em : ((own n lc v s k).toInt64 * (v (rcA s o + 14 + k)).toInt64).toInt = ownZ n lc v s k * dz v s k o := by
    rw [tL_mul (by rw [e1, e2]; omega) (by rw [e1, e2]; omega), e1, e2]
  refine ⟨?_, b1, by omega, b3⟩
  rw [Int64.toInt_div_of_ne_left _ _ (fun e => ?_), em, a1, Int.tdiv_eq_ediv_of_nonneg hm1]
  rw [e] at em
  have : Int64.minValue.toInt = -9223372036854775808 := by decide
  omega
theorem PI.rbp (hn : 2 ≤ n ∧ n ≤ 5) (h : PI t n lc mc v) (hs : s < n) (hk : k < 2) (ho : o < n) : (rbP v s k (own n lc v s k).toInt64 (rbA v s k n) o).toInt = shZ (ownZ n lc v s k) v s k n o ∧ 0 ≤ shZ (ownZ n lc v s k) v s k n o ∧ shZ (ownZ n lc v s k) v s k n o ≤ 20000 ∧ shZ (ownZ n lc v s k) v s k n o * sumZ n (dz v s k) ≤ ownZ n lc v s k * dz v s k o := by
  have h20 := h.own20 hn hs hk
  have hd := h.dzb (by omega) hs hk ho
  obtain ⟨c1, c2, c3, c4⟩ := h.shP hn hs hk ho
  unfold rbP shZ
  by_cases e : o = s
  · rw [if_pos e, if_pos e]
    refine ⟨rfl, Int.le_refl _, by omega, ?_⟩
    rw [Int.zero_mul]
    exact Int.mul_nonneg h20.1 hd.1
  · rw [if_neg e, if_neg e]
    refine ⟨?_, c2, c3, c4⟩
    rw [Int64.toInt_toInt32, c1]
    exact Int.bmod_eq_of_le (by omega) (by omega)
theorem PI.ssum (hn : 2 ≤ n ∧ n ≤ 5) (h : PI t n lc mc v) (hs : s < n) (hk : k < 2) {i : Nat} (hi : i ≤ n) : 0 ≤ sumZ i (shZ (ownZ n lc v s k) v s k n) ∧ sumZ i (shZ (ownZ n lc v s k) v s k n) ≤ ownZ n lc v s k := by
  have h20 := h.own20 hn hs hk
  refine ⟨sumZ_nn (fun j hj => (h.rbp hn hs hk (by omega)).2.1), ?_⟩
  obtain ⟨a1, a2, a3, a4⟩ := h.dsum (by omega) hs hk n (Nat.le_refl _)
  have key : ∀ i, i ≤ n → sumZ i (shZ (ownZ n lc v s k) v s k n) * sumZ n (dz v s k) ≤ ownZ n lc v s k * sumZ i (dz v s k) := by
    intro i
    induction i with
    | zero => intro _; simp [sumZ]
    | succ i ih =>
      intro hi
      have h1 := ih (by omega)
      have h2 := (h.rbp hn hs hk (o := i) (by omega)).2.2.2
      rw [sumZ, sumZ, Int.add_mul, Int.mul_add]
      omega
  have hle : sumZ i (dz v s k) ≤ sumZ n (dz v s k) := by
    have : ∀ j, i + j ≤ n → sumZ i (dz v s k) ≤ sumZ (i + j) (dz v s k) := by
      intro j
      induction j with
      | zero => intro _; exact Int.le_refl _
      | succ j ih =>
        intro hj
        have h1 := ih (by omega)
        have h2 := (h.dzb (by omega) hs hk (o := i + j) (by omega)).1
        rw [show i + (j + 1) = i + j + 1 by omega, sumZ]
        omega
    have := this (n - i) (by omega)
    rw [show i + (n - i) = n by omega] at this
    exact this
  by_cases e : sumZ n (dz v s k) = 0
  · rw [sumZ_congr (g := fun _ => 0) (fun j hj => ?_), sumZ_zero]
    · exact h20.1
    · unfold shZ
      rw [e, Int.ediv_zero]
      split <;> rfl
  · have hp : 0 < sumZ n (dz v s k) := by omega
    have k1 := key i hi
    have k2 : ownZ n lc v s k * sumZ i (dz v s k) ≤ ownZ n lc v s k * sumZ n (dz v s k) := Int.mul_le_mul_of_nonneg_left hle h20.1
    exact Int.le_of_mul_le_mul_right (Int.le_trans k1 k2) hp
theorem PI.rbm (hn : 2 ≤ n ∧ n ≤ 5) (h : PI t n lc mc v) (hs : s < n) (hk : k < 2) : ∀ i, i ≤ n → (rbM v s k (own n lc v s k).toInt64 (rbA v s k n) i).toInt = sumZ i (shZ (ownZ n lc v s k) v s k n)
  | 0, _ => rfl
  | i + 1, hi => by
    have h20 := h.own20 hn hs hk
    have a := h.rbm hn hs hk i (by omega)
    obtain ⟨b1, b2, b3, -⟩ := h.rbp hn hs hk (o := i) (by omega)
    have c := h.ssum hn hs hk (i := i) (by omega)
    rw [rbM, sumZ]
    by_cases e : rbP v s k (own n lc v s k).toInt64 (rbA v s k n) i ≤ 0
    · rw [if_pos e, a]
      rw [le0, b1] at e
      omega
    · rw [if_neg e, tI_add (by omega) (by omega), a, b1]
theorem PI.rb (hn : 2 ≤ n ∧ n ≤ 5) (h : PI t n lc mc v) (hs : s < n) (hk : k < 2) : RbOK n lc v s k := by
  have h20 := h.own20 hn hs hk
  obtain ⟨a1, a2, a3, a4⟩ := h.dsum (by omega) hs hk n (Nat.le_refl _)
  have z0 : (0 : Int64).toInt = 0 := rfl
  refine ⟨?_, ?_, fun al o ho => ?_, fun i hi hp => ?_, fun hm => ?_⟩
  · rw [← Int64.toInt_inj, Int32.toInt_toInt64, a1, a2]
  · rw [lg_cmp_le, Int64.le_iff_toInt_le, Int32.lt_iff_toInt_lt, a1, a2, z0, t0]
    omega
  · obtain ⟨c1, c2, c3, -⟩ := h.shP hn hs hk ho
    rw [lg_cmp_le, Int64.le_iff_toInt_le, Int32.le_iff_toInt_le, Int64.toInt_toInt32, c1, z0, t0, Int.bmod_eq_of_le (by omega) (by omega)]
  · intro e
    have m := h.rbm hn hs hk (i + 1) (by omega)
    rw [e, t0, sumZ] at m
    have c := h.ssum hn hs hk (i := i) (by omega)
    obtain ⟨b1, b2, b3, -⟩ := h.rbp hn hs hk (o := i) hi
    rw [le0, b1] at hp
    omega
  · have m := h.rbm hn hs hk n (Nat.le_refl _)
    have c := h.ssum hn hs hk (i := n) (Nat.le_refl _)
    rw [le0] at hm
    rw [← Int32.toInt_inj, t0]
    omega
theorem PI.rbv (hn : 2 ≤ n ∧ n ≤ 5) (h : PI t n lc mc v) (ht : t < 90000) (hs : s < n) (hk : k < 2) : ∀ i, i ≤ n → PI (t + i) n lc mc (rbV v s k (own n lc v s k).toInt64 (rbA v s k n) i) ∧ ownZ n lc (rbV v s k (own n lc v s k).toInt64 (rbA v s k n) i) s k = ownZ n lc v s k - sumZ i (shZ (ownZ n lc v s k) v s k n)
  | 0, _ => ⟨h, by show ownZ n lc v s k = ownZ n lc v s k - 0; omega⟩
  | i + 1, hi => by
    obtain ⟨a1, a2⟩ := h.rbv hn ht hs hk i (by omega)
    obtain ⟨b1, b2, b3, -⟩ := h.rbp hn hs hk (o := i) (by omega)
    have c := h.ssum hn hs hk (i := i + 1) hi
    rw [rbV, sumZ]
    rw [sumZ] at c
    by_cases e : rbP v s k (own n lc v s k).toInt64 (rbA v s k n) i ≤ 0
    · rw [if_pos e]
      rw [le0, b1] at e
      exact ⟨a1.mono (by omega), by omega⟩
    · rw [if_neg e]
      have e' := e
      rw [le0, b1] at e'
      have his : i ≠ s := by
        intro q
        apply e
        rw [q, rbP, if_pos rfl]
        exact Int32.le_refl _
      obtain ⟨g1, g2⟩ := a1.giv hn (by omega) hs (u := i) (by omega) his hk (x := rbP v s k (own n lc v s k).toInt64 (rbA v s k n) i) (by omega) (by omega)
      exact ⟨g1, by omega⟩
end PD

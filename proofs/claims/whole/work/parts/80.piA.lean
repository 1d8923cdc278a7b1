/-! THE PURE SIDE: the cells as integers, rights as integers -/
def tz (v : Nat → Int32) (j : Nat) : Int := (v j).toInt
def sumZ : Nat → (Nat → Int) → Int
  | 0, _ => 0
  | i + 1, f => sumZ i f + f i
theorem sumZ_congr {f g : Nat → Int} : ∀ {m : Nat}, (∀ i, i < m → f i = g i) → sumZ m f = sumZ m g
  | 0, _ => rfl
  | m + 1, h => by rw [sumZ, sumZ, sumZ_congr (fun i hi => h i (by omega)), h m (by omega)]
theorem sumZ_le {f g : Nat → Int} : ∀ {m : Nat}, (∀ i, i < m → f i ≤ g i) → sumZ m f ≤ sumZ m g
  | 0, _ => Int.le_refl _
  | m + 1, h => by
    have h1 := sumZ_le (f := f) (g := g) (m := m) (fun i hi => h i (by omega))
    have h2 := h m (by omega)
    rw [sumZ, sumZ]
    omega
theorem sumZ_add {f g : Nat → Int} : ∀ m : Nat, sumZ m (fun i => f i + g i) = sumZ m f + sumZ m g
  | 0 => rfl
  | m + 1 => by rw [sumZ, sumZ, sumZ, sumZ_add m]; omega
theorem sumZ_sub {f g : Nat → Int} : ∀ m : Nat, sumZ m (fun i => f i - g i) = sumZ m f - sumZ m g
  | 0 => rfl
  | m + 1 => by rw [sumZ, sumZ, sumZ, sumZ_sub m]; omega
theorem sumZ_zero : ∀ m : Nat, sumZ m (fun _ => 0) = 0
  | 0 => rfl
  | m + 1 => by rw [sumZ, sumZ_zero m]; rfl
theorem sumZ_nn {f : Nat → Int} {m : Nat} (h : ∀ i, i < m → 0 ≤ f i) : 0 ≤ sumZ m f := by
  have := sumZ_le (f := fun _ => 0) (g := f) h
  rw [sumZ_zero] at this
  exact this
theorem sumZ_swap {f : Nat → Nat → Int} : ∀ m k : Nat, sumZ m (fun i => sumZ k (f i)) = sumZ k (fun j => sumZ m (fun i => f i j))
  | 0, k => (sumZ_zero k).symm
  | m + 1, k => by rw [sumZ, sumZ_swap m k, ← sumZ_add]; rfl
theorem sumZ_mem {f : Nat → Int} : ∀ {m s : Nat}, (∀ i, i < m → 0 ≤ f i) → s < m → f s ≤ sumZ m f
  | 0, s, _, h => absurd h (by omega)
  | m + 1, s, h, hs => by
    rw [sumZ]
    by_cases e : s = m
    · have := sumZ_nn (f := f) (m := m) (fun i hi => h i (by omega))
      rw [e]; omega
    · have h1 := sumZ_mem (f := f) (m := m) (s := s) (fun i hi => h i (by omega)) (by omega)
      have h2 := h m (by omega)
      omega
theorem sumZ_upd {f g : Nat → Int} {t : Nat} : ∀ {m : Nat}, t < m → (∀ i, i < m → i ≠ t → g i = f i) → sumZ m g = sumZ m f + (g t - f t)
  | 0, h, _ => absurd h (by omega)
  | m + 1, h, hh => by
    rw [sumZ, sumZ]
    by_cases e : t = m
    · subst e
      rw [sumZ_congr (f := g) (g := f) (fun i hi => hh i (by omega) (by omega))]
      omega
    · rw [sumZ_upd (f := f) (g := g) (m := m) (by omega) (fun i hi hn => hh i (by omega) hn), hh m (by omega) (by omega)]
      omega
theorem sumZ_one {f : Nat → Int} {t m : Nat} (h : t < m) : sumZ m (fun s => if t = s then f s else 0) = f t := by
  rw [sumZ_upd (f := fun _ => 0) (t := t) h (fun i _ hn => if_neg (fun e => hn e.symm)), sumZ_zero, if_pos rfl]
  omega
/-! Int32 and Int -/
theorem tI_of {x : Int32} {X : Int} (h : x = Int32.ofInt X) (h1 : -2147483648 ≤ X) (h2 : X < 2147483648) : x.toInt = X := by
  rw [h]
  exact Int32.toInt_ofInt_of_le (by omega) (by omega)
theorem tI_add {a b : Int32} (h1 : -2147483648 ≤ a.toInt + b.toInt) (h2 : a.toInt + b.toInt < 2147483648) : (a + b).toInt = a.toInt + b.toInt :=
  tI_of (by rw [Int32.ofInt_add, Int32.ofInt_toInt, Int32.ofInt_toInt]) h1 h2
theorem tI_sub {a b : Int32} (h1 : -2147483648 ≤ a.toInt - b.toInt) (h2 : a.toInt - b.toInt < 2147483648) : (a - b).toInt = a.toInt - b.toInt :=
  tI_of (by rw [Int32.ofInt_sub, Int32.ofInt_toInt, Int32.ofInt_toInt]) h1 h2
theorem inB_z {x lo hi : Int32} : inB x lo hi = true ↔ lo.toInt ≤ x.toInt ∧ x.toInt ≤ hi.toInt := by
  rw [inB_t, Int32.le_iff_toInt_le, Int32.le_iff_toInt_le]
theorem inB_am {x : Int32} (h : inB x (nI 1) (nI 999) = true) : 1 ≤ x.toInt ∧ x.toInt ≤ 999 := by
  rw [inB_z, nI_toInt (by omega), nI_toInt (by omega)] at h
  exact h
theorem inB_du {x : Int32} (h : inB x (nI 1) (nI 1000) = true) : 1 ≤ x.toInt ∧ x.toInt ≤ 1000 := by
  rw [inB_z, nI_toInt (by omega), nI_toInt (by omega)] at h
  exact h
theorem t0 : (0 : Int32).toInt = 0 := rfl
theorem tn0 : (nI 0).toInt = 0 := rfl
theorem le0 {x : Int32} : x ≤ 0 ↔ x.toInt ≤ 0 := by rw [Int32.le_iff_toInt_le, t0]
/-! own rights as integers -/
def owBZ (v : Nat → Int32) (s k : Nat) : Int := (if k = 0 then tz v (rcA s s + 3) - tz v (rcA s s + 2) else -(tz v (rcA s s + 3) - tz v (rcA s s + 2))) + (if s = 0 then (if k = 0 then tz v 2 - tz v 3 else tz v 3 - tz v 1) else 0)
def owGZ (v : Nat → Int32) (s k o : Nat) : Int := if o = s then 0 else tz v (rcA s o + 4 + 5 * k + s) - tz v (rcA s s + 4 + 5 * k + o)
def owLZ (v : Nat → Int32) (s k l : Nat) : Int := if v (lnA l + 2) = nI k then (if v (lnA l + 1) = nI s then tz v (rcA s s + 17 + l) else 0) - (if v (lnA l) = nI s then (if bkB v l = true then tz v (rcA s (lb v l) + 17 + l) else tz v (lnA l + 3)) else 0) else 0
def ownZ (n lc : Nat) (v : Nat → Int32) (s k : Nat) : Int := owBZ v s k + sumZ n (owGZ v s k) + sumZ lc (owLZ v s k)
theorem sumI_of {f : Nat → Int32} {g : Nat → Int} : ∀ {m : Nat}, (∀ i, i < m → f i = Int32.ofInt (g i)) → sumI m f = Int32.ofInt (sumZ m g)
  | 0, _ => rfl
  | m + 1, h => by rw [sumI, sumZ, Int32.ofInt_add, sumI_of (fun i hi => h i (by omega)), h m (by omega)]
section PA
variable {n lc : Nat} {v v' : Nat → Int32} {s k o l : Nat}
theorem of_tz (v : Nat → Int32) (j : Nat) : Int32.ofInt (tz v j) = v j := Int32.ofInt_toInt _
theorem of_0 : Int32.ofInt 0 = (0 : Int32) := rfl
theorem owB_of : owB v s k = Int32.ofInt (owBZ v s k) := by
  unfold owB owBZ
  rw [Int32.ofInt_add]
  congr 1
  · split
    · rw [Int32.ofInt_sub, of_tz, of_tz]
    · rw [Int32.ofInt_neg, Int32.ofInt_sub, of_tz, of_tz]
  · split
    · split
      · rw [Int32.ofInt_sub, of_tz, of_tz]
      · rw [Int32.ofInt_sub, of_tz, of_tz]
    · rfl
theorem owG_of : owG v s k o = Int32.ofInt (owGZ v s k o) := by
  unfold owG owGZ
  split
  · rfl
  · rw [Int32.ofInt_sub, of_tz, of_tz]
theorem owL_of : owL v s k l = Int32.ofInt (owLZ v s k l) := by
  unfold owL owLZ usL
  split
  · rw [Int32.ofInt_sub]
    congr 1
    · split
      · rw [of_tz]
      · rfl
    · split
      · split
        · rw [of_tz]
        · rw [of_tz]
      · rfl
  · rfl
theorem own_of : own n lc v s k = Int32.ofInt (ownZ n lc v s k) := by
  unfold own ownZ
  rw [Int32.ofInt_add, Int32.ofInt_add, owB_of, sumI_of (fun i _ => owG_of), sumI_of (fun i _ => owL_of)]
theorem tz_eq {j j' : Nat} (h : v' j = v j') : tz v' j = tz v j' := by unfold tz; rw [h]
theorem owBZ_cg (h1 : v' 1 = v 1) (h2 : v' 2 = v 2) (h3 : v' 3 = v 3) (c2 : v' (rcA s s + 2) = v (rcA s s + 2)) (c3 : v' (rcA s s + 3) = v (rcA s s + 3)) : owBZ v' s k = owBZ v s k := by
  unfold owBZ
  rw [tz_eq h1, tz_eq h2, tz_eq h3, tz_eq c2, tz_eq c3]
theorem lb_cg (h1 : v' (lnA l + 1) = v (lnA l + 1)) : lb v' l = lb v l := by unfold lb; rw [h1]
theorem la_cg (h1 : v' (lnA l) = v (lnA l)) : la v' l = la v l := by unfold la; rw [h1]
/-- a loan's part in the rights of s: of its lender's copy only what s has -/
theorem owLZ_cg (hn : n ≤ 5) (hw : WL n lc v) (hl : l < lc) (hs : s < n) (hL : ∀ x, x < 5 → v' (lnA l + x) = v (lnA l + x)) (hu : v' (rcA s s + 17 + l) = v (rcA s s + 17 + l)) (hb : la v l = s → bkB v' l = bkB v l ∧ (bkB v l = true → v' (rcA s (lb v l) + 17 + l) = v (rcA s (lb v l) + 17 + l))) : owLZ v' s k l = owLZ v s k l := by
  obtain ⟨w1, w2, w3⟩ := hw
  obtain ⟨a1, a2, a3, a4, a5, a6⟩ := w3 l hl
  unfold owLZ
  rw [hL 2 (by omega), hL 1 (by omega), show v' (lnA l) = v (lnA l) from hL 0 (by omega), lb_cg (hL 1 (by omega)), tz_eq hu, tz_eq (hL 3 (by omega))]
  by_cases e : v (lnA l) = nI s
  · have e' : la v l = s := by
      rw [a1, nI_inj5 (by omega) (by omega)] at e
      exact e
    obtain ⟨b1, b2⟩ := hb e'
    rw [b1]
    by_cases eb : bkB v l = true
    · rw [tz_eq (b2 eb)]
    · simp only [eb, if_false, Bool.false_eq_true]
  · simp only [e, if_false]
theorem bkB_cg (hL0 : v' (lnA l) = v (lnA l)) (hL1 : v' (lnA l + 1) = v (lnA l + 1)) (hL4 : v' (lnA l + 4) = v (lnA l + 4)) (h0 : v' 0 = v 0) (ht : la v l ≠ lb v l → v' (rcA (la v l) (lb v l) + 1) = v (rcA (la v l) (lb v l) + 1)) : bkB v' l = bkB v l := by
  unfold bkB tOf
  rw [hL4, h0, la_cg hL0, lb_cg hL1]
  by_cases e : la v l = lb v l
  · rw [if_pos e, if_pos e]
  · rw [if_neg e, if_neg e, ht e]
/-- rights of s are the same where its records are, but for versions, demands, loans made -/
theorem ownZ_cg (hn : n ≤ 5) (hw : WL n lc v) (hs : s < n) (hk : k < 2) (h1 : v' 1 = v 1) (h2 : v' 2 = v 2) (h3 : v' 3 = v 3) (h0 : v' 0 = v 0) (hL : ∀ l, l < lc → ∀ x, x < 5 → v' (lnA l + x) = v (lnA l + x)) (hB : ∀ o, o < n → ∀ x, x < 27 → x ≠ 0 → (x < 14 ∨ 17 ≤ x) → (x = 1 → o ≠ s) → v' (rcA s o + x) = v (rcA s o + x)) : ownZ n lc v' s k = ownZ n lc v s k := by
  unfold ownZ
  congr 1
  · congr 1
    · exact owBZ_cg h1 h2 h3 (hB s hs 2 (by omega) (by omega) (by omega) (by omega)) (hB s hs 3 (by omega) (by omega) (by omega) (by omega))
    · refine sumZ_congr (fun o ho => ?_)
      unfold owGZ
      by_cases e : o = s
      · rw [if_pos e, if_pos e]
      · rw [if_neg e, if_neg e, tz_eq (show v' (rcA s o + 4 + 5 * k + s) = v (rcA s o + 4 + 5 * k + s) from ?_), tz_eq (show v' (rcA s s + 4 + 5 * k + o) = v (rcA s s + 4 + 5 * k + o) from ?_)]
        · have := hB s hs (4 + 5 * k + o) (by omega) (by omega) (by omega) (by omega)
          rw [show rcA s s + 4 + 5 * k + o = rcA s s + (4 + 5 * k + o) by omega]; exact this
        · have := hB o ho (4 + 5 * k + s) (by omega) (by omega) (by omega) (by omega)
          rw [show rcA s o + 4 + 5 * k + s = rcA s o + (4 + 5 * k + s) by omega]; exact this
  · have hlc := hw.2.1
    refine sumZ_congr (fun l hl => ?_)
    obtain ⟨a1, a2, a3, a4, a5, a6⟩ := hw.2.2 l hl
    refine owLZ_cg hn hw hl hs (hL l hl) ?_ (fun e => ⟨?_, fun _ => ?_⟩)
    · have := hB s hs (17 + l) (by omega) (by omega) (by omega) (by omega)
      rw [show rcA s s + 17 + l = rcA s s + (17 + l) by omega]; exact this
    · refine bkB_cg (hL l hl 0 (by omega)) (hL l hl 1 (by omega)) (hL l hl 4 (by omega)) h0 (fun _ => ?_)
      rw [e]
      exact hB (lb v l) a4 1 (by omega) (by omega) (by omega) (fun _ => by omega)
    · have := hB (lb v l) a4 (17 + l) (by omega) (by omega) (by omega) (by omega)
      rw [show rcA s (lb v l) + 17 + l = rcA s (lb v l) + (17 + l) by omega]; exact this
end PA

/-! THE CLASS: State k holds the reference's row v; what it answers -/
def SR (n lc mc : Nat) (cs : Nat → Nat → Int32) (pm : Nat → Nat → Nat) (k : Nat) (v : Nat → Int32) : Prop :=
  (cs (gSt k) 1 = v 1 ∧ cs (gSt k) 2 = v 2 ∧ cs (gSt k) 3 = v 3 ∧ cs (gSt k) 4 = v 0 ∧ cs (gSt k) 5 = nI lc ∧ cs (gSt k) 6 = nI mc) ∧
  (v 4 = nI lc ∧ v 5 = nI mc ∧ lc ≤ 10 ∧ mc ≤ 8) ∧
  (∀ s o, s < n → o < n → ∀ x, x < 27 → rdC cs k s o x = if x = 1 then tOf v s o else v (rcA s o + x)) ∧
  (∀ l, l < lc → ∀ x, x < 5 → cs (gLn k l) x = v (lnA l + x)) ∧
  (∀ j, j < mc → (∀ x, x < 3 → cs (gMg k (pm k j)) x = v (mgA j + x)) ∧ ∀ o, o < n → ∀ x, x < 27 → rdC cs k (5 + pm k j) o x = v (mgA j + 3 + 30 * o + x))
/-- what every state keeps: the number of sites, the messages' objects each at one place -/
def S0 (n : Nat) (cs : Nat → Nat → Int32) (pm : Nat → Nat → Nat) (k : Nat) : Prop := k < 7 ∧ cs (gSt k) 0 = nI n ∧ (∀ j, j < 8 → pm k j < 8) ∧ (∀ i j, i < 8 → j < 8 → pm k i = pm k j → i = j)
def lbV (v : Nat → Int32) (s l : Nat) : Int32 := if v (lnA l + 1) = nI s then v (rcA s s + 17 + l) else if v (lnA l) = nI s then (if bkB v l = true then -(usL v s l) else -(v (lnA l + 3))) else 0
theorem owL_lb {n lc s k l : Nat} {v : Nat → Int32} (hn : n ≤ 5) (hw : WL n lc v) (hl : l < lc) (hs : s < n) : owL v s k l = if v (lnA l + 2) = nI k then lbV v s l else 0 := by
  obtain ⟨w1, w2, w3⟩ := hw
  obtain ⟨a1, a2, a3, a4, a5, a6⟩ := w3 l hl
  unfold owL
  by_cases hk : v (lnA l + 2) = nI k
  · rw [if_pos hk, if_pos hk]
    unfold lbV
    by_cases hb : v (lnA l + 1) = nI s
    · have : ¬ v (lnA l) = nI s := by
        intro h
        rw [a1, nI_inj5 (by omega) (by omega)] at h
        rw [a3, nI_inj5 (by omega) (by omega)] at hb
        omega
      rw [if_pos hb, if_pos hb, if_neg this, Int32.sub_zero]
    · rw [if_neg hb, if_neg hb]
      by_cases hd : v (lnA l) = nI s
      · rw [if_pos hd, if_pos hd, Int32.zero_sub]
        split <;> rfl
      · rw [if_neg hd, if_neg hd, Int32.sub_zero]
  · rw [if_neg hk, if_neg hk]
section CB
variable {n lc mc : Nat} {ad : Nat → Nat} {h0 : Hp} {cs : Nat → Nat → Int32} {pm : Nat → Nat → Nat} {k s o l t : Nat} {v : Nat → Int32}
theorem SR.rd (h : SR n lc mc cs pm k v) (hs : s < n) (ho : o < n) {x : Nat} (hx : x < 27) (h1 : x ≠ 1) : rdC cs k s o x = v (rcA s o + x) := by rw [h.2.2.1 s o hs ho x hx, if_neg h1]
theorem SR.tm (h : SR n lc mc cs pm k v) (hs : s < n) (ho : o < n) : cs (gRc k s o) 1 = tOf v s o := by
  have e := h.2.2.1 s o hs ho 1 (by omega)
  rw [if_pos rfl] at e
  exact e
theorem SR.ch (h : SR n lc mc cs pm k v) (hs : s < n) (ho : o < n) {j : Nat} (hj : j < 2) : cs (gAr k s o 0) j = v (rcA s o + 2 + j) := by rw [rdA0 cs hj, h.rd hs ho (by omega) (by omega), ← Nat.add_assoc]
theorem SR.us (h : SR n lc mc cs pm k v) (hs : s < n) (ho : o < n) {j : Nat} (hj : j < 10) : cs (gAr k s o 3) j = v (rcA s o + 17 + j) := by rw [rdA3 cs hj, h.rd hs ho (by omega) (by omega), ← Nat.add_assoc]
theorem SR.dm (h : SR n lc mc cs pm k v) (hs : s < n) (ho : o < n) {j : Nat} (hj : j < 2) : cs (gAr k s o 1) j = v (rcA s o + 14 + j) := by rw [rdA1 cs hj, h.rd hs ho (by omega) (by omega), ← Nat.add_assoc]
theorem SR.ln (h : SR n lc mc cs pm k v) (hl : l < lc) {x : Nat} (hx : x < 5) : cs (gLn k l) x = v (lnA l + x) := h.2.2.2.1 l hl x hx
theorem vRc_s (hk : k < 7) (hs : s < n) (ho : o < n) : vRc n k s o := ⟨⟨hk, Or.inl hs⟩, ho⟩
theorem c6_recordOf (L : Lay n ad h0) (hk : k < 7) (hs : s < n) {X : Nat → Hp → Prop} (q : X (ad (gRc k s s)) (HN h0 ad cs pm)) : CKr mX6_recordOf 0 0 0 [some (.ref (ad (gSt k))), some (.int (nI s))] (HN h0 ad cs pm) X := by
  intro Qc kq
  exact tX6_recordOf_0 L ⟨hk, s, rfl, hs, kq _ _ q⟩
theorem c6_trueValue (L : Lay n ad h0) (h0' : S0 n cs pm k) (h : SR n lc mc cs pm k v) {X : Int32 → Hp → Prop} (q : X (valV n v) (HN h0 ad cs pm)) : CKi mX6_trueValue 1 0 0 [some (.ref (ad (gSt k))), none, none, none] (HN h0 ad cs pm) X := by
  intro Qc kq
  have hb := L.1
  obtain ⟨hk, hn, _⟩ := h0'
  have key : ∀ i, i ≤ n → Wm mX6_trueValue 1 0 0 Qc 7 [some (.ref (ad (gSt k))), some (.int (v 3 + sumI i (fun s => v (rcA s s + 2) - v (rcA s s + 3)))), some (.int (nI i)), none] [] (HN h0 ad cs pm) 0 0 := by
    refine loopU n _ ?_ ?_
    · refine tX6_trueValue_7 L ⟨hk, fun _ => kq _ _ q, fun c => absurd ?_ c⟩
      rw [hn]; exact nI_le (Nat.le_refl n) (by omega)
    · intro i hi ih
      refine tX6_trueValue_7 L ⟨hk, fun c => absurd c ?_, fun _ => c6_recordOf L hk hi (tX6_trueValue_20 L ⟨vRc_s hk hi hi, ?_⟩)⟩
      · rw [hn]; exact nI_ge hi (by omega)
      · rw [h.ch hi hi (by omega), h.ch hi hi (by omega), Nat.add_zero, show rcA i i + 2 + 1 = rcA i i + 3 by omega, nI_add, sumI_s (v 3) i (fun s => v (rcA s s + 2) - v (rcA s s + 3))]
        exact ih
  have k0 := key 0 (Nat.zero_le _)
  rw [sumI_z] at k0
  refine tX6_trueValue_0 L ⟨hk, ?_⟩
  rw [h.1.2.2.1]
  exact k0
theorem c6_valueKnownAt (L : Lay n ad h0) (h0' : S0 n cs pm k) (h : SR n lc mc cs pm k v) (hs : s < n) {X : Int32 → Hp → Prop} (q : X (knwV n v s) (HN h0 ad cs pm)) : CKi mX6_valueKnownAt 0 0 0 [some (.ref (ad (gSt k))), some (.int (nI s)), none, none, none] (HN h0 ad cs pm) X := by
  intro Qc kq
  have hb := L.1
  obtain ⟨hk, hn, _⟩ := h0'
  have key : ∀ i, i ≤ n → Wm mX6_valueKnownAt 0 0 0 Qc 7 [some (.ref (ad (gSt k))), some (.int (nI s)), some (.int (v 3 + sumI i (fun o => v (rcA s o + 2) - v (rcA s o + 3)))), some (.int (nI i)), none] [] (HN h0 ad cs pm) 0 0 := by
    refine loopU n _ ?_ ?_
    · refine tX6_valueKnownAt_7 L ⟨hk, fun _ => kq _ _ q, fun c => absurd ?_ c⟩
      rw [hn]; exact nI_le (Nat.le_refl n) (by omega)
    · intro i hi ih
      refine tX6_valueKnownAt_7 L ⟨hk, fun c => absurd c ?_, fun _ => ⟨s, rfl, hs, i, rfl, hi, ?_⟩⟩
      · rw [hn]; exact nI_ge hi (by omega)
      · rw [h.ch hs hi (by omega), h.ch hs hi (by omega), Nat.add_zero, show rcA s i + 2 + 1 = rcA s i + 3 by omega, nI_add, sumI_s (v 3) i (fun o => v (rcA s o + 2) - v (rcA s o + 3))]
        exact ih
  have k0 := key 0 (Nat.zero_le _)
  rw [sumI_z] at k0
  refine tX6_valueKnownAt_0 L ⟨hk, ?_⟩
  rw [h.1.2.2.1]
  exact k0
theorem c6_hasComeBack (L : Lay n ad h0) (hk : k < 7) (h : SR n lc mc cs pm k v) (hw : WL n lc v) (hl : l < lc) {X : Int32 → Hp → Prop} (q : X (bI (bkB v l)) (HN h0 ad cs pm)) : CKi mX6_hasComeBack 0 0 0 [some (.ref (ad (gSt k))), some (.ref (ad (gLn k l)))] (HN h0 ad cs pm) X := by
  intro Qc kq
  obtain ⟨w1, w2, w3⟩ := hw
  obtain ⟨a1, a2, a3, a4, a5, a6⟩ := w3 l hl
  refine tX6_hasComeBack_0 L ⟨hk, ⟨hk, by omega⟩, ?_⟩
  rw [h.1.2.2.2.1, h.ln hl (by omega), h.ln hl (by omega), h.ln hl (by omega), Nat.add_zero]
  refine ⟨fun c => kq _ _ ?_, fun c => ⟨la v l, a1, a2, lb v l, a3, a4, ?_⟩⟩
  · rw [show bkB v l = false by simp [bkB, Int32.not_le.mpr c]] at q; exact q
  · rw [h.tm a2 a4]
    refine ⟨fun c2 => kq _ _ ?_, fun c2 => kq _ _ ?_⟩
    · rw [show bkB v l = false by simp [bkB, Int32.not_le.mpr c2]] at q; exact q
    · rw [show bkB v l = true by simp [bkB, Int32.not_lt.mp c, Int32.not_lt.mp c2]] at q; exact q
theorem c6_loanBalance (L : Lay n ad h0) (hk : k < 7) (h : SR n lc mc cs pm k v) (hw : WL n lc v) (hl : l < lc) (hs : s < n) {X : Int32 → Hp → Prop} (q : X (lbV v s l) (HN h0 ad cs pm)) : CKi mX6_loanBalance 1 0 0 [some (.ref (ad (gSt k))), some (.int (nI l)), some (.int (nI s)), none] (HN h0 ad cs pm) X := by
  intro Qc kq
  have hw' := hw
  obtain ⟨w1, w2, w3⟩ := hw'
  obtain ⟨a1, a2, a3, a4, a5, a6⟩ := w3 l hl
  refine tX6_loanBalance_0 L ⟨hk, l, rfl, by omega, ?_⟩
  rw [h.ln hl (by omega), h.ln hl (by omega), Nat.add_zero]
  refine ⟨fun c => ⟨fun c2 => c6_hasComeBack L hk h hw hl (tX6_loanBalance_41 L ⟨fun c3 => ⟨hk, s, rfl, hs, ⟨hk, by omega⟩, lb v l, by rw [h.ln hl (by omega)]; exact a3, a4, l, rfl, by omega, kq _ _ ?_⟩, fun c3 => ⟨⟨hk, by omega⟩, kq _ _ ?_⟩⟩), fun c2 => kq _ _ ?_⟩, fun c => c6_recordOf L hk hs (tX6_loanBalance_20 L ⟨vRc_s hk hs hs, l, rfl, by omega, kq _ _ ?_⟩)⟩
  · rw [bI_z] at c3
    rw [Nat.add_zero] at c2
    rw [lbV, if_neg c, if_pos c2, if_pos (by simpa using c3)] at q
    rw [h.us hs a4 (by omega)]
    exact q
  · rw [bI_z] at c3
    rw [Nat.add_zero] at c2
    rw [lbV, if_neg c, if_pos c2, if_neg (by simpa using c3)] at q
    rw [h.ln hl (by omega)]
    exact q
  · rw [Nat.add_zero] at c2; rw [lbV, if_neg c, if_neg c2] at q; exact q
  · rw [lbV, if_pos c] at q
    rw [h.us hs hs (by omega)]
    exact q
theorem c6_roomAt (L : Lay n ad h0) (hk : k < 7) (h : SR n lc mc cs pm k v) (ht : t < 2) {x : Int32} {X : Int32 → Hp → Prop} (q : X (if t = 0 then v 2 - x else x - v 1) (HN h0 ad cs pm)) : CKi mX6_roomAt 0 0 0 [some (.ref (ad (gSt k))), some (.int x), some (.int (nI t))] (HN h0 ad cs pm) X := by
  intro Qc kq
  have ez : nI t = 0 ↔ t = 0 := by rw [← nIz]; exact nI_inj5 (by omega) (by omega)
  refine tX6_roomAt_0 L ⟨fun c => ⟨hk, kq _ _ ?_⟩, fun c => ⟨hk, kq _ _ ?_⟩⟩
  · rw [ez] at c; rw [if_neg c] at q; rw [h.1.1]; exact q
  · rw [ez] at c; rw [if_pos c] at q; rw [h.1.2.1]; exact q
theorem c6_ownRights (L : Lay n ad h0) (h0' : S0 n cs pm k) (h : SR n lc mc cs pm k v) (hw : WL n lc v) (hs : s < n) (ht : t < 2) {X : Int32 → Hp → Prop} (q : X (own n lc v s t) (HN h0 ad cs pm)) : CKi mX6_ownRights 2 0 0 [some (.ref (ad (gSt k))), some (.int (nI s)), some (.int (nI t)), none, none, none] (HN h0 ad cs pm) X := by
  intro Qc kq
  have hb := L.1
  obtain ⟨hk, hn, _⟩ := h0'
  have hw' := hw
  obtain ⟨w1, w2, w3⟩ := hw'
  have ez : nI t = 0 ↔ t = 0 := by rw [← nIz]; exact nI_inj5 (by omega) (by omega)
  have es : nI s = 0 ↔ s = 0 := by rw [← nIz]; exact nI_inj5 (by omega) (by omega)
  have loans : ∀ i, i ≤ lc → Wm mX6_ownRights 2 0 0 Qc 108 [some (.ref (ad (gSt k))), some (.int (nI s)), some (.int (nI t)), none, some (.int (owB v s t + sumI n (owG v s t) + sumI i (owL v s t))), some (.int (nI i))] [] (HN h0 ad cs pm) 0 0 := by
    refine loopU lc _ ?_ ?_
    · refine tX6_ownRights_108 L ⟨hk, fun _ => kq _ _ q, fun c => absurd ?_ c⟩
      rw [h.1.2.2.2.2.1]; exact nI_le (Nat.le_refl _) (by omega)
    · intro i hi ih
      have e := owL_lb (k := t) (by omega) hw hi hs
      rw [← sumI_s, e] at ih
      refine tX6_ownRights_108 L ⟨hk, fun c => absurd c ?_, fun _ => ⟨i, rfl, by omega, ?_⟩⟩
      · rw [h.1.2.2.2.2.1]; exact nI_ge hi (by omega)
      · rw [h.ln hi (by omega)]
        refine ⟨fun c => tX6_ownRights_143 L ?_, fun c => c6_loanBalance L hk h hw hi hs (tX6_ownRights_140 L (tX6_ownRights_143 L ?_))⟩
        · rw [if_neg c, Int32.add_zero] at ih
          rw [nI_add]; exact ih
        · rw [if_pos c] at ih
          rw [nI_add]; exact ih
  have gives : ∀ i, i ≤ n → Wm mX6_ownRights 2 0 0 Qc 54 [some (.ref (ad (gSt k))), some (.int (nI s)), some (.int (nI t)), some (.ref (ad (gRc k s s))), some (.int (owB v s t + sumI i (owG v s t))), some (.int (nI i))] [] (HN h0 ad cs pm) 0 0 := by
    refine loopU n _ ?_ ?_
    · refine tX6_ownRights_54 L ⟨hk, fun _ => ?_, fun c => absurd (by rw [hn]; exact nI_le (Nat.le_refl _) (by omega)) c⟩
      have l0 := loans 0 (Nat.zero_le _)
      rw [sumI_z] at l0
      exact l0
    · intro i hi ih
      rw [← sumI_s, owG] at ih
      refine tX6_ownRights_54 L ⟨hk, fun c => absurd c (by rw [hn]; exact nI_ge hi (by omega)), fun _ => ⟨fun c => tX6_ownRights_99 L ?_, fun c => ⟨s, rfl, hs, i, rfl, hi, c5_givenTo L (vRc_s hk hs hi) (by omega) ht (tX6_ownRights_88 L ⟨vRc_s hk hs hs, c5_givenTo L (vRc_s hk hs hs) (by omega) ht (tX6_ownRights_95 L (tX6_ownRights_99 L ?_))⟩)⟩⟩⟩
      · rw [nI_inj5 (by omega) (by omega)] at c
        rw [if_pos c, Int32.add_zero] at ih
        rw [nI_add]; exact ih
      · rw [nI_inj5 (by omega) (by omega)] at c
        rw [if_neg c] at ih
        rw [h.rd hs hi (by omega) (by omega), h.rd hs hs (by omega) (by omega), nI_add, show rcA s i + (4 + 5 * t + s) = rcA s i + 4 + 5 * t + s by omega, show rcA s s + (4 + 5 * t + i) = rcA s s + 4 + 5 * t + i by omega]
        exact ih
  have g0 := gives 0 (Nat.zero_le _)
  rw [sumI_z] at g0
  have base : ∀ x : Int32, x = (if s = 0 then (if t = 0 then v 2 - v 3 else v 3 - v 1) else 0) → (t ≠ 0 → x + (v (rcA s s + 2) - v (rcA s s + 3)) = owB v s t) ∧ (t = 0 → x + (v (rcA s s + 3) - v (rcA s s + 2)) = owB v s t) := by
    intro x ex
    subst ex
    unfold owB
    refine ⟨fun c => ?_, fun c => ?_⟩
    · rw [if_neg c, if_neg c, Int32.neg_sub, Int32.add_comm]
    · rw [if_pos c, if_pos c, Int32.add_comm]
  refine tX6_ownRights_0 L ⟨hk, c6_recordOf L hk hs (tX6_ownRights_5 L ⟨fun c => ⟨vRc_s hk hs hs, ?_⟩, fun c => ⟨hk, c6_roomAt L hk h ht (tX6_ownRights_19 L ⟨vRc_s hk hs hs, ?_⟩)⟩⟩)⟩
  · rw [es] at c
    have b := base (nI 0) (by rw [if_neg c]; rfl)
    refine ⟨fun c2 => ⟨t, rfl, ht, ?_⟩, fun c2 => ⟨t, rfl, ht, ?_⟩⟩
    · rw [ez] at c2
      have t1 : t = 1 := by omega
      rw [h.ch hs hs (by omega), h.ch hs hs ht, Nat.add_zero, show rcA s s + 2 + t = rcA s s + 3 by omega, b.1 c2]
      exact g0
    · rw [ez] at c2
      rw [h.ch hs hs (by omega), h.ch hs hs ht, show rcA s s + 2 + t = rcA s s + 2 by omega, show rcA s s + 2 + 1 = rcA s s + 3 by omega, b.2 c2]
      exact g0
  · rw [es] at c
    rw [h.1.2.2.1]
    have b := base (if t = 0 then v 2 - v 3 else v 3 - v 1) (by rw [if_pos c])
    refine ⟨fun c2 => ⟨t, rfl, ht, ?_⟩, fun c2 => ⟨t, rfl, ht, ?_⟩⟩
    · rw [ez] at c2
      have t1 : t = 1 := by omega
      rw [h.ch hs hs (by omega), h.ch hs hs ht, Nat.add_zero, show rcA s s + 2 + t = rcA s s + 3 by omega, b.1 c2]
      exact g0
    · rw [ez] at c2
      rw [h.ch hs hs (by omega), h.ch hs hs ht, show rcA s s + 2 + t = rcA s s + 2 by omega, show rcA s s + 2 + 1 = rcA s s + 3 by omega, b.2 c2]
      exact g0
theorem c6_restOf (L : Lay n ad h0) (hk : k < 7) (h : SR n lc mc cs pm k v) (hw : WL n lc v) (hl : l < lc) {X : Int32 → Hp → Prop} (q : X (reL v l) (HN h0 ad cs pm)) : CKi mX6_restOf 1 0 0 [some (.ref (ad (gSt k))), some (.int (nI l)), none, none] (HN h0 ad cs pm) X := by
  intro Qc kq
  obtain ⟨w1, w2, w3⟩ := hw
  obtain ⟨a1, a2, a3, a4, a5, a6⟩ := w3 l hl
  refine tX6_restOf_0 L ⟨hk, l, rfl, by omega, lb v l, by rw [h.ln hl (by omega)]; exact a3, a4, la v l, by rw [h.ln hl (by omega), Nat.add_zero]; exact a1, a2, c5_hasLent L (vRc_s hk a4 a2) ?_⟩
  rw [h.rd a4 a2 (by omega) (by omega)]
  show Wm mX6_restOf 1 0 0 Qc 28 _ [.int (bI (knB v l))] _ 0 0
  refine tX6_restOf_28 L ⟨fun c => kq _ _ ?_, fun c => ⟨hk, ⟨hk, by omega⟩, ?_⟩⟩
  · rw [bI_z] at c
    rw [reL, if_neg (by simp [c])] at q
    exact q
  · rw [bI_z] at c
    have c' : knB v l = true := by simpa using c
    rw [h.1.2.2.2.1, h.ln hl (by omega), h.ln hl (by omega), h.ln hl (by omega), a3]
    refine ⟨fun c2 => c6_recordOf L hk a4 (tX6_restOf_58 L ⟨vRc_s hk a4 a4, l, rfl, by omega, kq _ _ ?_⟩), fun c2 => kq _ _ ?_⟩
    · rw [reL, if_pos ⟨c', Int32.not_le.mpr c2⟩] at q
      rw [h.us a4 a4 (by omega)]
      exact q
    · rw [reL, if_neg (fun e => e.2 (Int32.not_lt.mp c2))] at q
      exact q
theorem c6_availableRights (L : Lay n ad h0) (h0' : S0 n cs pm k) (h : SR n lc mc cs pm k v) (hw : WL n lc v) (hs : s < n) (ht : t < 2) {X : Int32 → Hp → Prop} (q : X (avl n lc v s t) (HN h0 ad cs pm)) : CKi mX6_availableRights 3 0 0 [some (.ref (ad (gSt k))), some (.int (nI s)), some (.int (nI t)), none, none] (HN h0 ad cs pm) X := by
  intro Qc kq
  have hk := h0'.1
  have hw' := hw
  obtain ⟨w1, w2, w3⟩ := hw'
  have loans : ∀ i, i ≤ lc → Wm mX6_availableRights 3 0 0 Qc 10 [some (.ref (ad (gSt k))), some (.int (nI s)), some (.int (nI t)), some (.int (own n lc v s t + sumI i (leL v s t))), some (.int (nI i))] [] (HN h0 ad cs pm) 0 0 := by
    refine loopU lc _ ?_ ?_
    · refine tX6_availableRights_10 L ⟨hk, fun _ => kq _ _ q, fun c => absurd ?_ c⟩
      rw [h.1.2.2.2.2.1]; exact nI_le (Nat.le_refl _) (by omega)
    · intro i hi ih
      rw [← sumI_s, leL] at ih
      have no : ¬ (v (lnA i + 1) = nI s ∧ v (lnA i + 2) = nI t) → Wm mX6_availableRights 3 0 0 Qc 56 [some (.ref (ad (gSt k))), some (.int (nI s)), some (.int (nI t)), some (.int (own n lc v s t + sumI i (leL v s t))), some (.int (nI i))] [] (HN h0 ad cs pm) 0 0 := by
        intro c
        rw [if_neg c, Int32.add_zero] at ih
        refine tX6_availableRights_56 L ?_
        rw [nI_add]; exact ih
      refine tX6_availableRights_10 L ⟨hk, fun c => absurd c (by rw [h.1.2.2.2.2.1]; exact nI_ge hi (by omega)), fun _ => ⟨i, rfl, by omega, ?_⟩⟩
      rw [h.ln hi (by omega), h.ln hi (by omega)]
      refine ⟨fun c => no (fun e => c e.1), fun c => ⟨fun c2 => no (fun e => c2 e.2), fun c2 => c6_restOf L hk h hw hi (tX6_availableRights_54 L (tX6_availableRights_56 L ?_))⟩⟩
      rw [if_pos ⟨c, c2⟩] at ih
      rw [nI_add]; exact ih
  have l0 := loans 0 (Nat.zero_le _)
  rw [sumI_z] at l0
  exact tX6_availableRights_0 L ⟨hk, c6_ownRights L h0' h hw hs ht (tX6_availableRights_6 L l0)⟩
theorem c6_dormantRights (L : Lay n ad h0) (h0' : S0 n cs pm k) (h : SR n lc mc cs pm k v) (hw : WL n lc v) (ht : t < 2) {X : Int32 → Hp → Prop} (q : X (dorV n lc v t n) (HN h0 ad cs pm)) : CKi mX6_dormantRights 4 0 0 [some (.ref (ad (gSt k))), some (.int (nI t)), none, none] (HN h0 ad cs pm) X := by
  intro Qc kq
  have hb := L.1
  have hk := h0'.1
  have hn := h0'.2.1
  have key : ∀ i, i ≤ n → Wm mX6_dormantRights 4 0 0 Qc 12 [some (.ref (ad (gSt k))), some (.int (nI t)), some (.int (dorV n lc v t i)), some (.int (nI i))] [] (HN h0 ad cs pm) 0 0 := by
    refine loopU n _ ?_ ?_
    · exact tX6_dormantRights_12 L ⟨hk, fun _ => kq _ _ q, fun c => absurd (by rw [hn]; exact nI_le (Nat.le_refl _) (by omega)) c⟩
    · intro i hi ih
      refine tX6_dormantRights_12 L ⟨hk, fun c => absurd c (by rw [hn]; exact nI_ge hi (by omega)), fun _ => c6_availableRights L h0' h hw hi ht (tX6_dormantRights_27 L ?_)⟩
      rw [nI_add]; exact ih
  exact tX6_dormantRights_0 L ⟨hk, c6_trueValue L h0' h (tX6_dormantRights_5 L ⟨hk, c6_roomAt L hk h ht (tX6_dormantRights_9 L (key 0 (Nat.zero_le _)))⟩)⟩
theorem c6_loanFact (L : Lay n ad h0) (hk : k < 7) (h : SR n lc mc cs pm k v) (hw : WL n lc v) (hl : l < lc) {m : Nat} (hm : m < 8) {X : Int32 → Hp → Prop} (q : X (ofL v l m) (HN h0 ad cs pm)) : CKi mX6_loanFact 2 0 0 [some (.ref (ad (gSt k))), some (.int (nI l)), some (.int (nI m)), none] (HN h0 ad cs pm) X := by
  intro Qc kq
  have hw' := hw
  obtain ⟨w1, w2, w3⟩ := hw'
  obtain ⟨a1, a2, a3, a4, a5, a6⟩ := w3 l hl
  have ei : ∀ y, y < 8 → (nI m = nI y ↔ m = y) := fun y hy => nI_inj5 (by omega) (by omega)
  refine tX6_loanFact_0 L ⟨hk, l, rfl, by omega, ?_⟩
  rw [ei 0 (by omega), ei 1 (by omega), ei 2 (by omega), ei 3 (by omega), ei 4 (by omega), ei 5 (by omega), ei 6 (by omega)]
  have low : ∀ y, y < 5 → m = y → Qc 0 (some (.int (cs (gLn k l) y))) (HN h0 ad cs pm) := by
    intro y hy e
    subst e
    rw [ofL, if_pos hy] at q
    rw [h.ln hl hy]
    exact kq _ _ q
  refine ⟨low 0 (by omega), low 1 (by omega), low 2 (by omega), low 3 (by omega), low 4 (by omega), fun e => ?_, fun e => ?_, fun _ _ _ _ _ e5 e6 => ?_⟩
  · subst e
    rw [ofL, if_neg (by omega), if_pos rfl] at q
    rw [h.ln hl (by omega), a3]
    refine c6_recordOf L hk a4 (tX6_loanFact_85 L ⟨vRc_s hk a4 a4, l, rfl, by omega, ?_⟩)
    rw [h.us a4 a4 (by omega)]
    exact kq _ _ q
  · subst e
    rw [ofL, if_neg (by omega), if_neg (by omega), if_pos rfl] at q
    exact c6_restOf L hk h hw hl (tX6_loanFact_96 L (kq _ _ q))
  · rw [ofL, if_neg (by omega), if_neg e5, if_neg e6] at q
    refine c6_hasComeBack L hk h hw hl (tX6_loanFact_102 L ⟨fun c => kq _ _ ?_, fun c => kq _ _ ?_⟩)
    · rw [bI_z] at c; rw [c] at q; exact q
    · rw [bI_z] at c; rw [show bkB v l = true by simpa using c] at q; exact q
theorem c6_soonestLoan (L : Lay n ad h0) (hk : k < 7) (h : SR n lc mc cs pm k v) (hw : WL n lc v) {X : Int32 → Hp → Prop} (q : X (oI (flN v s t lc)) (HN h0 ad cs pm)) : CKi mX6_soonestLoan 2 0 0 [some (.ref (ad (gSt k))), some (.int (nI s)), some (.int (nI t)), none, none, none] (HN h0 ad cs pm) X := by
  intro Qc kq
  have hw' := hw
  obtain ⟨w1, w2, w3⟩ := hw'
  have loans : ∀ i, i ≤ lc → Wm mX6_soonestLoan 2 0 0 Qc 5 [some (.ref (ad (gSt k))), some (.int (nI s)), some (.int (nI t)), some (.int (oI (flN v s t i))), some (.int (nI i)), none] [] (HN h0 ad cs pm) 0 0 := by
    refine loopU lc _ ?_ ?_
    · refine tX6_soonestLoan_5 L ⟨hk, fun _ => kq _ _ q, fun c => absurd ?_ c⟩
      rw [h.1.2.2.2.2.1]; exact nI_le (Nat.le_refl _) (by omega)
    · intro i hi ih
      rw [flN] at ih
      have no : ¬ (v (lnA i + 1) = nI s ∧ v (lnA i + 2) = nI t ∧ ¬ reL v i ≤ 0) → Wm mX6_soonestLoan 2 0 0 Qc 55 [some (.ref (ad (gSt k))), some (.int (nI s)), some (.int (nI t)), some (.int (oI (flN v s t i))), some (.int (nI i)), none] [] (HN h0 ad cs pm) 0 0 := by
        intro c
        rw [if_neg c] at ih
        refine tX6_soonestLoan_55 L (tX6_soonestLoan_93 L ?_)
        rw [nI_add]; exact ih
      refine tX6_soonestLoan_5 L ⟨hk, fun c => absurd c (by rw [h.1.2.2.2.2.1]; exact nI_ge hi (by omega)), fun _ => ⟨i, rfl, by omega, ?_⟩⟩
      rw [h.ln hi (by omega), h.ln hi (by omega)]
      refine ⟨fun c => no (fun e => c e.1), fun c => ⟨fun c2 => no (fun e => c2 e.2.1), fun c2 => c6_restOf L hk h hw hi (tX6_soonestLoan_48 L ⟨fun c3 => no (fun e => e.2.2 c3), fun c3 => ?_⟩)⟩⟩
      rw [if_pos ⟨c, c2, c3⟩] at ih
      cases e : flN v s t i with
      | none =>
        rw [e] at ih
        refine ⟨fun _ => tX6_soonestLoan_90 L (tX6_soonestLoan_93 L ?_), fun c4 => absurd rfl c4⟩
        rw [nI_add]; exact ih
      | some b =>
        rw [e] at ih
        have hb := flN_lt e
        refine ⟨fun c4 => absurd (show nI b < 0 by rw [show nI b = -1 from c4]; decide) (nI_pos (by omega)), fun _ => ⟨hk, i, rfl, by omega, b, rfl, by omega, ?_⟩⟩
        rw [h.ln hi (by omega), h.ln (l := b) (by omega) (by omega)]
        refine ⟨fun c4 => tX6_soonestLoan_93 L ?_, fun c4 => tX6_soonestLoan_90 L (tX6_soonestLoan_93 L ?_)⟩
        · simp only [c4, not_true, if_false] at ih
          rw [nI_add]; exact ih
        · simp only [c4, not_false_iff, if_true] at ih
          rw [nI_add]; exact ih
  exact tX6_soonestLoan_0 L (loans 0 (Nat.zero_le _))
end CB

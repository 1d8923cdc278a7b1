/-! THE REFERENCE'S ROW v, read and written: the functions that both sides are tied to -/
def rcA (s o : Nat) : Nat := 60 + 30 * (5 * s + o)
def lnA (l : Nat) : Nat := 10 + 5 * l
def mgA (m : Nat) : Nat := 900 + 160 * m
def ixI (x : Int32) : Nat := x.toNatClampNeg
def la (v : Nat → Int32) (l : Nat) : Nat := ixI (v (lnA l))
def lb (v : Nat → Int32) (l : Nat) : Nat := ixI (v (lnA l + 1))
def tOf (v : Nat → Int32) (s o : Nat) : Int32 := if s = o then v 0 else v (rcA s o + 1)
def bkB (v : Nat → Int32) (l : Nat) : Bool := decide (v (lnA l + 4) ≤ v 0) && decide (v (lnA l + 4) ≤ tOf v (la v l) (lb v l))
def usL (v : Nat → Int32) (s l : Nat) : Int32 := v (rcA s (lb v l) + 17 + l)
def knB (v : Nat → Int32) (l : Nat) : Bool := decide (((v (rcA (lb v l) (la v l) + 16)) >>> (nI l &&& 31)) &&& nI 1 = nI 1)
def reL (v : Nat → Int32) (l : Nat) : Int32 := if knB v l = true ∧ ¬ v (lnA l + 4) ≤ v 0 then v (lnA l + 3) - usL v (lb v l) l else nI 0
def sumI : Nat → (Nat → Int32) → Int32
  | 0, _ => 0
  | i + 1, f => sumI i f + f i
def bI (b : Bool) : Int32 := if b then nI 1 else nI 0
/-- own rights: the base, what sites gave, the loans -/
def owB (v : Nat → Int32) (s k : Nat) : Int32 := (if k = 0 then v (rcA s s + 3) - v (rcA s s + 2) else -(v (rcA s s + 3) - v (rcA s s + 2))) + (if s = 0 then (if k = 0 then v 2 - v 3 else v 3 - v 1) else 0)
def owG (v : Nat → Int32) (s k o : Nat) : Int32 := if o = s then 0 else v (rcA s o + 4 + 5 * k + s) - v (rcA s s + 4 + 5 * k + o)
def owL (v : Nat → Int32) (s k l : Nat) : Int32 := if v (lnA l + 2) = nI k then (if v (lnA l + 1) = nI s then v (rcA s s + 17 + l) else 0) - (if v (lnA l) = nI s then (if bkB v l = true then usL v s l else v (lnA l + 3)) else 0) else 0
def own (n lc : Nat) (v : Nat → Int32) (s k : Nat) : Int32 := owB v s k + sumI n (owG v s k) + sumI lc (owL v s k)
def leL (v : Nat → Int32) (s k l : Nat) : Int32 := if v (lnA l + 1) = nI s ∧ v (lnA l + 2) = nI k then reL v l else 0
def avl (n lc : Nat) (v : Nat → Int32) (s k : Nat) : Int32 := own n lc v s k + sumI lc (leL v s k)
def valV (n : Nat) (v : Nat → Int32) : Int32 := v 3 + sumI n (fun s => v (rcA s s + 2) - v (rcA s s + 3))
def knwV (n : Nat) (v : Nat → Int32) (s : Nat) : Int32 := v 3 + sumI n (fun o => v (rcA s o + 2) - v (rcA s o + 3))
/-- the loans are in order -/
def WL (n lc : Nat) (v : Nat → Int32) : Prop := v 4 = nI lc ∧ lc ≤ 10 ∧ ∀ l, l < lc → v (lnA l) = nI (la v l) ∧ la v l < n ∧ v (lnA l + 1) = nI (lb v l) ∧ lb v l < n ∧ la v l ≠ lb v l ∧ (v (lnA l + 2) = nI 0 ∨ v (lnA l + 2) = nI 1)
theorem nI_inj5 {a b : Nat} (ha : a < 100000) (hb : b < 100000) : nI a = nI b ↔ a = b := nI_eq (by omega) (by omega)
theorem loopU (n : Nat) (P : Nat → Prop) (last : P n) (step : ∀ i, i < n → P (i + 1) → P i) : ∀ i, i ≤ n → P i := by
  intro i hi
  obtain ⟨m, rfl⟩ : ∃ m, n = i + m := ⟨n - i, by omega⟩
  clear hi
  induction m generalizing i with
  | zero => exact last
  | succ m ih =>
    refine step i (by omega) (ih (i + 1) ?_ ?_)
    · rw [show i + 1 + m = i + (m + 1) by omega]; exact last
    · intro j hj; rw [show i + 1 + m = i + (m + 1) by omega] at hj; exact step j hj
section RA
variable {n : Nat} {ad : Nat → Nat} {h0 : Hp} {cs : Nat → Nat → Int32} {pm : Nat → Nat → Nat} {h : Hp} {s o l k : Nat}
theorem c9_record {X : Int32 → Hp → Prop} (q : X (nI (rcA s o)) h) : CKi mX9_record 0 0 0 [some (.int (nI s)), some (.int (nI o))] h X := by
  intro Qc kq
  refine rl_bipush (v := nI 60) dX9_record_0 (by decide) ?_
  refine rl_bipush (v := nI 30) dX9_record_2 (by decide) ?_
  refine rl_iconst (v := nI 5) dX9_record_4 (by decide) ?_
  refine rl_iload_n dX9_record_5 rfl rfl ?_
  refine rl_imul dX9_record_6 ?_
  refine rl_iload_n dX9_record_7 rfl rfl ?_
  refine rl_iadd dX9_record_8 ?_
  refine rl_imul dX9_record_9 ?_
  refine rl_iadd dX9_record_10 ?_
  refine rl_iret dX9_record_11 rfl (Nat.le_refl 0) (Nat.le_refl 0) ?_
  rw [show nI 60 + nI 30 * (nI 5 * nI s + nI o) = nI (rcA s o) by simp only [nI_add, pk_mul]; rfl]
  exact kq _ _ q
theorem c9_loanAt (L : Lay n ad h0) {X : Int32 → Hp → Prop} (q : X (nI (lnA l)) (HN h0 ad cs pm)) : CKi mX9_loanAt 0 0 0 [some (.int (nI l))] (HN h0 ad cs pm) X := by
  intro Qc kq
  refine tX9_loanAt_0 L ?_
  rw [show nI 10 + nI 5 * nI l = nI (lnA l) by simp only [nI_add, pk_mul]; rfl]
  exact kq _ _ q
theorem c9_mineAt (L : Lay n ad h0) {X : Int32 → Hp → Prop} (q : X (nI (rcA s s)) (HN h0 ad cs pm)) : CKi mX9_mineAt 1 0 0 [some (.ref (ad (gMo 0))), some (.int (nI s))] (HN h0 ad cs pm) X := by
  intro Qc kq
  exact tX9_mineAt_0 L (c9_record (tX9_mineAt_5 L (kq _ _ q)))
theorem c9_timeOf (L : Lay n ad h0) (hs : s < 5) (ho : o < 5) {X : Int32 → Hp → Prop} (q : X (tOf (cs (gMo 1)) s o) (HN h0 ad cs pm)) : CKi mX9_timeOf 1 0 0 [some (.ref (ad (gMo 0))), some (.int (nI s)), some (.int (nI o))] (HN h0 ad cs pm) X := by
  intro Qc kq
  refine tX9_timeOf_0 L ⟨fun c => c9_record (tX9_timeOf_23 L ⟨rcA s o + 1, nI_add _ _, by unfold rcA; omega, kq _ _ ?_⟩), fun c => kq _ _ ?_⟩
  · rw [nI_inj5 (by omega) (by omega)] at c
    rw [tOf, if_neg c] at q
    exact q
  · rw [nI_inj5 (by omega) (by omega)] at c
    rw [tOf, if_pos c] at q
    exact q
theorem c9_isBack {lc : Nat} (L : Lay n ad h0) (hw : WL n lc (cs (gMo 1))) (hl : l < lc) {X : Int32 → Hp → Prop} (q : X (bI (bkB (cs (gMo 1)) l)) (HN h0 ad cs pm)) : CKi mX9_isBack 2 0 0 [some (.ref (ad (gMo 0))), some (.int (nI l)), none] (HN h0 ad cs pm) X := by
  intro Qc kq
  obtain ⟨w1, w2, w3⟩ := hw
  obtain ⟨a1, a2, a3, a4, a5, a6⟩ := w3 l hl
  have hn := L.1
  have hb : lnA l + 4 < 2400 := by unfold lnA; omega
  refine tX9_isBack_0 L (c9_loanAt L (tX9_isBack_4 L ⟨lnA l + 4, nI_add _ _, hb, fun c => kq _ _ ?_, fun c => ⟨lnA l, rfl, by omega, lnA l + 1, nI_add _ _, by omega, ?_⟩⟩))
  · rw [show bkB (cs (gMo 1)) l = false by simp [bkB, Int32.not_le.mpr c]] at q
    exact q
  · rw [a1, a3]
    refine c9_timeOf L (by omega) (by omega) (tX9_isBack_40 L ⟨lnA l + 4, nI_add _ _, hb, fun c2 => kq _ _ ?_, fun c2 => kq _ _ ?_⟩)
    · rw [show bkB (cs (gMo 1)) l = false by simp [bkB, Int32.not_le.mpr c2]] at q
      exact q
    · rw [show bkB (cs (gMo 1)) l = true by simp [bkB, Int32.not_lt.mp c, Int32.not_lt.mp c2]] at q
      exact q
theorem c9_usedOf {lc : Nat} (L : Lay n ad h0) (hw : WL n lc (cs (gMo 1))) (hl : l < lc) (hs : s < n) {X : Int32 → Hp → Prop} (q : X (usL (cs (gMo 1)) s l) (HN h0 ad cs pm)) : CKi mX9_usedOf 1 0 0 [some (.ref (ad (gMo 0))), some (.int (nI s)), some (.int (nI l))] (HN h0 ad cs pm) X := by
  intro Qc kq
  obtain ⟨w1, w2, w3⟩ := hw
  obtain ⟨a1, a2, a3, a4, a5, a6⟩ := w3 l hl
  have hn := L.1
  refine tX9_usedOf_0 L (c9_loanAt L (tX9_usedOf_13 L ⟨lnA l + 1, nI_add _ _, by unfold lnA; omega, ?_⟩))
  rw [a3]
  exact c9_record (tX9_usedOf_19 L ⟨rcA s (lb (cs (gMo 1)) l) + 17 + l, by simp only [nI_add], by unfold rcA; omega, kq _ _ q⟩)
theorem c9_isKnown {lc : Nat} (L : Lay n ad h0) (hw : WL n lc (cs (gMo 1))) (hl : l < lc) {X : Int32 → Hp → Prop} (q : X (bI (knB (cs (gMo 1)) l)) (HN h0 ad cs pm)) : CKi mX9_isKnown 1 0 0 [some (.ref (ad (gMo 0))), some (.int (nI l)), none] (HN h0 ad cs pm) X := by
  intro Qc kq
  obtain ⟨w1, w2, w3⟩ := hw
  obtain ⟨a1, a2, a3, a4, a5, a6⟩ := w3 l hl
  have hn := L.1
  refine tX9_isKnown_0 L (c9_loanAt L (tX9_isKnown_4 L ⟨lnA l + 1, nI_add _ _, by unfold lnA; omega, lnA l, rfl, by unfold lnA; omega, ?_⟩))
  rw [a1, a3]
  refine c9_record (tX9_isKnown_26 L ⟨rcA (lb (cs (gMo 1)) l) (la (cs (gMo 1)) l) + 16, nI_add _ _, by unfold rcA; omega, fun c => kq _ _ ?_, fun c => kq _ _ ?_⟩)
  · rw [show knB (cs (gMo 1)) l = false by simp [knB, c]] at q
    exact q
  · rw [show knB (cs (gMo 1)) l = true by simp [knB, c]] at q
    exact q
theorem c9_restOf {lc : Nat} (L : Lay n ad h0) (hw : WL n lc (cs (gMo 1))) (hl : l < lc) {X : Int32 → Hp → Prop} (q : X (reL (cs (gMo 1)) l) (HN h0 ad cs pm)) : CKi mX9_restOf 2 0 0 [some (.ref (ad (gMo 0))), some (.int (nI l)), none] (HN h0 ad cs pm) X := by
  intro Qc kq
  have hw' := hw
  obtain ⟨w1, w2, w3⟩ := hw
  obtain ⟨a1, a2, a3, a4, a5, a6⟩ := w3 l hl
  have hb : lnA l + 4 < 2400 := by unfold lnA; omega
  refine tX9_restOf_0 L (c9_loanAt L (tX9_restOf_4 L (c9_isKnown L hw' hl (tX9_restOf_10 L ⟨fun c => kq _ _ ?_, fun c => ⟨lnA l + 4, nI_add _ _, hb, fun c2 => kq _ _ ?_, fun c2 => ⟨lnA l + 3, nI_add _ _, by omega, lnA l + 1, nI_add _ _, by omega, ?_⟩⟩⟩))))
  · have : knB (cs (gMo 1)) l ≠ true := fun e => by rw [e] at c; exact absurd c (by decide)
    simp [reL, this] at q
    exact q
  · simp [reL, c2] at q
    exact q
  · rw [a3]
    refine c9_usedOf L hw' hl a4 (tX9_restOf_51 L (kq _ _ ?_))
    have : knB (cs (gMo 1)) l = true := by
      cases e : knB (cs (gMo 1)) l with
      | true => rfl
      | false => rw [e] at c; exact absurd rfl c
    simp only [reL, this, c2, not_false_iff, and_self, if_true] at q
    exact q
end RA

/-! the reference: sums, rights, the first loan, ranges -/
theorem sumI_s (a : Int32) (i : Nat) (f : Nat → Int32) : a + sumI i f + f i = a + sumI (i + 1) f := by rw [sumI, Int32.add_assoc]
theorem sumI_z (a : Int32) (f : Nat → Int32) : a + sumI 0 f = a := Int32.add_zero a
theorem nIz : (nI 0 : Int32) = 0 := rfl
def oI (b : Option Nat) : Int32 := match b with
  | none => -1
  | some b => nI b
def flN (v : Nat → Int32) (s k : Nat) : Nat → Option Nat
  | 0 => none
  | i + 1 => if v (lnA i + 1) = nI s ∧ v (lnA i + 2) = nI k ∧ ¬ reL v i ≤ 0 then (match flN v s k i with
    | none => some i
    | some b => if ¬ v (lnA b + 4) ≤ v (lnA i + 4) then some i else some b) else flN v s k i
theorem flN_lt {v : Nat → Int32} {s k : Nat} : ∀ {i b : Nat}, flN v s k i = some b → b < i
  | 0, b, h => by simp [flN] at h
  | i + 1, b, h => by
    rw [flN] at h
    split at h
    · split at h
      · cases h; omega
      · next c hc =>
        have := flN_lt hc
        split at h
        · cases h; omega
        · cases h; omega
    · have := flN_lt h; omega
def inB (x lo hi : Int32) : Bool := decide (¬ x < lo) && decide (¬ hi < x)
theorem bI_nar (b : Bool) : narrow .boolean (.int (bI b)) = .int (bI b) := by cases b <;> rfl
theorem bI_z {b : Bool} : bI b = 0 ↔ b = false := by cases b <;> decide
section RB
variable {n lc : Nat} {ad : Nat → Nat} {h0 : Hp} {cs : Nat → Nat → Int32} {pm : Nat → Nat → Nat} {s o l k : Nat}
theorem c9_valueNow (L : Lay n ad h0) (hn : cs (gMo 0) 0 = nI n) {X : Int32 → Hp → Prop} (q : X (valV n (cs (gMo 1))) (HN h0 ad cs pm)) : CKi mX9_valueNow 2 0 0 [some (.ref (ad (gMo 0))), none, none] (HN h0 ad cs pm) X := by
  intro Qc kq
  have hb := L.1
  have key : ∀ i, i ≤ n → Wm mX9_valueNow 2 0 0 Qc 9 [some (.ref (ad (gMo 0))), some (.int (cs (gMo 1) 3 + sumI i (fun s => cs (gMo 1) (rcA s s + 2) - cs (gMo 1) (rcA s s + 3)))), some (.int (nI i))] [] (HN h0 ad cs pm) 0 0 := by
    refine loopU n _ ?_ ?_
    · refine tX9_valueNow_9 L ⟨fun _ => kq _ _ q, fun c => absurd ?_ c⟩
      rw [hn]; exact nI_le (Nat.le_refl n) (by omega)
    · intro i hi ih
      refine tX9_valueNow_9 L ⟨fun c => absurd c ?_, fun _ => c9_mineAt L (tX9_valueNow_27 L ⟨rcA i i + 2, nI_add _ _, by unfold rcA; omega, c9_mineAt L (tX9_valueNow_39 L ⟨rcA i i + 3, nI_add _ _, by unfold rcA; omega, ?_⟩)⟩)⟩
      · rw [hn]; exact nI_ge hi (by omega)
      · rw [nI_add, sumI_s (cs (gMo 1) 3) i (fun s => cs (gMo 1) (rcA s s + 2) - cs (gMo 1) (rcA s s + 3))]
        exact ih
  have k0 := key 0 (Nat.zero_le _)
  rw [sumI_z] at k0
  exact tX9_valueNow_0 L k0
theorem c9_knownBy (L : Lay n ad h0) (hn : cs (gMo 0) 0 = nI n) (hs : s < n) {X : Int32 → Hp → Prop} (q : X (knwV n (cs (gMo 1)) s) (HN h0 ad cs pm)) : CKi mX9_knownBy 1 0 0 [some (.ref (ad (gMo 0))), some (.int (nI s)), none, none] (HN h0 ad cs pm) X := by
  intro Qc kq
  have hb := L.1
  have key : ∀ i, i ≤ n → Wm mX9_knownBy 1 0 0 Qc 9 [some (.ref (ad (gMo 0))), some (.int (nI s)), some (.int (cs (gMo 1) 3 + sumI i (fun o => cs (gMo 1) (rcA s o + 2) - cs (gMo 1) (rcA s o + 3)))), some (.int (nI i))] [] (HN h0 ad cs pm) 0 0 := by
    refine loopU n _ ?_ ?_
    · refine tX9_knownBy_9 L ⟨fun _ => kq _ _ q, fun c => absurd ?_ c⟩
      rw [hn]; exact nI_le (Nat.le_refl n) (by omega)
    · intro i hi ih
      refine tX9_knownBy_9 L ⟨fun c => absurd c ?_, fun _ => c9_record (tX9_knownBy_27 L ⟨rcA s i + 2, nI_add _ _, by unfold rcA; omega, c9_record (tX9_knownBy_39 L ⟨rcA s i + 3, nI_add _ _, by unfold rcA; omega, ?_⟩)⟩)⟩
      · rw [hn]; exact nI_ge hi (by omega)
      · rw [nI_add, sumI_s (cs (gMo 1) 3) i (fun o => cs (gMo 1) (rcA s o + 2) - cs (gMo 1) (rcA s o + 3))]
        exact ih
  have k0 := key 0 (Nat.zero_le _)
  rw [sumI_z] at k0
  exact tX9_knownBy_0 L k0
theorem c9_ownRights (L : Lay n ad h0) (hn : cs (gMo 0) 0 = nI n) (hw : WL n lc (cs (gMo 1))) (hs : s < n) (hk : k < 2) {X : Int32 → Hp → Prop} (q : X (own n lc (cs (gMo 1)) s k) (HN h0 ad cs pm)) : CKi mX9_ownRights 3 0 0 [some (.ref (ad (gMo 0))), some (.int (nI s)), some (.int (nI k)), none, none, none, none, none] (HN h0 ad cs pm) X := by
  intro Qc kq
  have hb := L.1
  have hw' := hw
  obtain ⟨w1, w2, w3⟩ := hw
  have hr : rcA s s + 30 ≤ 900 := by unfold rcA; omega
  -- the loans
  have key2 : ∀ i, i ≤ lc → Wm mX9_ownRights 3 0 0 Qc 148 [some (.ref (ad (gMo 0))), some (.int (nI s)), some (.int (nI k)), some (.int (nI (rcA s s))), none, some (.int (owB (cs (gMo 1)) s k + sumI n (owG (cs (gMo 1)) s k) + sumI i (owL (cs (gMo 1)) s k))), some (.int (nI i)), none] [] (HN h0 ad cs pm) 0 0 := by
    refine loopU lc _ ?_ ?_
    · refine tX9_ownRights_148 L ⟨fun _ => kq _ _ q, fun c => absurd ?_ c⟩
      rw [w1]; exact nI_le (Nat.le_refl lc) (by omega)
    · intro i hi ih
      obtain ⟨a1, a2, a3, a4, a5, a6⟩ := w3 i hi
      have hli : lnA i + 5 ≤ 60 := by unfold lnA; omega
      have fin : ∀ x : Int32, x = owB (cs (gMo 1)) s k + sumI n (owG (cs (gMo 1)) s k) + sumI i (owL (cs (gMo 1)) s k) + owL (cs (gMo 1)) s k i → Wm mX9_ownRights 3 0 0 Qc 261 [some (.ref (ad (gMo 0))), some (.int (nI s)), some (.int (nI k)), some (.int (nI (rcA s s))), none, some (.int x), some (.int (nI i)), none] [] (HN h0 ad cs pm) 0 0 := by
        intro x ex
        refine tX9_ownRights_261 L ?_
        rw [ex, nI_add, sumI_s]
        exact ih
      refine tX9_ownRights_148 L ⟨fun c => absurd c ?_, fun _ => c9_loanAt L (tX9_ownRights_164 L ⟨lnA i + 2, nI_add _ _, by omega, fun c => fin _ ?_, fun c => ⟨lnA i + 1, nI_add _ _, by omega, fun c2 => ⟨lnA i, rfl, by omega, fun c3 => fin _ ?_, fun c3 => c9_isBack L hw' hi (tX9_ownRights_232 L ⟨fun c4 => ⟨lnA i + 3, nI_add _ _, by omega, fin _ ?_⟩, fun c4 => c9_usedOf L hw' hi hs (tX9_ownRights_242 L (fin _ ?_))⟩)⟩, fun c2 => ⟨rcA s s + 17 + i, by simp only [nI_add], by omega, lnA i, rfl, by omega, fun c3 => fin _ ?_, fun c3 => c9_isBack L hw' hi (tX9_ownRights_232 L ⟨fun c4 => ⟨lnA i + 3, nI_add _ _, by omega, fin _ ?_⟩, fun c4 => c9_usedOf L hw' hi hs (tX9_ownRights_242 L (fin _ ?_))⟩)⟩⟩⟩)⟩
      · rw [w1]; exact nI_ge hi (by omega)
      · simp [owL, c]
      · simp [owL, c, c2, c3, nIz]
      · simp [owL, c, c2, c3, nIz, bI_z.mp c4, Int32.sub_eq_add_neg]
      · have : bkB (cs (gMo 1)) i = true := by
          cases e : bkB (cs (gMo 1)) i with
          | true => rfl
          | false => exact absurd (bI_z.mpr e) c4
        simp [owL, c, c2, c3, nIz, this, Int32.sub_eq_add_neg]
      · simp [owL, c, c2, c3, nIz]
      · exact absurd (by rw [← a3, ← a1, c2, c3]) (fun e : nI (lb (cs (gMo 1)) i) = nI (la (cs (gMo 1)) i) => a5 ((nI_inj5 (by omega) (by omega)).mp e).symm)
      · exact absurd (by rw [← a3, ← a1, c2, c3]) (fun e : nI (lb (cs (gMo 1)) i) = nI (la (cs (gMo 1)) i) => a5 ((nI_inj5 (by omega) (by omega)).mp e).symm)
  have k20 := key2 0 (Nat.zero_le _)
  rw [sumI_z] at k20
  -- the sites
  have key1 : ∀ i, i ≤ n → Wm mX9_ownRights 3 0 0 Qc 84 [some (.ref (ad (gMo 0))), some (.int (nI s)), some (.int (nI k)), some (.int (nI (rcA s s))), none, some (.int (owB (cs (gMo 1)) s k + sumI i (owG (cs (gMo 1)) s k))), some (.int (nI i)), none] [] (HN h0 ad cs pm) 0 0 := by
    refine loopU n _ ?_ ?_
    · refine tX9_ownRights_84 L ⟨fun _ => k20, fun c => absurd ?_ c⟩
      rw [hn]; exact nI_le (Nat.le_refl n) (by omega)
    · intro i hi ih
      have fin : ∀ x : Int32, x = owB (cs (gMo 1)) s k + sumI i (owG (cs (gMo 1)) s k) + owG (cs (gMo 1)) s k i → Wm mX9_ownRights 3 0 0 Qc 139 [some (.ref (ad (gMo 0))), some (.int (nI s)), some (.int (nI k)), some (.int (nI (rcA s s))), none, some (.int x), some (.int (nI i)), none] [] (HN h0 ad cs pm) 0 0 := by
        intro x ex
        refine tX9_ownRights_139 L ?_
        rw [ex, nI_add, sumI_s]
        exact ih
      have hri : rcA s i + 30 ≤ 900 := by unfold rcA; omega
      refine tX9_ownRights_84 L ⟨fun c => absurd c ?_, fun _ => ⟨fun c => fin _ ?_, fun c => c9_record (tX9_ownRights_111 L ⟨rcA s i + 4 + 5 * k + s, by simp only [nI_add, pk_mul], by omega, rcA s s + 4 + 5 * k + i, by simp only [nI_add, pk_mul], by omega, fin _ ?_⟩)⟩⟩
      · rw [hn]; exact nI_ge hi (by omega)
      · rw [nI_inj5 (by omega) (by omega)] at c
        simp [owG, c]
      · rw [nI_inj5 (by omega) (by omega)] at c
        simp [owG, c]
  have k10 := key1 0 (Nat.zero_le _)
  rw [sumI_z] at k10
  have ent : ∀ x : Int32, x = owB (cs (gMo 1)) s k → Wm mX9_ownRights 3 0 0 Qc 81 [some (.ref (ad (gMo 0))), some (.int (nI s)), some (.int (nI k)), some (.int (nI (rcA s s))), none, some (.int x), none, none] [] (HN h0 ad cs pm) 0 0 := by
    intro x ex
    rw [ex]
    exact tX9_ownRights_81 L k10
  have ez : ∀ j : Nat, j < 5 → (nI j = 0 ↔ j = 0) := fun j hj => by rw [← nIz]; exact nI_inj5 (by omega) (by omega)
  refine tX9_ownRights_0 L (c9_mineAt L (tX9_ownRights_5 L ⟨rcA s s + 3, nI_add _ _, by omega, rcA s s + 2, nI_add _ _, by omega, fun c => ⟨fun c2 => ent _ ?_, fun c2 => ⟨fun c3 => ent _ ?_, fun c3 => absurd c3 c⟩⟩, fun c => ⟨fun c2 => ent _ ?_, fun c2 => ⟨fun c3 => absurd c c3, fun c3 => ent _ ?_⟩⟩⟩))
  · rw [ez k (by omega)] at c
    rw [ez s (by omega)] at c2
    simp [owB, c, c2]
  · rw [ez k (by omega)] at c
    rw [ez s (by omega)] at c2
    simp [owB, c, c2]
  · rw [ez k (by omega)] at c
    rw [ez s (by omega)] at c2
    simp [owB, c, c2]
  · rw [ez k (by omega)] at c
    rw [ez s (by omega)] at c2
    simp [owB, c, c2]
theorem c9_lentRights (L : Lay n ad h0) (hw : WL n lc (cs (gMo 1))) {X : Int32 → Hp → Prop} (q : X (nI 0 + sumI lc (leL (cs (gMo 1)) s k)) (HN h0 ad cs pm)) : CKi mX9_lentRights 3 0 0 [some (.ref (ad (gMo 0))), some (.int (nI s)), some (.int (nI k)), none, none] (HN h0 ad cs pm) X := by
  intro Qc kq
  have hw' := hw
  obtain ⟨w1, w2, w3⟩ := hw
  have key : ∀ i, i ≤ lc → Wm mX9_lentRights 3 0 0 Qc 5 [some (.ref (ad (gMo 0))), some (.int (nI s)), some (.int (nI k)), some (.int (nI 0 + sumI i (leL (cs (gMo 1)) s k))), some (.int (nI i))] [] (HN h0 ad cs pm) 0 0 := by
    refine loopU lc _ ?_ ?_
    · refine tX9_lentRights_5 L ⟨fun _ => kq _ _ q, fun c => absurd ?_ c⟩
      rw [w1]; exact nI_le (Nat.le_refl lc) (by omega)
    · intro i hi ih
      have hli : lnA i + 5 ≤ 60 := by unfold lnA; omega
      have fin : ∀ x : Int32, x = nI 0 + sumI i (leL (cs (gMo 1)) s k) + leL (cs (gMo 1)) s k i → Wm mX9_lentRights 3 0 0 Qc 5 [some (.ref (ad (gMo 0))), some (.int (nI s)), some (.int (nI k)), some (.int x), some (.int (nI i + nI 1))] [] (HN h0 ad cs pm) 0 0 := by
        intro x ex
        rw [ex, nI_add, sumI_s]
        exact ih
      refine tX9_lentRights_5 L ⟨fun c => absurd c ?_, fun _ => c9_loanAt L (tX9_lentRights_26 L ⟨lnA i + 1, nI_add _ _, by omega, fun c => fin _ ?_, fun c => c9_loanAt L (tX9_lentRights_42 L ⟨lnA i + 2, nI_add _ _, by omega, fun c2 => fin _ ?_, fun c2 => c9_restOf L hw' hi (tX9_lentRights_55 L (fin _ ?_))⟩)⟩)⟩
      · rw [w1]; exact nI_ge hi (by omega)
      · simp [leL, c, nIz]
      · simp [leL, c, c2, nIz]
      · simp [leL, c, c2]
  have k0 := key 0 (Nat.zero_le _)
  rw [sumI_z] at k0
  exact tX9_lentRights_0 L k0
theorem c9_allRights (L : Lay n ad h0) (hn : cs (gMo 0) 0 = nI n) (hw : WL n lc (cs (gMo 1))) (hs : s < n) (hk : k < 2) {X : Int32 → Hp → Prop} (q : X (avl n lc (cs (gMo 1)) s k) (HN h0 ad cs pm)) : CKi mX9_allRights 4 0 0 [some (.ref (ad (gMo 0))), some (.int (nI s)), some (.int (nI k))] (HN h0 ad cs pm) X := by
  intro Qc kq
  refine tX9_allRights_0 L (c9_ownRights L hn hw hs hk (tX9_allRights_6 L (c9_lentRights L hw (tX9_allRights_12 L (kq _ _ ?_)))))
  rw [show nI 0 + sumI lc (leL (cs (gMo 1)) s k) = sumI lc (leL (cs (gMo 1)) s k) from Int32.zero_add _]
  exact q
theorem c9_firstLoan (L : Lay n ad h0) (hw : WL n lc (cs (gMo 1))) {X : Int32 → Hp → Prop} (q : X (oI (flN (cs (gMo 1)) s k lc)) (HN h0 ad cs pm)) : CKi mX9_firstLoan 3 0 0 [some (.ref (ad (gMo 0))), some (.int (nI s)), some (.int (nI k)), none, none, none, none] (HN h0 ad cs pm) X := by
  intro Qc kq
  have hw' := hw
  obtain ⟨w1, w2, w3⟩ := hw
  have key : ∀ i, i ≤ lc → Wm mX9_firstLoan 3 0 0 Qc 5 [some (.ref (ad (gMo 0))), some (.int (nI s)), some (.int (nI k)), some (.int (oI (flN (cs (gMo 1)) s k i))), some (.int (nI i)), none, none] [] (HN h0 ad cs pm) 0 0 := by
    refine loopU lc _ ?_ ?_
    · refine tX9_firstLoan_5 L ⟨fun _ => kq _ _ q, fun c => absurd ?_ c⟩
      rw [w1]; exact nI_le (Nat.le_refl lc) (by omega)
    · intro i hi ih
      have hli : lnA i + 5 ≤ 60 := by unfold lnA; omega
      rw [← nI_add i 1] at ih
      have keep : flN (cs (gMo 1)) s k (i + 1) = flN (cs (gMo 1)) s k i → Wm mX9_firstLoan 3 0 0 Qc 102 [some (.ref (ad (gMo 0))), some (.int (nI s)), some (.int (nI k)), some (.int (oI (flN (cs (gMo 1)) s k i))), some (.int (nI i)), none, none] [] (HN h0 ad cs pm) 0 0 := by
        intro e
        rw [e] at ih
        exact tX9_firstLoan_102 L ih
      have take : flN (cs (gMo 1)) s k (i + 1) = some i → Wm mX9_firstLoan 3 0 0 Qc 97 [some (.ref (ad (gMo 0))), some (.int (nI s)), some (.int (nI k)), none, some (.int (nI i)), none, none] [] (HN h0 ad cs pm) 0 0 := by
        intro e
        rw [e] at ih
        exact tX9_firstLoan_97 L ih
      refine tX9_firstLoan_5 L ⟨fun c => absurd c ?_, fun _ => c9_loanAt L (tX9_firstLoan_21 L ⟨lnA i + 1, nI_add _ _, by omega, fun c => tX9_firstLoan_62 L (keep ?_), fun c => ⟨lnA i + 2, nI_add _ _, by omega, fun c2 => tX9_firstLoan_62 L (keep ?_), fun c2 => c9_restOf L hw' hi (tX9_firstLoan_55 L ⟨fun c3 => tX9_firstLoan_62 L (keep ?_), fun c3 => ⟨fun c4 => take ?_, fun c4 => ?_⟩⟩)⟩⟩)⟩
      · rw [w1]; exact nI_ge hi (by omega)
      · simp [flN, c]
      · simp [flN, c2]
      · simp [flN, c3]
      · cases e : flN (cs (gMo 1)) s k i with
        | none => simp [flN, c, c2, c3, e]
        | some b =>
          rw [e] at c4
          exact absurd c4 (nI_pos (by have := flN_lt e; omega))
      · cases e : flN (cs (gMo 1)) s k i with
        | none => rw [e] at c4; exact absurd (by decide) c4
        | some b =>
          have hbl := flN_lt e
          rw [e] at keep
          refine ⟨lnA i + 4, nI_add _ _, by omega, c9_loanAt L (tX9_firstLoan_91 L ⟨lnA b + 4, nI_add _ _, by unfold lnA; omega, fun c5 => keep ?_, fun c5 => take ?_⟩)⟩
          · simp [flN, c, c2, c3, e, c5]
          · simp only [flN, c, c2, c3, e, c5, not_false_iff, and_self, if_true]
  exact tX9_firstLoan_0 L (key 0 (Nat.zero_le _))
theorem c9_in (L : Lay n ad h0) {x y z : Int32} {X : Int32 → Hp → Prop} (q : X (bI (inB x y z)) (HN h0 ad cs pm)) : CKi mX9_in 0 0 0 [some (.int x), some (.int y), some (.int z)] (HN h0 ad cs pm) X := by
  intro Qc kq
  refine tX9_in_0 L ⟨fun c => kq _ _ ?_, fun c => ⟨fun c2 => kq _ _ ?_, fun c2 => kq _ _ ?_⟩⟩
  · rw [show inB x y z = false by simp [inB, Int32.not_le.mpr c]] at q; exact q
  · rw [show inB x y z = false by simp [inB, Int32.not_le.mpr c2]] at q; exact q
  · rw [show inB x y z = true by simp [inB, Int32.not_lt.mp c, Int32.not_lt.mp c2]] at q; exact q
end RB

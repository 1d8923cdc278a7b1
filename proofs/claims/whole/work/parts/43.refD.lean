/-! the reference: faults, acts, changes, transfers, loans, time -/
def siB (n : Nat) (x : Int32) : Bool := inB x (nI 0) (nI n - nI 1)
def kiB (x : Int32) : Bool := inB x (nI 0) (nI 1)
theorem inB_t {x lo hi : Int32} : inB x lo hi = true ↔ lo ≤ x ∧ x ≤ hi := by simp [inB, Int32.not_lt]
theorem siB_t {n : Nat} {x : Int32} (hn : 1 ≤ n ∧ n ≤ 5) (h : siB n x = true) : ∃ s, s < n ∧ x = nI s := by
  rw [siB, inB_t, pk_sub hn.1] at h
  obtain ⟨j, hj, e⟩ := nI_of2 (M := nI (n - 1)) (n := n - 1) (nI_toInt (by omega)) (Int32.not_lt.mpr h.1) h.2
  exact ⟨j, by omega, e⟩
theorem siB_n {n s : Nat} (hn : 1 ≤ n ∧ n ≤ 5) (h : s < n) : siB n (nI s) = true := by
  rw [siB, inB_t, pk_sub hn.1]
  exact ⟨nI_le (Nat.zero_le _) (by omega), nI_le (by omega) (by omega)⟩
theorem kiB_t {x : Int32} (h : kiB x = true) : ∃ k, k < 2 ∧ x = nI k := by
  rw [kiB, inB_t] at h
  obtain ⟨j, hj, e⟩ := nI_of2 (M := nI 1) (n := 1) (nI_toInt (by omega)) (Int32.not_lt.mpr h.1) h.2
  exact ⟨j, by omega, e⟩
/-- m cells of w over p from a on; cells moved down by d -/
def ovw (p : Nat → Int32) (a : Nat) (w : Nat → Int32) (m : Nat) : Nat → Int32 := fun j => if a ≤ j ∧ j < a + m then w (j - a) else p j
def shf (p : Nat → Int32) (a d e : Nat) : Nat → Int32 := fun j => if a ≤ j ∧ j < e then p (j + d) else p j
theorem ovw_0 {p w : Nat → Int32} {a : Nat} : ovw p a w 0 = p := by
  funext j; unfold ovw; rw [if_neg (by omega)]
theorem ovw_u {p w : Nat → Int32} {a i : Nat} : upd (ovw p a w i) (a + i) (w i) = ovw p a w (i + 1) := by
  funext j
  by_cases h : j = a + i
  · subst h; rw [upd_eq]; unfold ovw; rw [if_pos (by omega), Nat.add_sub_cancel_left]
  · rw [upd_ne h]
    unfold ovw
    by_cases h2 : a ≤ j ∧ j < a + i
    · rw [if_pos h2, if_pos (by omega)]
    · rw [if_neg h2, if_neg (by omega)]
theorem shf_0 {p : Nat → Int32} {a d : Nat} : shf p a d a = p := by
  funext j; unfold shf; rw [if_neg (by omega)]
theorem shf_u {p : Nat → Int32} {a d e : Nat} (h : a ≤ e) : upd (shf p a d e) e (shf p a d e (e + d)) = shf p a d (e + 1) := by
  funext j
  by_cases c : j = e
  · subst c
    rw [upd_eq]
    unfold shf
    rw [if_pos (show a ≤ j ∧ j < j + 1 by omega)]
    rw [if_neg (by omega)]
  · rw [upd_ne c]
    unfold shf
    by_cases h2 : a ≤ j ∧ j < e
    · rw [if_pos h2, if_pos (by omega)]
    · rw [if_neg h2, if_neg (by omega)]
theorem upd_upd {f : Nat → Int32} {a : Nat} {x y : Int32} : upd (upd f a x) a y = upd f a y := by
  funext j; unfold upd; by_cases h : j = a <;> simp [h]
theorem upd_comm {f : Nat → Int32} {a b : Nat} {x y : Int32} (h : a ≠ b) : upd (upd f a x) b y = upd (upd f b y) a x := by
  funext j; unfold upd; by_cases h1 : j = a <;> by_cases h2 : j = b <;> simp [h1, h2] <;> omega
def actC (c : Nat) : Nat := if c = 5 then 5 else c + 1
def actF (c : Nat) (f : Nat → Int32) : Nat → Int32 := upd f 4 (nI (actC c))
def actP (c : Nat) (v p : Nat → Int32) : Nat → Int32 := if c = 5 then ovw (shf p 0 2400 9600) 9600 v 2400 else ovw p (2400 * c) v 2400
def staV (v : Nat → Int32) (x y z : Int32) : Nat → Int32 := upd (upd (upd (ovw v 0 (fun _ => nI 0) 2400) 1 x) 2 y) 3 z
section RD
variable {n lc c : Nat} {ad : Nat → Nat} {h0 : Hp} {cs : Nat → Nat → Int32} {pm : Nat → Nat → Nat} {s o l k t : Nat} {f v p : Nat → Int32}
theorem c9_isSite (L : Lay n ad h0) (hn : cs (gMo 0) 0 = nI n) {x : Int32} {X : Int32 → Hp → Prop} (q : X (bI (siB n x)) (HN h0 ad cs pm)) : CKi mX9_isSite 1 0 0 [some (.ref (ad (gMo 0))), some (.int x)] (HN h0 ad cs pm) X := by
  intro Qc kq
  refine tX9_isSite_0 L (c9_in L (tX9_isSite_11 L ⟨bI_nar _, ?_⟩))
  rw [hn]
  exact kq _ _ q
theorem c9_isMessage (L : Lay n ad h0) {x : Int32} {X : Int32 → Hp → Prop} (q : X (bI (inB x (nI 0) (cs (gMo 1) 5 - nI 1))) (HN h0 ad cs pm)) : CKi mX9_isMessage 1 0 0 [some (.ref (ad (gMo 0))), some (.int x)] (HN h0 ad cs pm) X := by
  intro Qc kq
  exact tX9_isMessage_0 L (c9_in L (tX9_isMessage_13 L ⟨bI_nar _, kq _ _ q⟩))
theorem c9_messageAt (L : Lay n ad h0) {m : Nat} {X : Int32 → Hp → Prop} (q : X (nI (mgA m)) (HN h0 ad cs pm)) : CKi mX9_messageAt 0 0 0 [some (.int (nI m))] (HN h0 ad cs pm) X := by
  intro Qc kq
  refine tX9_messageAt_0 L ?_
  rw [show nI 900 + nI 160 * nI m = nI (mgA m) by simp only [nI_add, pk_mul]; rfl]
  exact kq _ _ q
theorem c9_act (L : Lay n ad h0) (hc : f 4 = nI c) (h5 : c ≤ 5) {X : Hp → Prop} (q : X (HN h0 ad (mS cs (actF c f) v (actP c v p)) pm)) : CKv mX9_act 0 0 0 [some (.ref (ad (gMo 0))), none] (HN h0 ad (mS cs f v p) pm) X := by
  intro Qc kq
  have fill : ∀ (g p0 : Nat → Int32) (c0 : Nat), c0 < 5 → g 4 = nI c0 → X (HN h0 ad (mS cs (upd g 4 (nI (c0 + 1))) v (ovw p0 (2400 * c0) v 2400)) pm) → Wm mX9_act 0 0 0 Qc 49 [some (.ref (ad (gMo 0))), none] [] (HN h0 ad (mS cs g v p0) pm) 0 0 := by
    intro g p0 c0 h1 h2 q2
    have key : ∀ i, i ≤ 2400 → Wm mX9_act 0 0 0 Qc 51 [some (.ref (ad (gMo 0))), some (.int (nI i))] [] (HN h0 ad (mS cs g v (ovw p0 (2400 * c0) v i)) pm) 0 0 := by
      refine loopU 2400 _ ?_ ?_
      · refine tX9_act_51 L ⟨fun _ => ?_, fun c => absurd (nI_le (Nat.le_refl _) (by omega)) c⟩
        rw [mS_0, mS_u0, h2, nI_add]
        exact kq _ q2
      · intro i hi ih
        refine tX9_act_51 L ⟨fun c => absurd c (nI_ge hi (by omega)), fun _ => ⟨i, rfl, hi, 2400 * c0 + i, ?_, by omega, ?_⟩⟩
        · rw [mS_0, h2]; simp only [nI_add, pk_mul]
        · rw [mS_1, mS_u2, ovw_u, nI_add]; exact ih
    have k0 := key 0 (Nat.zero_le _)
    rw [ovw_0] at k0
    exact tX9_act_49 L k0
  refine tX9_act_0 L ⟨fun h => ?_, fun h => ?_⟩
  · rw [mS_0, hc, nI_inj5 (by omega) (by omega)] at h
    refine fill f p c (by omega) hc ?_
    simp only [actF, actC, actP, if_neg h] at q
    exact q
  · rw [mS_0, hc, nI_inj5 (by omega) (by omega)] at h
    subst h
    have key : ∀ i, i ≤ 9600 → Wm mX9_act 0 0 0 Qc 10 [some (.ref (ad (gMo 0))), some (.int (nI i))] [] (HN h0 ad (mS cs f v (shf p 0 2400 i)) pm) 0 0 := by
      refine loopU 9600 _ ?_ ?_
      · refine tX9_act_10 L ⟨fun _ => ?_, fun c => absurd (nI_le (Nat.le_refl _) (by omega)) c⟩
        rw [mS_0, mS_u0, hc]
        refine fill _ _ 4 (by omega) (by rw [upd_eq]; decide) ?_
        rw [upd_upd]
        simp only [actF, actC, actP, if_true] at q
        exact q
      · intro i hi ih
        refine tX9_act_10 L ⟨fun c => absurd c (nI_ge hi (by omega)), fun _ => ⟨i + 2400, nI_add _ _, by omega, i, rfl, by omega, ?_⟩⟩
        rw [mS_2, mS_u2, shf_u (Nat.zero_le _), nI_add]; exact ih
    have k0 := key 0 (Nat.zero_le _)
    rw [shf_0] at k0
    exact k0
theorem c9_starts (L : Lay n ad h0) {x y z : Int32} {X : Hp → Prop} (q : X (HN h0 ad (mS cs (upd f 4 (nI 0)) (staV v x y z) p) pm)) : CKv mX9_starts 0 0 0 [some (.ref (ad (gMo 0))), some (.int x), some (.int y), some (.int z), none] (HN h0 ad (mS cs f v p) pm) X := by
  intro Qc kq
  have key : ∀ i, i ≤ 2400 → Wm mX9_starts 0 0 0 Qc 3 [some (.ref (ad (gMo 0))), some (.int x), some (.int y), some (.int z), some (.int (nI i))] [] (HN h0 ad (mS cs f (ovw v 0 (fun _ => nI 0) i) p) pm) 0 0 := by
    refine loopU 2400 _ ?_ ?_
    · refine tX9_starts_3 L ⟨fun _ => ?_, fun c => absurd (nI_le (Nat.le_refl _) (by omega)) c⟩
      rw [mS_u1, mS_u1, mS_u1, mS_u0]
      exact kq _ q
    · intro i hi ih
      refine tX9_starts_3 L ⟨fun c => absurd c (nI_ge hi (by omega)), fun _ => ⟨i, rfl, hi, ?_⟩⟩
      have e := ovw_u (p := v) (w := fun _ => nI 0) (a := 0) (i := i)
      rw [Nat.zero_add] at e
      rw [mS_u1, e, nI_add]
      exact ih
  have k0 := key 0 (Nat.zero_le _)
  rw [ovw_0] at k0
  exact tX9_starts_0 L k0
/-- a site, another one, a kind -/
def wpF (n : Nat) (k a b : Int32) (r : Bool) : Nat := if siB n a = false ∨ siB n b = false ∨ kiB k = false then 1 else if a = b ∨ r = false then 2 else 0
theorem c9_wrongPair (L : Lay n ad h0) (hn : cs (gMo 0) 0 = nI n) {a b x : Int32} {r : Bool} {X : Int32 → Hp → Prop} (q : X (nI (wpF n x a b r)) (HN h0 ad cs pm)) : CKi mX9_wrongPair 2 0 0 [some (.ref (ad (gMo 0))), some (.int x), some (.int a), some (.int b), some (.int (bI r))] (HN h0 ad cs pm) X := by
  intro Qc kq
  refine tX9_wrongPair_0 L (c9_isSite L hn (tX9_wrongPair_5 L ⟨fun h => ?_, fun h => c9_isSite L hn (tX9_wrongPair_13 L ⟨fun h2 => ?_, fun h2 => c9_in L (tX9_wrongPair_22 L ⟨fun h3 => ⟨fun h4 => ?_, fun h4 => ⟨fun h5 => ?_, fun h5 => ?_⟩⟩, fun h3 => ?_⟩)⟩)⟩))
  all_goals rw [bI_z] at h
  · refine kq _ _ ?_; simp only [wpF, h, true_or, if_true] at q; exact q
  · rw [bI_z] at h2; refine kq _ _ ?_; simp only [wpF, h2, true_or, or_true, if_true] at q; exact q
  · rw [bI_z] at h2 h3
    have h3' : ¬ kiB x = false := h3
    refine kq _ _ ?_; simp only [wpF, h, h2, h3', h4, true_or, or_self, if_true, if_false] at q; exact q
  · rw [bI_z] at h2 h3 h5
    have h3' : ¬ kiB x = false := h3
    refine kq _ _ ?_; simp only [wpF, h, h2, h3', h4, h5, or_self, if_false] at q; exact q
  · rw [bI_z] at h2 h3 h5
    have h3' : ¬ kiB x = false := h3
    refine kq _ _ ?_; simp only [wpF, h, h2, h3', h4, h5, or_self, or_true, if_true, if_false] at q; exact q
  · rw [bI_z] at h2 h3
    have h3' : kiB x = false := h3
    refine kq _ _ ?_; simp only [wpF, h3', or_true, if_true] at q; exact q
/-- a change -/
def chF (n : Nat) (a x : Int32) : Nat := if siB n a = false then 1 else if inB x (nI 1) (nI 999) = false then 2 else 0
theorem c9_change (L : Lay n ad h0) (hn : f 0 = nI n) (hc : f 4 = nI c) (h5 : c ≤ 5) (hw : WL n lc v) (hk : k < 2) {a x : Int32} (he : ∀ s, s < n → a = nI s → inB x (nI 1) (nI 999) = true → x - avl n lc v s k ≤ 0 → usE lc s k lc v x) {X : Int32 → Hp → Prop} (q0 : ∀ s, s < n → a = nI s → inB x (nI 1) (nI 999) = true → X (bI (chB n lc v s k x)) (HN h0 ad (mS cs (actF c (upd f 7 (nI 0))) (chV n lc v s k x) (actP c v p)) pm)) (q1 : chF n a x ≠ 0 → X (nI 0) (HN h0 ad (mS cs (upd f 7 (nI (chF n a x))) v p) pm)) : CKi mX9_change 6 0 0 [some (.ref (ad (gMo 0))), some (.int a), some (.int (nI k)), some (.int x)] (HN h0 ad (mS cs f v p) pm) X := by
  intro Qc kq
  have hb := L.1
  refine tX9_change_0 L (c9_isSite L (by rw [mS_0]; exact hn) (tX9_change_6 L ⟨fun h => c9_in L (tX9_change_21 L ⟨fun h2 => ?_, fun h2 => ?_⟩), fun h => ?_⟩))
  · rw [bI_z] at h h2
    rw [mS_u0]
    have h' : siB n a = true := by simpa using h
    have h2' : inB x (nI 1) (nI 999) = true := by simpa using h2
    obtain ⟨s, hs, rfl⟩ := siB_t (by omega) h'
    refine c9_act (c := c) L (by rw [upd_ne (by omega)]; exact hc) h5 (tX9_change_45 L (c9_uses (lc := lc) L (by rw [actF, upd_ne (by omega), upd_ne (by omega)]; exact hn) hw hs hk (he s hs rfl h2') (tX9_change_52 L ⟨bI_nar _, kq _ _ (q0 s hs rfl h2')⟩)))
  · rw [bI_z] at h h2
    rw [mS_u0]
    have e : chF n a x = 2 := by simp [chF, h, h2]
    rw [e] at q1
    exact kq _ _ (q1 (by omega))
  · rw [bI_z] at h
    rw [mS_u0]
    have e : chF n a x = 1 := by simp [chF, h]
    rw [e] at q1
    exact kq _ _ (q1 (by omega))
end RD

/-! the reference writes: its object's fields f, its row v, its past p -/
def mS (cs : Nat → Nat → Int32) (f v p : Nat → Int32) : Nat → Nat → Int32 := fun g => if g = gMo 0 then f else if g = gMo 1 then v else if g = gMo 2 then p else cs g
section MS
variable {cs : Nat → Nat → Int32} {f v p : Nat → Int32} {g j : Nat} {x : Int32}
theorem mS_0 : mS cs f v p (gMo 0) = f := by simp [mS]
theorem mS_1 : mS cs f v p (gMo 1) = v := by simp [mS, gMo]
theorem mS_2 : mS cs f v p (gMo 2) = p := by simp [mS, gMo]
theorem mS_o (h0 : g ≠ gMo 0) (h1 : g ≠ gMo 1) (h2 : g ≠ gMo 2) : mS cs f v p g = cs g := by simp [mS, h0, h1, h2]
theorem mS_self : mS cs (cs (gMo 0)) (cs (gMo 1)) (cs (gMo 2)) = cs := by
  funext g
  unfold mS
  split
  · next h => rw [h]
  · split
    · next h => rw [h]
    · split
      · next h => rw [h]
      · rfl
theorem mS_u0 : up2 (mS cs f v p) (gMo 0) j x = mS cs (upd f j x) v p := by
  rw [up2_seR, mS_0]
  funext g i
  by_cases h : g = gMo 0 <;> simp [seR, mS, h]
theorem mS_u1 : up2 (mS cs f v p) (gMo 1) j x = mS cs f (upd v j x) p := by
  rw [up2_seR, mS_1]
  funext g i
  by_cases h : g = gMo 0
  · subst h; simp [seR, mS, gMo]
  · by_cases h1 : g = gMo 1 <;> simp [seR, mS, h, h1]
    simp [gMo]
theorem mS_u2 : up2 (mS cs f v p) (gMo 2) j x = mS cs f v (upd p j x) := by
  rw [up2_seR, mS_2]
  funext g i
  by_cases h : g = gMo 0
  · subst h; simp [seR, mS, gMo]
  · by_cases h1 : g = gMo 1
    · subst h1; simp [seR, mS, gMo]
    · by_cases h2 : g = gMo 2 <;> simp [seR, mS, h, h1, h2]
      simp [gMo]
end MS
def chgV (v : Nat → Int32) (s : Nat) : Nat → Int32 := upd v (rcA s s) (v (rcA s s) + nI 1)
def givV (v : Nat → Int32) (k s t : Nat) (x : Int32) : Nat → Int32 := chgV (upd v (rcA s s + 4 + 5 * k + t) (v (rcA s s + 4 + 5 * k + t) + x)) s
def demV (v : Nat → Int32) (k s : Nat) (x : Int32) : Nat → Int32 := chgV (upd v (rcA s s + 14 + k) (if v (rcA s s + 14 + k) + x ≤ nI 100000 then v (rcA s s + 14 + k) + x else nI 100000)) s
def prt (v : Nat → Int32) (l : Nat) (left : Int32) : Int32 := if left ≤ reL v l then left else reL v l
def usS (v : Nat → Int32) (s l : Nat) (x : Int32) : Nat → Int32 := upd v (rcA s s + 17 + l) (v (rcA s s + 17 + l) + x)
def usR (lc s k : Nat) : Nat → (Nat → Int32) → Int32 → (Nat → Int32)
  | 0, v, _ => v
  | i + 1, v, left => match flN v s k lc with
    | none => v
    | some l => if left ≤ 0 then v else usR lc s k i (usS v s l (prt v l left)) (left - prt v l left)
def usE (lc s k : Nat) : Nat → (Nat → Int32) → Int32 → Prop
  | 0, v, left => flN v s k lc = none ∨ left ≤ 0
  | i + 1, v, left => match flN v s k lc with
    | none => True
    | some l => left ≤ 0 ∨ usE lc s k i (usS v s l (prt v l left)) (left - prt v l left)
def donV (v : Nat → Int32) (k s : Nat) (x : Int32) : Nat → Int32 := chgV (upd v (rcA s s + 2 + k) (v (rcA s s + 2 + k) + x)) s
/-- a change: whether it is done, and the row then -/
def chB (n lc : Nat) (v : Nat → Int32) (s k : Nat) (x : Int32) : Bool := decide (x - avl n lc v s k ≤ 0)
def chV (n lc : Nat) (v : Nat → Int32) (s k : Nat) (x : Int32) : Nat → Int32 := if x - avl n lc v s k ≤ 0 then donV (usR lc s k lc v x) k s x else demV v k s (x - avl n lc v s k)
theorem upd_ne {f : Nat → Int32} {a j : Nat} {x : Int32} (h : j ≠ a) : upd f a x j = f j := by simp [upd, h]
theorem upd_eq {f : Nat → Int32} {a : Nat} {x : Int32} : upd f a x a = x := by simp [upd]
theorem la_upd {v : Nat → Int32} {a : Nat} {x : Int32} {l : Nat} (h : a ≠ lnA l) : la (upd v a x) l = la v l := by unfold la; rw [upd_ne (Ne.symm h)]
theorem lb_upd {v : Nat → Int32} {a : Nat} {x : Int32} {l : Nat} (h : a ≠ lnA l + 1) : lb (upd v a x) l = lb v l := by unfold lb; rw [upd_ne (Ne.symm h)]
/-- a write behind the loans keeps them in order -/
theorem WL.upd {n lc : Nat} {v : Nat → Int32} (h : WL n lc v) {a : Nat} (ha : 60 ≤ a) (x : Int32) : WL n lc (upd v a x) := by
  obtain ⟨w1, w2, w3⟩ := h
  refine ⟨by rw [upd_ne (by omega)]; exact w1, w2, fun l hl => ?_⟩
  have hli : lnA l + 5 ≤ 60 := by unfold lnA; omega
  rw [la_upd (by omega), lb_upd (by omega), upd_ne (by omega), upd_ne (by omega), upd_ne (by omega)]
  exact w3 l hl
theorem rcA_ge (s o : Nat) : 60 ≤ rcA s o := by unfold rcA; omega
section RC2
variable {n lc : Nat} {ad : Nat → Nat} {h0 : Hp} {cs : Nat → Nat → Int32} {pm : Nat → Nat → Nat} {s o l k t : Nat} {f v p : Nat → Int32}
theorem c9_changed (L : Lay n ad h0) (hs : s < n) {X : Hp → Prop} (q : X (HN h0 ad (mS cs f (chgV v s) p) pm)) : CKv mX9_changed 2 0 0 [some (.ref (ad (gMo 0))), some (.int (nI s))] (HN h0 ad (mS cs f v p) pm) X := by
  intro Qc kq
  have hb := L.1
  refine tX9_changed_0 L (c9_mineAt L (tX9_changed_9 L ⟨rcA s s, nI_add _ _, by unfold rcA; omega, ?_⟩))
  rw [mS_1, mS_u1]
  exact kq _ q
theorem c9_gives (L : Lay n ad h0) (hs : s < n) (ht : t < n) (hk : k < 2) {x : Int32} {X : Hp → Prop} (q : X (HN h0 ad (mS cs f (givV v k s t x) p) pm)) : CKv mX9_gives 3 0 0 [some (.ref (ad (gMo 0))), some (.int (nI k)), some (.int (nI s)), some (.int (nI t)), some (.int x)] (HN h0 ad (mS cs f v p) pm) X := by
  intro Qc kq
  have hb := L.1
  refine tX9_gives_0 L (c9_mineAt L (tX9_gives_9 L ⟨rcA s s + 4 + 5 * k + t, by simp only [nI_add, pk_mul], by unfold rcA; omega, ?_⟩))
  rw [mS_1, mS_u1]
  exact c9_changed L hs (tX9_gives_28 L (kq _ q))
theorem c9_fails (L : Lay n ad h0) {x : Int32} {X : Int32 → Hp → Prop} (q : X (nI 0) (HN h0 ad (mS cs (upd f 7 x) v p) pm)) : CKi mX9_fails 0 0 0 [some (.ref (ad (gMo 0))), some (.int x)] (HN h0 ad (mS cs f v p) pm) X := by
  intro Qc kq
  refine tX9_fails_0 L ?_
  rw [mS_u0]
  exact kq _ _ q
theorem c9_uses (L : Lay n ad h0) (hn : f 0 = nI n) (hw : WL n lc v) (hs : s < n) (hk : k < 2) {x : Int32} (he : x - avl n lc v s k ≤ 0 → usE lc s k lc v x) {X : Int32 → Hp → Prop} (q : X (bI (chB n lc v s k x)) (HN h0 ad (mS cs f (chV n lc v s k x) p) pm)) : CKi mX9_uses 5 0 0 [some (.ref (ad (gMo 0))), some (.int (nI s)), some (.int (nI k)), some (.int x), none, none, none, none] (HN h0 ad (mS cs f v p) pm) X := by
  intro Qc kq
  have hb := L.1
  have hr : rcA s s + 30 ≤ 900 := by unfold rcA; omega
  have hr2 := rcA_ge s s
  refine tX9_uses_0 L (c9_allRights L (by rw [mS_0]; exact hn) (by rw [mS_1]; exact hw) hs hk ?_)
  rw [mS_1]
  refine tX9_uses_7 L ⟨fun c => ?_, fun c => ?_⟩
  · have hd : chB n lc v s k x = true := by simp [chB, c]
    have hV : chV n lc v s k x = donV (usR lc s k lc v x) k s x := by simp [chV, c]
    rw [hd, hV] at q
    have ez : nI k = 0 ↔ k = 0 := by rw [← nIz]; exact nI_inj5 (by omega) (by omega)
    have stop : ∀ w : Nat → Int32, X (bI true) (HN h0 ad (mS cs f (donV w k s x) p) pm) → Wm mX9_uses 5 0 0 Qc 155 [some (.ref (ad (gMo 0))), some (.int (nI s)), some (.int (nI k)), some (.int x), none, none, none, none] [] (HN h0 ad (mS cs f w p) pm) 0 0 := by
      intro w qw
      refine tX9_uses_155 L (c9_mineAt L (tX9_uses_164 L ⟨fun c2 => ⟨rcA s s + 3, nI_add _ _, by omega, ?_⟩, fun c2 => ⟨rcA s s + 2, nI_add _ _, by omega, ?_⟩⟩))
      · rw [ez] at c2
        have hk1 : k = 1 := by omega
        subst hk1
        rw [mS_1, mS_u1]
        exact c9_changed L hs (tX9_uses_184 L (kq _ _ qw))
      · rw [ez] at c2
        subst c2
        rw [mS_1, mS_u1]
        exact c9_changed L hs (tX9_uses_184 L (kq _ _ qw))
    have loop : ∀ (i : Nat) (w : Nat → Int32) (left : Int32), WL n lc w → usE lc s k i w left → X (bI true) (HN h0 ad (mS cs f (donV (usR lc s k i w left) k s x) p) pm) → Wm mX9_uses 5 0 0 Qc 82 [some (.ref (ad (gMo 0))), some (.int (nI s)), some (.int (nI k)), some (.int x), none, some (.int left), some (.int (oI (flN w s k lc))), none] [] (HN h0 ad (mS cs f w p) pm) 0 0 := by
      intro i
      induction i with
      | zero =>
        intro w left hw2 hE qw
        refine tX9_uses_82 L ⟨fun _ => stop w qw, fun c2 => ⟨fun _ => stop w qw, fun c3 => ?_⟩⟩
        rcases hE with e | e
        · rw [e] at c2; exact absurd (by decide) c2
        · exact absurd e c3
      | succ i ih =>
        intro w left hw2 hE qw
        cases e : flN w s k lc with
        | none =>
          simp only [usR, e] at qw
          exact tX9_uses_82 L ⟨fun _ => stop w qw, fun c2 => absurd (by decide) c2⟩
        | some l9 =>
          have hl9 := flN_lt e
          have hw2' := hw2
          obtain ⟨w1, w2, w3⟩ := hw2'
          simp only [usR, e] at qw
          simp only [usE, e] at hE
          refine tX9_uses_82 L ⟨fun c2 => absurd c2 (nI_pos (by omega)), fun c2 => ⟨fun c3 => stop w (by simpa only [c3, if_true] using qw), fun c3 => ?_⟩⟩
          rw [if_neg c3] at qw
          have hE2 := hE.resolve_left c3
          have nxt : ∀ y : Int32, y = prt w l9 left → Wm mX9_uses 5 0 0 Qc 125 [some (.ref (ad (gMo 0))), some (.int (nI s)), some (.int (nI k)), some (.int x), none, some (.int left), some (.int (nI l9)), some (.int y)] [.int (nI (rcA s s)), .ref (ad (gMo 1))] (HN h0 ad (mS cs f w p) pm) 0 0 := by
            intro y ey
            subst ey
            refine tX9_uses_125 L ⟨rcA s s + 17 + l9, by simp only [nI_add], by omega, ?_⟩
            rw [mS_1, mS_u1]
            refine c9_firstLoan (lc := lc) L (by rw [mS_1]; exact hw2.upd (by omega) _) ?_
            rw [mS_1]
            exact tX9_uses_150 L (ih _ _ (hw2.upd (by omega) _) hE2 qw)
          refine c9_restOf L (by rw [mS_1]; exact hw2) hl9 (tX9_uses_98 L ⟨fun c4 => c9_mineAt L (nxt _ ?_), fun c4 => c9_restOf L (by rw [mS_1]; exact hw2) hl9 (tX9_uses_109 L (c9_mineAt L (nxt _ ?_)))⟩)
          · rw [mS_1] at c4; simp [prt, c4]
          · rw [mS_1] at c4; rw [mS_1]; simp [prt, c4]
    refine c9_firstLoan (lc := lc) L (by rw [mS_1]; exact hw) (tX9_uses_80 L ?_)
    rw [mS_1]
    exact loop lc v x hw (he c) q
  · have hd : chB n lc v s k x = false := by simp [chB, c]
    have hV : chV n lc v s k x = demV v k s (x - avl n lc v s k) := by simp [chV, c]
    rw [hd, hV] at q
    refine c9_mineAt L (tX9_uses_24 L ⟨rcA s s + 14 + k, by simp only [nI_add], by omega, c9_mineAt L ?_⟩)
    rw [mS_1]
    refine tX9_uses_44 L ⟨fun c2 => ⟨rcA s s + 14 + k, by simp only [nI_add], by omega, ?_⟩, fun c2 => ⟨rcA s s + 14 + k, by simp only [nI_add], by omega, ?_⟩⟩
    · rw [mS_u1]
      refine c9_changed L hs (tX9_uses_69 L (kq _ _ ?_))
      simp only [demV, c2, if_true] at q
      exact q
    · rw [mS_u1]
      refine c9_changed L hs (tX9_uses_69 L (kq _ _ ?_))
      simp only [demV, c2, if_false] at q
      exact q
end RC2

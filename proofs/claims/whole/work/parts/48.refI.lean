/-! scripts: the text as commands, and how the reference reads it -/
def sg (tx : Nat → Int32) (ty i : Nat) : Int32 := if i < ty then tx i else -1
def dgB (x : Int32) : Bool := inB x (nI 48) (nI 57)
def nmR (tx : Nat → Int32) (ty : Nat) : Nat → Nat → Int32 → Nat × Int32
  | 0, i, x => (i, x)
  | g + 1, i, x => if dgB (sg tx ty i) = true then nmR tx ty g (i + 1) (nI 10 * x + sg tx ty i - nI 48) else (i, x)
def isK (c : Int32) : Bool := decide (c = nI 43) || (decide (c = nI 45) || (decide (c = nI 117) || (decide (c = nI 100) || (decide (c = nI 109) || decide (c = nI 116)))))
def twK (c : Int32) : Bool := decide (c = nI 117) || (decide (c = nI 100) || decide (c = nI 109))
def pC (tx : Nat → Int32) (ty i : Nat) : Bool × Nat × Int32 × Int32 × Int32 × Int32 :=
  if isK (sg tx ty i) = false then (false, i, 0, 0, 0, 0)
  else if sg tx ty i = nI 116 then (decide (i + 1 < (nmR tx ty 3 (i + 1) (nI 0)).1), (nmR tx ty 3 (i + 1) (nI 0)).1, sg tx ty i, 0, 0, (nmR tx ty 3 (i + 1) (nI 0)).2)
  else if dgB (sg tx ty (i + 1)) = false then (false, i + 1, 0, 0, 0, 0)
  else if twK (sg tx ty i) = true then
    (if ¬ sg tx ty (i + 2) = nI 62 then (false, i + 2, 0, 0, 0, 0)
     else if dgB (sg tx ty (i + 3)) = false then (false, i + 3, 0, 0, 0, 0)
     else if sg tx ty i = nI 109 then (true, i + 4, sg tx ty i, sg tx ty (i + 1) - nI 48, sg tx ty (i + 3) - nI 48, 0)
     else if ¬ sg tx ty (i + 4) = nI 58 then (false, i + 4, 0, 0, 0, 0)
     else (decide (i + 5 < (nmR tx ty 3 (i + 5) (nI 0)).1), (nmR tx ty 3 (i + 5) (nI 0)).1, sg tx ty i, sg tx ty (i + 1) - nI 48, sg tx ty (i + 3) - nI 48, (nmR tx ty 3 (i + 5) (nI 0)).2))
  else if ¬ sg tx ty (i + 2) = nI 58 then (false, i + 2, 0, 0, 0, 0)
  else (decide (i + 3 < (nmR tx ty 3 (i + 3) (nI 0)).1), (nmR tx ty 3 (i + 3) (nI 0)).1, sg tx ty i, sg tx ty (i + 1) - nI 48, 0, (nmR tx ty 3 (i + 3) (nI 0)).2)
def RdF (ci : Nat) (cs cs' : Nat → Nat → Int32) (f f' : Nat → Int32) : Prop := (∀ g, (g < gMo 5 ∨ gMo 8 < g) → cs' g = cs g) ∧ (∀ g j, j ≠ ci → cs' g j = cs g j) ∧ (∀ j, j ≠ 8 → j ≠ 14 → f' j = f j)
theorem RdF.refl {ci : Nat} {cs : Nat → Nat → Int32} {f : Nat → Int32} : RdF ci cs cs f f := ⟨fun _ _ => rfl, fun _ _ _ => rfl, fun _ _ _ => rfl⟩
theorem RdF.up {ci : Nat} {cs cs' : Nat → Nat → Int32} {f f' : Nat → Int32} (h : RdF ci cs cs' f f') {g : Nat} {x : Int32} (h1 : gMo 5 ≤ g) (h2 : g ≤ gMo 8) : RdF ci cs (up2 cs' g ci x) f f' := by
  obtain ⟨a, b, c⟩ := h
  refine ⟨fun g' hg => ?_, fun g' j hj => ?_, c⟩
  · rw [← a g' hg]
    funext j
    simp only [up2]
    rw [if_neg (by omega)]
  · rw [← b g' j hj]
    simp only [up2]
    rw [if_neg (by omega)]
theorem RdF.f8 {ci : Nat} {cs cs' : Nat → Nat → Int32} {f f' : Nat → Int32} (h : RdF ci cs cs' f f') {x : Int32} : RdF ci cs cs' f (upd f' 8 x) := by
  obtain ⟨a, b, c⟩ := h
  exact ⟨a, b, fun j h1 h2 => by rw [upd_ne h1]; exact c j h1 h2⟩
theorem RdF.f14 {ci : Nat} {cs cs' : Nat → Nat → Int32} {f f' : Nat → Int32} (h : RdF ci cs cs' f f') {x : Int32} : RdF ci cs cs' f (upd f' 14 x) := by
  obtain ⟨a, b, c⟩ := h
  exact ⟨a, b, fun j h1 h2 => by rw [upd_ne h2]; exact c j h1 h2⟩
/-- command ci of the reference is r -/
def GC (ci : Nat) (cs : Nat → Nat → Int32) (r : Bool × Nat × Int32 × Int32 × Int32 × Int32) : Prop := cs (gMo 5) ci = r.2.2.1 ∧ (r.2.2.1 ≠ nI 116 → cs (gMo 6) ci = r.2.2.2.1) ∧ (twK r.2.2.1 = true → cs (gMo 7) ci = r.2.2.2.2.1) ∧ (r.2.2.1 ≠ nI 109 → cs (gMo 8) ci = r.2.2.2.2.2)
theorem u2s {cs : Nat → Nat → Int32} {g j : Nat} {x : Int32} : up2 cs g j x g j = x := by simp [up2]
theorem u2n {cs : Nat → Nat → Int32} {g j g' j' : Nat} {x : Int32} (h : g' ≠ g) : up2 cs g j x g' j' = cs g' j' := by simp [up2, h]
theorem nmR_ge {tx : Nat → Int32} {ty : Nat} : ∀ (g i : Nat) (x : Int32), i ≤ (nmR tx ty g i x).1 ∧ (nmR tx ty g i x).1 ≤ i + g
  | 0, i, x => by simp [nmR]
  | g + 1, i, x => by
    rw [nmR]
    split
    · have := nmR_ge (tx := tx) (ty := ty) g (i + 1) (nI 10 * x + sg tx ty i - nI 48)
      omega
    · simp
section RI
variable {n c i ci ty : Nat} {ad : Nat → Nat} {h0 : Hp} {cs : Nat → Nat → Int32} {pm : Nat → Nat → Nat} {f v p : Nat → Int32}
theorem c9_sign (L : Lay n ad h0) (h8 : f 8 = nI i) (hi : i < 1000) (h6 : f 6 = nI ty) (hty : ty ≤ 60) {X : Int32 → Hp → Prop} (q : X (sg (cs (gMo 4)) ty i) (HN h0 ad (mS cs f v p) pm)) : CKi mX9_sign 0 0 0 [some (.ref (ad (gMo 0)))] (HN h0 ad (mS cs f v p) pm) X := by
  intro Qc kq
  refine tX9_sign_0 L ?_
  rw [mS_0, h8, h6, nI_leI (by omega) (by omega)]
  refine ⟨fun h => kq _ _ ?_, fun h => ⟨i, rfl, by omega, kq _ _ ?_⟩⟩
  · rw [sg, if_neg (by omega)] at q; exact q
  · rw [sg, if_pos (by omega)] at q
    rw [mS_o (by simp [gMo]) (by simp [gMo]) (by simp [gMo])]
    exact q
theorem c9_takes (L : Lay n ad h0) (h8 : f 8 = nI i) (hi : i < 1000) (h6 : f 6 = nI ty) (hty : ty ≤ 60) {x : Int32} {X : Int32 → Hp → Prop} (q0 : sg (cs (gMo 4)) ty i = x → X (nI 1) (HN h0 ad (mS cs (upd f 8 (nI (i + 1))) v p) pm)) (q1 : ¬ sg (cs (gMo 4)) ty i = x → X (nI 0) (HN h0 ad (mS cs (upd f 8 (nI i)) v p) pm)) : CKi mX9_takes 1 0 0 [some (.ref (ad (gMo 0))), some (.int x), none] (HN h0 ad (mS cs f v p) pm) X := by
  intro Qc kq
  refine tX9_takes_0 L (c9_sign L h8 hi h6 hty (tX9_takes_4 L ⟨fun h => ?_, fun h => ?_⟩))
  · rw [mS_0, mS_u0, h8, nI_add]; exact kq _ _ (q1 h)
  · rw [mS_0, mS_u0, h8, nI_add]; exact kq _ _ (q0 h)
theorem c9_readsSite (L : Lay n ad h0) (h8 : f 8 = nI i) (hi : i < 1000) (h6 : f 6 = nI ty) (hty : ty ≤ 60) {X : Int32 → Hp → Prop} (q0 : dgB (sg (cs (gMo 4)) ty i) = true → X (nI 1) (HN h0 ad (mS cs (upd (upd f 14 (sg (cs (gMo 4)) ty i - nI 48)) 8 (nI (i + 1))) v p) pm)) (q1 : dgB (sg (cs (gMo 4)) ty i) = false → X (nI 0) (HN h0 ad (mS cs (upd (upd f 14 (nI 0)) 8 (nI i)) v p) pm)) : CKi mX9_readsSite 1 0 0 [some (.ref (ad (gMo 0))), none] (HN h0 ad (mS cs f v p) pm) X := by
  intro Qc kq
  refine tX9_readsSite_0 L (c9_sign L h8 hi h6 hty (tX9_readsSite_4 L (c9_in L (tX9_readsSite_11 L ⟨fun h => ⟨fun _ => ⟨bI_nar _, ?_⟩, fun h2 => absurd h h2⟩, fun h => c9_sign L h8 hi h6 hty (tX9_readsSite_21 L ⟨fun h2 => absurd h2 h, fun _ => ⟨bI_nar _, ?_⟩⟩)⟩))))
  · rw [bI_z] at h
    have q1 := q1 h
    rw [mS_0, mS_u0, mS_u0, h8, nI_add, h]
    exact kq _ _ q1
  · rw [bI_z] at h
    have h' : inB (sg (cs (gMo 4)) ty i) (nI 48) (nI 57) = true := by simpa using h
    have q0 := q0 h'
    rw [mS_0, mS_u0, mS_u0, h8, nI_add, h']
    exact kq _ _ q0
theorem c9_readsNumber (L : Lay n ad h0) (h8 : f 8 = nI i) (hi : i < 900) (h6 : f 6 = nI ty) (hty : ty ≤ 60) (h9 : f 9 = nI ci) (hci : ci < 60) {X : Int32 → Hp → Prop} (q : X (bI (decide (i < (nmR (cs (gMo 4)) ty 3 i (nI 0)).1))) (HN h0 ad (mS (up2 cs (gMo 8) ci (nmR (cs (gMo 4)) ty 3 i (nI 0)).2) (upd f 8 (nI (nmR (cs (gMo 4)) ty 3 i (nI 0)).1)) v p) pm)) : CKi mX9_readsNumber 1 0 0 [some (.ref (ad (gMo 0))), none, none] (HN h0 ad (mS cs f v p) pm) X := by
  intro Qc kq
  refine tX9_readsNumber_0 L ?_
  rw [mS_0, h8]
  have fin : ∀ (j : Nat) (x : Int32), (j, x) = nmR (cs (gMo 4)) ty 3 i (nI 0) → Wm mX9_readsNumber 1 0 0 Qc 57 [some (.ref (ad (gMo 0))), some (.int (nI i)), some (.int x)] [] (HN h0 ad (mS cs (upd f 8 (nI j)) v p) pm) 0 0 := by
    intro j x e
    have hg := nmR_ge (tx := cs (gMo 4)) (ty := ty) 3 i (nI 0)
    rw [← e] at q hg
    simp only at q hg
    refine tX9_readsNumber_57 L ⟨ci, by rw [mS_0, upd_ne (by omega)]; exact h9, hci, ?_⟩
    rw [mS_0, upd_eq, mS_uo (by simp [gMo]) (by simp [gMo]) (by simp [gMo]), nI_leI (by omega) (by omega)]
    refine ⟨fun h => kq _ _ ?_, fun h => kq _ _ ?_⟩
    · rw [show decide (i < j) = false by simp; omega] at q; exact q
    · rw [show decide (i < j) = true by simp; omega] at q; exact q
  have loop : ∀ (g j : Nat) (x : Int32), (j + g = i + 3 ∧ i ≤ j) → nmR (cs (gMo 4)) ty g j x = nmR (cs (gMo 4)) ty 3 i (nI 0) → Wm mX9_readsNumber 1 0 0 Qc 7 [some (.ref (ad (gMo 0))), some (.int (nI i)), some (.int x)] [] (HN h0 ad (mS cs (upd f 8 (nI j)) v p) pm) 0 0 := by
    intro g
    induction g with
    | zero =>
      intro j x hj e
      refine tX9_readsNumber_7 L (c9_sign L upd_eq (by omega) (by rw [upd_ne (by omega)]; exact h6) hty (tX9_readsNumber_11 L (c9_in L (tX9_readsNumber_18 L ⟨fun _ => fin j x (by rw [← e]; rfl), fun _ => ⟨fun _ => fin j x (by rw [← e]; rfl), fun h => absurd ?_ h⟩⟩))))
      rw [mS_0, upd_eq, pk_sub (by omega)]
      exact nI_le (by omega) (by omega)
    | succ g ih =>
      intro j x hj e
      refine tX9_readsNumber_7 L (c9_sign L upd_eq (by omega) (by rw [upd_ne (by omega)]; exact h6) hty (tX9_readsNumber_11 L (c9_in L (tX9_readsNumber_18 L ⟨fun h => fin j x ?_, fun h => ⟨fun h2 => ?_, fun h2 => c9_sign L upd_eq (by omega) (by rw [upd_ne (by omega)]; exact h6) hty (tX9_readsNumber_39 L ?_)⟩⟩))))
      · rw [bI_z] at h
        have h' : dgB (sg (cs (gMo 4)) ty j) = false := h
        rw [← e, nmR, h', if_neg (by simp)]
      · rw [mS_0, upd_eq, pk_sub (by omega)] at h2
        exact absurd h2 (nI_ge (by omega) (by omega))
      · rw [bI_z] at h
        have h' : dgB (sg (cs (gMo 4)) ty j) = true := by simpa [dgB] using h
        rw [mS_0, mS_u0, upd_eq, upd_upd, nI_add]
        refine ih (j + 1) _ (by omega) ?_
        rw [← e, nmR, if_pos h']
  have l0 := loop 3 i (nI 0) ⟨rfl, Nat.le_refl _⟩ rfl
  have e : upd f 8 (nI i) = f := by
    funext j
    by_cases hj : j = 8
    · subst hj; rw [upd_eq, h8]
    · rw [upd_ne hj]
  rw [e] at l0
  exact l0
theorem c9_readsCommand (L : Lay n ad h0) (h8 : f 8 = nI i) (hi : i < 800) (h6 : f 6 = nI ty) (hty : ty ≤ 60) (h9 : f 9 = nI ci) (hci : ci < 60) {X : Int32 → Hp → Prop} (q : ∀ cs' f', RdF ci cs cs' f f' → f' 8 = nI (pC (cs (gMo 4)) ty i).2.1 → ((pC (cs (gMo 4)) ty i).1 = true → GC ci cs' (pC (cs (gMo 4)) ty i)) → X (bI (pC (cs (gMo 4)) ty i).1) (HN h0 ad (mS cs' f' v p) pm)) : CKi mX9_readsCommand 2 0 0 [some (.ref (ad (gMo 0))), none, none] (HN h0 ad (mS cs f v p) pm) X := by
  intro Qc kq
  generalize htx : cs (gMo 4) = tx at *
  have m4 : ∀ (d : Nat → Nat → Int32) (g j : Nat) (x : Int32), gMo 5 ≤ g → d (gMo 4) = tx → (up2 d g j x) (gMo 4) = tx := by
    intro d g j x hg hd
    rw [← hd]
    funext y
    exact u2n (by unfold gMo at *; omega)
  have uo5 : ∀ (d : Nat → Nat → Int32) (f v p : Nat → Int32) (g j : Nat) (x : Int32), gMo 5 ≤ g → up2 (mS d f v p) g j x = mS (up2 d g j x) f v p := by
    intro d f v p g j x hg
    exact mS_uo (by unfold gMo at *; omega) (by unfold gMo at *; omega) (by unfold gMo at *; omega)
  have go : isK (sg tx ty i) = true → Wm mX9_readsCommand 2 0 0 Qc 41 [some (.ref (ad (gMo 0))), some (.int (sg tx ty i)), none] [] (HN h0 ad (mS cs f v p) pm) 0 0 := by
    intro hK
    have hK' : ¬ isK (sg tx ty i) = false := by rw [hK]; simp
    refine tX9_readsCommand_41 L ⟨ci, by rw [mS_0]; exact h9, hci, ?_⟩
    rw [mS_0, uo5 _ _ _ _ _ _ _ (by unfold gMo; omega), mS_u0, h8, nI_add]
    have d1 : (up2 cs (gMo 5) ci (sg tx ty i)) (gMo 4) = tx := m4 _ _ _ _ (by unfold gMo; omega) htx
    have r1 : RdF ci cs (up2 cs (gMo 5) ci (sg tx ty i)) f (upd f 8 (nI (i + 1))) := (RdF.refl.up (Nat.le_refl _) (by unfold gMo; omega)).f8
    generalize hd1 : up2 cs (gMo 5) ci (sg tx ty i) = D1 at *
    have k1 : D1 (gMo 5) ci = sg tx ty i := by rw [← hd1]; exact u2s
    refine ⟨fun hT => ?_, fun hT => ?_⟩
    · refine c9_readsSite L upd_eq (by omega) (by rw [upd_ne (by omega)]; exact h6) hty (fun hd => ?_) (fun hd => ?_)
      · rw [d1] at hd
        rw [d1]
        have hd' : ¬ dgB (sg tx ty (i + 1)) = false := by rw [hd]; simp
        refine tX9_readsCommand_88 L ⟨fun _ => ⟨ci, by rw [mS_0, upd_ne (by omega), upd_ne (by omega), upd_ne (by omega)]; exact h9, hci, ?_⟩, fun h => absurd h (by decide)⟩
        rw [mS_0, upd_ne (show (14 : Nat) ≠ 8 by omega), upd_eq, uo5 _ _ _ _ _ _ _ (by unfold gMo; omega)]
        have d2 : (up2 D1 (gMo 6) ci (sg tx ty (i + 1) - nI 48)) (gMo 4) = tx := m4 _ _ _ _ (by unfold gMo; omega) d1
        have r2 : RdF ci cs (up2 D1 (gMo 6) ci (sg tx ty (i + 1) - nI 48)) f (upd (upd (upd f 8 (nI (i + 1))) 14 (sg tx ty (i + 1) - nI 48)) 8 (nI (i + 1 + 1))) := ((r1.f14).f8).up (by unfold gMo; omega) (by unfold gMo; omega)
        generalize hd2 : up2 D1 (gMo 6) ci (sg tx ty (i + 1) - nI 48) = D2 at *
        have k2 : D2 (gMo 5) ci = sg tx ty i := by rw [← hd2, u2n (by unfold gMo; omega)]; exact k1
        have a2 : D2 (gMo 6) ci = sg tx ty (i + 1) - nI 48 := by rw [← hd2]; exact u2s
        have e2 : (upd (upd (upd f 8 (nI (i + 1))) 14 (sg tx ty (i + 1) - nI 48)) 8 (nI (i + 1 + 1))) 8 = nI (i + 2) := upd_eq
        have e26 : (upd (upd (upd f 8 (nI (i + 1))) 14 (sg tx ty (i + 1) - nI 48)) 8 (nI (i + 1 + 1))) 6 = nI ty := by rw [upd_ne (by omega), upd_ne (by omega), upd_ne (by omega)]; exact h6
        have e29 : (upd (upd (upd f 8 (nI (i + 1))) 14 (sg tx ty (i + 1) - nI 48)) 8 (nI (i + 1 + 1))) 9 = nI ci := by rw [upd_ne (by omega), upd_ne (by omega), upd_ne (by omega)]; exact h9
        generalize hf2 : upd (upd (upd f 8 (nI (i + 1))) 14 (sg tx ty (i + 1) - nI 48)) 8 (nI (i + 1 + 1)) = F2 at *
        have two : twK (sg tx ty i) = true → Wm mX9_readsCommand 2 0 0 Qc 124 [some (.ref (ad (gMo 0))), some (.int (sg tx ty i)), none] [] (HN h0 ad (mS D2 F2 v p) pm) 0 0 := by
          intro hW
          refine tX9_readsCommand_124 L (c9_takes L e2 (by omega) e26 hty (fun h62 => ?_) (fun h62 => ?_))
          · rw [d2] at h62
            refine tX9_readsCommand_130 L ⟨fun h => absurd h (by decide), fun _ => c9_readsSite L upd_eq (by omega) (by rw [upd_ne (by omega)]; exact e26) hty (fun hd3 => ?_) (fun hd3 => ?_)⟩
            · rw [d2] at hd3
              rw [d2]
              have hd3' : ¬ dgB (sg tx ty (i + 3)) = false := by rw [hd3]; simp
              refine tX9_readsCommand_137 L ⟨fun _ => ⟨ci, by rw [mS_0, upd_ne (by omega), upd_ne (by omega), upd_ne (by omega)]; exact e29, hci, ?_⟩, fun h => absurd h (by decide)⟩
              rw [mS_0, upd_ne (show (14 : Nat) ≠ 8 by omega), upd_eq, uo5 _ _ _ _ _ _ _ (by unfold gMo; omega)]
              have d3 : (up2 D2 (gMo 7) ci (sg tx ty (i + 2 + 1) - nI 48)) (gMo 4) = tx := m4 _ _ _ _ (by unfold gMo; omega) d2
              have r3 := (((r2.f8 (x := nI (i + 2 + 1))).f14 (x := sg tx ty (i + 2 + 1) - nI 48)).f8 (x := nI (i + 2 + 1 + 1))).up (g := gMo 7) (x := sg tx ty (i + 2 + 1) - nI 48) (by unfold gMo; omega) (by unfold gMo; omega)
              have k3 : (up2 D2 (gMo 7) ci (sg tx ty (i + 2 + 1) - nI 48)) (gMo 5) ci = sg tx ty i := by rw [u2n (by unfold gMo; omega)]; exact k2
              have a3 : (up2 D2 (gMo 7) ci (sg tx ty (i + 2 + 1) - nI 48)) (gMo 6) ci = sg tx ty (i + 1) - nI 48 := by rw [u2n (by unfold gMo; omega)]; exact a2
              have b3 : (up2 D2 (gMo 7) ci (sg tx ty (i + 2 + 1) - nI 48)) (gMo 7) ci = sg tx ty (i + 3) - nI 48 := u2s
              have e36 : (upd (upd (upd F2 8 (nI (i + 2 + 1))) 14 (sg tx ty (i + 2 + 1) - nI 48)) 8 (nI (i + 2 + 1 + 1))) 6 = nI ty := by rw [upd_ne (by omega), upd_ne (by omega), upd_ne (by omega)]; exact e26
              have e39 : (upd (upd (upd F2 8 (nI (i + 2 + 1))) 14 (sg tx ty (i + 2 + 1) - nI 48)) 8 (nI (i + 2 + 1 + 1))) 9 = nI ci := by rw [upd_ne (by omega), upd_ne (by omega), upd_ne (by omega)]; exact e29
              have e38 : (upd (upd (upd F2 8 (nI (i + 2 + 1))) 14 (sg tx ty (i + 2 + 1) - nI 48)) 8 (nI (i + 2 + 1 + 1))) 8 = nI (i + 4) := upd_eq
              generalize hd3 : up2 D2 (gMo 7) ci (sg tx ty (i + 2 + 1) - nI 48) = D3 at *
              generalize hf3 : upd (upd (upd F2 8 (nI (i + 2 + 1))) 14 (sg tx ty (i + 2 + 1) - nI 48)) 8 (nI (i + 2 + 1 + 1)) = F3 at *
              refine tX9_readsCommand_155 L ⟨fun hm => ?_, fun hm => ?_⟩
              · have e : pC tx ty i = (true, i + 4, sg tx ty i, sg tx ty (i + 1) - nI 48, sg tx ty (i + 3) - nI 48, 0) := by
                  rw [pC, if_neg hK', if_neg hT, if_neg hd', if_pos hW, if_neg (fun h => h h62), if_neg hd3', if_pos hm]
                rw [e] at q
                exact kq _ _ (q D3 F3 r3 e38 (fun _ => ⟨k3, fun _ => a3, fun _ => b3, fun h => absurd hm h⟩))
              · refine c9_takes L e38 (by omega) e36 hty (fun h58 => ?_) (fun h58 => ?_)
                · rw [d3] at h58
                  refine tX9_readsCommand_167 L ⟨fun h => absurd h (by decide), fun _ => c9_readsNumber L (i := i + 5) (ty := ty) (ci := ci) upd_eq (by omega) (by rw [upd_ne (by omega)]; exact e36) hty (by rw [upd_ne (by omega)]; exact e39) hci ?_⟩
                  rw [d3]
                  have e : pC tx ty i = (decide (i + 5 < (nmR tx ty 3 (i + 5) (nI 0)).1), (nmR tx ty 3 (i + 5) (nI 0)).1, sg tx ty i, sg tx ty (i + 1) - nI 48, sg tx ty (i + 3) - nI 48, (nmR tx ty 3 (i + 5) (nI 0)).2) := by
                    rw [pC, if_neg hK', if_neg hT, if_neg hd', if_pos hW, if_neg (fun h => h h62), if_neg hd3', if_neg hm, if_neg (fun h => h h58)]
                  rw [e] at q
                  have q9 := q _ _ ((r3.f8 (x := nI (i + 4 + 1))).f8 (x := nI (nmR tx ty 3 (i + 5) (nI 0)).1) |>.up (g := gMo 8) (x := (nmR tx ty 3 (i + 5) (nI 0)).2) (by unfold gMo; omega) (Nat.le_refl _)) upd_eq (fun _ => ⟨by rw [u2n (by unfold gMo; omega)]; exact k3, fun _ => by rw [u2n (by unfold gMo; omega)]; exact a3, fun _ => by rw [u2n (by unfold gMo; omega)]; exact b3, fun _ => u2s⟩)
                  refine tX9_readsCommand_174 L ⟨fun h => kq _ _ ?_, fun h => kq _ _ ?_⟩
                  · rw [bI_z] at h; simp only [h] at q9; exact q9
                  · rw [bI_z] at h; simp only [show decide (i + 5 < (nmR tx ty 3 (i + 5) (nI 0)).1) = true by simpa using h] at q9; exact q9
                · rw [d3] at h58
                  have e : pC tx ty i = (false, i + 4, 0, 0, 0, 0) := by
                    rw [pC, if_neg hK', if_neg hT, if_neg hd', if_pos hW, if_neg (fun h => h h62), if_neg hd3', if_neg hm, if_pos h58]
                  rw [e] at q
                  exact tX9_readsCommand_167 L ⟨fun _ => kq _ _ (q _ _ r3.f8 upd_eq (fun h => absurd h (by simp))), fun h => absurd rfl h⟩
            · rw [d2] at hd3
              have e : pC tx ty i = (false, i + 3, 0, 0, 0, 0) := by
                rw [pC, if_neg hK', if_neg hT, if_neg hd', if_pos hW, if_neg (fun h => h h62), if_pos hd3]
              rw [e] at q
              exact tX9_readsCommand_137 L ⟨fun h => absurd rfl h, fun _ => kq _ _ (q _ _ r2.f8.f14.f8 upd_eq (fun h => absurd h (by simp)))⟩
          · rw [d2] at h62
            have e : pC tx ty i = (false, i + 2, 0, 0, 0, 0) := by
              rw [pC, if_neg hK', if_neg hT, if_neg hd', if_pos hW, if_pos h62]
            rw [e] at q
            exact tX9_readsCommand_130 L ⟨fun _ => kq _ _ (q _ _ r2.f8 upd_eq (fun h => absurd h (by simp))), fun h => absurd rfl h⟩
        refine ⟨fun h => two (by simp [twK, h]), fun h117 => ⟨fun h => two (by simp [twK, h]), fun h100 => ⟨fun h109 => ?_, fun h => two (by simp [twK, h])⟩⟩⟩
        have hW : ¬ twK (sg tx ty i) = true := by simp [twK, h117, h100, h109]
        refine tX9_readsCommand_155 L ⟨fun h => absurd h h109, fun _ => c9_takes L e2 (by omega) e26 hty (fun h58 => ?_) (fun h58 => ?_)⟩
        · rw [d2] at h58
          refine tX9_readsCommand_167 L ⟨fun h => absurd h (by decide), fun _ => c9_readsNumber L (i := i + 3) (ty := ty) (ci := ci) upd_eq (by omega) (by rw [upd_ne (by omega)]; exact e26) hty (by rw [upd_ne (by omega)]; exact e29) hci ?_⟩
          rw [d2]
          have e : pC tx ty i = (decide (i + 3 < (nmR tx ty 3 (i + 3) (nI 0)).1), (nmR tx ty 3 (i + 3) (nI 0)).1, sg tx ty i, sg tx ty (i + 1) - nI 48, 0, (nmR tx ty 3 (i + 3) (nI 0)).2) := by
            rw [pC, if_neg hK', if_neg hT, if_neg hd', if_neg hW, if_neg (fun h => h h58)]
          rw [e] at q
          have q9 := q _ _ ((r2.f8 (x := nI (i + 2 + 1))).f8 (x := nI (nmR tx ty 3 (i + 3) (nI 0)).1) |>.up (g := gMo 8) (x := (nmR tx ty 3 (i + 3) (nI 0)).2) (by unfold gMo; omega) (Nat.le_refl _)) upd_eq (fun _ => ⟨by rw [u2n (by unfold gMo; omega)]; exact k2, fun _ => by rw [u2n (by unfold gMo; omega)]; exact a2, fun h => absurd h hW, fun _ => u2s⟩)
          refine tX9_readsCommand_174 L ⟨fun h => kq _ _ ?_, fun h => kq _ _ ?_⟩
          · rw [bI_z] at h; simp only [h] at q9; exact q9
          · rw [bI_z] at h; simp only [show decide (i + 3 < (nmR tx ty 3 (i + 3) (nI 0)).1) = true by simpa using h] at q9; exact q9
        · rw [d2] at h58
          have e : pC tx ty i = (false, i + 2, 0, 0, 0, 0) := by
            rw [pC, if_neg hK', if_neg hT, if_neg hd', if_neg hW, if_pos h58]
          rw [e] at q
          exact tX9_readsCommand_167 L ⟨fun _ => kq _ _ (q _ _ r2.f8 upd_eq (fun h => absurd h (by simp))), fun h => absurd rfl h⟩
      · rw [d1] at hd
        have e : pC tx ty i = (false, i + 1, 0, 0, 0, 0) := by
          rw [pC, if_neg hK', if_neg hT, if_pos hd]
        rw [e] at q
        exact tX9_readsCommand_88 L ⟨fun h => absurd rfl h, fun _ => kq _ _ (q _ _ r1.f14.f8 upd_eq (fun h => absurd h (by simp)))⟩
    · refine c9_readsNumber L (i := i + 1) (ty := ty) (ci := ci) upd_eq (by omega) (by rw [upd_ne (by omega)]; exact h6) hty (by rw [upd_ne (by omega)]; exact h9) hci (tX9_readsCommand_83 L ⟨bI_nar _, ?_⟩)
      rw [d1]
      have e : pC tx ty i = (decide (i + 1 < (nmR tx ty 3 (i + 1) (nI 0)).1), (nmR tx ty 3 (i + 1) (nI 0)).1, sg tx ty i, 0, 0, (nmR tx ty 3 (i + 1) (nI 0)).2) := by
        rw [pC, if_neg hK', if_pos hT]
      rw [e] at q
      exact kq _ _ (q _ _ ((r1.f8 (x := nI (nmR tx ty 3 (i + 1) (nI 0)).1)).up (g := gMo 8) (x := (nmR tx ty 3 (i + 1) (nI 0)).2) (by unfold gMo; omega) (Nat.le_refl _)) upd_eq (fun _ => ⟨by rw [u2n (by unfold gMo; omega)]; exact k1, fun h => absurd hT h, fun h => absurd h (by show ¬ twK (sg tx ty i) = true; rw [hT]; decide), fun _ => u2s⟩))
  refine tX9_readsCommand_0 L (c9_sign L h8 (by omega) h6 hty (tX9_readsCommand_4 L ?_))
  rw [htx]
  refine ⟨fun h => go (by simp [isK, h]), fun h1 => ⟨fun h => go (by simp [isK, h]), fun h2 => ⟨fun h => go (by simp [isK, h]), fun h3 => ⟨fun h => go (by simp [isK, h]), fun h4 => ⟨fun h => go (by simp [isK, h]), fun h5 => ⟨fun h => ?_, fun h => go (by simp [isK, h])⟩⟩⟩⟩⟩⟩
  have hK : isK (sg tx ty i) = false := by simp [isK, h1, h2, h3, h4, h5, h]
  have e : pC tx ty i = (false, i, 0, 0, 0, 0) := by rw [pC, if_pos hK]
  rw [e] at q
  exact kq _ _ (q cs f RdF.refl h8 (fun h => absurd h (by simp)))
end RI

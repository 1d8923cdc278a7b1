/-! scripts: all commands, what a command does, a whole script, in the reference -/
def stp (tx : Nat → Int32) (ty : Nat) : Nat → Nat
  | 0 => 0
  | j + 1 => (pC tx ty (stp tx ty j)).2.1 + 1
def pS (tx : Nat → Int32) (ty : Nat) : Nat → Nat → Bool × Nat × Nat
  | 0, ci => (false, stp tx ty ci, ci)
  | g + 1, ci => if (pC tx ty (stp tx ty ci)).1 = false then (false, (pC tx ty (stp tx ty ci)).2.1, ci) else if sg tx ty (pC tx ty (stp tx ty ci)).2.1 = nI 59 then pS tx ty g (ci + 1) else (decide ((pC tx ty (stp tx ty ci)).2.1 = ty), (pC tx ty (stp tx ty ci)).2.1, ci + 1)
theorem pC_adv {tx : Nat → Int32} {ty i : Nat} : ((pC tx ty i).1 = true → i + 2 ≤ (pC tx ty i).2.1) ∧ (pC tx ty i).2.1 ≤ i + 8 := by
  have a := nmR_ge (tx := tx) (ty := ty) 3 (i + 1) (nI 0)
  have b := nmR_ge (tx := tx) (ty := ty) 3 (i + 3) (nI 0)
  have c := nmR_ge (tx := tx) (ty := ty) 3 (i + 5) (nI 0)
  unfold pC
  split
  · simp
  · split
    · simp; omega
    · split
      · simp
      · split
        · split
          · simp
          · split
            · simp
            · split
              · simp
              · split
                · simp
                · simp; omega
        · split
          · simp
          · simp; omega
/-- a whole run of the reader up to command ci -/
def Stg (tx : Nat → Int32) (ty ci : Nat) : Prop := 3 * ci ≤ stp tx ty ci ∧ stp tx ty ci ≤ ty ∧ ∀ j, j < ci → (pC tx ty (stp tx ty j)).1 = true
theorem Stg_s {tx : Nat → Int32} {ty ci : Nat} (h : Stg tx ty ci) (h1 : (pC tx ty (stp tx ty ci)).1 = true) (h2 : sg tx ty (pC tx ty (stp tx ty ci)).2.1 = nI 59) : Stg tx ty (ci + 1) := by
  obtain ⟨a, b, c⟩ := h
  have d := (pC_adv (tx := tx) (ty := ty) (i := stp tx ty ci)).1 h1
  have e : stp tx ty (ci + 1) = (pC tx ty (stp tx ty ci)).2.1 + 1 := rfl
  have f : (pC tx ty (stp tx ty ci)).2.1 < ty := by
    unfold sg at h2
    split at h2
    · assumption
    · exact absurd h2 (by decide)
  refine ⟨by omega, by omega, fun j hj => ?_⟩
  by_cases hj2 : j = ci
  · rw [hj2]; exact h1
  · exact c j (by omega)
def RdG (cs cs' : Nat → Nat → Int32) (f f' : Nat → Int32) : Prop := (∀ g, (g < gMo 3 ∨ gMo 8 < g ∨ g = gMo 4) → cs' g = cs g) ∧ (∀ j, j ≠ 8 → j ≠ 14 → j ≠ 9 → f' j = f j)
section RJ
variable {n c i ci ty : Nat} {ad : Nat → Nat} {h0 : Hp} {cs : Nat → Nat → Int32} {pm : Nat → Nat → Nat} {f v p : Nat → Int32}
theorem c9_readsScript (L : Lay n ad h0) (h6 : f 6 = nI ty) (hty : ty ≤ 60) {X : Int32 → Hp → Prop} (q : ∀ cs' f', RdG cs cs' f f' → cs' (gMo 3) = cs (gMo 3) → f' 8 = nI (pS (cs (gMo 4)) ty 21 0).2.1 → f' 9 = nI (pS (cs (gMo 4)) ty 21 0).2.2 → (pS (cs (gMo 4)) ty 21 0).2.2 ≤ 21 → ((pS (cs (gMo 4)) ty 21 0).1 = true → ∀ j, j < (pS (cs (gMo 4)) ty 21 0).2.2 → (pC (cs (gMo 4)) ty (stp (cs (gMo 4)) ty j)).1 = true ∧ GC j cs' (pC (cs (gMo 4)) ty (stp (cs (gMo 4)) ty j))) → X (bI (pS (cs (gMo 4)) ty 21 0).1) (HN h0 ad (mS cs' f' v p) pm)) : CKi mX9_readsScript 3 0 0 [some (.ref (ad (gMo 0))), none] (HN h0 ad (mS cs f v p) pm) X := by
  intro Qc kq
  refine tX9_readsScript_0 L ?_
  rw [mS_u0, mS_u0]
  generalize htx : cs (gMo 4) = tx at *
  have loop : ∀ (g ci : Nat) (cs' : Nat → Nat → Int32) (f' : Nat → Int32), g + ci = 21 → Stg tx ty ci → pS tx ty g ci = pS tx ty 21 0 → RdG cs cs' f f' → cs' (gMo 3) = cs (gMo 3) → f' 8 = nI (stp tx ty ci) → f' 9 = nI ci → (∀ j, j < ci → GC j cs' (pC tx ty (stp tx ty j))) → Wm mX9_readsScript 3 0 0 Qc 12 [some (.ref (ad (gMo 0))), some (.int (nI 1))] [] (HN h0 ad (mS cs' f' v p) pm) 0 0 := by
    intro g
    induction g with
    | zero =>
      intro ci cs' f' hg hS _ _ _ _ _ _
      obtain ⟨a, b, _⟩ := hS
      omega
    | succ g ih =>
      intro ci cs' f' hg hS hP hR h3 hf8 hf9 hG
      have hR' := hR
      obtain ⟨R1, R2⟩ := hR'
      have hS' := hS
      obtain ⟨S1, S2, S3⟩ := hS'
      have ht4 : cs' (gMo 4) = tx := by rw [R1 _ (Or.inr (Or.inr rfl))]; exact htx
      have h6' : f' 6 = nI ty := by rw [R2 6 (by omega) (by omega) (by omega)]; exact h6
      have adv := pC_adv (tx := tx) (ty := ty) (i := stp tx ty ci)
      refine tX9_readsScript_12 L ⟨fun h => absurd h (by decide), fun _ => c9_readsCommand (ci := ci) L hf8 (by omega) h6' hty hf9 (by omega) ?_⟩
      rw [ht4]
      intro cs2 f2 hF hf28 hGC
      obtain ⟨F1, F2, F3⟩ := hF
      have hR2 : RdG cs cs2 f f2 := ⟨fun g hg => by rw [F1 g (by unfold gMo at *; omega), R1 g hg], fun j h1 h2 h3 => by rw [F3 j h1 h2, R2 j h1 h2 h3]⟩
      have h32 : cs2 (gMo 3) = cs (gMo 3) := by rw [F1 _ (by unfold gMo; omega), h3]
      have hG2 : ∀ j, j < ci → GC j cs2 (pC tx ty (stp tx ty j)) := by
        intro j hj
        have := hG j hj
        unfold GC at *
        rw [F2 _ j (by omega), F2 _ j (by omega), F2 _ j (by omega), F2 _ j (by omega)]
        exact this
      have hf29 : f2 9 = nI ci := by rw [F3 9 (by omega) (by omega)]; exact hf9
      have h62 : f2 6 = nI ty := by rw [F3 6 (by omega) (by omega)]; exact h6'
      have ht42 : cs2 (gMo 4) = tx := by rw [F1 _ (by unfold gMo; omega)]; exact ht4
      refine tX9_readsScript_20 L ⟨fun h => ?_, fun h => ?_⟩
      · rw [bI_z] at h
        have hT : (pC tx ty (stp tx ty ci)).1 = true := by simpa using h
        rw [mS_0, hf29, nI_add, mS_u0]
        have hG3 : ∀ j, j < ci + 1 → (pC tx ty (stp tx ty j)).1 = true ∧ GC j cs2 (pC tx ty (stp tx ty j)) := by
          intro j hj
          by_cases e : j = ci
          · subst e; exact ⟨hT, hGC hT⟩
          · exact ⟨S3 j (by omega), hG2 j (by omega)⟩
        refine c9_takes L (i := (pC tx ty (stp tx ty ci)).2.1) (ty := ty) (by rw [upd_ne (by omega)]; exact hf28) (by omega) (by rw [upd_ne (by omega)]; exact h62) hty (fun hs => ?_) (fun hs => ?_)
        · rw [ht42] at hs
          refine tX9_readsScript_41 L (ih (ci + 1) cs2 _ (by omega) (Stg_s hS hT hs) ?_ ⟨hR2.1, fun j h1 h2 h3 => by rw [upd_ne h1, upd_ne h3]; exact hR2.2 j h1 h2 h3⟩ h32 upd_eq (by rw [upd_ne (by omega), upd_eq]) (fun j hj => (hG3 j hj).2))
          rw [← hP, pS, if_neg h, if_pos hs]
        · rw [ht42] at hs
          have hP2 : pS tx ty 21 0 = (decide ((pC tx ty (stp tx ty ci)).2.1 = ty), (pC tx ty (stp tx ty ci)).2.1, ci + 1) := by rw [← hP, pS, if_neg h, if_neg hs]
          rw [hP2] at q
          have q9 := q cs2 (upd (upd f2 9 (nI (ci + 1))) 8 (nI (pC tx ty (stp tx ty ci)).2.1)) ⟨hR2.1, fun j h1 h2 h3 => by rw [upd_ne h1, upd_ne h3]; exact hR2.2 j h1 h2 h3⟩ h32 upd_eq (by rw [upd_ne (by omega), upd_eq]) (by show ci + 1 ≤ 21; omega) (fun _ => hG3)
          refine tX9_readsScript_41 L (tX9_readsScript_12 L ⟨fun _ => ?_, fun h => absurd rfl h⟩)
          rw [mS_0, upd_eq, upd_ne (show (6 : Nat) ≠ 8 by omega), upd_ne (show (6 : Nat) ≠ 9 by omega), h62, nI_inj5 (by omega) (by omega)]
          refine ⟨fun h2 => kq _ _ ?_, fun h2 => kq _ _ ?_⟩
          · rw [show decide ((pC tx ty (stp tx ty ci)).2.1 = ty) = false by simpa using h2] at q9; exact q9
          · rw [show decide ((pC tx ty (stp tx ty ci)).2.1 = ty) = true by simpa using h2] at q9; exact q9
      · rw [bI_z] at h
        have hP2 : pS tx ty 21 0 = (false, (pC tx ty (stp tx ty ci)).2.1, ci) := by rw [← hP, pS, if_pos h]
        rw [hP2] at q
        exact kq _ _ (q cs2 f2 hR2 h32 hf28 hf29 (by show ci ≤ 21; omega) (fun e => absurd e (by simp)))
  refine loop 21 0 cs _ rfl ⟨Nat.le_refl _, Nat.zero_le _, fun j hj => absurd hj (by omega)⟩ rfl ⟨fun _ _ => rfl, fun j h1 h2 h3 => by rw [upd_ne h3, upd_ne h1]⟩ rfl (by rw [upd_ne (by omega), upd_eq]; rfl) upd_eq (fun j hj => absurd hj (by omega))
end RJ
/-- whether a command can be done, and the row then -/
def doB (n lc mc : Nat) (v : Nat → Int32) (r : Bool × Nat × Int32 × Int32 × Int32 × Int32) : Bool :=
  if r.2.2.1 = nI 116 then inB r.2.2.2.2.2 (nI 1) (nI 999) && decide (v 0 + r.2.2.2.2.2 ≤ nI 1000000)
  else if r.2.2.1 = nI 43 then siB n r.2.2.2.1 && (inB r.2.2.2.2.2 (nI 1) (nI 999) && chB n lc v (ixI r.2.2.2.1) 0 r.2.2.2.2.2)
  else if r.2.2.1 = nI 45 then siB n r.2.2.2.1 && (inB r.2.2.2.2.2 (nI 1) (nI 999) && chB n lc v (ixI r.2.2.2.1) 1 r.2.2.2.2.2)
  else siB n r.2.2.2.1 && (siB n r.2.2.2.2.1 && (decide (¬ r.2.2.2.1 = r.2.2.2.2.1) && (if r.2.2.1 = nI 109 then decide (mc < 8) else if r.2.2.1 = nI 117 then decide (¬ r.2.2.2.2.2 < nI 1) && decide (r.2.2.2.2.2 ≤ own n lc v (ixI r.2.2.2.1) 0) else decide (¬ r.2.2.2.2.2 < nI 1) && decide (r.2.2.2.2.2 ≤ own n lc v (ixI r.2.2.2.1) 1))))
def doV (n lc mc : Nat) (v : Nat → Int32) (r : Bool × Nat × Int32 × Int32 × Int32 × Int32) : Nat → Int32 :=
  if r.2.2.1 = nI 116 then upd v 0 (v 0 + r.2.2.2.2.2)
  else if r.2.2.1 = nI 43 then chV n lc v (ixI r.2.2.2.1) 0 r.2.2.2.2.2
  else if r.2.2.1 = nI 45 then chV n lc v (ixI r.2.2.2.1) 1 r.2.2.2.2.2
  else if r.2.2.1 = nI 109 then arV (wrV v mc (ixI r.2.2.2.1) r.2.2.2.1 r.2.2.2.2.1 n) mc (ixI r.2.2.2.2.1) n
  else if r.2.2.1 = nI 117 then givV v 0 (ixI r.2.2.2.1) (ixI r.2.2.2.2.1) r.2.2.2.2.2
  else givV v 1 (ixI r.2.2.2.1) (ixI r.2.2.2.2.1) r.2.2.2.2.2
/-- what the reference's steps ask of a row -/
def Rdy (n lc mc : Nat) (v : Nat → Int32) : Prop := WL n lc v ∧ v 5 = nI mc ∧ mc ≤ 8 ∧ ∀ s k x, s < n → k < 2 → inB x (nI 1) (nI 999) = true → x - avl n lc v s k ≤ 0 → usE lc s k lc v x
section RK
variable {n lc mc c i : Nat} {ad : Nat → Nat} {h0 : Hp} {cs : Nat → Nat → Int32} {pm : Nat → Nat → Nat} {f v p : Nat → Int32} {r : Bool × Nat × Int32 × Int32 × Int32 × Int32}
theorem c9_passesOn (L : Lay n ad h0) (hn : f 0 = nI n) (hv : v 5 = nI mc) (hmc : mc < 8) {s t : Nat} (hs : s < n) (ht : t < n) {X : Int32 → Hp → Prop} (q : X (nI 1) (HN h0 ad (mS cs f (arV (wrV v mc s (nI s) (nI t) n) mc t n) p) pm)) : CKi mX9_passesOn 3 0 0 [some (.ref (ad (gMo 0))), some (.int (nI s)), some (.int (nI t)), none] (HN h0 ad (mS cs f v p) pm) X := by
  intro Qc kq
  have hb := L.1
  refine tX9_passesOn_0 L ?_
  rw [mS_1, hv]
  refine c9_writes L hn hmc hs (tX9_passesOn_12 L ?_)
  rw [mS_1, wrV_lo (by omega), hv]
  refine c9_arrives L hn hmc ht ?_ (tX9_passesOn_22 L ⟨fun h => absurd h (nI_pos ?_), fun _ => kq _ _ q⟩)
  · unfold wrV
    rw [if_neg (by omega), if_pos rfl]
  · have : ∀ j, arN (wrV v mc s (nI s) (nI t) n) mc t j ≤ j := by
      intro j
      induction j with
      | zero => exact Nat.le_refl _
      | succ j ih => rw [arN]; split <;> omega
    have := this n
    omega
theorem c9_does (L : Lay n ad h0) (hn : f 0 = nI n) (hR : Rdy n lc mc v) (hi : i < 60) (hG : GC i cs r) (hK : isK r.2.2.1 = true) {X : Int32 → Hp → Prop} (q0 : doB n lc mc v r = true → X (nI 1) (HN h0 ad (mS cs f (doV n lc mc v r) p) pm)) (q1 : doB n lc mc v r = false → ∀ w, X (nI 0) (HN h0 ad (mS cs f w p) pm)) : CKi mX9_does 6 0 0 [some (.ref (ad (gMo 0))), some (.int (nI i)), none, none, none, none, none] (HN h0 ad (mS cs f v p) pm) X := by
  intro Qc kq
  have hb := L.1
  obtain ⟨g, g2, z, a, b, x⟩ := r
  obtain ⟨hw, hv5, hmc, hE⟩ := hR
  obtain ⟨G1, G2, G3, G4⟩ := hG
  simp only at G1 G2 G3 G4 hK
  have o5 : ∀ j, mS cs f v p (gMo 5) j = cs (gMo 5) j := fun j => by rw [mS_o (by simp [gMo]) (by simp [gMo]) (by simp [gMo])]
  have o6 : ∀ j, mS cs f v p (gMo 6) j = cs (gMo 6) j := fun j => by rw [mS_o (by simp [gMo]) (by simp [gMo]) (by simp [gMo])]
  have o7 : ∀ j, mS cs f v p (gMo 7) j = cs (gMo 7) j := fun j => by rw [mS_o (by simp [gMo]) (by simp [gMo]) (by simp [gMo])]
  have o8 : ∀ j, mS cs f v p (gMo 8) j = cs (gMo 8) j := fun j => by rw [mS_o (by simp [gMo]) (by simp [gMo]) (by simp [gMo])]
  have hn' : mS cs f v p (gMo 0) 0 = nI n := by rw [mS_0]; exact hn
  have hw1 : WL n lc (mS cs f v p (gMo 1)) := by rw [mS_1]; exact hw
  have chg : ∀ k, k < 2 → z = nI (43 + 2 * k) → Wm mX9_does 6 0 0 Qc 88 [some (.ref (ad (gMo 0))), none, some (.int z), some (.int a), none, some (.int x), none] [] (HN h0 ad (mS cs f v p) pm) 0 0 := by
    intro k hk hz
    have eB : doB n lc mc v (g, g2, z, a, b, x) = (siB n a && (inB x (nI 1) (nI 999) && chB n lc v (ixI a) k x)) := by
      have : k = 0 ∨ k = 1 := by omega
      rcases this with rfl | rfl <;> subst hz <;> rfl
    have eV : doV n lc mc v (g, g2, z, a, b, x) = chV n lc v (ixI a) k x := by
      have : k = 0 ∨ k = 1 := by omega
      rcases this with rfl | rfl <;> subst hz <;> rfl
    rw [eB] at q0 q1
    rw [eV] at q0
    refine tX9_does_88 L (c9_isSite L hn' (tX9_does_93 L ⟨fun h => ?_, fun h => c9_in L (tX9_does_105 L ⟨fun h2 => ?_, fun h2 => ?_⟩)⟩))
    · rw [bI_z] at h; exact kq _ _ (q1 (by simp [h]) _)
    · rw [bI_z] at h2; exact kq _ _ (q1 (by simp [h2]) _)
    · rw [bI_z] at h h2
      have h' : siB n a = true := by simpa using h
      have h2' : inB x (nI 1) (nI 999) = true := by simpa using h2
      obtain ⟨s, hs, rfl⟩ := siB_t (by omega) h'
      rw [ixI_n (by omega)] at q0 q1
      have fin : Wm mX9_does 6 0 0 Qc 126 [none, none, none, none, none, none, none] [.int (bI (chB n lc v s k x))] (HN h0 ad (mS cs f (chV n lc v s k x) p) pm) 0 0 := by
        refine tX9_does_126 L ⟨fun h3 => ?_, fun h3 => ?_⟩
        · rw [bI_z] at h3; exact kq _ _ (q1 (by simp [h3]) _)
        · rw [bI_z] at h3; exact kq _ _ (q0 (by simp [h', h2', show chB n lc v s k x = true by simpa using h3]))
      have : k = 0 ∨ k = 1 := by omega
      rcases this with rfl | rfl
      · exact ⟨fun h3 => absurd hz h3, fun _ => c9_uses (lc := lc) L hn hw hs hk (hE s 0 x hs hk h2') fin⟩
      · exact ⟨fun _ => c9_uses (lc := lc) L hn hw hs hk (hE s 1 x hs hk h2') fin, fun h3 => absurd (h3.symm.trans hz) (by decide)⟩
  refine tX9_does_0 L ⟨i, rfl, hi, ?_⟩
  rw [o5, o6, o7, o8, G1]
  refine ⟨fun h116 => ?_, fun h116 => ?_⟩
  · rw [G2 h116]
    refine ⟨fun h43 => ?_, fun h43 => ⟨fun h45 => ?_, fun h45 => ?_⟩⟩
    · rw [G4 (by rw [h43]; decide)]; exact chg 0 (by omega) h43
    · have hW : twK z = true := by
        simp only [isK, h43, h45, h116, decide_false, Bool.false_or, Bool.or_false] at hK
        exact hK
      rw [G3 hW]
      have eB : doB n lc mc v (g, g2, z, a, b, x) = (siB n a && (siB n b && (decide (¬ a = b) && (if z = nI 109 then decide (mc < 8) else if z = nI 117 then decide (¬ x < nI 1) && decide (x ≤ own n lc v (ixI a) 0) else decide (¬ x < nI 1) && decide (x ≤ own n lc v (ixI a) 1))))) := by
        rw [doB, if_neg h116, if_neg h43, if_neg h45]
      rw [eB] at q0 q1
      have eV : doV n lc mc v (g, g2, z, a, b, x) = (if z = nI 109 then arV (wrV v mc (ixI a) a b n) mc (ixI b) n else if z = nI 117 then givV v 0 (ixI a) (ixI b) x else givV v 1 (ixI a) (ixI b) x) := by
        rw [doV, if_neg h116, if_neg h43, if_neg h45]
      rw [eV] at q0
      refine c9_isSite L hn' (tX9_does_140 L ⟨fun h => ?_, fun h => c9_isSite L hn' ?_⟩)
      · rw [bI_z] at h; exact kq _ _ (q1 (by simp [h]) _)
      · rw [bI_z] at h
        have h' : siB n a = true := by simpa using h
        refine tX9_does_149 L ⟨fun h2 => ?_, fun h2 => ⟨fun h3 => ⟨fun h109 => ?_, fun h109 => ?_⟩, fun h3 => ?_⟩⟩
        · rw [bI_z] at h2; exact kq _ _ (q1 (by simp [h2]) _)
        · rw [bI_z] at h2
          have h2' : siB n b = true := by simpa using h2
          rw [G4 h109]
          obtain ⟨s, hs, rfl⟩ := siB_t (by omega) h'
          obtain ⟨t, ht, rfl⟩ := siB_t (by omega) h2'
          simp only [if_neg h109, h', h2', h3, Bool.true_and, not_false_iff, decide_true] at q0 q1
          rw [ixI_n (by omega)] at q0 q1
          rw [ixI_n (by omega)] at q0
          have give : ∀ k, k < 2 → (z = nI 117 ↔ k = 0) → ((x < nI 1 → Qc 0 (some (.int (nI 0))) (HN h0 ad (mS cs f v p) pm)) ∧ (¬ x < nI 1 → CKi mX9_ownRights 3 0 0 [some (.ref (ad (gMo 0))), some (.int (nI s)), some (.int (nI k)), none, none, none, none, none] (HN h0 ad (mS cs f v p) pm) (fun v h' => Wm mX9_does 6 0 0 Qc 219 [some (.ref (ad (gMo 0))), none, none, some (.int (nI s)), some (.int (nI t)), some (.int x), some (.int (nI k))] [.int v] h' 0 0))) := by
            intro k hk hz
            have q0' : (decide (¬ x < nI 1) && decide (x ≤ own n lc v s k)) = true → X (nI 1) (HN h0 ad (mS cs f (givV v k s t x) p) pm) := by
              have : k = 0 ∨ k = 1 := by omega
              rcases this with rfl | rfl
              · simp only [if_pos (hz.mpr rfl)] at q0; exact q0
              · simp only [if_neg (fun e => absurd (hz.mp e) (by omega))] at q0; exact q0
            have q1' : (decide (¬ x < nI 1) && decide (x ≤ own n lc v s k)) = false → ∀ w, X (nI 0) (HN h0 ad (mS cs f w p) pm) := by
              have : k = 0 ∨ k = 1 := by omega
              rcases this with rfl | rfl
              · simp only [if_pos (hz.mpr rfl)] at q1; exact q1
              · simp only [if_neg (fun e => absurd (hz.mp e) (by omega))] at q1; exact q1
            refine ⟨fun h4 => kq _ _ (q1' (by simp [h4]) _), fun h4 => c9_ownRights (lc := lc) L hn' hw1 hs hk (tX9_does_219 L ⟨fun h5 => c9_gives L hs ht hk (tX9_does_237 L (kq _ _ ?_)), fun h5 => ?_⟩)⟩
            · rw [mS_1] at h5; exact q0' (by simp [h4, h5])
            · rw [mS_1] at h5; exact kq _ _ (q1' (by simp [h5]) _)
          refine ⟨fun h117 => give 1 (by omega) ⟨fun e => absurd e h117, fun e => absurd e (by omega)⟩, fun h117 => give 0 (by omega) ⟨fun _ => rfl, fun _ => h117⟩⟩
        · rw [bI_z] at h2
          have h2' : siB n b = true := by simpa using h2
          obtain ⟨s, hs, rfl⟩ := siB_t (by omega) h'
          obtain ⟨t, ht, rfl⟩ := siB_t (by omega) h2'
          simp only [if_pos h109, h', h2', h3, Bool.true_and, not_false_iff, decide_true] at q0 q1
          rw [ixI_n (by omega), ixI_n (by omega)] at q0
          rw [mS_1, hv5, nI_leI (by omega) (by omega)]
          refine ⟨fun h4 => kq _ _ (q1 (by simp; omega) _), fun h4 => c9_passesOn L hn hv5 (by omega) hs ht (tX9_does_184 L ⟨fun h5 => absurd h5 (by decide), fun _ => kq _ _ (q0 (by simp; omega))⟩)⟩
        · exact kq _ _ (q1 (by simp [h3]) _)
    · rw [G4 (by rw [h45]; decide)]; exact chg 1 (by omega) h45
  · rw [G4 (by rw [h116]; decide), mS_1, mS_u1]
    have eB : doB n lc mc v (g, g2, z, a, b, x) = (inB x (nI 1) (nI 999) && decide (v 0 + x ≤ nI 1000000)) := by rw [doB, if_pos h116]
    have eV : doV n lc mc v (g, g2, z, a, b, x) = upd v 0 (v 0 + x) := by rw [doV, if_pos h116]
    rw [eB] at q0 q1
    rw [eV] at q0
    refine c9_in L (tX9_does_56 L ⟨fun h => ?_, fun h => ?_⟩)
    · rw [bI_z] at h; exact kq _ _ (q1 (by simp [h]) _)
    · rw [bI_z] at h
      rw [mS_1, upd_eq]
      refine ⟨fun h2 => kq _ _ (q1 (by simp [Int32.not_le.mpr h2]) _), fun h2 => kq _ _ (q0 (by simp [Int32.not_lt.mp h2]; simpa using h))⟩
end RK

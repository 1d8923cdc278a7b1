/-! THE LAW: class and reference in one world -/
def RWx (n t : Nat) (cs : Nat → Nat → Int32) (pm : Nat → Nat → Nat) (lc mc c ol ty : Nat) : Prop :=
  cs gEc 0 = nI n ∧ HS n cs pm (cs (gMo 2)) c ol ∧ SR n lc mc cs pm 0 (cs (gMo 1)) ∧ PI t n lc mc (cs (gMo 1)) ∧ (∀ j, j < c → ∃ lc mc, PI t n lc mc (fun i => cs (gMo 2) (2400 * j + i))) ∧ (cs (gMo 0) 0 = nI n ∧ cs (gMo 0) 4 = nI c ∧ cs (gMo 0) 6 = nI ty) ∧ ty ≤ 60 ∧ cs gSc 2 = nI ty ∧ ∀ i, i < ty → cs gSg i = cs (gMo 4) i
def RW (n t : Nat) (cs : Nat → Nat → Int32) (pm : Nat → Nat → Nat) : Prop := ∃ lc mc c ol ty, RWx n t cs pm lc mc c ol ty
/-- the script and the long row of the law -/
def Sx (h0 : Hp) (a0 a3 Ln : Nat) (xs : Nat → Int32) : Prop := hpK h0 a0 = 2 ∧ hpN h0 a0 = Ln ∧ tgO h0 a0 = 0 ∧ (∀ j, hpI h0 a0 j = xs j) ∧ hpK h0 a3 = 3 ∧ hpN h0 a3 = 1
section LA
variable {n t lc mc c ol ty lc' mc' c' ol' ty' a0 a3 Ln i k : Nat} {ad : Nat → Nat} {h0 : Hp} {cs cs' : Nat → Nat → Int32} {pm pm' : Nat → Nat → Nat} {v v' p p' f F xs : Nat → Int32}
theorem mS_lo {g : Nat} (h : g < 90000) : mS cs f v p g = cs g := mS_o (by unfold gMo; omega) (by unfold gMo; omega) (by unfold gMo; omega)
theorem RW.mk (hn : n ≤ 5) (hE : cs gEc 0 = nI n) (hH : HS n cs pm p c ol) (hR : SR n lc mc cs pm 0 v) (hP : PI t n lc mc v) (hS : ∀ j, j < c → ∃ lc mc, PI t n lc mc (fun i => p (2400 * j + i))) (h0 : F 0 = nI n) (h4 : F 4 = nI c) (h6 : F 6 = nI ty) (hty : ty ≤ 60) (h2 : cs gSc 2 = nI ty) (hx : ∀ i, i < ty → cs gSg i = cs (gMo 4) i) : RW n t (mS cs F v p) pm := by
  have hs : ∀ g, g < 80003 → mS cs F v p g = cs g := fun g hg => mS_lo (by omega)
  refine ⟨lc, mc, c, ol, ty, ?_, ?_, ?_, ?_, ?_, ?_, hty, ?_, ?_⟩
  · rw [mS_lo (by unfold gEc; omega)]; exact hE
  · rw [mS_2]; exact hH.same hn hs
  · rw [mS_1]; exact hR.same hn (hH.1 0 (by omega)) hs
  · rw [mS_1]; exact hP
  · rw [mS_2]; exact hS
  · rw [mS_0]; exact ⟨h0, h4, h6⟩
  · rw [mS_lo (by unfold gSc; omega)]; exact h2
  · intro i hi
    rw [mS_lo (by unfold gSg; omega), mS_o (by unfold gMo; omega) (by unfold gMo; omega) (by unfold gMo; omega)]
    exact hx i hi
theorem RWx.thr (hn : n ≤ 5) (R : RWx n t cs pm lc mc c ol ty) {t' : Nat} (ht : t ≤ t') (y : Int32) : RW n t' (mS cs (upd (cs (gMo 0)) 7 y) (cs (gMo 1)) (cs (gMo 2))) pm := by
  obtain ⟨rE, rH, rR, rP, rS, ⟨f0, f4, f6⟩, rt, rg, rx⟩ := R
  exact RW.mk hn rE rH rR (rP.mono ht) (fun j hj => by obtain ⟨a, b, h⟩ := rS j hj; exact ⟨a, b, h.mono ht⟩) (by rw [upd_ne (by omega)]; exact f0) (by rw [upd_ne (by omega)]; exact f4) (by rw [upd_ne (by omega)]; exact f6) rt rg rx
/-- the past, once a state is added -/
theorem act_sl {j : Nat} (hc : c ≤ 5) (hj : j < actC c) {y : Nat} (hy : y < 2400) : actP c v p (2400 * j + y) = if j + 1 = actC c then v y else p (2400 * (if c = 5 then j + 1 else j) + y) := by
  unfold actP actC at *
  by_cases e : c = 5
  · rw [if_pos e] at hj ⊢
    rw [if_pos e, if_pos e]
    unfold ovw shf
    by_cases e2 : j + 1 = 5
    · rw [if_pos e2, if_pos (by omega)]
      exact congrArg v (by omega)
    · rw [if_neg e2, if_neg (by omega), if_pos (by omega)]
      exact congrArg p (by omega)
  · rw [if_neg e] at hj ⊢
    rw [if_neg e, if_neg e]
    unfold ovw
    by_cases e2 : j + 1 = c + 1
    · rw [if_pos e2, if_pos (by omega)]
      exact congrArg v (by omega)
    · rw [if_neg e2, if_neg (by omega)]
theorem PIact (hn : n ≤ 5) (hc : c ≤ 5) (hP : PI t n lc mc v) (hS : ∀ j, j < c → ∃ lc mc, PI t n lc mc (fun i => p (2400 * j + i))) {t' : Nat} (ht : t ≤ t') : ∀ j, j < actC c → ∃ lc mc, PI t' n lc mc (fun i => actP c v p (2400 * j + i)) := by
  intro j hj
  by_cases e : j + 1 = actC c
  · exact ⟨lc, mc, (hP.mono ht).cg hn (fun y hy => by rw [act_sl hc hj hy, if_pos e])⟩
  · by_cases e5 : c = 5
    · have hj' : j + 1 < c := by unfold actC at *; rw [if_pos e5] at *; omega
      obtain ⟨a, b, h⟩ := hS (j + 1) hj'
      exact ⟨a, b, (h.mono ht).cg hn (fun y hy => by rw [act_sl hc hj hy, if_neg e, if_pos e5])⟩
    · have hj' : j < c := by unfold actC at *; rw [if_neg e5] at *; omega
      obtain ⟨a, b, h⟩ := hS j hj'
      exact ⟨a, b, (h.mono ht).cg hn (fun y hy => by rw [act_sl hc hj hy, if_neg e, if_neg e5])⟩
/-- both have acted -/
theorem RWx.act (hn : n ≤ 5) (R : RWx n t cs pm lc mc c ol ty) {t' : Nat} (ht : t ≤ t') (hF : FrH cs cs') (hH : HS n cs' pm' (actP c (cs (gMo 1)) (cs (gMo 2))) (actC c) ol') (hR : SR n lc' mc' cs' pm' 0 v') (hP : PI t' n lc' mc' v') {w : Nat → Int32} (ev : w = v') : RW n t' (mS cs' (actF c (upd (cs' (gMo 0)) 7 (nI 0))) w (actP c (cs' (gMo 1)) (cs' (gMo 2)))) pm' := by
  subst ev
  obtain ⟨rE, rH, rR, rP, rS, ⟨f0, f4, f6⟩, rt, rg, rx⟩ := R
  have m : ∀ k, cs' (gMo k) = cs (gMo k) := fun k => hF _ (by unfold gMo; omega) (by unfold gMo gHi; omega)
  rw [m 1, m 2, m 0]
  refine RW.mk hn (by rw [hF gEc (by unfold gEc; omega) (by unfold gEc gHi; omega)]; exact rE) hH hR hP (PIact hn rH.2.2.1 rP rS ht) ?_ ?_ ?_ rt ?_ ?_
  · unfold actF; rw [upd_ne (by omega), upd_ne (by omega)]; exact f0
  · unfold actF; rw [upd_eq]
  · unfold actF; rw [upd_ne (by omega), upd_ne (by omega)]; exact f6
  · rw [hF gSc (by unfold gSc; omega) (by unfold gSc gHi; omega)]; exact rg
  · intro i hi
    rw [hF gSg (by unfold gSg; omega) (by unfold gSg gHi; omega), m 4]
    exact rx i hi
theorem Sx.ag (S : Sx h0 a0 a3 Ln xs) (h : i + k < 2 ^ 31) : hpI (HN h0 ad cs pm) a0 (nI i + nI k).toNatClampNeg = xs (i + k) := by
  rw [nI_add, nI_clamp h]
  show (if tgO h0 a0 = 0 then hpI h0 a0 (i + k) else _) = _
  rw [if_pos S.2.2.1]
  exact S.2.2.2.1 _
theorem Sx.at (S : Sx h0 a0 a3 Ln xs) (h : i < 2 ^ 31) : hpI (HN h0 ad cs pm) a0 (nI i).toNatClampNeg = xs i := by
  rw [nI_clamp h]
  show (if tgO h0 a0 = 0 then hpI h0 a0 i else _) = _
  rw [if_pos S.2.2.1]
  exact S.2.2.2.1 _
theorem Sx.vi (S : Sx h0 a0 a3 Ln xs) (h : i + k < Ln) (hL : Ln < 2 ^ 31) : vp_in (nI i + nI k) (hpN (HN h0 ad cs pm) a0) := by
  rw [nI_add]
  show vp_in (nI (i + k)) (hpN h0 a0)
  rw [S.2.1]
  exact pk_in (i + k) Ln h rfl hL
theorem Sx.K (S : Sx h0 a0 a3 Ln xs) : hpK (HN h0 ad cs pm) a0 = 2 := S.1
theorem Sx.J (S : Sx h0 a0 a3 Ln xs) : hpK (HN h0 ad cs pm) a3 = 3 ∧ vp_in (nI 0) (hpN (HN h0 ad cs pm) a3) := ⟨S.2.2.2.2.1, by
  show vp_in (nI 0) (hpN h0 a3)
  rw [S.2.2.2.2.2]
  exact pk_in 0 1 (by omega) rfl (by omega)⟩
theorem Sx.Z (S : Sx h0 a0 a3 Ln xs) (z : Nat) : Sx (stZ h0 z) a0 a3 Ln xs := S
theorem Sx.W (S : Sx h0 a0 a3 Ln xs) (J : Int64) : Sx (stJ h0 a3 0 J) a0 a3 Ln xs := S
theorem Lay.Z (L : Lay n ad h0) (z : Nat) : Lay n ad (stZ h0 z) := L
theorem Lay.W (L : Lay n ad h0) (J : Int64) : Lay n ad (stJ h0 a3 0 J) := L
theorem HN_stJ (J : Int64) : stJ (HN h0 ad cs pm) a3 (nI 0).toNatClampNeg J = HN (stJ h0 a3 0 J) ad cs pm := by
  rw [show (nI 0).toNatClampNeg = 0 from nI_clamp (by omega)]
  rfl
theorem HN_J0 : hpJ (HN h0 ad cs pm) a3 (nI 0).toNatClampNeg = hpJ h0 a3 0 := by
  rw [show (nI 0).toNatClampNeg = 0 from nI_clamp (by omega)]
  rfl
theorem stJ_0 {J : Int64} : hpJ (stJ h0 a3 0 J) a3 0 = J := up2_s
theorem K18 (L : Lay n ad h0) : hpK (HN h0 ad cs pm) (ad gEc) = 18 := cl.K L.2.2.2.2.1.1
theorem K19 (L : Lay n ad h0) : hpK (HN h0 ad cs pm) (ad (gMo 0)) = 19 := cl.K L.2.2.2.1.1
theorem HN_mS : HN h0 ad cs pm = HN h0 ad (mS cs (cs (gMo 0)) (cs (gMo 1)) (cs (gMo 2))) pm := by rw [mS_self]
/-- where the law goes on -/
def FinL (n t : Nat) (ad : Nat → Nat) (a0 a3 Ln : Nat) (xs : Nat → Int32) (MC MS : Nat) (Q : Nat → Option Value → Hp → Prop) (x4 : Int32) (NC NS : Nat) : Prop :=
  (NC ≤ MC ∧ NS ≤ MS) ∧ ∀ h0 cs pm, Lay n ad h0 → Sx h0 a0 a3 Ln xs → RW n (t + 25) cs pm → Wm mL_law 11 MC MS Q 1859 [some (.ref a0), some (.ref (ad gEc)), some (.ref (ad (gMo 0))), some (.ref a3), some (.int x4), none, none] [] (HN h0 ad cs pm) NC NS
theorem skB (hn : 2 ≤ n ∧ n ≤ 5) {s k : Nat} (hs : s < n) (hk : k < 2) : (siB n (nI s) && kiB (nI k)) = true := by
  rw [siB_n (by omega) hs, Bool.true_and, kiB, inB_t]
  exact ⟨nI_le (by omega) (by omega), nI_le (by omega) (by omega)⟩
theorem kB {k : Nat} (hk : k < 2) : kiB (nI k) = true := by
  rw [kiB, inB_t]
  exact ⟨nI_le (by omega) (by omega), nI_le (by omega) (by omega)⟩
theorem miN (hm : mc ≤ 100) (h : k < mc) : miB mc (nI k) = true := (miB_I hm).mpr ⟨nI_pos (by omega), nI_ge h (by omega)⟩
theorem actF_7 {y : Int32} : actF c (upd f 7 y) 7 = y := by unfold actF; rw [upd_ne (by omega), upd_eq]
theorem FrH.mo (h : FrH cs cs') (k : Nat) : cs' (gMo k) = cs (gMo k) := h _ (by unfold gMo; omega) (by unfold gMo gHi; omega)
theorem lgz {x y : Int64} (h : x = y) : lg_cmp x y = 0 := (lg_cmp_eq x y).mpr h
end LA

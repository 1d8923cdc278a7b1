/-! THE CONSTRUCTORS: the class itself, the reference -/
def EcT (g : Nat) : Prop := (1 ≤ g ∧ g < 70000) ∨ (80001 ≤ g ∧ g < 80130)
def EcB (h : Hp) (n a e0 E1 E : Nat) : Prop := (hpT h a = (18, 0, gEc) ∧ hpP h a 1 = some (a + 1) ∧ hpP h a 2 = some e0 ∧ hpP h a 3 = some E1 ∧ hpI h a 0 = nI n) ∧ StK h n 0 (a + 1) e0 ∧ HiK h n e0 E1 ∧ ScK h E1 E
/-- the number of sites, as both make it -/
theorem nOf (x : Int32) : ∃ n, (2 ≤ n ∧ n ≤ 5) ∧ (if (nI 2) < (if x < (nI 5) then x else (nI 5)) then (if x < (nI 5) then x else (nI 5)) else (nI 2)) = nI n ∧ (nI 2 ≤ x → x ≤ nI 5 → x = nI n) ∧ (nI 2 ≤ x → ¬ x ≤ nI 5 → nI 5 = nI n) ∧ (¬ nI 2 ≤ x → nI 2 = nI n) := by
  have e2 : (nI 2).toInt = 2 := rfl
  have e5 : (nI 5).toInt = 5 := rfl
  by_cases c1 : nI 2 ≤ x
  · by_cases c2 : x ≤ nI 5
    · have h0 : ¬ x < 0 := Int32.not_lt.mpr (Int32.le_trans (by decide : (0 : Int32) ≤ nI 2) c1)
      obtain ⟨j, hj, e⟩ := nI_of2 (M := nI 5) (n := 5) e5 h0 c2
      subst e
      rw [nI_leI (by omega) (by omega)] at c1
      refine ⟨j, ⟨c1, hj⟩, ?_, fun _ _ => rfl, fun _ h => absurd c2 h, fun h => absurd (nI_le c1 (by omega)) h⟩
      by_cases c5 : nI j < nI 5
      · rw [if_pos c5]
        by_cases c3 : nI 2 < nI j
        · rw [if_pos c3]
        · rw [if_neg c3]
          rw [nI_ltI (by omega) (by omega)] at c3
          rw [show j = 2 by omega]
      · rw [if_neg c5, if_pos (by decide)]
        rw [nI_ltI (by omega) (by omega)] at c5
        rw [show j = 5 by omega]
    · refine ⟨5, ⟨by omega, by omega⟩, ?_, fun _ h => absurd h c2, fun _ _ => rfl, fun h => absurd c1 h⟩
      have c5 : ¬ x < nI 5 := by
        rw [Int32.le_iff_toInt_le] at c2
        rw [Int32.lt_iff_toInt_lt]
        omega
      rw [if_neg c5, if_pos (by decide)]
  · refine ⟨2, ⟨by omega, by omega⟩, ?_, fun h => absurd h c1, fun h => absurd h c1, fun _ => rfl⟩
    rw [Int32.le_iff_toInt_le, e2] at c1
    have c5 : x < nI 5 := by rw [Int32.lt_iff_toInt_lt, e5]; omega
    rw [if_pos c5, if_neg (by rw [Int32.lt_iff_toInt_lt, e2]; omega)]
section IE
variable {h h' : Hp} {n a b j k i : Nat} {U : Nat → Prop}
theorem k8_init (hn : n ≤ 5) {x1 : Int32} (hx : (if (nI 2) < (if x1 < (nI 5) then x1 else (nI 5)) then (if x1 < (nI 5) then x1 else (nI 5)) else (nI 2)) = nI n) (hT : hpT h a = (18, 0, gEc)) (hz : hpZ h = a + 1) (hU : Tg h U) (hd : ∀ g, EcT g → ¬ U g) {X : Hp → Prop} (q : ∀ hb e0 E1 E, Sm h hb 0 a → hpZ hb = E → EcB hb n a e0 E1 E → Tg hb (fun g => U g ∨ EcT g) → X (bA hb (a + 1) (nI 0) (nI 100) (nI 50))) : CKv mX8_init 6 3000 17000 [some (.ref a), some (.int x1)] h X := by
  intro Qc kq
  refine bX8_init_0 (tg_6 := gSt 0) ?_
  rw [hx, sI_Z, hz]
  have hT1 : hpT (stN (stI h a 0 (nI n)) 16 0 (gSt 0)) a = (18, 0, gEc) := by rw [sN_T, sI_Z, if_neg (by omega), sI_T, hT]
  have hI1 : hpI (stN (stI h a 0 (nI n)) 16 0 (gSt 0)) a 0 = nI n := by rw [sN_I, sI_Z, if_neg (by omega), sI_I, if_pos ⟨rfl, rfl⟩]
  have hN1 : hpT (stN (stI h a 0 (nI n)) 16 0 (gSt 0)) (a + 1) = (16, 0, gSt 0) := by rw [sN_T, sI_Z, if_pos hz.symm]
  have hZ1 : hpZ (stN (stI h a 0 (nI n)) 16 0 (gSt 0)) = a + 1 + 1 := by rw [sN_Z, sI_Z, hz]
  have hJ1 : ∀ j, hpI (stN (stI h a 0 (nI n)) 16 0 (gSt 0)) (a + 1) j = 0 := fun j => by rw [sN_I, sI_Z, if_pos hz.symm]
  have hS1 : Sm h (stN (stI h a 0 (nI n)) 16 0 (gSt 0)) 0 a := (Sm.I (by omega)).trans (Sm.N (by rw [sI_Z]; omega))
  have hG1 : Tg (stN (stI h a 0 (nI n)) 16 0 (gSt 0)) (fun g => U g ∨ g = gSt 0) := Tg.N (Tg.I hU) (hd _ (by unfold EcT gSt; omega)) (fun g hg => Or.inl hg) (Or.inr rfl)
  generalize stN (stI h a 0 (nI n)) 16 0 (gSt 0) = h1 at *
  refine ⟨by omega, by omega, by unfold hpK; rw [hT], by omega, by omega, ?_⟩
  refine bX8_init_21 (mcn := 400) (msn := 2300) ⟨by unfold hpK; rw [hT1], by omega, by omega, ?_⟩
  rw [hI1]
  refine k6_init (k := 0) (U := fun g => U g ∨ g = gSt 0) hn hN1 hZ1 hJ1 hG1 (fun g hg hu => hu.elim (hd g (by unfold SsT at hg; unfold EcT; omega)) (by unfold SsT at hg; unfold gSt; omega)) (fun h2 e0 s2 z2 r2 g2 => ?_)
  have he0 := r2.2.2.2.2
  have sa := s2 a (by omega) (by omega)
  refine bX8_init_29 (tg_4 := gHi) ?_
  rw [sP_Z, z2]
  have hT3 : hpT (stN (stP h2 a 1 (some (a + 1))) 11 0 gHi) a = (18, 0, gEc) := by rw [sN_T, sP_Z, if_neg (by omega), sP_T]; exact sa.1.trans hT1
  have hI3 : hpI (stN (stP h2 a 1 (some (a + 1))) 11 0 gHi) a 0 = nI n := by rw [sN_I, sP_Z, if_neg (by omega), sP_I]; exact (sa.2.1 0).trans hI1
  have hP3 : hpP (stN (stP h2 a 1 (some (a + 1))) 11 0 gHi) a 1 = some (a + 1) := by rw [sN_P, sP_Z, if_neg (by omega), sP_P, if_pos ⟨rfl, rfl⟩]
  have hN3 : hpT (stN (stP h2 a 1 (some (a + 1))) 11 0 gHi) e0 = (11, 0, gHi) := by rw [sN_T, sP_Z, if_pos z2.symm]
  have hZ3 : hpZ (stN (stP h2 a 1 (some (a + 1))) 11 0 gHi) = e0 + 1 := by rw [sN_Z, sP_Z, z2]
  have hJ3 : ∀ j, hpI (stN (stP h2 a 1 (some (a + 1))) 11 0 gHi) e0 j = 0 := fun j => by rw [sN_I, sP_Z, if_pos z2.symm]
  have hS3 : Sm h (stN (stP h2 a 1 (some (a + 1))) 11 0 gHi) 0 a := hS1.trans ((s2.sub (by omega) (by omega)).trans ((Sm.P (by omega)).trans (Sm.N (by rw [sP_Z]; omega))))
  have hK3 : StK (stN (stP h2 a 1 (some (a + 1))) 11 0 gHi) n 0 (a + 1) e0 := r2.keep ((Sm.P (by omega)).trans (Sm.N (by rw [sP_Z]; omega)))
  have hG3 : Tg (stN (stP h2 a 1 (some (a + 1))) 11 0 gHi) (fun g => U g ∨ (1 ≤ g ∧ g < 10000) ∨ g = gHi) := by
    refine Tg.N (Tg.P g2) (fun hg => ?_) (fun g hg => ?_) (Or.inr (Or.inr rfl))
    · rcases hg with (hg | hg) | hg
      · exact hd _ (by unfold EcT gHi; omega) hg
      · unfold gHi gSt at hg; omega
      · unfold SsT gHi at hg; omega
    · rcases hg with (hg | hg) | hg
      · exact Or.inl hg
      · exact Or.inr (Or.inl (by unfold gSt at hg; omega))
      · exact Or.inr (Or.inl (by unfold SsT at hg; omega))
  generalize stN (stP h2 a 1 (some (a + 1))) 11 0 gHi = h3 at *
  refine ⟨by unfold hpK; rw [sa.1, hT1], by omega, by omega, ?_⟩
  refine bX8_init_36 (mcn := 2500) (msn := 14000) ⟨by unfold hpK; rw [hT3], by omega, by omega, ?_⟩
  rw [hI3]
  refine k1_init hn hN3 hZ3 hJ3 hG3 (fun g hg hu => ?_) (fun h4 E1 s4 z4 r4 g4 => ?_)
  · rcases hu with hu | hu | hu
    · exact hd g (by unfold HiT gRi at hg; unfold EcT; omega) hu
    · unfold HiT gRi at hg; omega
    · unfold HiT gRi at hg; unfold gHi at hu; omega
  have hE1 := r4.2.2
  have sb := s4 a (by omega) (by omega)
  refine bX8_init_44 (tg_4 := gSc) ?_
  rw [sP_Z, z4]
  have hT5 : hpT (stN (stP h4 a 2 (some e0)) 14 0 gSc) a = (18, 0, gEc) := by rw [sN_T, sP_Z, if_neg (by omega), sP_T]; exact sb.1.trans hT3
  have hI5 : hpI (stN (stP h4 a 2 (some e0)) 14 0 gSc) a 0 = nI n := by rw [sN_I, sP_Z, if_neg (by omega), sP_I]; exact (sb.2.1 0).trans hI3
  have hP5 : hpP (stN (stP h4 a 2 (some e0)) 14 0 gSc) a 1 = some (a + 1) := by rw [sN_P, sP_Z, if_neg (by omega), sP_P, if_neg (by omega)]; exact (sb.2.2 1).trans hP3
  have hQ5 : hpP (stN (stP h4 a 2 (some e0)) 14 0 gSc) a 2 = some e0 := by rw [sN_P, sP_Z, if_neg (by omega), sP_P, if_pos ⟨rfl, rfl⟩]
  have hN5 : hpT (stN (stP h4 a 2 (some e0)) 14 0 gSc) E1 = (14, 0, gSc) := by rw [sN_T, sP_Z, if_pos z4.symm]
  have hZ5 : hpZ (stN (stP h4 a 2 (some e0)) 14 0 gSc) = E1 + 1 := by rw [sN_Z, sP_Z, z4]
  have hJ5 : ∀ j, hpI (stN (stP h4 a 2 (some e0)) 14 0 gSc) E1 j = 0 := fun j => by rw [sN_I, sP_Z, if_pos z4.symm]
  have hS5 : Sm h (stN (stP h4 a 2 (some e0)) 14 0 gSc) 0 a := hS3.trans ((s4.sub (by omega) (by omega)).trans ((Sm.P (by omega)).trans (Sm.N (by rw [sP_Z]; omega))))
  have hK5 : StK (stN (stP h4 a 2 (some e0)) 14 0 gSc) n 0 (a + 1) e0 := hK3.keep ((s4.sub (by omega) (by omega)).trans ((Sm.P (by omega)).trans (Sm.N (by rw [sP_Z]; omega))))
  have hH5 : HiK (stN (stP h4 a 2 (some e0)) 14 0 gSc) n e0 E1 := r4.keep ((Sm.P (by omega)).trans (Sm.N (by rw [sP_Z]; omega)))
  have hG5 : Tg (stN (stP h4 a 2 (some e0)) 14 0 gSc) (fun g => U g ∨ (1 ≤ g ∧ g < 70000) ∨ g = gHi ∨ g = gRi ∨ g = gSc) := by
    refine Tg.N (Tg.P g4) (fun hg => ?_) (fun g hg => ?_) (Or.inr (Or.inr (Or.inr (Or.inr rfl))))
    · rcases hg with (hg | hg | hg) | hg
      · exact hd _ (by unfold EcT gSc; omega) hg
      · unfold gSc at hg; omega
      · unfold gSc gHi at hg; omega
      · unfold HiT gSc gRi at hg; omega
    · rcases hg with (hg | hg | hg) | hg
      · exact Or.inl hg
      · exact Or.inr (Or.inl (by omega))
      · exact Or.inr (Or.inr (Or.inl hg))
      · rcases hg with hg | hg
        · exact Or.inr (Or.inr (Or.inr (Or.inl hg)))
        · exact Or.inr (Or.inl (by omega))
  generalize stN (stP h4 a 2 (some e0)) 14 0 gSc = h5 at *
  refine ⟨by unfold hpK; rw [sb.1, hT3], by omega, by omega, ?_⟩
  refine bX8_init_51 (mcn := 40) (msn := 250) ⟨by omega, by omega, ?_⟩
  refine k4_init hN5 hZ5 hJ5 hG5 (fun g hg hu => ?_) (fun h6 E s6 z6 r6 g6 => ?_)
  · rcases hu with hu | hu | hu | hu | hu
    · exact hd g (by unfold ScT gSg gCa at hg; unfold EcT; omega) hu
    · unfold ScT gSg gCa at hg; omega
    · unfold ScT gSg gCa at hg; unfold gHi at hu; omega
    · unfold ScT gSg gCa at hg; unfold gRi at hu; omega
    · unfold ScT gSg gCa at hg; unfold gSc at hu; omega
  have hE := r6.2.2
  have sc := s6 a (by omega) (by omega)
  have hK7 : StK (stP h6 a 3 (some E1)) n 0 (a + 1) e0 := hK5.keep ((s6.sub (by omega) (by omega)).trans (Sm.P (by omega)))
  have hT7 : hpT h6 a = (18, 0, gEc) := sc.1.trans hT5
  have hP7 : hpP (stP h6 a 3 (some E1)) a 1 = some (a + 1) := by rw [sP_P, if_neg (by omega)]; exact (sc.2.2 1).trans hP5
  refine bX8_init_55 ⟨by unfold hpK; rw [hT7], by unfold hpK; rw [hT7], a + 1, hP7, by omega, by omega, ?_, k6_begin hn hK7 (bX8_init_70 ⟨by omega, by omega, kq _ (q _ e0 E1 E ?_ ?_ ⟨⟨hT7, hP7, ?_, ?_, ?_⟩, hK7, ?_, ?_⟩ ?_)⟩)⟩
  · have := hK7.1.1.1
    rw [sP_T] at this
    unfold hpK; rw [this]
  · exact hS5.trans ((s6.sub (by omega) (by omega)).trans (Sm.P (by omega)))
  · rw [sP_Z, z6]
  · rw [sP_P, if_neg (by omega)]; exact (sc.2.2 2).trans hQ5
  · rw [sP_P, if_pos ⟨rfl, rfl⟩]
  · rw [sP_I]; exact (sc.2.1 0).trans hI5
  · exact hH5.keep ((s6.sub (by omega) (by omega)).trans (Sm.P (by omega)))
  · exact r6.keep (Sm.P (by omega))
  · refine Tg.P (g6.mono (fun g hg => ?_))
    rcases hg with (hg | hg | hg | hg | hg) | hg
    · exact Or.inl hg
    · exact Or.inr (by unfold EcT; omega)
    · exact Or.inr (by unfold gHi at hg; unfold EcT; omega)
    · exact Or.inr (by unfold gRi at hg; unfold EcT; omega)
    · exact Or.inr (by unfold gSc at hg; unfold EcT; omega)
    · exact Or.inr (by unfold ScT gSg gCa at hg; unfold EcT; omega)
/-! the reference -/
def moL (t : Nat) : Nat := if t = 2 then 12000 else if t = 1 ∨ t = 3 then 2400 else 60
def moF (t : Nat) : Nat := if t < 4 then t else if t = 4 then 5 else t + 5
def MoS (h0 h : Hp) (U : Nat → Prop) (a i : Nat) : Prop := Sm h0 h 0 a ∧ hpZ h = a + 1 + i ∧ hpT h a = (19, 0, gMo 0) ∧ (∀ t, 1 ≤ t → t ≤ i → hpT h (a + t) = (1, moL t, gMo t)) ∧ (∀ t, 1 ≤ t → t < i → hpP h a (moF t) = some (a + t)) ∧ (∀ b, a ≤ b → b ≤ a + i → ∀ j, hpI h b j = 0) ∧ Tg h (fun g => U g ∨ (90001 ≤ g ∧ g ≤ 90000 + i))
theorem MoS.step {h0 : Hp} (hd : ∀ g, (90001 ≤ g ∧ g ≤ 90008) → ¬ U g) (m : MoS h0 h U a i) (h1 : 1 ≤ i) (hi : i < 8) : MoS h0 (stN (stP h a (moF i) (some (a + i))) 1 (moL (i + 1)) (gMo (i + 1))) U a (i + 1) := by
  obtain ⟨m1, m2, m3, m4, m5, m6, m7⟩ := m
  refine ⟨m1.trans ((Sm.P (by omega)).trans (Sm.N (by rw [sP_Z]; omega))), by rw [sN_Z, sP_Z, m2]; omega, ?_, fun t t1 t2 => ?_, fun t t1 t2 => ?_, fun b hb hb2 j => ?_, ?_⟩
  · rw [sN_T, sP_Z, if_neg (by omega), sP_T]; exact m3
  · by_cases e : t = i + 1
    · rw [sN_T, sP_Z, if_pos (by omega), e]
    · rw [sN_T, sP_Z, if_neg (by omega), sP_T]; exact m4 t t1 (by omega)
  · rw [sN_P, sP_Z, if_neg (by omega), sP_P]
    by_cases e : t = i
    · rw [if_pos ⟨rfl, by rw [e]⟩, e]
    · rw [if_neg (fun q => by
        have := q.2
        unfold moF at this
        split at this <;> split at this <;> (try split at this) <;> (try split at this) <;> omega)]
      exact m5 t t1 (by omega)
  · rw [sN_I, sP_I, sP_Z]
    split
    · rfl
    · exact m6 b hb (by omega) j
  · refine Tg.N (Tg.P m7) (fun hg => hg.elim (hd _ (by unfold gMo; omega)) (by unfold gMo; omega)) (fun g hg => hg.imp id (by omega)) (Or.inr (by unfold gMo; omega))
def sA (h : Hp) (a : Nat) : Hp := stI (stI (stI (stI h (a + 1) 1 (nI 0)) (a + 1) 2 (nI 100)) (a + 1) 3 (nI 50)) a 4 (nI 0)
def MoB (h : Hp) (n a : Nat) : Prop := hpT h a = (19, 0, gMo 0) ∧ (∀ t, 1 ≤ t → t ≤ 8 → hpT h (a + t) = (1, moL t, gMo t) ∧ hpP h a (moF t) = some (a + t)) ∧ hpI h a 0 = nI n ∧ (∀ j, j ≠ 0 → hpI h a j = 0) ∧ ∀ b, a < b → b < a + 9 → ∀ j, hpI h b j = 0
theorem k9_starts (m : MoB h n a) {X : Hp → Prop} (q : X (sA h a)) : CKv mX9_starts 0 0 0 [some (.ref a), some (.int (nI 0)), some (.int (nI 100)), some (.int (nI 50)), none] h X := by
  intro Qc kq
  obtain ⟨m1, m2, m3, m4, m5⟩ := m
  obtain ⟨t1, p1⟩ := m2 1 (by omega) (by omega)
  have p1' : hpP h a 1 = some (a + 1) := p1
  have hK : hpK h a = 19 := by unfold hpK; rw [m1]
  have K1 : hpK h (a + 1) = 1 := by unfold hpK; rw [t1]
  have N1 : hpN h (a + 1) = 2400 := by unfold hpN; rw [t1]; rfl
  have l1 : ∀ i, i ≤ 2400 → Wm mX9_starts 0 0 0 Qc 3 [some (.ref a), some (.int (nI 0)), some (.int (nI 100)), some (.int (nI 50)), some (.int (nI i))] [] h 0 0 := by
    refine loopU 2400 _ ?_ ?_
    · refine bX9_starts_3 ⟨fun _ => ⟨hK, a + 1, p1', K1, ?_⟩, fun c => absurd (Int32.le_refl _) c⟩
      rw [N1, nI_clamp (show 1 < 2 ^ 31 by omega), nI_clamp (show 2 < 2 ^ 31 by omega), nI_clamp (show 3 < 2 ^ 31 by omega)]
      exact ⟨pk_in 1 2400 (by omega) rfl (by omega), pk_in 2 2400 (by omega) rfl (by omega), pk_in 3 2400 (by omega) rfl (by omega), kq _ q⟩
    · intro i hi ih
      refine bX9_starts_3 ⟨fun c => absurd c (nI_ge hi (by omega)), fun _ => ⟨hK, a + 1, p1', K1, by rw [N1]; exact pk_in i 2400 hi rfl (by omega), ?_⟩⟩
      rw [nI_clamp (show i < 2 ^ 31 by omega), stI_0 (m5 _ (by omega) (by omega) _), nI_add]
      exact ih
  exact bX9_starts_0 (l1 0 (Nat.zero_le _))
theorem cl2400 : (nI 2400).toNatClampNeg = 2400 := nI_clamp (by omega)
theorem cl12000 : (nI 12000).toNatClampNeg = 12000 := nI_clamp (by omega)
theorem k9_init {x1 : Int32} (h1 : nI 2 ≤ x1 → x1 ≤ nI 5 → x1 = nI n) (h2 : nI 2 ≤ x1 → ¬ x1 ≤ nI 5 → nI 5 = nI n) (h3 : ¬ nI 2 ≤ x1 → nI 2 = nI n) (hT : hpT h a = (19, 0, gMo 0)) (hz : hpZ h = a + 1) (hI : ∀ j, hpI h a j = 0) (hU : Tg h U) (hd : ∀ g, (90001 ≤ g ∧ g ≤ 90008) → ¬ U g) {X : Hp → Prop} (q : ∀ hm, Sm h hm 0 a → hpZ hm = a + 9 → MoB hm n a → Tg hm (fun g => U g ∨ (90001 ≤ g ∧ g ≤ 90008)) → X (sA hm a)) : CKv mX9_init 1 8 17100 [some (.ref a), some (.int x1)] h X := by
  intro Qc kq
  have pz : ∀ {k : Nat}, k < 2 ^ 31 → ¬ nI k < 0 := fun hk => nI_pos hk
  have S1 : MoS h (stN h 1 2400 (gMo 1)) U a 1 := by
    refine ⟨Sm.N (by omega), by rw [sN_Z, hz], by rw [sN_T, if_neg (by omega)]; exact hT, fun t t1 t2 => ?_, fun t t1 t2 => by omega, fun b hb hb2 j => ?_, Tg.N hU (hd _ (by unfold gMo; omega)) (fun g hg => Or.inl hg) (Or.inr (by unfold gMo; omega))⟩
    · rw [show t = 1 by omega, sN_T, if_pos hz.symm]; rfl
    · rw [sN_I]
      split
      · rfl
      · rw [show b = a by omega]; exact hI j
  refine bX9_init_0 (tg_5 := gMo 1) ?_
  rw [cl2400, hz]
  refine ⟨pz (by omega), by omega, by omega, by omega, ?_⟩
  have S2 := S1.step hd (by omega) (by omega)
  generalize stN h 1 2400 (gMo 1) = g1 at *
  refine bX9_init_10 (tg_6 := gMo 2) ?_
  rw [cl12000, sP_Z, S1.2.1]
  refine ⟨by unfold hpK; rw [S1.2.2.1], pz (by omega), by omega, by omega, by omega, ?_⟩
  have e2 : stN (stP g1 a (moF 1) (some (a + 1))) 1 (moL (1 + 1)) (gMo (1 + 1)) = stN (stP g1 a 1 (some (a + 1))) 1 12000 (gMo 2) := rfl
  rw [e2] at S2
  have S3 := S2.step hd (by omega) (by omega)
  generalize stN (stP g1 a 1 (some (a + 1))) 1 12000 (gMo 2) = g2 at *
  refine bX9_init_19 (tg_6 := gMo 3) ?_
  rw [cl2400, sP_Z, S2.2.1]
  refine ⟨by unfold hpK; rw [S2.2.2.1], pz (by omega), by omega, by omega, by omega, ?_⟩
  have e3 : stN (stP g2 a (moF (1 + 1)) (some (a + (1 + 1)))) 1 (moL (1 + 1 + 1)) (gMo (1 + 1 + 1)) = stN (stP g2 a 2 (some (a + 1 + 1))) 1 2400 (gMo 3) := rfl
  rw [e3] at S3
  have S4 := S3.step hd (by omega) (by omega)
  generalize stN (stP g2 a 2 (some (a + 1 + 1))) 1 2400 (gMo 3) = g3 at *
  refine bX9_init_28 (tg_6 := gMo 4) ?_
  rw [cl60, sP_Z, S3.2.1]
  refine ⟨by unfold hpK; rw [S3.2.2.1], pz (by omega), by omega, by omega, by omega, ?_⟩
  have e4 : stN (stP g3 a (moF (1 + 1 + 1)) (some (a + (1 + 1 + 1)))) 1 (moL (1 + 1 + 1 + 1)) (gMo (1 + 1 + 1 + 1)) = stN (stP g3 a 3 (some (a + 1 + (1 + 1)))) 1 60 (gMo 4) := rfl
  rw [e4] at S4
  have S5 := S4.step hd (by omega) (by omega)
  generalize stN (stP g3 a 3 (some (a + 1 + (1 + 1)))) 1 60 (gMo 4) = g4 at *
  refine bX9_init_36 (tg_6 := gMo 5) ?_
  rw [cl60, sP_Z, S4.2.1]
  refine ⟨by unfold hpK; rw [S4.2.2.1], pz (by omega), by omega, by omega, by omega, ?_⟩
  have e5 : stN (stP g4 a (moF (1 + 1 + 1 + 1)) (some (a + (1 + 1 + 1 + 1)))) 1 (moL (1 + 1 + 1 + 1 + 1)) (gMo (1 + 1 + 1 + 1 + 1)) = stN (stP g4 a 5 (some (a + 1 + (1 + 1 + 1)))) 1 60 (gMo 5) := rfl
  rw [e5] at S5
  have S6 := S5.step hd (by omega) (by omega)
  generalize stN (stP g4 a 5 (some (a + 1 + (1 + 1 + 1)))) 1 60 (gMo 5) = g5 at *
  refine bX9_init_44 (tg_6 := gMo 6) ?_
  rw [cl60, sP_Z, S5.2.1]
  refine ⟨by unfold hpK; rw [S5.2.2.1], pz (by omega), by omega, by omega, by omega, ?_⟩
  have e6 : stN (stP g5 a (moF (1 + 1 + 1 + 1 + 1)) (some (a + (1 + 1 + 1 + 1 + 1)))) 1 (moL (1 + 1 + 1 + 1 + 1 + 1)) (gMo (1 + 1 + 1 + 1 + 1 + 1)) = stN (stP g5 a 10 (some (a + 1 + (1 + 1 + 1 + 1)))) 1 60 (gMo 6) := rfl
  rw [e6] at S6
  have S7 := S6.step hd (by omega) (by omega)
  generalize stN (stP g5 a 10 (some (a + 1 + (1 + 1 + 1 + 1)))) 1 60 (gMo 6) = g6 at *
  refine bX9_init_52 (tg_6 := gMo 7) ?_
  rw [cl60, sP_Z, S6.2.1]
  refine ⟨by unfold hpK; rw [S6.2.2.1], pz (by omega), by omega, by omega, by omega, ?_⟩
  have e7 : stN (stP g6 a (moF (1 + 1 + 1 + 1 + 1 + 1)) (some (a + (1 + 1 + 1 + 1 + 1 + 1)))) 1 (moL (1 + 1 + 1 + 1 + 1 + 1 + 1)) (gMo (1 + 1 + 1 + 1 + 1 + 1 + 1)) = stN (stP g6 a 11 (some (a + 1 + (1 + 1 + 1 + 1 + 1)))) 1 60 (gMo 7) := rfl
  rw [e7] at S7
  have S8 := S7.step hd (by omega) (by omega)
  generalize stN (stP g6 a 11 (some (a + 1 + (1 + 1 + 1 + 1 + 1)))) 1 60 (gMo 7) = g7 at *
  refine bX9_init_60 (tg_6 := gMo 8) ?_
  rw [cl60, sP_Z, S7.2.1]
  refine ⟨by unfold hpK; rw [S7.2.2.1], pz (by omega), by omega, by omega, by omega, ?_⟩
  have e8 : stN (stP g7 a (moF (1 + 1 + 1 + 1 + 1 + 1 + 1)) (some (a + (1 + 1 + 1 + 1 + 1 + 1 + 1)))) 1 (moL (1 + 1 + 1 + 1 + 1 + 1 + 1 + 1)) (gMo (1 + 1 + 1 + 1 + 1 + 1 + 1 + 1)) = stN (stP g7 a 12 (some (a + 1 + (1 + 1 + 1 + 1 + 1 + 1)))) 1 60 (gMo 8) := rfl
  rw [e8] at S8
  generalize stN (stP g7 a 12 (some (a + 1 + (1 + 1 + 1 + 1 + 1 + 1)))) 1 60 (gMo 8) = g8 at *
  obtain ⟨m1, m2, m3, m4, m5, m6, m7⟩ := S8
  have hK : hpK g8 a = 19 := by unfold hpK; rw [m3]
  have ea : a + 1 + (1 + 1 + 1 + 1 + 1 + 1 + 1) = a + 8 := by omega
  rw [ea]
  have go : ∀ (nc ns : Nat), nc ≤ 8 → ns ≤ 17100 → ∀ z : Int32, z = nI n → CKv mX9_starts 0 0 0 [some (.ref a), some (.int (nI 0)), some (.int (nI 100)), some (.int (nI 50)), none] (stI (stP g8 a 13 (some (a + 8))) a 0 z) (fun h' => Wm mX9_init 1 8 17100 Qc 103 [none, none] [] h' nc ns) := by
    intro nc ns b1 b2 z ez
    have M : MoB (stI (stP g8 a 13 (some (a + 8))) a 0 z) n a := by
      refine ⟨by rw [sI_T, sP_T]; exact m3, fun t t1 t2 => ⟨by rw [sI_T, sP_T]; exact m4 t t1 t2, ?_⟩, by rw [sI_I, if_pos ⟨rfl, rfl⟩]; exact ez, fun j hj => by rw [sI_I, if_neg (by omega), sP_I]; exact m6 a (by omega) (by omega) j, fun b hb hb2 j => by rw [sI_I, if_neg (by omega), sP_I]; exact m6 b (by omega) (by omega) j⟩
      rw [sI_P, sP_P]
      by_cases e : t = 8
      · subst e
        rw [if_pos ⟨rfl, rfl⟩]
      · rw [if_neg (fun q => by
          have := q.2
          unfold moF at this
          split at this <;> (try split at this) <;> omega)]
        exact m5 t t1 (by omega)
    refine k9_starts M (bX9_init_103 ⟨b1, b2, kq _ (q _ ?_ ?_ M ?_)⟩)
    · exact m1.trans ((Sm.P (by omega)).trans (Sm.I (by omega)))
    · rw [sI_Z, sP_Z]; omega
    · exact Tg.I (Tg.P (m7.mono (fun g hg => hg.imp id (by omega))))
  refine bX9_init_68 ⟨hK, fun c1 => ⟨fun c2 => ⟨hK, by omega, by omega, go _ _ (by omega) (by omega) _ (h1 c1 c2)⟩, fun c2 => ⟨hK, by omega, by omega, go _ _ (by omega) (by omega) _ (h2 c1 c2)⟩⟩, fun c1 => ⟨hK, by omega, by omega, go _ _ (by omega) (by omega) _ (h3 c1)⟩⟩
end IE

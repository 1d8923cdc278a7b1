/-! THE LAYOUT OUT OF THE CONSTRUCTORS -/
noncomputable def adr (h : Hp) (g : Nat) : Nat := Classical.epsilon (fun b => tgO h b = g)
section LYA
variable {hb h : Hp} {n k w o a b b' e j kd l kd' l' g g' : Nat} {U : Nat → Prop}
theorem tg_of (hT : hpT h b = (kd, l, g)) : tgO h b = g := by unfold tgO; rw [hT]
theorem adr_eq (t : Tg h U) (hT : hpT h b = (kd, l, g)) (hg : g ≠ 0) : adr h g = b := by
  have e : tgO h (adr h g) = g := Classical.epsilon_spec (p := fun b => tgO h b = g) ⟨b, tg_of hT⟩
  exact t.1 _ _ (by rw [e]; exact hg) (by rw [e, tg_of hT])
theorem cl_of (t : Tg h U) (hT : hpT h b = (kd, l, g)) (hg : g ≠ 0) : cl h (adr h) g kd l := by
  unfold cl
  rw [adr_eq t hT hg]
  exact hT
theorem rf_of (t : Tg h U) (hT : hpT h b = (kd, l, g)) (hg : g ≠ 0) (hT' : hpT h b' = (kd', l', g')) (hg' : g' ≠ 0) (hP : hpP h b j = some b') : rf h (adr h) g j g' := by
  unfold rf
  rw [adr_eq t hT hg, adr_eq t hT' hg']
  exact hP
def Tp (hb h : Hp) (lo hi : Nat) : Prop := ∀ b, lo ≤ b → b < hi → hpT h b = hpT hb b ∧ ∀ j, hpP h b j = hpP hb b j
theorem Tp.sub {lo hi lo' hi' : Nat} (s : Tp hb h lo hi) (h1 : lo ≤ lo') (h2 : hi' ≤ hi) : Tp hb h lo' hi' := fun b g1 g2 => s b (by omega) (by omega)
theorem lay_rc (t : Tg h U) (s : Tp hb h a (a + 5)) (r : RcK hb k w o a) : cl h (adr h) (gRc k w o) 15 0 ∧ (rf h (adr h) (gRc k w o) 2 (gAr k w o 0) ∧ cl h (adr h) (gAr k w o 0) 1 2) ∧ (rf h (adr h) (gRc k w o) 3 (gAr k w o 1) ∧ cl h (adr h) (gAr k w o 1) 1 2) ∧ (rf h (adr h) (gRc k w o) 4 (gAr k w o 2) ∧ cl h (adr h) (gAr k w o 2) 1 10) ∧ (rf h (adr h) (gRc k w o) 6 (gAr k w o 3) ∧ cl h (adr h) (gAr k w o 3) 1 10) := by
  obtain ⟨⟨r1, r2, r3, r4, r5⟩, ⟨p1, p2, p3, p4⟩, -⟩ := r
  have n0 : gRc k w o ≠ 0 := by unfold gRc; omega
  have n1 : ∀ t, gAr k w o t ≠ 0 := fun t => by unfold gAr; omega
  have s0 := s a (by omega) (by omega)
  have q1 := s0.1.trans r1
  have q2 := (s (a + 1) (by omega) (by omega)).1.trans r2
  have q3 := (s (a + 2) (by omega) (by omega)).1.trans r3
  have q4 := (s (a + 3) (by omega) (by omega)).1.trans r4
  have q5 := (s (a + 4) (by omega) (by omega)).1.trans r5
  exact ⟨cl_of t q1 n0, ⟨rf_of t q1 n0 q2 (n1 0) ((s0.2 2).trans p1), cl_of t q2 (n1 0)⟩, ⟨rf_of t q1 n0 q3 (n1 1) ((s0.2 3).trans p2), cl_of t q3 (n1 1)⟩, ⟨rf_of t q1 n0 q4 (n1 2) ((s0.2 4).trans p3), cl_of t q4 (n1 2)⟩, ⟨rf_of t q1 n0 q5 (n1 3) ((s0.2 6).trans p4), cl_of t q5 (n1 3)⟩⟩
theorem lay_vw (t : Tg h U) (s : Tp hb h a (a + 2 + 5 * n)) (r : VwK hb n k w a) : cl h (adr h) (gVw k w) 17 0 ∧ rf h (adr h) (gVw k w) 0 (gRa k w) ∧ cl h (adr h) (gRa k w) 35 n ∧ ∀ o, o < n → rf h (adr h) (gRa k w) o (gRc k w o) ∧ cl h (adr h) (gRc k w o) 15 0 ∧ (rf h (adr h) (gRc k w o) 2 (gAr k w o 0) ∧ cl h (adr h) (gAr k w o 0) 1 2) ∧ (rf h (adr h) (gRc k w o) 3 (gAr k w o 1) ∧ cl h (adr h) (gAr k w o 1) 1 2) ∧ (rf h (adr h) (gRc k w o) 4 (gAr k w o 2) ∧ cl h (adr h) (gAr k w o 2) 1 10) ∧ (rf h (adr h) (gRc k w o) 6 (gAr k w o 3) ∧ cl h (adr h) (gAr k w o 3) 1 10) := by
  obtain ⟨r1, r2, r3, r4⟩ := r
  have n0 : gVw k w ≠ 0 := by unfold gVw; omega
  have n1 : gRa k w ≠ 0 := by unfold gRa; omega
  have s0 := s a (by omega) (by omega)
  have s1 := s (a + 1) (by omega) (by omega)
  have q1 := s0.1.trans r1
  have q2 := s1.1.trans r3
  refine ⟨cl_of t q1 n0, rf_of t q1 n0 q2 n1 ((s0.2 0).trans r2), cl_of t q2 n1, fun o ho => ?_⟩
  obtain ⟨y1, y2⟩ := r4 o ho
  exact ⟨rf_of t q2 n1 ((s _ (by omega) (by omega)).1.trans y2.1.1) (by unfold gRc; omega) ((s1.2 o).trans y1), lay_rc t (s.sub (by omega) (by omega)) y2⟩
theorem lay_st (t : Tg h U) (s : Tp hb h a e) (r : StK hb n k a e) : LaySt n (adr h) h k ∧ ∀ m, m < 8 → rf h (adr h) (gMa k) m (gMg k m) := by
  obtain ⟨⟨⟨b1, b2, b3, b4⟩, ⟨b5, b6, b7⟩, -, -⟩, V, L, M, he⟩ := r
  have n0 : gSt k ≠ 0 := by unfold gSt; omega
  have n1 : gVa k ≠ 0 := by unfold gVa; omega
  have n2 : gLa k ≠ 0 := by unfold gLa; omega
  have n3 : gMa k ≠ 0 := by unfold gMa; omega
  have s0 := s a (by omega) (by omega)
  have s1 := s (a + 1) (by omega) (by omega)
  have s2 := s (a + 2) (by omega) (by omega)
  have s3 := s (a + 3) (by omega) (by omega)
  have q0 := s0.1.trans b1
  have q1 := s1.1.trans b5
  have q2 := s2.1.trans b6
  have q3 := s3.1.trans b7
  refine ⟨⟨⟨cl_of t q0 n0, rf_of t q0 n0 q3 n1 ((s0.2 7).trans b2), rf_of t q0 n0 q1 n2 ((s0.2 8).trans b3), rf_of t q0 n0 q2 n3 ((s0.2 9).trans b4)⟩, ⟨cl_of t q3 n1, cl_of t q1 n2, cl_of t q2 n3⟩, fun i hi => ?_, fun i hi => ?_, fun i hi => ?_, fun i hi => ?_⟩, fun i hi => ?_⟩
  · obtain ⟨b, e', v1, v2, v3, v4, v5⟩ := V i hi
    exact rf_of t q3 n1 ((s b (by omega) (by omega)).1.trans v5.1) (by unfold gVw; omega) ((s3.2 i).trans v3)
  · obtain ⟨b, e', v1, v2, v3, v4, v5⟩ := L i hi
    have qb := (s b (by omega) (by omega)).1.trans v5
    exact ⟨rf_of t q1 n2 qb (by unfold gLn; omega) ((s1.2 i).trans v3), cl_of t qb (by unfold gLn; omega)⟩
  · obtain ⟨b, e', v1, v2, v3, v4, v5⟩ := M i hi
    have qb := (s b (by omega) (by omega)).1.trans v5.1
    exact ⟨cl_of t qb (by unfold gMg; omega), rf_of t qb (by unfold gMg; omega) ((s (b + 1) (by omega) (by omega)).1.trans v5.2.2.1) (by unfold gVw; omega) (((s b (by omega) (by omega)).2 3).trans v5.2.1)⟩
  · rcases hi with hi | hi
    · obtain ⟨b, e', v1, v2, v3, v4, v5⟩ := V i hi
      exact lay_vw t (s.sub (by omega) (by omega)) v5
    · obtain ⟨m, rfl⟩ : ∃ m, i = 5 + m := ⟨i - 5, by omega⟩
      obtain ⟨b, e', v1, v2, v3, v4, v5⟩ := M m (by omega)
      exact lay_vw t (s.sub (by omega) (by omega)) v5.2.2
  · obtain ⟨b, e', v1, v2, v3, v4, v5⟩ := M i hi
    exact rf_of t q2 n3 ((s b (by omega) (by omega)).1.trans v5.1) (by unfold gMg; omega) ((s2.2 i).trans v3)
/-- all of it: the class made in hb up to E, the reference at aM -/
theorem lay_all {aE e0 E1 E aM : Nat} {hm : Hp} (hn : 2 ≤ n ∧ n ≤ 5) (t : Tg h U) (s : Tp hb h aE E) (r : EcB hb n aE e0 E1 E) (sm : Tp hm h aM (aM + 9)) (m : MoB hm n aM) : Lay n (adr h) h ∧ ∀ k, k < 7 → ∀ m, m < 8 → rf h (adr h) (gMa k) m (gMg k m) := by
  obtain ⟨⟨r1, r2, r3, r4, r5⟩, K, H, C⟩ := r
  have x1 := K.2.2.2.2
  have x2 := H.2.2
  have x3 := C.2.2
  obtain ⟨⟨h1, h2, h3, h4⟩, HL, -⟩ := H
  obtain ⟨⟨c1, c2, c3, c4, c5, c6⟩, CL, -⟩ := C
  obtain ⟨m1, m2, -⟩ := m
  have st : ∀ k, k < 7 → LaySt n (adr h) h k ∧ ∀ m, m < 8 → rf h (adr h) (gMa k) m (gMg k m) := by
    intro k hk
    by_cases e : k = 0
    · subst e
      exact lay_st t (s.sub (by omega) (by omega)) K
    · obtain ⟨b, e', v1, v2, v3, v4⟩ := HL (k - 1) (by omega)
      have v4' : StK hb n (1 + (k - 1)) b e' := v4
      rw [show 1 + (k - 1) = k by omega] at v4'
      exact lay_st t (s.sub (by omega) (by omega)) v4'
  have nE : gEc ≠ 0 := by unfold gEc; omega
  have nH : gHi ≠ 0 := by unfold gHi; omega
  have nR : gRi ≠ 0 := by unfold gRi; omega
  have nS : gSc ≠ 0 := by unfold gSc; omega
  have nG : gSg ≠ 0 := by unfold gSg; omega
  have nC : gCa ≠ 0 := by unfold gCa; omega
  have nM : ∀ t, gMo t ≠ 0 := fun t => by unfold gMo; omega
  have sE := s aE (by omega) (by omega)
  have qE := sE.1.trans r1
  have sH := s e0 (by omega) (by omega)
  have qH := sH.1.trans h1
  have sR := s (e0 + 1) (by omega) (by omega)
  have qR := sR.1.trans h3
  have sS := s E1 (by omega) (by omega)
  have qS := sS.1.trans c1
  have qG := (s (E1 + 1) (by omega) (by omega)).1.trans c4
  have sC := s (E1 + 2) (by omega) (by omega)
  have qC := sC.1.trans c5
  have sM := sm aM (by omega) (by omega)
  have qM := sM.1.trans m1
  have mo : ∀ t', 1 ≤ t' → t' ≤ 8 → rf h (adr h) (gMo 0) (moF t') (gMo t') ∧ cl h (adr h) (gMo t') 1 (moL t') := fun t' t1 t2 => by
    obtain ⟨y1, y2⟩ := m2 t' t1 t2
    have qt := (sm (aM + t') (by omega) (by omega)).1.trans y1
    exact ⟨rf_of t qM (nM 0) qt (nM t') ((sM.2 _).trans y2), cl_of t qt (nM t')⟩
  refine ⟨⟨hn, fun b hb' => ?_, fun k hk => (st k hk).1, ⟨cl_of t qM (nM 0), mo 1 (by omega) (by omega), mo 2 (by omega) (by omega), mo 3 (by omega) (by omega), mo 4 (by omega) (by omega), mo 5 (by omega) (by omega), mo 6 (by omega) (by omega), mo 7 (by omega) (by omega), mo 8 (by omega) (by omega)⟩, ⟨⟨cl_of t qE nE, rf_of t qE nE ((s (aE + 1) (by omega) (by omega)).1.trans K.1.1.1) (by unfold gSt; omega) ((sE.2 1).trans r2), rf_of t qE nE qH nH ((sE.2 2).trans r3), rf_of t qE nE qS nS ((sE.2 3).trans r4)⟩, ⟨cl_of t qH nH, rf_of t qH nH qR nR ((sH.2 0).trans h2), cl_of t qR nR, fun i hi => ?_⟩, ⟨cl_of t qS nS, rf_of t qS nS qG nG ((sS.2 0).trans c2), cl_of t qG nG, rf_of t qS nS qC nC ((sS.2 1).trans c3), cl_of t qC nC, fun i hi => ?_⟩⟩⟩, fun k hk => (st k hk).2⟩
  · exact t.1 _ _ (by
      have e : tgO h (adr h (tgO h b)) = tgO h b := Classical.epsilon_spec (p := fun b' => tgO h b' = tgO h b) ⟨b, rfl⟩
      rw [e]; exact hb') (Classical.epsilon_spec (p := fun b' => tgO h b' = tgO h b) ⟨b, rfl⟩)
  · obtain ⟨b, e', v1, v2, v3, v4⟩ := HL i hi
    have v4' : StK hb n (1 + i) b e' := v4
    have v5 := v4'.2.2.2.2
    exact rf_of t qR nR ((s b (by omega) (by omega)).1.trans v4'.1.1.1) (by unfold gSt; omega) ((sR.2 i).trans v3)
  · obtain ⟨b, e', v1, v2, v3, v4, v5⟩ := CL i hi
    have qb := (s b (by omega) (by omega)).1.trans v5
    exact ⟨rf_of t qC nC qb (by unfold gCm; omega) ((sC.2 i).trans v3), cl_of t qb (by unfold gCm; omega)⟩
end LYA

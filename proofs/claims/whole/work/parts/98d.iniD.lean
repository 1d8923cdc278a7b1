/-! THE CONSTRUCTORS: clearing what is zero; the history, the script -/
def stL (n : Nat) : Hp → Nat → Nat → Nat → Prop := fun h i b e => StK h n (1 + i) b e
def HiB (h : Hp) (a : Nat) : Prop := hpT h a = (11, 0, gHi) ∧ hpP h a 0 = some (a + 1) ∧ hpT h (a + 1) = (36, 6, gRi) ∧ ∀ j, hpI h a j = 0
def HiK (h : Hp) (n a E : Nat) : Prop := HiB h a ∧ Lst h (a + 1) (a + 2) E 6 (stL n) ∧ a + 2 ≤ E
def cmL : Hp → Nat → Nat → Nat → Prop := fun h i b e => e = b + 1 ∧ hpT h b = (10, 0, gCm i)
def ScB (h : Hp) (a : Nat) : Prop := hpT h a = (14, 0, gSc) ∧ hpP h a 0 = some (a + 1) ∧ hpP h a 1 = some (a + 2) ∧ hpT h (a + 1) = (1, 60, gSg) ∧ hpT h (a + 2) = (30, 30, gCa) ∧ ∀ j, hpI h a j = 0
def ScK (h : Hp) (a E : Nat) : Prop := ScB h a ∧ Lst h (a + 2) (a + 3) E 30 cmL ∧ a + 3 ≤ E
def HiT (g : Nat) : Prop := g = gRi ∨ (10001 ≤ g ∧ g < 70000)
def ScT (g : Nat) : Prop := g = gSg ∨ g = gCa ∨ (80100 ≤ g ∧ g < 80130)
section ID
variable {h h' : Hp} {n a b j k w o e : Nat} {U : Nat → Prop}
theorem stI_0 (hI : hpI h a j = 0) : stI h a j (nI 0) = h := by
  have e : up2 h.1 a j (nI 0) = h.1 := by
    funext b i
    unfold up2
    by_cases c : b = a ∧ i = j
    · rw [if_pos c, c.1, c.2]; exact hI.symm
    · rw [if_neg c]
  unfold stI
  rw [e]
theorem k5_clear (r : RcK h k w o a) {X : Hp → Prop} (q : X h) : CKv mX5_clear 0 0 0 [some (.ref a), none] h X := by
  intro Qc kq
  obtain ⟨⟨r1, r2, r3, r4, r5⟩, ⟨p1, p2, p3, p4⟩, r6⟩ := r
  have hK : hpK h a = 15 := by unfold hpK; rw [r1]
  have K1 : hpK h (a + 1) = 1 := by unfold hpK; rw [r2]
  have K2 : hpK h (a + 2) = 1 := by unfold hpK; rw [r3]
  have K3 : hpK h (a + 3) = 1 := by unfold hpK; rw [r4]
  have K4 : hpK h (a + 4) = 1 := by unfold hpK; rw [r5]
  have N1 : hpN h (a + 1) = 2 := by unfold hpN; rw [r2]
  have N2 : hpN h (a + 2) = 2 := by unfold hpN; rw [r3]
  have N3 : hpN h (a + 3) = 10 := by unfold hpN; rw [r4]
  have N4 : hpN h (a + 4) = 10 := by unfold hpN; rw [r5]
  have l3 : ∀ i, i ≤ 10 → Wm mX5_clear 0 0 0 Qc 68 [some (.ref a), some (.int (nI i))] [] h 0 0 := by
    refine loopU 10 _ ?_ ?_
    · exact bX5_clear_68 ⟨fun _ => kq _ q, fun c => absurd (Int32.le_refl _) c⟩
    · intro i hi ih
      refine bX5_clear_68 ⟨fun c => absurd c (nI_ge hi (by omega)), fun _ => ⟨hK, a + 4, p4, K4, by rw [N4]; exact pk_in i 10 hi rfl (by omega), ?_⟩⟩
      rw [nI_clamp (show i < 2 ^ 31 by omega), stI_0 (r6 _ (by omega) (by omega) _), nI_add]
      exact ih
  have l2 : ∀ i, i ≤ 10 → Wm mX5_clear 0 0 0 Qc 44 [some (.ref a), some (.int (nI i))] [] h 0 0 := by
    refine loopU 10 _ ?_ ?_
    · refine bX5_clear_44 ⟨hK, a + 3, p3, K3, ?_⟩
      rw [N3]
      exact ⟨fun _ => l3 0 (Nat.zero_le _), fun c => absurd (Int32.le_refl _) c⟩
    · intro i hi ih
      refine bX5_clear_44 ⟨hK, a + 3, p3, K3, ?_⟩
      rw [N3]
      refine ⟨fun c => absurd c (nI_ge hi (by omega)), fun _ => ⟨pk_in i 10 hi rfl (by omega), ?_⟩⟩
      rw [nI_clamp (show i < 2 ^ 31 by omega), stI_0 (r6 _ (by omega) (by omega) _), nI_add]
      exact ih
  have l1 : ∀ i, i ≤ 2 → Wm mX5_clear 0 0 0 Qc 17 [some (.ref a), some (.int (nI i))] [] h 0 0 := by
    refine loopU 2 _ ?_ ?_
    · exact bX5_clear_17 ⟨fun _ => l2 0 (Nat.zero_le _), fun c => absurd (Int32.le_refl _) c⟩
    · intro i hi ih
      refine bX5_clear_17 ⟨fun c => absurd c (nI_ge hi (by omega)), fun _ => ⟨hK, a + 1, p1, K1, by rw [N1]; exact pk_in i 2 hi rfl (by omega), a + 2, p2, K2, by rw [N2]; exact pk_in i 2 hi rfl (by omega), ?_⟩⟩
      rw [nI_clamp (show i < 2 ^ 31 by omega), stI_0 (r6 _ (by omega) (by omega) _), stI_0 (r6 _ (by omega) (by omega) _), nI_add]
      exact ih
  refine bX5_clear_0 ⟨hK, ?_⟩
  rw [stI_0 (r6 a (by omega) (by omega) 0), stI_0 (r6 a (by omega) (by omega) 1), stI_0 (r6 a (by omega) (by omega) 5)]
  exact l1 0 (Nat.zero_le _)
theorem k7_clear (hn : n ≤ 5) (r : VwK h n k w a) {X : Hp → Prop} (q : X h) : CKv mX7_clear 1 0 0 [some (.ref a), none] h X := by
  intro Qc kq
  obtain ⟨r1, r2, r3, r4⟩ := r
  have hK : hpK h a = 17 := by unfold hpK; rw [r1]
  have K1 : hpK h (a + 1) = 35 := by unfold hpK; rw [r3]
  have N1 : hpN h (a + 1) = n := by unfold hpN; rw [r3]
  have l1 : ∀ i, i ≤ n → Wm mX7_clear 1 0 0 Qc 2 [some (.ref a), some (.int (nI i))] [] h 0 0 := by
    refine loopU n _ ?_ ?_
    · refine bX7_clear_2 ⟨hK, a + 1, r2, K1, ?_⟩
      rw [N1]
      exact ⟨fun _ => kq _ q, fun c => absurd (Int32.le_refl _) c⟩
    · intro i hi ih
      refine bX7_clear_2 ⟨hK, a + 1, r2, K1, ?_⟩
      rw [N1]
      refine ⟨fun c => absurd c (nI_ge hi (by omega)), fun _ => ⟨pk_in i n hi rfl (by omega), a + 2 + 5 * i, ?_, ?_, k5_clear (r4 i hi).2 (bX7_clear_20 ?_)⟩⟩
      · rw [nI_clamp (show i < 2 ^ 31 by omega)]; exact (r4 i hi).1
      · unfold hpK; rw [(r4 i hi).2.1.1]
      · rw [nI_add]; exact ih
  exact bX7_clear_0 (l1 0 (Nat.zero_le _))
def bA (h : Hp) (a : Nat) (x y z : Int32) : Hp := stI (stI (stI (stI (stI (stI h a 1 x) a 2 y) a 3 z) a 4 (nI 0)) a 5 (nI 0)) a 6 (nI 0)
theorem bA_T {x y z : Int32} : hpT (bA h a x y z) b = hpT h b := rfl
theorem bA_P {x y z : Int32} : hpP (bA h a x y z) b j = hpP h b j := rfl
theorem bA_Z {x y z : Int32} : hpZ (bA h a x y z) = hpZ h := rfl
theorem bA_S {x y z : Int32} {lo hi : Nat} (ha : a < lo ∨ hi ≤ a) : Sm h (bA h a x y z) lo hi := (Sm.I ha).trans ((Sm.I ha).trans ((Sm.I ha).trans ((Sm.I ha).trans ((Sm.I ha).trans (Sm.I ha)))))
theorem k6_begin (hn : n ≤ 5) (r : StK h n k a e) {x y z : Int32} {X : Hp → Prop} (q : X (bA h a x y z)) : CKv mX6_beginAnew 2 0 0 [some (.ref a), some (.int x), some (.int y), some (.int z), none] h X := by
  intro Qc kq
  obtain ⟨⟨⟨b1, b2, b3, b4⟩, ⟨b5, b6, b7⟩, b8, b9⟩, V, -, -, he⟩ := r
  have l1 : ∀ i, i ≤ n → Wm mX6_beginAnew 2 0 0 Qc 33 [some (.ref a), none, none, none, some (.int (nI i))] [] (bA h a x y z) 0 0 := by
    have hK : hpK (bA h a x y z) a = 16 := by unfold hpK; rw [bA_T, b1]
    have K1 : hpK (bA h a x y z) (a + 3) = 37 := by unfold hpK; rw [bA_T, b7]
    have N1 : hpN (bA h a x y z) (a + 3) = n := by unfold hpN; rw [bA_T, b7]
    have I0 : hpI (bA h a x y z) a 0 = nI n := by
      unfold bA
      rw [sI_I, if_neg (by omega), sI_I, if_neg (by omega), sI_I, if_neg (by omega), sI_I, if_neg (by omega), sI_I, if_neg (by omega), sI_I, if_neg (by omega)]
      exact b8
    refine loopU n _ ?_ ?_
    · refine bX6_beginAnew_33 ⟨hK, ?_⟩
      rw [I0]
      exact ⟨fun _ => kq _ q, fun c => absurd (Int32.le_refl _) c⟩
    · intro i hi ih
      obtain ⟨b, e', v1, v2, v3, v4, v5⟩ := V i hi
      refine bX6_beginAnew_33 ⟨hK, ?_⟩
      rw [I0]
      refine ⟨fun c => absurd c (nI_ge hi (by omega)), fun _ => ⟨a + 3, by rw [bA_P]; exact b2, K1, by rw [N1]; exact pk_in i n hi rfl (by omega), b, ?_, ?_, k7_clear hn (v5.keep (bA_S (by omega))) (bX6_beginAnew_52 ?_)⟩⟩
      · rw [nI_clamp (show i < 2 ^ 31 by omega), bA_P]; exact v3
      · unfold hpK; rw [bA_T, v5.1]
      · rw [nI_add]; exact ih
  exact bX6_beginAnew_0 ⟨by unfold hpK; rw [b1], l1 0 (Nat.zero_le _)⟩
theorem stL_k : Kp (stL n) := fun h h' i b e s r => r.keep s
theorem cmL_k : Kp cmL := fun h h' i b e s r => ⟨r.1, (s b (by omega) (by have := r.1; omega)).1.trans r.2⟩
theorem HiB.keep (s : Sm h h' a (a + 1)) (t : hpT h' (a + 1) = hpT h (a + 1)) (r : HiB h a) : HiB h' a := by
  obtain ⟨r1, r2, r3, r4⟩ := r
  have sa := s a (by omega) (by omega)
  exact ⟨sa.1.trans r1, (sa.2.2 0).trans r2, t.trans r3, fun j => (sa.2.1 j).trans (r4 j)⟩
theorem ScB.keep (s : Sm h h' a (a + 1)) (t : ∀ b, a + 1 ≤ b → b < a + 3 → hpT h' b = hpT h b) (r : ScB h a) : ScB h' a := by
  obtain ⟨r1, r2, r3, r4, r5, r6⟩ := r
  have sa := s a (by omega) (by omega)
  exact ⟨sa.1.trans r1, (sa.2.2 0).trans r2, (sa.2.2 1).trans r3, (t _ (by omega) (by omega)).trans r4, (t _ (by omega) (by omega)).trans r5, fun j => (sa.2.1 j).trans (r6 j)⟩
theorem HiK.keep (s : Sm h h' a e) (r : HiK h n a e) : HiK h' n a e := by
  obtain ⟨r1, r2, r3⟩ := r
  exact ⟨r1.keep (s.sub (by omega) (by omega)) (s _ (by omega) (by omega)).1, r2.keep stL_k (s.sub (by omega) (by omega)) (fun i _ => (s _ (by omega) (by omega)).2.2 i) (Nat.le_refl _), r3⟩
theorem ScK.keep (s : Sm h h' a e) (r : ScK h a e) : ScK h' a e := by
  obtain ⟨r1, r2, r3⟩ := r
  exact ⟨r1.keep (s.sub (by omega) (by omega)) (fun b h1 h2 => (s b (by omega) (by omega)).1), r2.keep cmL_k (s.sub (by omega) (by omega)) (fun i _ => (s _ (by omega) (by omega)).2.2 i) (Nat.le_refl _), r3⟩
theorem cl6 : (nI 6).toNatClampNeg = 6 := nI_clamp (by omega)
theorem cl60 : (nI 60).toNatClampNeg = 60 := nI_clamp (by omega)
theorem cl30 : (nI 30).toNatClampNeg = 30 := nI_clamp (by omega)
theorem k1_init (hn : n ≤ 5) (hT : hpT h a = (11, 0, gHi)) (hz : hpZ h = a + 1) (hI : ∀ j, hpI h a j = 0) (hU : Tg h U) (hd : ∀ g, HiT g → ¬ U g) {X : Hp → Prop} (q : ∀ h' E, Sm h h' 0 a → hpZ h' = E → HiK h' n a E → Tg h' (fun g => U g ∨ HiT g) → X h') : CKv mX1_init 5 2500 14000 [some (.ref a), some (.int (nI n)), none] h X := by
  intro Qc kq
  have loop : ∀ i, i ≤ 6 → ∀ (h1 : Hp) (nc ns : Nat), Sm h h1 0 a → a + 2 ≤ hpZ h1 → HiB h1 a → Lst h1 (a + 1) (a + 2) (hpZ h1) i (stL n) → Tg h1 (fun g => U g ∨ (g = gRi ∨ (10001 ≤ g ∧ g < 10000 * (1 + i)))) → nc ≤ 1 + 401 * i → ns ≤ 6 + 2310 * i → Wm mX1_init 5 2500 14000 Qc 15 [some (.ref a), some (.int (nI n)), some (.int (nI i))] [] h1 nc ns := by
    refine loopU 6 _ ?_ ?_
    · intro h1 nc ns s1 z1 B1 V1 g1 b1 b2
      exact bX1_init_15 (tg_9 := 0) ⟨fun _ => ⟨by omega, by omega, kq _ (q h1 _ s1 rfl ⟨B1, V1, z1⟩ (g1.mono (fun g hg => hg.imp id (by unfold HiT; omega))))⟩, fun c => absurd (Int32.le_refl _) c⟩
    · intro i hi ih h1 nc ns s1 z1 B1 V1 g1 b1 b2
      refine bX1_init_15 (tg_9 := gSt (1 + i)) ⟨fun c => absurd c (nI_ge hi (by omega)), fun _ => ⟨by unfold hpK; rw [B1.1], a + 1, B1.2.1, by omega, by omega, ?_⟩⟩
      refine bX1_init_29 (mcn := 400) (msn := 2300) ⟨by omega, by omega, ?_⟩
      generalize hZ : hpZ h1 = Z at *
      refine k6_init (k := 1 + i) (U := fun g => (U g ∨ (g = gRi ∨ (10001 ≤ g ∧ g < 10000 * (1 + i)))) ∨ g = gSt (1 + i)) hn (by rw [sN_T, if_pos hZ.symm]) (by rw [sN_Z, hZ]) (fun j => by rw [sN_I, if_pos hZ.symm]) (Tg.N g1 (fun hg => hg.elim (hd _ ?_) ?_) (fun g hg => Or.inl hg) (Or.inr rfl)) (fun g hg hu => ?_) (fun h2 e s2 z2 r2 g2 => ?_)
      · unfold HiT gSt; omega
      · unfold gSt gRi; omega
      · rcases hu with (hu | hu) | hu
        · exact hd g (by unfold SsT at hg; unfold HiT; omega) hu
        · unfold SsT at hg; unfold gRi at hu; omega
        · unfold SsT at hg; unfold gSt at hu; omega
      · obtain ⟨w1, w2, w3, w4, w5⟩ := put_step (arr := a + 1) (i := i) (a4 := a + 2) hZ s2 z1 (by omega)
        have s13 : Sm h1 h2 0 Z := (Sm.N (by omega)).trans s2
        have tm : hpT h2 (a + 1) = (36, 6, gRi) := (s13 _ (by omega) (by omega)).1.trans B1.2.2.1
        refine bX1_init_34 ⟨by unfold hpK; rw [tm], by unfold hpN; rw [tm]; exact pk_in i 6 hi rfl (by omega), by unfold hpK; rw [r2.1.1.1], ?_⟩
        rw [nI_add, nI_clamp (show i < 2 ^ 31 by omega)]
        have he := r2.2.2.2.2
        generalize hG : stP h2 (a + 1) i (some Z) = h3 at *
        have zg : hpZ h3 = e := by rw [← hG, sP_Z, z2]
        have r3 : StK h3 n (1 + i) Z e := by rw [← hG]; exact r2.keep (Sm.P (by omega))
        have g3 : Tg h3 (fun g => U g ∨ (g = gRi ∨ (10001 ≤ g ∧ g < 10000 * (1 + (i + 1))))) := by
          rw [← hG]
          refine Tg.P (g2.mono (fun g hg => ?_))
          rcases hg with ((hg | hg) | hg) | hg
          · exact Or.inl hg
          · exact Or.inr (by omega)
          · exact Or.inr (by unfold gSt at hg; omega)
          · exact Or.inr (by unfold SsT at hg; omega)
        refine ih h3 _ _ (s1.trans (w2.sub (by omega) (by omega))) (by omega) (B1.keep (w2.sub (by omega) (by omega)) (w1 _ (by omega))) ?_ g3 (by omega) (by omega)
        exact (V1.keep stL_k (w3.sub (by omega) (by omega)) (fun i hi => w4 i (by omega)) (by omega)).add w5 z1 (e := e) (by omega) r3
  refine bX1_init_0 (tg_5 := gRi) ?_
  rw [cl6]
  refine ⟨nI_pos (by omega), by omega, by omega, by omega, ?_⟩
  refine bX1_init_10 ⟨by unfold hpK; rw [sN_T, if_neg (by omega), hT], ?_⟩
  refine loop 0 (Nat.zero_le _) _ _ _ ((Sm.N (by omega)).trans (Sm.P (by omega))) (by rw [sP_Z, sN_Z, hz]; omega) ⟨?_, ?_, ?_, fun j => ?_⟩ (fun i hi => by omega) ?_ (by omega) (by omega)
  · rw [sP_T, sN_T, if_neg (by omega)]; exact hT
  · rw [sP_P, if_pos ⟨rfl, rfl⟩, hz]
  · rw [sP_T, sN_T, if_pos hz.symm]
  · rw [sP_I, sN_I, if_neg (by omega)]; exact hI j
  · exact Tg.P (Tg.N hU (hd _ (Or.inl rfl)) (fun g hg => Or.inl hg) (Or.inr (Or.inl rfl)))
theorem k4_init (hT : hpT h a = (14, 0, gSc)) (hz : hpZ h = a + 1) (hI : ∀ j, hpI h a j = 0) (hU : Tg h U) (hd : ∀ g, ScT g → ¬ U g) {X : Hp → Prop} (q : ∀ h' E, Sm h h' 0 a → hpZ h' = E → ScK h' a E → Tg h' (fun g => U g ∨ ScT g) → X h') : CKv mX4_init 2 40 250 [some (.ref a), none] h X := by
  intro Qc kq
  have loop : ∀ i, i ≤ 30 → ∀ (h1 : Hp) (nc ns : Nat), Sm h h1 0 a → a + 3 ≤ hpZ h1 → ScB h1 a → Lst h1 (a + 2) (a + 3) (hpZ h1) i cmL → Tg h1 (fun g => U g ∨ (g = gSg ∨ g = gCa ∨ (80100 ≤ g ∧ g < 80100 + i))) → nc ≤ 2 + i → ns ≤ 90 + 4 * i → Wm mX4_init 2 40 250 Qc 23 [some (.ref a), some (.int (nI i))] [] h1 nc ns := by
    refine loopU 30 _ ?_ ?_
    · intro h1 nc ns s1 z1 B1 V1 g1 b1 b2
      exact bX4_init_23 (tg_9 := 0) ⟨fun _ => ⟨by omega, by omega, kq _ (q h1 _ s1 rfl ⟨B1, V1, z1⟩ (g1.mono (fun g hg => hg.imp id (by unfold ScT; omega))))⟩, fun c => absurd (Int32.le_refl _) c⟩
    · intro i hi ih h1 nc ns s1 z1 B1 V1 g1 b1 b2
      refine bX4_init_23 (tg_9 := gCm i) ⟨fun c => absurd c (nI_ge hi (by omega)), fun _ => ⟨by unfold hpK; rw [B1.1], a + 2, B1.2.2.1, by omega, by omega, ?_⟩⟩
      generalize hZ : hpZ h1 = Z at *
      refine bX4_init_37 ⟨by omega, by omega, k0_init ?_⟩
      have hTn : hpT (stN h1 10 0 (gCm i)) Z = (10, 0, gCm i) := by rw [sN_T, if_pos hZ.symm]
      obtain ⟨w1, w2, w3, w4, w5⟩ := put_step (h3 := stN h1 10 0 (gCm i)) (arr := a + 2) (i := i) (a4 := a + 3) hZ Sm.refl z1 (by omega)
      have s13 : Sm h1 (stN h1 10 0 (gCm i)) 0 Z := Sm.N (by omega)
      have tm : hpT (stN h1 10 0 (gCm i)) (a + 2) = (30, 30, gCa) := (s13 _ (by omega) (by omega)).1.trans B1.2.2.2.2.1
      refine bX4_init_41 ⟨by unfold hpK; rw [tm], by unfold hpN; rw [tm]; exact pk_in i 30 hi rfl (by omega), by unfold hpK; rw [hTn], ?_⟩
      rw [nI_add, nI_clamp (show i < 2 ^ 31 by omega)]
      have g3 : Tg (stP (stN h1 10 0 (gCm i)) (a + 2) i (some Z)) (fun g => U g ∨ (g = gSg ∨ g = gCa ∨ (80100 ≤ g ∧ g < 80100 + (i + 1)))) := by
        refine Tg.P (Tg.N g1 (fun hg => hg.elim (hd _ ?_) ?_) (fun g hg => hg.imp id ?_) (Or.inr ?_))
        · unfold ScT gCm; omega
        · unfold gCm gSg gCa; omega
        · omega
        · unfold gCm; omega
      have zg : hpZ (stP (stN h1 10 0 (gCm i)) (a + 2) i (some Z)) = Z + 1 := by rw [sP_Z, sN_Z, hZ]
      have r3 : hpT (stP (stN h1 10 0 (gCm i)) (a + 2) i (some Z)) Z = (10, 0, gCm i) := hTn
      generalize hG : stP (stN h1 10 0 (gCm i)) (a + 2) i (some Z) = h3 at *
      refine ih h3 _ _ (s1.trans (w2.sub (by omega) (by omega))) (by omega) (B1.keep (w2.sub (by omega) (by omega)) (fun b h1 h2 => w1 b (by omega))) ?_ g3 (by omega) (by omega)
      exact (V1.keep cmL_k (w3.sub (by omega) (by omega)) (fun i hi => w4 i (by omega)) (by omega)).add w5 z1 (e := Z + 1) (by omega) ⟨rfl, r3⟩
  refine bX4_init_0 (tg_5 := gSg) ?_
  rw [cl60]
  refine ⟨nI_pos (by omega), by omega, by omega, by omega, ?_⟩
  refine bX4_init_9 (tg_6 := gCa) ?_
  rw [cl30]
  refine ⟨by unfold hpK; rw [sN_T, if_neg (by omega), hT], nI_pos (by omega), by omega, by omega, by omega, ?_⟩
  refine bX4_init_18 ⟨by unfold hpK; rw [sN_T, sP_Z, sN_Z, if_neg (by omega), sP_T, sN_T, if_neg (by omega), hT], ?_⟩
  refine loop 0 (Nat.zero_le _) _ _ _ ?_ (by simp only [sP_Z, sN_Z, hz]; omega) ⟨?_, ?_, ?_, ?_, ?_, fun j => ?_⟩ (fun i hi => by omega) ?_ (by omega) (by omega)
  · exact (Sm.N (by omega)).trans ((Sm.P (by omega)).trans ((Sm.N (by rw [sP_Z, sN_Z]; omega)).trans (Sm.P (by omega))))
  · simp only [sN_T, sP_T, sP_Z, sN_Z, hz]
    rw [if_neg (by omega), if_neg (by omega)]
    exact hT
  · simp only [sN_P, sP_P, sP_Z, sN_Z, hz]
    rw [if_neg (by omega), if_neg (by omega), if_pos (by first | trivial | omega | simp)]
  · simp only [sN_P, sP_P, sP_Z, sN_Z, hz]
    rw [if_pos (by first | trivial | omega | simp)]
  · simp only [sN_T, sP_T, sP_Z, sN_Z, hz]
    rw [if_neg (by omega), if_pos (by first | trivial | omega | simp)]
  · simp only [sN_T, sP_T, sP_Z, sN_Z, hz]
    rw [if_pos (by first | trivial | omega | simp)]
  · simp only [sN_I, sP_I, sP_Z, sN_Z, hz]
    rw [if_neg (by omega), if_neg (by omega)]
    exact hI j
  · refine Tg.P (Tg.N (U := fun g => U g ∨ g = gSg) (Tg.P (Tg.N hU (hd _ (Or.inl rfl)) (fun g hg => Or.inl hg) (Or.inr rfl))) (fun hg => hg.elim (hd _ (Or.inr (Or.inl rfl))) (by unfold gSg gCa; omega)) (fun g hg => hg.imp id (fun e => Or.inl e)) (Or.inr (Or.inr (Or.inl rfl))))
end ID

/-! THE CONSTRUCTORS: a state -/
section IC
variable {h : Hp} {n a k : Nat} {U : Nat → Prop}
theorem cl8 : (nI 8).toNatClampNeg = 8 := nI_clamp (by omega)
/-- a thing was made at Z and put at place i of the row arr -/
theorem put_step {h1 h3 : Hp} {kd tg Z a4 arr i : Nat} (hz : hpZ h1 = Z) (s : Sm (stN h1 kd 0 tg) h3 0 Z) (ha : a4 ≤ Z) (harr : arr < a4) : (∀ b, b < Z → hpT (stP h3 arr i (some Z)) b = hpT h1 b) ∧ Sm h1 (stP h3 arr i (some Z)) 0 arr ∧ Sm h1 (stP h3 arr i (some Z)) (arr + 1) Z ∧ (∀ j, j ≠ i → hpP (stP h3 arr i (some Z)) arr j = hpP h1 arr j) ∧ hpP (stP h3 arr i (some Z)) arr i = some Z := by
  have s13 : Sm h1 h3 0 Z := (Sm.N (by omega)).trans s
  refine ⟨fun b hb => (s13 b (by omega) hb).1, (s13.sub (by omega) (by omega)).trans (Sm.P (by omega)), (s13.sub (by omega) (by omega)).trans (Sm.P (by omega)), fun j hj => ?_, ?_⟩
  · rw [sP_P, if_neg (by omega)]; exact (s13 arr (by omega) (by omega)).2.2 j
  · rw [sP_P, if_pos ⟨rfl, rfl⟩]
theorem k6_init (hn : n ≤ 5) (hT : hpT h a = (16, 0, gSt k)) (hz : hpZ h = a + 1) (hI : ∀ j, hpI h a j = 0) (hU : Tg h U) (hd : ∀ g, SsT k g → ¬ U g) {X : Hp → Prop} (q : ∀ h' e, Sm h h' 0 a → hpZ h' = e → StK h' n k a e → Tg h' (fun g => U g ∨ SsT k g) → X h') : CKv mX6_init 4 400 2300 [some (.ref a), some (.int (nI n)), none] h X := by
  intro Qc kq
  have cn : (nI n).toNatClampNeg = n := nI_clamp (by omega)
  have mloop : ∀ m, m ≤ 8 → ∀ (h1 : Hp) (nc ns : Nat), Sm h h1 0 a → a + 4 ≤ hpZ h1 → StB h1 n k a → Lst h1 (a + 3) (a + 4) (hpZ h1) n (vwL n k) → Lst h1 (a + 1) (a + 4) (hpZ h1) 10 (lnL k) → Lst h1 (a + 2) (a + 4) (hpZ h1) m (mgL n k) → Tg h1 (fun g => U g ∨ StT k 5 10 m g) → nc ≤ 148 + 28 * m → ns ≤ 878 + 165 * m → Wm mX6_init 4 400 2300 Qc 91 [some (.ref a), some (.int (nI n)), some (.int (nI m))] [] h1 nc ns := by
    refine loopU 8 _ ?_ ?_
    · intro h1 nc ns s1 z1 B1 V1 L1 M1 g1 b1 b2
      exact bX6_init_91 (tg_9 := 0) ⟨fun _ => ⟨by omega, by omega, kq _ (q h1 _ s1 rfl ⟨B1, V1, L1, M1, z1⟩ (g1.mono (fun g hg => hg.imp id (by unfold StT SsT; omega))))⟩, fun c => absurd (Int32.le_refl _) c⟩
    · intro m hm ih h1 nc ns s1 z1 B1 V1 L1 M1 g1 b1 b2
      refine bX6_init_91 (tg_9 := gMg k m) ⟨fun c => absurd c (nI_ge hm (by omega)), fun _ => ⟨by unfold hpK; rw [B1.1.1], a + 2, B1.1.2.2.2, by omega, by omega, ?_⟩⟩
      refine bX6_init_105 (mcn := 27) (msn := 161) ⟨by omega, by omega, ?_⟩
      generalize hZ : hpZ h1 = Z at *
      refine k3_init (k := k) (m := m) (U := fun g => (U g ∨ StT k 5 10 m g) ∨ g = gMg k m) hn (by rw [sN_T, if_pos hZ.symm]) (by rw [sN_Z, hZ]) (Tg.N g1 (fun hg => hg.elim (hd _ ?_) ?_) (fun g hg => Or.inl hg) (Or.inr rfl)) (fun g hg hu => ?_) (fun h2 s2 z2 r2 g2 => ?_)
      · unfold SsT gMg; omega
      · unfold StT gMg; omega
      · rcases hu with (hu | hu) | hu
        · exact hd g (by unfold SvP gVw at hg; unfold SsT; omega) hu
        · unfold SvP gVw at hg; unfold StT at hu; omega
        · unfold SvP gVw at hg; unfold gMg at hu; omega
      · obtain ⟨w1, w2, w3, w4, w5⟩ := put_step (arr := a + 2) (i := m) (a4 := a + 4) hZ s2 z1 (by omega)
        have s13 : Sm h1 h2 0 Z := (Sm.N (by omega)).trans s2
        have tm : hpT h2 (a + 2) = (33, 8, gMa k) := (s13 _ (by omega) (by omega)).1.trans B1.2.1.2.1
        refine bX6_init_110 ⟨by unfold hpK; rw [tm], by unfold hpN; rw [tm]; exact pk_in m 8 hm rfl (by omega), by unfold hpK; rw [r2.1], ?_⟩
        rw [nI_add, nI_clamp (show m < 2 ^ 31 by omega)]
        generalize hG : stP h2 (a + 2) m (some Z) = h3 at *
        have zg : hpZ h3 = Z + 3 + 5 * n := by rw [← hG, sP_Z, z2]
        have r3 : MgK h3 n k m Z := by rw [← hG]; exact r2.keep (Sm.P (by omega))
        have g3 : Tg h3 (fun g => U g ∨ StT k 5 10 (m + 1) g) := by
          rw [← hG]
          refine Tg.P (g2.mono (fun g hg => ?_))
          rcases hg with ((hg | hg) | hg) | hg
          · exact Or.inl hg
          · exact Or.inr (by unfold StT at *; omega)
          · exact Or.inr (by unfold gMg at hg; unfold StT; omega)
          · exact Or.inr (by unfold SvP gVw at hg; unfold StT; omega)
        refine ih h3 _ _ (s1.trans (w2.sub (by omega) (by omega))) (by omega) (B1.keep (w2.sub (by omega) (by omega)) (fun b h1 h2 => w1 b (by omega))) (V1.keep vwL_k (w3.sub (by omega) (by omega)) (fun i _ => (w3 _ (by omega) (by omega)).2.2 i) (by omega)) (L1.keep lnL_k (w3.sub (by omega) (by omega)) (fun i _ => (w2 _ (by omega) (by omega)).2.2 i) (by omega)) ?_ g3 (by omega) (by omega)
        exact (M1.keep mgL_k (w3.sub (by omega) (by omega)) (fun i hi => w4 i (by omega)) (by omega)).add w5 z1 (e := Z + 3 + 5 * n) (by omega) ⟨rfl, r3⟩
  have lloop : ∀ l, l ≤ 10 → ∀ (h1 : Hp) (nc ns : Nat), Sm h h1 0 a → a + 4 ≤ hpZ h1 → StB h1 n k a → Lst h1 (a + 3) (a + 4) (hpZ h1) n (vwL n k) → Lst h1 (a + 1) (a + 4) (hpZ h1) l (lnL k) → Tg h1 (fun g => U g ∨ StT k 5 l 0 g) → nc ≤ 138 + l → ns ≤ 828 + 5 * l → Wm mX6_init 4 400 2300 Qc 64 [some (.ref a), some (.int (nI n)), some (.int (nI l))] [] h1 nc ns := by
    refine loopU 10 _ ?_ ?_
    · intro h1 nc ns s1 z1 B1 V1 L1 g1 b1 b2
      exact bX6_init_64 (tg_7 := 0) ⟨fun _ => mloop 0 (Nat.zero_le _) h1 nc ns s1 z1 B1 V1 L1 (fun i hi => by omega) g1 (by omega) (by omega), fun c => absurd (Int32.le_refl _) c⟩
    · intro l hl ih h1 nc ns s1 z1 B1 V1 L1 g1 b1 b2
      refine bX6_init_64 (tg_7 := gLn k l) ⟨fun c => absurd c (nI_ge hl (by omega)), fun _ => ⟨by unfold hpK; rw [B1.1.1], a + 1, B1.1.2.2.1, by omega, by omega, ?_⟩⟩
      generalize hZ : hpZ h1 = Z at *
      refine bX6_init_78 ⟨by omega, by omega, k2_init ?_⟩
      have hTn : hpT (stN h1 12 0 (gLn k l)) Z = (12, 0, gLn k l) := by rw [sN_T, if_pos hZ.symm]
      obtain ⟨w1, w2, w3, w4, w5⟩ := put_step (h3 := stN h1 12 0 (gLn k l)) (arr := a + 1) (i := l) (a4 := a + 4) hZ Sm.refl z1 (by omega)
      have s13 : Sm h1 (stN h1 12 0 (gLn k l)) 0 Z := Sm.N (by omega)
      have tm : hpT (stN h1 12 0 (gLn k l)) (a + 1) = (32, 10, gLa k) := (s13 _ (by omega) (by omega)).1.trans B1.2.1.1
      refine bX6_init_82 ⟨by unfold hpK; rw [tm], by unfold hpN; rw [tm]; exact pk_in l 10 hl rfl (by omega), by unfold hpK; rw [hTn], ?_⟩
      rw [nI_add, nI_clamp (show l < 2 ^ 31 by omega)]
      have g3 : Tg (stP (stN h1 12 0 (gLn k l)) (a + 1) l (some Z)) (fun g => U g ∨ StT k 5 (l + 1) 0 g) := by
        refine Tg.P (Tg.N g1 (fun hg => hg.elim (hd _ ?_) ?_) (fun g hg => hg.imp id ?_) (Or.inr ?_))
        · unfold SsT gLn; omega
        · unfold StT gLn; omega
        · unfold StT; omega
        · unfold StT gLn; omega
      have zg : hpZ (stP (stN h1 12 0 (gLn k l)) (a + 1) l (some Z)) = Z + 1 := by rw [sP_Z, sN_Z, hZ]
      have r3 : hpT (stP (stN h1 12 0 (gLn k l)) (a + 1) l (some Z)) Z = (12, 0, gLn k l) := hTn
      generalize hG : stP (stN h1 12 0 (gLn k l)) (a + 1) l (some Z) = h3 at *
      refine ih h3 _ _ (s1.trans (w2.sub (by omega) (by omega))) (by omega) (B1.keep (w2.sub (by omega) (by omega)) (fun b h1 h2 => w1 b (by omega))) (V1.keep vwL_k (w3.sub (by omega) (by omega)) (fun i _ => (w3 _ (by omega) (by omega)).2.2 i) (by omega)) ?_ g3 (by omega) (by omega)
      exact (L1.keep lnL_k (w3.sub (by omega) (by omega)) (fun i hi => w4 i (by omega)) (by omega)).add w5 z1 (e := Z + 1) (by omega) ⟨rfl, r3⟩
  have vloop : ∀ s, s ≤ n → ∀ (h1 : Hp) (nc ns : Nat), Sm h h1 0 a → a + 4 ≤ hpZ h1 → StB h1 n k a → Lst h1 (a + 3) (a + 4) (hpZ h1) s (vwL n k) → Tg h1 (fun g => U g ∨ StT k s 0 0 g) → nc ≤ 3 + 27 * s → ns ≤ 23 + 161 * s → Wm mX6_init 4 400 2300 Qc 37 [some (.ref a), some (.int (nI n)), some (.int (nI s))] [] h1 nc ns := by
    refine loopU n _ ?_ ?_
    · intro h1 nc ns s1 z1 B1 V1 g1 b1 b2
      exact bX6_init_37 (tg_7 := 0) ⟨fun _ => lloop 0 (Nat.zero_le _) h1 nc ns s1 z1 B1 V1 (fun i hi => by omega) (g1.mono (fun g hg => hg.imp id (by unfold StT; omega))) (by omega) (by omega), fun c => absurd (Int32.le_refl _) c⟩
    · intro s hs ih h1 nc ns s1 z1 B1 V1 g1 b1 b2
      refine bX6_init_37 (tg_7 := gVw k s) ⟨fun c => absurd c (nI_ge hs (by omega)), fun _ => ⟨by unfold hpK; rw [B1.1.1], a + 3, B1.1.2.1, by omega, by omega, ?_⟩⟩
      refine bX6_init_50 (mcn := 26) (msn := 160) ⟨by omega, by omega, ?_⟩
      generalize hZ : hpZ h1 = Z at *
      refine k7_init (k := k) (w := s) (U := fun g => (U g ∨ StT k s 0 0 g) ∨ g = gVw k s) hn (by rw [sN_T, if_pos hZ.symm]) (by rw [sN_Z, hZ]) (Tg.N g1 (fun hg => hg.elim (hd _ ?_) ?_) (fun g hg => Or.inl hg) (Or.inr rfl)) (fun g hg hu => ?_) (fun h2 s2 z2 r2 g2 => ?_)
      · unfold SsT gVw; omega
      · unfold StT gVw; omega
      · rcases hu with (hu | hu) | hu
        · exact hd g (by unfold SvP at hg; unfold SsT; omega) hu
        · unfold SvP at hg; unfold StT at hu; omega
        · unfold SvP at hg; unfold gVw at hu; omega
      · obtain ⟨w1, w2, w3, w4, w5⟩ := put_step (arr := a + 3) (i := s) (a4 := a + 4) hZ s2 z1 (by omega)
        have s13 : Sm h1 h2 0 Z := (Sm.N (by omega)).trans s2
        have tm : hpT h2 (a + 3) = (37, n, gVa k) := (s13 _ (by omega) (by omega)).1.trans B1.2.1.2.2
        refine bX6_init_55 ⟨by unfold hpK; rw [tm], by unfold hpN; rw [tm]; exact pk_in s n hs rfl (by omega), by unfold hpK; rw [r2.1], ?_⟩
        rw [nI_add, nI_clamp (show s < 2 ^ 31 by omega)]
        generalize hG : stP h2 (a + 3) s (some Z) = h3 at *
        have zg : hpZ h3 = Z + 2 + 5 * n := by rw [← hG, sP_Z, z2]
        have r3 : VwK h3 n k s Z := by rw [← hG]; exact r2.keep (Sm.P (by omega))
        have g3 : Tg h3 (fun g => U g ∨ StT k (s + 1) 0 0 g) := by
          rw [← hG]
          refine Tg.P (g2.mono (fun g hg => ?_))
          rcases hg with ((hg | hg) | hg) | hg
          · exact Or.inl hg
          · exact Or.inr (by unfold StT at *; omega)
          · exact Or.inr (by unfold gVw at hg; unfold StT; omega)
          · exact Or.inr (by unfold SvP at hg; unfold StT; omega)
        refine ih h3 _ _ (s1.trans (w2.sub (by omega) (by omega))) (by omega) (B1.keep (w2.sub (by omega) (by omega)) (fun b h1 h2 => w1 b (by omega))) ?_ g3 (by omega) (by omega)
        exact (V1.keep vwL_k (w3.sub (by omega) (by omega)) (fun i hi => w4 i (by omega)) (by omega)).add w5 z1 (e := Z + 2 + 5 * n) (by omega) ⟨rfl, r3⟩
  refine bX6_init_0 (tg_5 := gLa k) ?_
  rw [cl10]
  refine ⟨nI_pos (by omega), by omega, by omega, by omega, ?_⟩
  refine bX6_init_10 (tg_6 := gMa k) ?_
  rw [cl8]
  refine ⟨by unfold hpK; rw [sN_T, if_neg (by omega), hT], nI_pos (by omega), by omega, by omega, by omega, ?_⟩
  refine bX6_init_19 (tg_7 := gVa k) ?_
  rw [cn]
  have hK2 : hpK (stN (stP (stN h 32 10 (gLa k)) a 8 (some (hpZ h))) 33 8 (gMa k)) a = 16 := by
    unfold hpK
    rw [sN_T, sP_Z, sN_Z, if_neg (by omega), sP_T, sN_T, if_neg (by omega), hT]
  refine ⟨hK2, hK2, nI_pos (by omega), by omega, by omega, by omega, ?_⟩
  refine bX6_init_32 ⟨by unfold hpK; rw [sN_T, sI_Z, sP_Z, sN_Z, sP_Z, sN_Z, if_neg (by omega), sI_T, sP_T, sN_T, sP_Z, sN_Z, if_neg (by omega), sP_T, sN_T, if_neg (by omega), hT], ?_⟩
  refine vloop 0 (Nat.zero_le _) _ _ _ ?_ ?_ ?_ (fun i hi => by omega) ?_ (by omega) (by omega)
  · exact (Sm.N (by omega)).trans ((Sm.P (by omega)).trans ((Sm.N (by rw [sP_Z, sN_Z]; omega)).trans ((Sm.P (by omega)).trans ((Sm.I (by omega)).trans ((Sm.N (by rw [sI_Z, sP_Z, sN_Z, sP_Z, sN_Z]; omega)).trans (Sm.P (by omega)))))))
  · simp only [sP_Z, sN_Z, sI_Z, hz]; omega
  · refine ⟨⟨?_, ?_, ?_, ?_⟩, ⟨?_, ?_, ?_⟩, ?_, ?_⟩
    · simp only [sN_T, sP_T, sI_T, sP_Z, sN_Z, sI_Z, hz]
      rw [if_neg (by omega), if_neg (by omega), if_neg (by omega)]
      exact hT
    · simp only [sN_P, sP_P, sI_P, sP_Z, sN_Z, sI_Z, hz]
      rw [if_pos (by first | trivial | omega | simp)]
    · simp only [sN_P, sP_P, sI_P, sP_Z, sN_Z, sI_Z, hz]
      rw [if_neg (by omega), if_neg (by omega), if_neg (by omega), if_neg (by omega), if_pos (by first | trivial | omega | simp)]
    · simp only [sN_P, sP_P, sI_P, sP_Z, sN_Z, sI_Z, hz]
      rw [if_neg (by omega), if_neg (by omega), if_pos (by first | trivial | omega | simp)]
    · simp only [sN_T, sP_T, sI_T, sP_Z, sN_Z, sI_Z, hz]
      rw [if_neg (by omega), if_neg (by omega), if_pos (by first | trivial | omega | simp)]
    · simp only [sN_T, sP_T, sI_T, sP_Z, sN_Z, sI_Z, hz]
      rw [if_neg (by omega), if_pos (by first | trivial | omega | simp)]
    · simp only [sN_T, sP_T, sI_T, sP_Z, sN_Z, sI_Z, hz]
      rw [if_pos (by first | trivial | omega | simp)]
    · simp only [sN_I, sP_I, sI_I, sP_Z, sN_Z, sI_Z, hz]
      rw [if_neg (by omega), if_pos (by first | trivial | omega | simp)]
    · intro j hj
      simp only [sN_I, sP_I, sI_I, sP_Z, sN_Z, sI_Z, hz]
      rw [if_neg (by omega), if_neg (by omega), if_neg (by omega), if_neg (by omega)]
      exact hI j
  · refine Tg.P (Tg.N (U := fun g => U g ∨ (g = 10000 * k + 3 ∨ g = 10000 * k + 4)) (Tg.I (Tg.P (Tg.N (U := fun g => U g ∨ g = 10000 * k + 3) (Tg.P (Tg.N hU (hd _ ?_) (fun g hg => Or.inl hg) (Or.inr ?_))) ?_ (fun g hg => ?_) ?_))) ?_ (fun g hg => ?_) ?_)
    · unfold SsT gLa; omega
    · unfold gLa; omega
    · exact fun hg => hg.elim (hd _ (by unfold SsT gMa; omega)) (by unfold gMa; omega)
    · exact hg.imp id (by omega)
    · exact Or.inr (by unfold gMa; omega)
    · exact fun hg => hg.elim (hd _ (by unfold SsT gVa; omega)) (by unfold gVa; omega)
    · exact hg.imp id (by unfold StT; omega)
    · exact Or.inr (by unfold StT gVa; omega)
end IC

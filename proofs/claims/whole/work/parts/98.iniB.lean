/-! THE CONSTRUCTORS: views, messages, states -/
def VwK (h : Hp) (n k w a : Nat) : Prop := hpT h a = (17, 0, gVw k w) ∧ hpP h a 0 = some (a + 1) ∧ hpT h (a + 1) = (35, n, gRa k w) ∧ ∀ o, o < n → hpP h (a + 1) o = some (a + 2 + 5 * o) ∧ RcK h k w o (a + 2 + 5 * o)
def SvP (k w o g : Nat) : Prop := g = 10000 * k + 200 + w ∨ (10000 * k + 1000 + 10 * w ≤ g ∧ g < 10000 * k + 1000 + 10 * w + o) ∨ (10000 * k + 2000 + 100 * w ≤ g ∧ g < 10000 * k + 2000 + 100 * w + 10 * o)
def MgK (h : Hp) (n k m a : Nat) : Prop := hpT h a = (13, 0, gMg k m) ∧ hpP h a 3 = some (a + 1) ∧ VwK h n k (5 + m) (a + 1)
/-- a row of references to what was made behind lo, before E -/
def Lst (h : Hp) (arr lo E m : Nat) (K : Hp → Nat → Nat → Nat → Prop) : Prop := ∀ i, i < m → ∃ b e, lo ≤ b ∧ e ≤ E ∧ hpP h arr i = some b ∧ K h i b e
def Kp (K : Hp → Nat → Nat → Nat → Prop) : Prop := ∀ (h h' : Hp) (i b e : Nat), Sm h h' b e → K h i b e → K h' i b e
section IB
variable {h h' : Hp} {n a b j k w o m lo E E' arr : Nat} {U U' : Nat → Prop} {K : Hp → Nat → Nat → Nat → Prop}
theorem Lst.keep (kp : Kp K) (l : Lst h arr lo E m K) (s : Sm h h' lo E) (p : ∀ i, i < m → hpP h' arr i = hpP h arr i) (he : E ≤ E') : Lst h' arr lo E' m K := by
  intro i hi
  obtain ⟨b, e, h1, h2, h3, h4⟩ := l i hi
  exact ⟨b, e, h1, by omega, (p i hi).trans h3, kp _ _ _ _ _ (s.sub h1 h2) h4⟩
theorem Lst.add (l : Lst h arr lo E m K) {b e : Nat} (hp : hpP h arr m = some b) (h1 : lo ≤ b) (h2 : e ≤ E) (hK : K h m b e) : Lst h arr lo E (m + 1) K := by
  intro i hi
  by_cases e' : i = m
  · rw [e']; exact ⟨b, e, h1, h2, hp, hK⟩
  · exact l i (by omega)
theorem VwK.keep (s : Sm h h' a (a + 2 + 5 * n)) (r : VwK h n k w a) : VwK h' n k w a := by
  obtain ⟨r1, r2, r3, r4⟩ := r
  refine ⟨(s a (by omega) (by omega)).1.trans r1, ((s a (by omega) (by omega)).2.2 0).trans r2, (s (a + 1) (by omega) (by omega)).1.trans r3, fun o ho => ⟨((s (a + 1) (by omega) (by omega)).2.2 o).trans (r4 o ho).1, (r4 o ho).2.keep (s.sub (by omega) (by omega))⟩⟩
theorem MgK.keep (s : Sm h h' a (a + 3 + 5 * n)) (r : MgK h n k m a) : MgK h' n k m a := by
  obtain ⟨r1, r2, r3⟩ := r
  exact ⟨(s a (by omega) (by omega)).1.trans r1, ((s a (by omega) (by omega)).2.2 3).trans r2, r3.keep (s.sub (by omega) (by omega))⟩
theorem k7_init (hn : n ≤ 5) (hT : hpT h a = (17, 0, gVw k w)) (hz : hpZ h = a + 1) (hU : Tg h U) (hd : ∀ g, SvP k w 10 g → ¬ U g) {X : Hp → Prop} (q : ∀ h', Sm h h' 0 a → hpZ h' = a + 2 + 5 * n → VwK h' n k w a → Tg h' (fun g => U g ∨ SvP k w 10 g) → X h') : CKv mX7_init 2 26 160 [some (.ref a), some (.int (nI n)), none] h X := by
  intro Qc kq
  have cn : (nI n).toNatClampNeg = n := nI_clamp (by omega)
  have loop : ∀ o, o ≤ n → ∀ (h1 : Hp) (nc ns : Nat), Sm h h1 0 a → hpZ h1 = a + 2 + 5 * o → hpT h1 a = (17, 0, gVw k w) → hpP h1 a 0 = some (a + 1) → hpT h1 (a + 1) = (35, n, gRa k w) → (∀ o', o' < o → hpP h1 (a + 1) o' = some (a + 2 + 5 * o') ∧ RcK h1 k w o' (a + 2 + 5 * o')) → Tg h1 (fun g => U g ∨ SvP k w o g) → nc ≤ 1 + 5 * o → ns ≤ n + 31 * o → Wm mX7_init 2 26 160 Qc 14 [some (.ref a), some (.int (nI n)), some (.int (nI o))] [] h1 nc ns := by
    refine loopU n _ ?_ ?_
    · intro h1 nc ns s1 z1 t1 p1 t2 r1 g1 b1 b2
      exact bX7_init_14 (tg_9 := 0) ⟨fun _ => ⟨by omega, by omega, kq _ (q h1 s1 z1 ⟨t1, p1, t2, r1⟩ (g1.mono (fun g hg => hg.imp id (by unfold SvP; omega))))⟩, fun c => absurd (Int32.le_refl _) c⟩
    · intro o ho ih h1 nc ns s1 z1 t1 p1 t2 r1 g1 b1 b2
      refine bX7_init_14 (tg_9 := gRc k w o) ⟨fun c => absurd c (nI_ge ho (by omega)), fun _ => ⟨by unfold hpK; rw [t1], a + 1, p1, by omega, by omega, ?_⟩⟩
      refine bX7_init_27 (mcn := 4) (msn := 24) ⟨by omega, by omega, ?_⟩
      rw [z1]
      have hTn : hpT (stN h1 15 0 (gRc k w o)) (a + 2 + 5 * o) = (15, 0, gRc k w o) := by rw [sN_T, if_pos z1.symm]
      have hIn : ∀ j, hpI (stN h1 15 0 (gRc k w o)) (a + 2 + 5 * o) j = 0 := fun j => by rw [sN_I, if_pos z1.symm]
      have hZn : hpZ (stN h1 15 0 (gRc k w o)) = a + 2 + 5 * o + 1 := by rw [sN_Z, z1]
      have hSn : Sm h1 (stN h1 15 0 (gRc k w o)) 0 (a + 2 + 5 * o) := Sm.N (by omega)
      have hGn : Tg (stN h1 15 0 (gRc k w o)) (fun g => (U g ∨ SvP k w o g) ∨ g = gRc k w o) := by
        refine Tg.N g1 (fun hg => hg.elim (hd _ ?_) ?_) (fun g hg => Or.inl hg) (Or.inr rfl)
        · unfold SvP gRc; omega
        · unfold SvP gRc; omega
      refine k5_init hTn hZn hIn hGn (fun g hg hu => ?_) (fun h2 s2 z2 r2 g2 => ?_)
      · rcases hu with (hu | hu) | hu
        · exact hd g (by unfold SrT at hg; unfold SvP; omega) hu
        · unfold SrT at hg; unfold SvP at hu; omega
        · unfold SrT at hg; unfold gRc at hu; omega
      · have s12 : Sm h1 h2 0 (a + 2 + 5 * o) := hSn.trans s2
        have t2' : hpT h2 (a + 1) = (35, n, gRa k w) := (s12 (a + 1) (by omega) (by omega)).1.trans t2
        refine bX7_init_31 ⟨by unfold hpK; rw [t2'], by unfold hpN; rw [t2']; exact pk_in o n ho rfl (by omega), by unfold hpK; rw [r2.1.1], ?_⟩
        rw [nI_add, nI_clamp (show o < 2 ^ 31 by omega)]
        refine ih (stP h2 (a + 1) o (some (a + 2 + 5 * o))) _ _ (s1.trans ((s12.sub (by omega) (by omega)).trans (Sm.P (by omega)))) (by rw [sP_Z, z2]; omega) ?_ ?_ t2' (fun o' ho' => ?_) (Tg.P (g2.mono (fun g hg => ?_))) (by omega) (by omega)
        · rw [sP_T]; exact (s12 a (by omega) (by omega)).1.trans t1
        · rw [sP_P, if_neg (by omega)]; exact ((s12 a (by omega) (by omega)).2.2 0).trans p1
        · by_cases e : o' = o
          · subst e
            exact ⟨by rw [sP_P, if_pos ⟨rfl, rfl⟩], r2.keep (Sm.P (by omega))⟩
          · obtain ⟨y1, y2⟩ := r1 o' (by omega)
            exact ⟨by rw [sP_P, if_neg (by omega)]; exact ((s12 (a + 1) (by omega) (by omega)).2.2 o').trans y1, y2.keep ((s12.sub (by omega) (by omega)).trans (Sm.P (by omega)))⟩
        · rcases hg with ((hg | hg) | hg) | hg
          · exact Or.inl hg
          · exact Or.inr (by unfold SvP at *; omega)
          · exact Or.inr (by unfold gRc at hg; unfold SvP; omega)
          · exact Or.inr (by unfold SrT at hg; unfold SvP; omega)
  refine bX7_init_0 (tg_5 := gRa k w) ?_
  rw [cn]
  refine ⟨nI_pos (by omega), by omega, by omega, by omega, ?_⟩
  refine bX7_init_9 ⟨by unfold hpK; rw [sN_T, if_neg (by omega), hT], ?_⟩
  refine loop 0 (Nat.zero_le _) _ _ _ ((Sm.N (by omega)).trans (Sm.P (by omega))) (by rw [sP_Z, sN_Z, hz]) ?_ ?_ ?_ (fun o' ho' => by omega) ?_ (by omega) (by omega)
  · rw [sP_T, sN_T, if_neg (by omega)]; exact hT
  · rw [sP_P, if_pos ⟨rfl, rfl⟩, hz]
  · rw [sP_T, sN_T, if_pos hz.symm]
  · refine Tg.P (Tg.N hU (hd _ ?_) (fun g hg => Or.inl hg) (Or.inr ?_))
    · unfold SvP gRa; omega
    · unfold SvP gRa; omega
theorem k3_init (hn : n ≤ 5) (hT : hpT h a = (13, 0, gMg k m)) (hz : hpZ h = a + 1) (hU : Tg h U) (hd : ∀ g, (SvP k (5 + m) 10 g ∨ g = gVw k (5 + m)) → ¬ U g) {X : Hp → Prop} (q : ∀ h', Sm h h' 0 a → hpZ h' = a + 3 + 5 * n → MgK h' n k m a → Tg h' (fun g => U g ∨ (SvP k (5 + m) 10 g ∨ g = gVw k (5 + m))) → X h') : CKv mX3_init 3 27 161 [some (.ref a), some (.int (nI n))] h X := by
  intro Qc kq
  refine bX3_init_0 (tg_3 := gVw k (5 + m)) ⟨by omega, by omega, bX3_init_8 (mcn := 26) (msn := 160) ⟨by omega, by omega, ?_⟩⟩
  rw [hz]
  refine k7_init (k := k) (w := 5 + m) (U := fun g => U g ∨ g = gVw k (5 + m)) hn (by rw [sN_T, if_pos hz.symm]) (by rw [sN_Z, hz]) (Tg.N hU (hd _ (Or.inr rfl)) (fun g hg => Or.inl hg) (Or.inr rfl)) (fun g hg hu => hu.elim (hd g (Or.inl hg)) (fun e => ?_)) (fun h2 s2 z2 r2 g2 => ?_)
  · unfold SvP at hg; unfold gVw at e; omega
  · have s12 : Sm h h2 0 (a + 1) := (Sm.N (by omega)).trans s2
    have t' : hpT h2 a = (13, 0, gMg k m) := (s12 a (by omega) (by omega)).1.trans hT
    refine bX3_init_13 ⟨by unfold hpK; rw [t'], by omega, by omega, kq _ (q _ ((s12.sub (by omega) (by omega)).trans (Sm.P (by omega))) (by rw [sP_Z]; omega) ⟨t', by rw [sP_P, if_pos ⟨rfl, rfl⟩], r2.keep (Sm.P (by omega))⟩ (Tg.P (g2.mono (fun g hg => ?_))))⟩
    rcases hg with (hg | hg) | hg
    · exact Or.inl hg
    · exact Or.inr (Or.inr hg)
    · exact Or.inr (Or.inl hg)
theorem k2_init {X : Hp → Prop} (q : X h) : CKv mX2_init 1 0 0 [some (.ref a)] h X := fun Qc kq => bX2_init_0 (kq _ q)
theorem k0_init {X : Hp → Prop} (q : X h) : CKv mX0_init 1 0 0 [some (.ref a)] h X := fun Qc kq => bX0_init_0 (kq _ q)
def vwL (n k : Nat) : Hp → Nat → Nat → Nat → Prop := fun h i b e => e = b + 2 + 5 * n ∧ VwK h n k i b
def lnL (k : Nat) : Hp → Nat → Nat → Nat → Prop := fun h i b e => e = b + 1 ∧ hpT h b = (12, 0, gLn k i)
def mgL (n k : Nat) : Hp → Nat → Nat → Nat → Prop := fun h i b e => e = b + 3 + 5 * n ∧ MgK h n k i b
theorem vwL_k : Kp (vwL n k) := fun h h' i b e s r => ⟨r.1, r.2.keep (by rw [← r.1]; exact s)⟩
theorem lnL_k : Kp (lnL k) := fun h h' i b e s r => ⟨r.1, (s b (by omega) (by have := r.1; omega)).1.trans r.2⟩
theorem mgL_k : Kp (mgL n k) := fun h h' i b e s r => ⟨r.1, r.2.keep (by rw [← r.1]; exact s)⟩
def StB (h : Hp) (n k a : Nat) : Prop := (hpT h a = (16, 0, gSt k) ∧ hpP h a 7 = some (a + 3) ∧ hpP h a 8 = some (a + 1) ∧ hpP h a 9 = some (a + 2)) ∧ (hpT h (a + 1) = (32, 10, gLa k) ∧ hpT h (a + 2) = (33, 8, gMa k) ∧ hpT h (a + 3) = (37, n, gVa k)) ∧ hpI h a 0 = nI n ∧ ∀ j, j ≠ 0 → hpI h a j = 0
theorem StB.keep (s : Sm h h' a (a + 1)) (t : ∀ b, a + 1 ≤ b → b < a + 4 → hpT h' b = hpT h b) (r : StB h n k a) : StB h' n k a := by
  obtain ⟨⟨r1, r2, r3, r4⟩, ⟨r5, r6, r7⟩, r8, r9⟩ := r
  have sa := s a (by omega) (by omega)
  exact ⟨⟨sa.1.trans r1, (sa.2.2 7).trans r2, (sa.2.2 8).trans r3, (sa.2.2 9).trans r4⟩, ⟨(t _ (by omega) (by omega)).trans r5, (t _ (by omega) (by omega)).trans r6, (t _ (by omega) (by omega)).trans r7⟩, (sa.2.1 0).trans r8, fun j hj => (sa.2.1 j).trans (r9 j hj)⟩
def StK (h : Hp) (n k a e : Nat) : Prop := StB h n k a ∧ Lst h (a + 3) (a + 4) e n (vwL n k) ∧ Lst h (a + 1) (a + 4) e 10 (lnL k) ∧ Lst h (a + 2) (a + 4) e 8 (mgL n k) ∧ a + 4 ≤ e
theorem StK.keep {e : Nat} (s : Sm h h' a e) (r : StK h n k a e) : StK h' n k a e := by
  obtain ⟨r1, r2, r3, r4, r5⟩ := r
  exact ⟨r1.keep (s.sub (by omega) (by omega)) (fun b h1 h2 => (s b (by omega) (by omega)).1), r2.keep vwL_k (s.sub (by omega) (by omega)) (fun i _ => (s _ (by omega) (by omega)).2.2 i) (Nat.le_refl _), r3.keep lnL_k (s.sub (by omega) (by omega)) (fun i _ => (s _ (by omega) (by omega)).2.2 i) (Nat.le_refl _), r4.keep mgL_k (s.sub (by omega) (by omega)) (fun i _ => (s _ (by omega) (by omega)).2.2 i) (Nat.le_refl _), r5⟩
def StT (k s l m g : Nat) : Prop := (10000 * k + 2 ≤ g ∧ g ≤ 10000 * k + 4) ∨ (10000 * k + 10 ≤ g ∧ g < 10000 * k + 10 + l) ∨ (10000 * k + 20 ≤ g ∧ g < 10000 * k + 20 + m) ∨ (10000 * k + 100 ≤ g ∧ g < 10000 * k + 100 + s) ∨ (10000 * k + 200 ≤ g ∧ g < 10000 * k + 200 + s) ∨ (10000 * k + 1000 ≤ g ∧ g < 10000 * k + 1000 + 10 * s) ∨ (10000 * k + 2000 ≤ g ∧ g < 10000 * k + 2000 + 100 * s) ∨ (10000 * k + 105 ≤ g ∧ g < 10000 * k + 105 + m) ∨ (10000 * k + 205 ≤ g ∧ g < 10000 * k + 205 + m) ∨ (10000 * k + 1050 ≤ g ∧ g < 10000 * k + 1050 + 10 * m) ∨ (10000 * k + 2500 ≤ g ∧ g < 10000 * k + 2500 + 100 * m)
def SsT (k g : Nat) : Prop := 10000 * k + 2 ≤ g ∧ g < 10000 * k + 10000
end IB

/-! MAKING, RETURNING, CALLING -/
def Clg (ci N : Nat) : Prop := ∀ k, k < N → defaultValue (fty ci k) = if frf ci k = true then .null else .int 0
theorem fty_nope {h : Hp} {U : State} {H : Heap} (hR : Rp h U H) : hpK h (hpZ h) = 0 := by
  obtain ⟨z1, z2, z3, D, z4, z5⟩ := hR
  by_cases q : hpK h (hpZ h) = 0
  · exact q
  · have := (z5 (hpZ h)).1 q
    omega
theorem Rp.push {h : Hp} {U : State} {H H' : Heap} {kd n tg : Nat} (hR : Rp h U H) (h2 : kd ≠ 2) (z : H'.size = H.size + 1) (oq : ∀ q : Nat, q < H.size → H'[q]? = H[q]?) (ha : ∀ D : va_G, va_K D Cls [] U → Cok D U (stN h kd n tg) H' (hpZ h)) : Rp (stN h kd n tg) U H' := by
  have hnone := fty_nope hR
  obtain ⟨z1, z2, z3, D, z4, z5⟩ := hR
  refine ⟨by rw [z, ← z1]; rfl, by rw [z]; exact Nat.le_succ_of_le z2, fun a h1 h2 => ?_, D, z4, fun a => ?_⟩
  · by_cases e : a = hpZ h
    · subst e
      show hpB h ≤ hpZ h
      omega
    · have e1 : hpK (stN h kd n tg) a = hpK h a := by simp [hpK, hpT, stN, e]
      rw [e1] at h1 h2
      exact z3 a h1 h2
  · by_cases e : a = hpZ h
    · subst e
      exact ha D z4
    · by_cases hl : a < H.size
      · exact (z5 a).keep (by simp [hpT, stN, e]) (fun j => by simp [hpI, stN, e]) (fun j => by simp [hpP, stN, e]) (fun j => by simp [hpJ, stN, e]) (oq a hl) (by omega)
      · have e0 : hpK h a = 0 := by
          by_cases q : hpK h a = 0
          · exact q
          · exact absurd ((z5 a).1 q) hl
        have e1 : hpK (stN h kd n tg) a = 0 := by
          have : hpK (stN h kd n tg) a = hpK h a := by simp [hpK, hpT, stN, e]
          omega
        exact ⟨fun q => absurd e1 q, fun q => by omega, fun q => by omega, fun q => by omega, fun ci r _ q => by omega, fun ci r _ q => by omega⟩
theorem stN_K {h : Hp} {kd n tg : Nat} : hpK (stN h kd n tg) (hpZ h) = kd := by simp [hpK, hpT, stN]
theorem stN_N {h : Hp} {kd n tg : Nat} : hpN (stN h kd n tg) (hpZ h) = n := by simp [hpN, hpT, stN]
section RN
variable {μ : Mi} {d mc ms : Nat} {Q : Nat → Option Value → Hp → Prop} {pc : Nat} {L : List (Option Value)} {st : List Value} {h : Hp} {nc ns : Nat} {a ci k idx : Nat} {C : String} {T : u_T} {N : Nat}
theorem rl_new (tg : Nat) (cf : Clf ci C T N) (cg : Clg ci N) (hd : decode (mb μ) pc = .ok (.new idx, 3)) (hlk : Cond.classLink (mo μ) idx C ∈ tG) (hc : nc + 1 ≤ mc) (hs : ns + N ≤ ms) (kk : Wm μ d mc ms Q (pc + 3) L (.ref (hpZ h) :: st) (stN h (10 + ci) 0 tg) (nc + 1) (ns + N)) : Wm μ d mc ms Q pc L st h nc ns := by
  intro p l e R s m args below meth c ok H locs ls hR hS hl
  obtain ⟨z1, z2, z3, D, z4, z5⟩ := id hR
  obtain ⟨c1, c2, c3, c4, c5, c6⟩ := cf
  have hts := ok.2.2.2.2.2.1
  obtain ⟨r1, r2, r3, r4⟩ := ok.2.2.2.2.2.2.2.2.1
  have hKn := z4.1 ci _ c1
  refine W.newcK ok.1 ok.2.1 ok.2.2.2.2.1 (hts _ hlk) (hts _ c5) (hts _ c6) rfl hd (by rw [r1]; exact hc) (by rw [r2]; exact hs) hKn.2.1 rfl fun H1 kC hkC e1 g1 o1 => ?_
  have hR' : Rp (stN h (10 + ci) 0 tg) s H1 := hR.push (by omega) g1 o1 (fun D' K' => by
    have hKn' := K'.1 ci _ c1
    have ecls : D'.1 ci = D.1 ci := Option.some.inj (hKn'.2.1.symm.trans hKn.2.1)
    rw [← z1] at e1
    refine Cok.ofObj (ci := ci) (by rw [g1, ← z1]; omega) c1 stN_K (t_OB.to (V := fun k => defaultValue (fty ci k)) (u_born (fty ci) hts c2 hKn' (by rw [ecls]; exact hkC) (by rw [ecls]; exact e1) c3) (fun k hk => ?_))
    rw [cg k hk]
    by_cases hf : frf ci k = true
    · simp [slv, hf, hpP, stN, va_rf]
    · simp [slv, hf, hpI, stN])
  have := kk p l e R s m args below meth c ok H1 locs ls hR' ⟨Nat.le_trans hS.1 (by omega), fun x h1 h2 => (o1 x (Nat.lt_of_lt_of_le h1 hS.1)).trans (hS.2.1 x h1 h2), hS.2.2⟩ hl
  rw [z1] at this
  exact this
theorem rl_newI {n : Int32} {M : Nat} (tg : Nat) (hd : decode (mb μ) pc = .ok (.newarray .int, 2)) (hw : Cond.arrayClass .int ∈ tG) (hn : ¬ n < 0) (hN : n.toNatClampNeg = M) (hM : M ≤ 100000) (hc : nc + 1 ≤ mc) (hs : ns + M ≤ ms) (kk : Wm μ d mc ms Q (pc + 2) L (.ref (hpZ h) :: st) (stN h 1 M tg) (nc + 1) (ns + M)) : Wm μ d mc ms Q pc L (.int n :: st) h nc ns := by
  intro p l e R s m args below meth c ok H locs ls hR hS hl
  obtain ⟨z1, z2, z3, D, z4, z5⟩ := id hR
  have hts := ok.2.2.2.2.2.1
  obtain ⟨r1, r2, r3, r4⟩ := ok.2.2.2.2.2.2.2.2.1
  refine W.newaK (atype := .int) ok.1 ok.2.1 (hts _ hw) rfl hd rfl hn hN (by show M * 4 ≤ _; omega) (by rw [r1]; exact hc) (by rw [r2]; exact hs) rfl fun H1 cA e1 g1 o1 hAr => ?_
  have hR' : Rp (stN h 1 M tg) s H1 := hR.push (by omega) g1 o1 (fun D' K' => by
    rw [← z1] at e1
    refine ⟨fun _ => by rw [g1, ← z1]; omega, fun _ => ⟨cA, ?_, hAr⟩, fun q => ?_, fun q => ?_, fun cj r' h1 h2 => ?_, fun cj r' h1 h2 => ?_⟩
    · rw [e1, stN_N]
      congr 2
      funext j
      simp [hpI, stN]
      rfl
    · rw [stN_K] at q; omega
    · rw [stN_K] at q; omega
    · rw [stN_K] at h2; omega
    · rw [stN_K] at h2; omega)
  have := kk p l e R s m args below meth c ok H1 locs ls hR' ⟨Nat.le_trans hS.1 (by omega), fun x h1 h2 => (o1 x (Nat.lt_of_lt_of_le h1 hS.1)).trans (hS.2.1 x h1 h2), hS.2.2⟩ hl
  rw [z1] at this
  exact this
theorem rl_newJ {n : Int32} {M : Nat} (tg : Nat) (hd : decode (mb μ) pc = .ok (.newarray .long, 2)) (hw : Cond.arrayClass .long ∈ tG) (hn : ¬ n < 0) (hN : n.toNatClampNeg = M) (hM : M ≤ 100000) (hc : nc + 1 ≤ mc) (hs : ns + M ≤ ms) (kk : Wm μ d mc ms Q (pc + 2) L (.ref (hpZ h) :: st) (stN h 3 M tg) (nc + 1) (ns + M)) : Wm μ d mc ms Q pc L (.int n :: st) h nc ns := by
  intro p l e R s m args below meth c ok H locs ls hR hS hl
  obtain ⟨z1, z2, z3, D, z4, z5⟩ := id hR
  have hts := ok.2.2.2.2.2.1
  obtain ⟨r1, r2, r3, r4⟩ := ok.2.2.2.2.2.2.2.2.1
  refine W.newaK (atype := .long) ok.1 ok.2.1 (hts _ hw) rfl hd rfl hn hN (by show M * 8 ≤ _; omega) (by rw [r1]; exact hc) (by rw [r2]; exact hs) rfl fun H1 cA e1 g1 o1 hAr => ?_
  have hR' : Rp (stN h 3 M tg) s H1 := hR.push (by omega) g1 o1 (fun D' K' => by
    rw [← z1] at e1
    refine ⟨fun _ => by rw [g1, ← z1]; omega, fun q => ?_, fun q => ?_, fun _ => ⟨cA, ?_, hAr⟩, fun cj r' h1 h2 => ?_, fun cj r' h1 h2 => ?_⟩
    · rw [stN_K] at q; omega
    · rw [stN_K] at q; omega
    · rw [e1, stN_N]
      congr 2
      funext j
      simp [hpJ, stN]
      rfl
    · rw [stN_K] at h2; omega
    · rw [stN_K] at h2; omega)
  have := kk p l e R s m args below meth c ok H1 locs ls hR' ⟨Nat.le_trans hS.1 (by omega), fun x h1 h2 => (o1 x (Nat.lt_of_lt_of_le h1 hS.1)).trans (hS.2.1 x h1 h2), hS.2.2⟩ hl
  rw [z1] at this
  exact this
theorem rl_newP {n : Int32} {M : Nat} {r : vw_C} (tg : Nat) (hd : decode (mb μ) pc = .ok (.anewarray idx, 3)) (hc9 : Cls[ci]? = some r) (hlk : Cond.classLink (mo μ) idx r.1 ∈ tG) (hao : r.1 ∈ aovs) (hn : ¬ n < 0) (hN : n.toNatClampNeg = M) (hM : M ≤ 100000) (hc : nc + 1 ≤ mc) (hs : ns + M ≤ ms) (kk : Wm μ d mc ms Q (pc + 3) L (.ref (hpZ h) :: st) (stN h (30 + ci) M tg) (nc + 1) (ns + M)) : Wm μ d mc ms Q pc L (.int n :: st) h nc ns := by
  intro p l e R s m args below meth c ok H locs ls hR hS hl
  obtain ⟨z1, z2, z3, D, z4, z5⟩ := id hR
  have hts := ok.2.2.2.2.2.1
  obtain ⟨r1, r2, r3, r4⟩ := ok.2.2.2.2.2.2.2.2.1
  have hX := ok.2.2.2.2.2.2.2.2.2.2.2.1
  have hci := Cls_lt hc9
  subst hN
  refine W.anew ok.1 ok.2.1 ok.2.2.2.2.1 (hts _ hlk) (va_AO.use (hX.2.2.2.2.2.1 _ hao)) rfl hd rfl hn (by omega) (by rw [r1]; exact hc) (by rw [r2]; exact hs) fun cA kA comp f1 f2 f3 f4 => ?_
  generalize hH1 : H.push ({ cls := cA, slots := Array.replicate n.toNatClampNeg .null, vm := .none } : Cell) = H1
  have g1 : H1.size = H.size + 1 := by rw [← hH1, Array.size_push]
  have e1 : H1[H.size]? = some (arrV cA n.toNatClampNeg (fun _ => .null)) := by rw [← hH1, Array.getElem?_push_size, ← arrV_new]
  have o1 : ∀ q : Nat, q < H.size → H1[q]? = H[q]? := fun q hq => by rw [← hH1, Array.getElem?_push, if_neg (Nat.ne_of_lt hq)]
  have hAr : ArrOfT s cA (.object r.1) := fun N z => ⟨(fun k h => by cases h), kA, f2, comp, f3⟩
  have hR' : Rp (stN h (30 + ci) n.toNatClampNeg tg) s H1 := hR.push (by omega) g1 o1 (fun D' K' => by
    rw [← z1] at e1
    refine ⟨fun _ => by rw [g1, ← z1]; omega, fun q => ?_, fun q => ?_, fun q => ?_, fun cj r' h1 h2 => ?_, fun cj r' h1 h2 => ?_⟩
    · rw [stN_K] at q; omega
    · rw [stN_K] at q; omega
    · rw [stN_K] at q; omega
    · rw [stN_K] at h2; have := Cls_lt h1; omega
    · rw [stN_K] at h2
      have e : cj = ci := by omega
      subst e
      cases Option.some.inj (h1.symm.trans hc9)
      refine ⟨cA, ?_, hAr, kA, comp, f2, f3, f4, f1⟩
      rw [e1, stN_N]
      congr 2
      funext j
      simp [hpP, stN, va_rf])
  have := kk p l e R s m args below meth c ok H1 locs ls hR' ⟨Nat.le_trans hS.1 (by omega), fun x h1 h2 => (o1 x (Nat.lt_of_lt_of_le h1 hS.1)).trans (hS.2.1 x h1 h2), hS.2.2⟩ hl
  rw [z1] at this
  exact this
/-! returns -/
theorem rl_iret {v : Int32} (hd : decode (mb μ) pc = .ok (.ireturn, 1)) (hr : mr μ = some .int) (hc : nc ≤ mc) (hs : ns ≤ ms) (q : Q 0 (some (.int v)) h) : Wm μ d mc ms Q pc L [.int v] h nc ns := by
  intro p l e R s m args below meth c ok H locs ls hR hS hl
  refine W.widen hc hs (vx_ret ?_)
  have hlocks := ok.2.2.2.2.2.2.1
  exact W.iret ok.1 ok.2.1 (ok.2.2.1.trans hr) (fun t ht hW => ⟨some (.int v), h, rfl, q, rfl, by rw [ht]; exact hR.moved hW.alike, hS.F ht⟩) hS.2.2 hd hlocks
theorem rl_zret {v : Int32} (hd : decode (mb μ) pc = .ok (.ireturn, 1)) (hr : mr μ = some .boolean) (hv : narrow .boolean (.int v) = .int v) (hc : nc ≤ mc) (hs : ns ≤ ms) (q : Q 0 (some (.int v)) h) : Wm μ d mc ms Q pc L [.int v] h nc ns := by
  intro p l e R s m args below meth c ok H locs ls hR hS hl
  refine W.widen hc hs (vx_ret ?_)
  have hlocks := ok.2.2.2.2.2.2.1
  exact W.zret ok.1 ok.2.1 (ok.2.2.1.trans hr) hv (fun t ht hW => ⟨some (.int v), h, rfl, q, rfl, by rw [ht]; exact hR.moved hW.alike, hS.F ht⟩) hS.2.2 hd hlocks
theorem rl_lret {v : Int64} (hd : decode (mb μ) pc = .ok (.lreturn, 1)) (hr : mr μ = some .long) (hc : nc ≤ mc) (hs : ns ≤ ms) (q : Q 0 (some (.long v)) h) : Wm μ d mc ms Q pc L [.long v] h nc ns := by
  intro p l e R s m args below meth c ok H locs ls hR hS hl
  refine W.widen hc hs (vx_ret ?_)
  have hlocks := ok.2.2.2.2.2.2.1
  exact W.lret ok.1 ok.2.1 (ok.2.2.1.trans hr) (fun t ht hW => ⟨some (.long v), h, rfl, q, rfl, by rw [ht]; exact hR.moved hW.alike, hS.F ht⟩) hS.2.2 hd hlocks
theorem rl_aret {x : Nat} {nm : String} (hd : decode (mb μ) pc = .ok (.areturn, 1)) (hr : mr μ = some (.object nm)) (hc : nc ≤ mc) (hs : ns ≤ ms) (q : Q 0 (some (.ref x)) h) : Wm μ d mc ms Q pc L [.ref x] h nc ns := by
  intro p l e R s m args below meth c ok H locs ls hR hS hl
  refine W.widen hc hs (vx_ret ?_)
  have hlocks := ok.2.2.2.2.2.2.1
  exact W.aret ok.1 ok.2.1 (ok.2.2.1.trans hr) (Or.inl ⟨nm, rfl⟩) (Or.inr ⟨x, rfl⟩) (fun t ht hW => ⟨some (.ref x), h, rfl, q, rfl, by rw [ht]; exact hR.moved hW.alike, hS.F ht⟩) hS.2.2 hd hlocks
theorem rl_vret (hd : decode (mb μ) pc = .ok (.return_, 1)) (hr : mr μ = none) (hc : nc ≤ mc) (hs : ns ≤ ms) (q : Q 0 none h) : Wm μ d mc ms Q pc L [] h nc ns := by
  intro p l e R s m args below meth c ok H locs ls hR hS hl
  refine W.widen hc hs (vx_ret ?_)
  have hlocks := ok.2.2.2.2.2.2.1
  exact W.vret ok.1 ok.2.1 (ok.2.2.1.trans hr) (fun t ht hW => ⟨none, h, rfl, q, rfl, by rw [ht]; exact hR.moved hW.alike, hS.F ht⟩) hS.2.2 hd hlocks
/-- fewer words on the locals -/
theorem rl_wk {L' : List (Option Value)} (hw : wkL L' L) (k : Wm μ d mc ms Q pc L' st h nc ns) : Wm μ d mc ms Q pc L st h nc ns := by
  intro p l e R s m args below meth c ok H locs ls hR hS hl
  exact k p l e R s m args below meth c ok H locs ls hR hS ⟨hl.1, hl.2.1, fun i v hi => hl.2.2 i v (wkL_at _ _ hw i v hi)⟩
theorem rl_ldc {v : Int32} (hd : decode (mb μ) pc = .ok (.ldc idx, 2)) (hw : Cond.constant (mo μ) idx v ∈ tG) (k : Wm μ d mc ms Q (pc + 2) L (.int v :: st) h nc ns) : Wm μ d mc ms Q pc L st h nc ns := by
  intro p l e R s m args below meth c ok H locs ls hR hS hl
  exact lv_ldc ok.1 ok.2.1 ok.2.2.2.2.1 (ok.2.2.2.2.2.1 _ hw) hd (k p l e R s m args below meth c ok H locs ls hR hS hl)
theorem rl_ldc2 {v : Int64} (hd : decode (mb μ) pc = .ok (.ldc2_w idx, 3)) (hw : Cond.constantLong (mo μ) idx v ∈ tG) (k : Wm μ d mc ms Q (pc + 3) L (.long v :: st) h nc ns) : Wm μ d mc ms Q pc L st h nc ns := by
  intro p l e R s m args below meth c ok H locs ls hR hS hl
  exact lv_ldc2 ok.1 ok.2.1 ok.2.2.2.2.1 (ok.2.2.2.2.2.1 _ hw) hd (k p l e R s m args below meth c ok H locs ls hR hS hl)
end RN

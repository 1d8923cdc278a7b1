section RO
variable {μ : Mi} {d mc ms : Nat} {Q : Nat → Option Value → Hp → Prop} {pc : Nat} {L : List (Option Value)} {st : List Value} {h : Hp} {nc ns : Nat} {idx : Nat}
theorem rl_ldcw {v : Int32} (hd : decode (mb μ) pc = .ok (.ldc_w idx, 3)) (hw : Cond.constant (mo μ) idx v ∈ tG) (k : Wm μ d mc ms Q (pc + 3) L (.int v :: st) h nc ns) : Wm μ d mc ms Q pc L st h nc ns := by
  intro p l e R s m args below meth c ok H locs ls hR hS hl
  exact lv_ldcw ok.1 ok.2.1 ok.2.2.2.2.1 (ok.2.2.2.2.2.1 _ hw) hd (k p l e R s m args below meth c ok H locs ls hR hS hl)
end RO
/-! a call that may throw, in a method with handlers -/
def HnOK (μ : Mi) (pc : Nat) (hs : List (Nat × Nat)) : Prop := ∀ q ∈ hs, ∃ (pre : List ExceptionTableEntry) (x : ExceptionTableEntry) (suf : List ExceptionTableEntry), tableOf (mh μ) = pre ++ x :: suf ∧ x.handlerPc = q.2 ∧ covers x pc = true ∧ x.catchType ≠ 0 ∧ Cond.classLink (mo μ) x.catchType (exn q.1) ∈ tG ∧ exn q.1 ∈ nwC ∧ ∀ z ∈ pre, z.catchType ≠ 0 ∧ ∃ i, Cond.classLink (mo μ) z.catchType (exn i) ∈ tG ∧ exn i ∈ nwC ∧ exn q.1 ≠ exn i
section RCH
variable {μ ν : Mi} {d mc ms dn mcn msn n : Nat} {Q : Nat → Option Value → Hp → Prop} {pc : Nat} {L L0 L9 : List (Option Value)} {st rest As : List Value} {h : Hp} {nc ns : Nat} {a b ci k idx : Nat}
theorem rl_callVH (hs9 : List (Nat × Nat)) (hm : MfV ci n ν) (hd : decode (mb μ) pc = .ok (.invokevirtual idx, 3)) (hlk : Cond.methodLink (mo μ) idx (my ν) ∈ tG) (hno : ¬ (my μ).name = "law") (hh : HnOK μ pc hs9) (hk : hpK h b = 10 + ci) (hlev : dn + 1 ≤ d) (hrest : (rest.map fun v => v.category).sum ≤ 8) (hc : nc + mcn ≤ mc) (hs : ns + msn ≤ ms) (hn : As.length = n) (hlen : (lg_sl (.ref b :: As)).length ≤ ml ν) (hL0 : entL (ml ν) (.ref b :: As) = L0) (hst : As.reverse ++ .ref b :: rest = st) (h9 : wkL L9 L)
    (K : ∀ Qc : Nat → Option Value → Hp → Prop, (∀ (r : Option Value) (h' : Hp), Wm μ d mc ms Q (pc + 3) L (r.toList ++ rest) h' (nc + mcn) (ns + msn) → Qc 0 r h') → (∀ (j : Nat) (h' : Hp), j ≠ 0 → (∃ hpc : Nat, (j, hpc) ∈ hs9 ∧ ∀ q : Nat, Wm μ d mc ms Q hpc L9 [.ref q] h' (nc + mcn) (ns + msn)) → Qc j none h') → Wm ν dn mcn msn Qc 0 L0 [] h 0 0) : Wm μ d mc ms Q pc L st h nc ns := by
  intro p l e R s m args below meth c ok H locs ls hR hS hl
  subst hL0; subst hst
  have hK := K (fun j r h' => (j = 0 → Wm μ d mc ms Q (pc + 3) L (r.toList ++ rest) h' (nc + mcn) (ns + msn)) ∧ (j ≠ 0 → ∃ hpc : Nat, (j, hpc) ∈ hs9 ∧ ∀ q : Nat, Wm μ d mc ms Q hpc L9 [.ref q] h' (nc + mcn) (ns + msn))) (fun r h' w => ⟨fun _ => w, fun q => absurd rfl q⟩) (fun j h' q w => ⟨fun e => absurd e q, fun _ => w⟩)
  obtain ⟨hmB, m1, m2, r, m3, m4⟩ := hm
  have hM := metOf (l := l) ok.2.2.2.2.2.2.2.2.2.1 hmB hlen hK
  have hts := ok.2.2.2.2.2.1
  obtain ⟨r1, r2, r3, r4⟩ := ok.2.2.2.2.2.2.2.2.1
  have hX := ok.2.2.2.2.2.2.2.2.2.2.2.1
  obtain ⟨z1, z2, z3, D, z4, z5⟩ := id hR
  obtain ⟨cell, q1, q2, q3, -⟩ := (z5 b).obj m3 hk
  have htab : c.exceptionTable.toList = tableOf (mh μ) := by
    rcases ok.2.2.2.2.2.2.2.2.2.2.1 with q | q
    · exact absurd q hno
    · exact q
  refine runFin ok hS hl (vx_runV (Ts := tG) (C := (my ν).cls) ⟨ok.1, ok.2.1, ok.2.2.2.1, ok.2.2.2.2.1, hts⟩ hM ⟨callB_ok ok hmB hlk hlev, hts _ m1, hts _ m2⟩ ⟨(preS_of ok hR hS).1, ⟨cell, q1, by rw [q3]; rfl, by rw [q2, ← m4]; exact (z4.1 ci r m3).2.1⟩, (preS_of ok hR hS).2⟩ rfl hn hl.1 rfl (lv_room hrest) hd ⟨by rw [r1]; exact hc, by rw [r2]; exact hs⟩) (fun r h' _ w => w.1 rfl) (fun j h' ce q H1 locs1 j1 j2 w hB hR1 hS1 hce hcv hcl => ?_)
  obtain ⟨hpc, hin, hW⟩ := w.2 (by omega)
  obtain ⟨pre, x, suf, e1, e2, e3, e4, e5, e6, e7⟩ := hh _ hin
  have hW1 := hW q p l e R s m args below meth c (by rw [hB]; exact ok) H1 locs1 ls hR1 (by rw [hB]; exact hS1) ⟨hl.1, hl.2.1, fun i v hi => hl.2.2 i v (wkL_at _ _ h9 i v hi)⟩
  rw [hB] at hW1
  refine vx_catch (own := mo μ) (name := exn j) (E := exn j) ok.2.2.2.2.1 pre x suf (by rw [htab]; exact e1) (fun z hz => Or.inr ?_) e3 e4 (hts _ e5) (va_Nw.use rfl (hX.1 _ e6)) hce hcv hcl (by rw [e2]; exact hW1)
  obtain ⟨f1, i, f2, f3, f4⟩ := e7 z hz
  exact ⟨f1, exn i, hts _ f2, hX.2.2.2.2.2.2 _ e6 _ f3 f4⟩
end RCH

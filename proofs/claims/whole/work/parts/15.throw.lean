/-! what a call asks and goes on with: an int, a long, a reference, nothing; and of a method that may throw -/
def CKi (ν : Mi) (dn mcn msn : Nat) (L0 : List (Option Value)) (h : Hp) (X : Int32 → Hp → Prop) : Prop := ∀ Qc : Nat → Option Value → Hp → Prop, (∀ (v : Int32) (h' : Hp), X v h' → Qc 0 (some (.int v)) h') → Wm ν dn mcn msn Qc 0 L0 [] h 0 0
def CKl (ν : Mi) (dn mcn msn : Nat) (L0 : List (Option Value)) (h : Hp) (X : Int64 → Hp → Prop) : Prop := ∀ Qc : Nat → Option Value → Hp → Prop, (∀ (v : Int64) (h' : Hp), X v h' → Qc 0 (some (.long v)) h') → Wm ν dn mcn msn Qc 0 L0 [] h 0 0
def CKr (ν : Mi) (dn mcn msn : Nat) (L0 : List (Option Value)) (h : Hp) (X : Nat → Hp → Prop) : Prop := ∀ Qc : Nat → Option Value → Hp → Prop, (∀ (v : Nat) (h' : Hp), X v h' → Qc 0 (some (.ref v)) h') → Wm ν dn mcn msn Qc 0 L0 [] h 0 0
def CKv (ν : Mi) (dn mcn msn : Nat) (L0 : List (Option Value)) (h : Hp) (X : Hp → Prop) : Prop := ∀ Qc : Nat → Option Value → Hp → Prop, (∀ (h' : Hp), X h' → Qc 0 none h') → Wm ν dn mcn msn Qc 0 L0 [] h 0 0
def CXi (ν : Mi) (dn mcn msn : Nat) (L0 : List (Option Value)) (h : Hp) (X : Int32 → Hp → Prop) (Y : Nat → Hp → Prop) : Prop := ∀ Qc : Nat → Option Value → Hp → Prop, (∀ (v : Int32) (h' : Hp), X v h' → Qc 0 (some (.int v)) h') → (∀ (j : Nat) (h' : Hp), j ≠ 0 → Y j h' → Qc j none h') → Wm ν dn mcn msn Qc 0 L0 [] h 0 0
def CXv (ν : Mi) (dn mcn msn : Nat) (L0 : List (Option Value)) (h : Hp) (X : Hp → Prop) (Y : Nat → Hp → Prop) : Prop := ∀ Qc : Nat → Option Value → Hp → Prop, (∀ (h' : Hp), X h' → Qc 0 none h') → (∀ (j : Nat) (h' : Hp), j ≠ 0 → Y j h' → Qc j none h') → Wm ν dn mcn msn Qc 0 L0 [] h 0 0
/-! throwing -/
def stZ (h : Hp) (z : Nat) : Hp := (h.1, h.2.1, h.2.2.1, h.2.2.2.1, z, h.2.2.2.2.2)
def exnm : List String := ["java/lang/RuntimeException", "java/lang/Exception"]
def nwB (E : String) : List Cond := [.superclass "java/lang/Throwable" "java/lang/Object", .castable E E, .declares ⟨"java/lang/RuntimeException", "<init>", "(Ljava/lang/String;)V"⟩, .declares ⟨"java/lang/Exception", "<init>", "(Ljava/lang/String;)V"⟩, .declares ⟨"java/lang/Throwable", "<init>", "(Ljava/lang/String;)V"⟩]
def ThOK (own : String) (ic j : Nat) : Prop := (∀ w ∈ (vx_atS own ic (exn j) exnm).filter goodWord, w ∈ tG) ∧ (∀ w ∈ (vx_atS own ic (exn j) exnm).filter (fun w => !goodWord w), w ∈ nwB (exn j)) ∧ (vx_atS own ic (exn j) exnm).all vx_ot = true ∧ Cond.initialized (exn j) ∈ tG ∧ Bundle.fit (exn j) = true ∧ (∀ n ∈ exnm, Bundle.fit n = true) ∧ exn j ∈ nwC
theorem Rp.grown {h : Hp} {U : State} {H H' : Heap} (hR : Rp h U H) (z : H.size ≤ H'.size) (oq : ∀ q : Nat, q < H.size → H'[q]? = H[q]?) : Rp (stZ h H'.size) U H' := by
  obtain ⟨z1, z2, z3, D, z4, z5⟩ := hR
  refine ⟨rfl, Nat.le_trans z2 z, z3, D, z4, fun a => ?_⟩
  by_cases hl : a < H.size
  · exact (z5 a).keep rfl (fun _ => rfl) (fun _ => rfl) (fun _ => rfl) (oq a hl) z
  · have e0 : hpK h a = 0 := by
      by_cases q : hpK h a = 0
      · exact q
      · exact absurd ((z5 a).1 q) hl
    have e1 : hpK (stZ h H'.size) a = 0 := e0
    exact ⟨fun q => absurd e1 q, fun q => by omega, fun q => by omega, fun q => by omega, fun ci r _ q => by omega, fun ci r _ q => by omega⟩
theorem nwB_ok {E : String} {s : State} {args : Array Value} (hX : Xtra s) (hE : E ∈ nwC) : ∀ w ∈ nwB E, w.before args s = true := by
  obtain ⟨h1, h2, h3, h4, h5, h6, h7⟩ := hX
  refine vx_c (va_Nw.use rfl h4) (vx_c (va_Nw.use rfl (h1 _ hE)) (vx_c (va_Nw.use rfl (h2 _ (List.mem_of_getElem? (i := 0) rfl))) (vx_c (va_Nw.use rfl (h2 _ (List.mem_of_getElem? (i := 1) rfl))) (vx_c (va_Nw.use rfl (h2 _ (List.mem_of_getElem? (i := 2) rfl))) vx_n))))
section RT
variable {μ : Mi} {d mc ms : Nat} {Q : Nat → Option Value → Hp → Prop} {pc : Nat} {L : List (Option Value)} {st : List Value} {h : Hp} {nc ns : Nat}
theorem rl_throw (j : Nat) {is ik ic : Nat} {text : String} (d0 : decode (mb μ) pc = .ok (.new ik, 3)) (d3 : decode (mb μ) (pc + 3) = .ok (.dup, 1)) (d4 : decode (mb μ) (pc + 4) = .ok (.ldc is, 2)) (d6 : decode (mb μ) (pc + 6) = .ok (.invokespecial ic, 3)) (d9 : decode (mb μ) (pc + 9) = .ok (.athrow, 1)) (hcl : Cond.classLink (mo μ) ik (exn j) ∈ tG) (th : ThOK (mo μ) ic j) (hj : 1 ≤ j ∧ j ≤ 3) (hstr : (mo μ, is, text) ∈ strs) (hno : mh μ = [] ∧ ¬ (my μ).name = "law") (hd6 : 6 ≤ d) (hc : nc + 1 ≤ mc) (hs : ns + 6 ≤ ms)
    (q : ∀ z : Nat, hpZ h ≤ z → Q j none (stZ h z)) : Wm μ d mc ms Q pc L [] h nc ns := by
  intro p l e R s m args below meth c ok H locs ls hR hS hl
  have hts := ok.2.2.2.2.2.1
  obtain ⟨r1, r2, r3, r4⟩ := ok.2.2.2.2.2.2.2.2.1
  have hX := ok.2.2.2.2.2.2.2.2.2.2.2.1
  obtain ⟨t1, t2, t3, t4, t5, t6, t7⟩ := th
  obtain ⟨sa, hsa⟩ := hX.2.2.2.2.1 _ hstr
  have htab : c.exceptionTable.toList = [] := by
    rcases ok.2.2.2.2.2.2.2.2.2.2.1 with q | q
    · exact absurd q hno.2
    · rw [q, hno.1]; rfl
  have hat : ∀ w ∈ vx_atS (mo μ) ic (exn j) exnm, w.before args s = true := vx_hat (fun w hw => hts w (t1 w hw)) t2 (nwB_ok hX t7)
  refine vx_throwS ok.1 ok.2.1 ok.2.2.2.2.2.2.2.2.2.1 ok.2.2.2.2.1 t5 t6 (hts _ hcl) (hts _ t4) hsa hat (fun w hw => ?_) ok.2.2.2.2.2.2.2.2.2.2.2.2.1 ok.2.2.2.2.2.2.2.2.2.2.2.2.2 hS (by rw [ok.2.2.2.1]; exact hl.1) d0 d3 d4 d6 d9 (fun x hx => by rw [htab] at hx; cases hx) (by show 2 + 3 < R.frames; omega) (by show 0 + (13 * (2 + 1) + 43) ≤ R.locals; omega) (by omega) (by omega) ok.2.2.2.2.2.2.1 (fun t hal g1 g2 => ?_) hS.2.2 hc hs
  · rcases List.mem_cons.mp hw with e | hw
    · rw [e]; rfl
    · rcases List.mem_cons.mp hw with e | hw
      · rw [e]; rfl
      · exact List.all_eq_true.mp t3 w hw
  · refine ⟨j, stZ h t.heap.size, hj.1, hj.2, rfl, q _ (by rw [hR.1]; exact g1), rfl, (hR.grown g1 g2).moved hal, ?_⟩
    exact ⟨Nat.le_trans hS.1 g1, fun x h1 h2 => (g2 x (Nat.lt_of_lt_of_le h1 hS.1)).trans (hS.2.1 x h1 h2)⟩
theorem rl_throwW (j : Nat) {is ik ic : Nat} {text : String} (d0 : decode (mb μ) pc = .ok (.new ik, 3)) (d3 : decode (mb μ) (pc + 3) = .ok (.dup, 1)) (d4 : decode (mb μ) (pc + 4) = .ok (.ldc_w is, 3)) (d7 : decode (mb μ) (pc + 7) = .ok (.invokespecial ic, 3)) (d10 : decode (mb μ) (pc + 10) = .ok (.athrow, 1)) (hcl : Cond.classLink (mo μ) ik (exn j) ∈ tG) (th : ThOK (mo μ) ic j) (hj : 1 ≤ j ∧ j ≤ 3) (hstr : (mo μ, is, text) ∈ strs) (hno : mh μ = [] ∧ ¬ (my μ).name = "law") (hd6 : 6 ≤ d) (hc : nc + 1 ≤ mc) (hs : ns + 6 ≤ ms)
    (q : ∀ z : Nat, hpZ h ≤ z → Q j none (stZ h z)) : Wm μ d mc ms Q pc L [] h nc ns := by
  intro p l e R s m args below meth c ok H locs ls hR hS hl
  have hts := ok.2.2.2.2.2.1
  obtain ⟨r1, r2, r3, r4⟩ := ok.2.2.2.2.2.2.2.2.1
  have hX := ok.2.2.2.2.2.2.2.2.2.2.2.1
  obtain ⟨t1, t2, t3, t4, t5, t6, t7⟩ := th
  obtain ⟨sa, hsa⟩ := hX.2.2.2.2.1 _ hstr
  have htab : c.exceptionTable.toList = [] := by
    rcases ok.2.2.2.2.2.2.2.2.2.2.1 with q | q
    · exact absurd q hno.2
    · rw [q, hno.1]; rfl
  have hat : ∀ w ∈ vx_atS (mo μ) ic (exn j) exnm, w.before args s = true := vx_hat (fun w hw => hts w (t1 w hw)) t2 (nwB_ok hX t7)
  refine vx_throwSW ok.1 ok.2.1 ok.2.2.2.2.2.2.2.2.2.1 ok.2.2.2.2.1 t5 t6 (hts _ hcl) (hts _ t4) hsa hat (fun w hw => ?_) ok.2.2.2.2.2.2.2.2.2.2.2.2.1 ok.2.2.2.2.2.2.2.2.2.2.2.2.2 hS (by rw [ok.2.2.2.1]; exact hl.1) d0 d3 d4 d7 d10 (fun x hx => by rw [htab] at hx; cases hx) (by show 2 + 3 < R.frames; omega) (by show 0 + (13 * (2 + 1) + 43) ≤ R.locals; omega) (by omega) (by omega) ok.2.2.2.2.2.2.1 (fun t hal g1 g2 => ?_) hS.2.2 hc hs
  · rcases List.mem_cons.mp hw with e | hw
    · rw [e]; rfl
    · rcases List.mem_cons.mp hw with e | hw
      · rw [e]; rfl
      · exact List.all_eq_true.mp t3 w hw
  · refine ⟨j, stZ h t.heap.size, hj.1, hj.2, rfl, q _ (by rw [hR.1]; exact g1), rfl, (hR.grown g1 g2).moved hal, ?_⟩
    exact ⟨Nat.le_trans hS.1 g1, fun x h1 h2 => (g2 x (Nat.lt_of_lt_of_le h1 hS.1)).trans (hS.2.1 x h1 h2)⟩
end RT

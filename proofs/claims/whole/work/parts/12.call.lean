/-! CALLS -/
def Rm (d mc ms : Nat) : Room := { frames := d, cells := mc, slots := ms, locals := 35 * d }
def codeC (ν : Mi) : Cond := .code (my ν) (mb ν) (ml ν) (mr ν)
def codeW (ν : Mi) : Cond := .codeWith (my ν) (mb ν) (ml ν) (mr ν) (mh ν)
/-- what the tables say of a method of n parameters -/
def MfA (n : Nat) (ν : Mi) : Prop := Cond.initialized (my ν).cls ∈ tG ∧ ((my ν).cls ≠ "java/lang/invoke/MethodHandle" ∧ (my ν).cls ≠ "java/lang/invoke/VarHandle" ∧ (parseMethodDescriptor (my ν).desc).map (fun d => d.parameters.length) = some n) ∧ plainName (my ν).cls = true ∧ mo ν = (my ν).cls ∧ ml ν ≤ 16
def MfB (n : Nat) (ν : Mi) : Prop := MfA n ν ∧ codeC ν ∈ tG ∧ mh ν = []
def MfV (ci n : Nat) (ν : Mi) : Prop := MfB n ν ∧ Cond.instanceMethod (my ν) ∈ tG ∧ Cond.selects (my ν).cls (my ν) (my ν) ∈ tG ∧ ∃ r : vw_C, Cls[ci]? = some r ∧ r.1 = (my ν).cls
def MfS (n : Nat) (ν : Mi) : Prop := MfB n ν ∧ Cond.static (my ν) ∈ tG
def MfI (n : Nat) (ν : Mi) : Prop := MfB n ν ∧ (my ν).name = "<init>" ∧ Cond.instanceMethod (my ν) ∈ tG ∧ mr ν = none
def MfW (n : Nat) (ν : Mi) : Prop := MfA n ν ∧ codeW ν ∈ tG ∧ Cond.static (my ν) ∈ tG
def entA : List Value → List (Option Value)
  | [] => []
  | v :: r => if v.category = 2 then some v :: none :: entA r else some v :: entA r
def entL (n : Nat) (As : List Value) : List (Option Value) := entA As ++ List.replicate (n - (entA As).length) none
theorem entA_len : ∀ As : List Value, (entA As).length = (lg_sl As).length
  | [] => rfl
  | v :: r => by
    have ih := entA_len r
    unfold entA lg_sl
    simp only [List.flatMap_cons, List.length_append]
    have ih' : (entA r).length = (List.flatMap (fun v => if v.category = 2 then [Slot.val v, Slot.second] else [Slot.val v]) r).length := ih
    by_cases hc : v.category = 2
    · simp [hc, ih']; omega
    · simp [hc, ih']; omega
theorem entA_at : ∀ (As : List Value) (i : Nat) (v : Value), (entA As)[i]? = some (some v) → (lg_sl As)[i]? = some (.val v)
  | [], i, v, h => by simp [entA] at h
  | w :: r, i, v, h => by
    have ih := entA_at r
    have e : lg_sl (w :: r) = (if w.category = 2 then [Slot.val w, Slot.second] else [Slot.val w]) ++ lg_sl r := by simp [lg_sl]
    unfold entA at h
    rw [e]
    by_cases hc : w.category = 2
    · simp only [hc, if_true] at h ⊢
      match i, h with
      | 0, h => simp at h; simp [h]
      | 1, h => simp at h
      | j + 2, h =>
        have h1 : (entA r)[j]? = some (some v) := by simpa using h
        simpa using ih j v h1
    · simp only [hc, if_false] at h ⊢
      match i, h with
      | 0, h => simp at h; simp [h]
      | j + 1, h =>
        have h1 : (entA r)[j]? = some (some v) := by simpa using h
        simpa using ih j v h1
theorem lvL_entry {As : List Value} {n : Nat} (h : (lg_sl As).length ≤ n) : lvL ((lg_sl As ++ List.replicate (n - (lg_sl As).length) Slot.unset).toArray) n (entL n As) := by
  have h1 := lv_entry As h
  refine ⟨h1.1, h1.2.1, fun i v hi => ?_⟩
  unfold entL at hi
  by_cases hl : i < (entA As).length
  · rw [List.getElem?_append_left hl] at hi
    have := entA_at As i v hi
    rw [List.getElem?_toArray, List.getElem?_append_left (by rw [← entA_len]; exact hl)]
    exact this
  · rw [List.getElem?_append_right (by omega)] at hi
    have := List.mem_of_getElem? hi
    simp at this
def PcR (As : List Value) (h : Hp) : Array Value → State → Prop := fun v U => v = As.toArray ∧ Rp h U U.heap ∧ Xtra U ∧ vx_Zq Bundle.tN "UNASSIGNED_STACK" Bundle.steD (fun q => hpB h ≤ q) U U.heap ∧ vx_Zq Bundle.tN "SUPPRESSED_SENTINEL" Bundle.listD (fun q => hpB h ≤ q) U U.heap
theorem PcR_blind (As : List Value) (h : Hp) : FrameBlind (PcR As h) := by
  intro a U g mk q
  obtain ⟨q1, q2, q3, q4, q5⟩ := q
  have hal : U.vm.Alike (U.calling g mk a).vm := Vm.Alike.refl U.vm
  exact ⟨q1, Rp.moved (u := U) (U := U.calling g mk a) hal q2, Xtra.warm (s := U) (U := U.calling g mk a) (State.WarmedH.refl U) q3, vx_Zq.moved (u := U) (U := U.calling g mk a) hal q4, vx_Zq.moved (u := U) (U := U.calling g mk a) hal q5⟩
/-- the judgement at the entry gives the kit's contract -/
theorem metOf {l : Launch} {ν : Mi} {d mc ms n : Nat} {Q : Nat → Option Value → Hp → Prop} {As : List Value} {h : Hp} (hl : l.stackTraces = false) (hm : MfB n ν) (hlen : (lg_sl As).length ≤ ml ν) (K : Wm ν d mc ms Q 0 (entL (ml ν) As) [] h 0 0) :
    vx_Met l (my ν) (codeC ν :: tG) (Rm d mc ms) (PcR As h) (QcR Q (hpB h)) (XcR Q (hpB h)) mc ms (fun q => hpB h ≤ q) := by
  obtain ⟨⟨m2, m3, m4, m5, m6⟩, m1, m7⟩ := hm
  refine vx_ofW (cc := mb ν) (maxL := ml ν) (ret := mr ν) m4 rfl ?_
  intro p e s m args below meth c s₁ B hml ht hp
  obtain ⟨rfl, q2, q3, q4, q5⟩ := hp
  have htab : c.exceptionTable.toList = [] := by
    cases hq : c.exceptionTable.toList with
    | nil => rfl
    | cons x r => exact (ht x (by rw [hq]; exact List.mem_cons_self)).elim
  have hts := atoms_spec (ws := codeC ν :: tG) B.pre
  have ok : Okx ν d mc ms (hpB h) p l (headSpec (codeC ν :: tG) (Rm d mc ms)).room s m As.toArray meth c :=
    ⟨B.exec, B.bytes, B.returns, hml, by rw [m5]; exact findClass_of_methodNamed B.named, fun w hw => hts w (List.mem_cons_of_mem _ hw), B.notSynchronized, fun q => (name_of_methodNamed B.named B.method).1.trans q, ⟨rfl, rfl, Nat.le_refl _, Nat.le_refl _⟩, hl, Or.inr (by rw [htab, m7]; rfl), q3, q4, q5⟩
  rw [lg_entry_eq]
  exact K p l e _ s m As.toArray below meth c ok s.heap [] _ q2 va_S.rf (lvL_entry hlen)
theorem metOfW {l : Launch} {ν : Mi} {d mc ms n : Nat} {Q : Nat → Option Value → Hp → Prop} {As : List Value} {h : Hp} (hl : l.stackTraces = false) (hm : MfW n ν) (hlen : (lg_sl As).length ≤ ml ν) (K : Wm ν d mc ms Q 0 (entL (ml ν) As) [] h 0 0) :
    vx_Met l (my ν) (codeW ν :: tG) (Rm d mc ms) (PcR As h) (QcR Q (hpB h)) (XcR Q (hpB h)) mc ms (fun q => hpB h ≤ q) := by
  obtain ⟨⟨m2, m3, m4, m5, m6⟩, m1, m7⟩ := hm
  refine vx_ofWH (cc := mb ν) (maxL := ml ν) (ret := mr ν) (hh := mh ν) m4 rfl ?_
  intro p e s m args below meth c s₁ B hml hp
  obtain ⟨rfl, q2, q3, q4, q5⟩ := hp
  have hts := atoms_spec (ws := codeW ν :: tG) B.pre
  have htab : c.exceptionTable.toList = tableOf (mh ν) := vx_table (x := my ν) B (hts (codeW ν) List.mem_cons_self)
  have ok : Okx ν d mc ms (hpB h) p l (headSpec (codeW ν :: tG) (Rm d mc ms)).room s m As.toArray meth c :=
    ⟨B.exec, B.bytes, B.returns, hml, by rw [m5]; exact findClass_of_methodNamed B.named, fun w hw => hts w (List.mem_cons_of_mem _ hw), B.notSynchronized, fun q => (name_of_methodNamed B.named B.method).1.trans q, ⟨rfl, rfl, Nat.le_refl _, Nat.le_refl _⟩, hl, Or.inr htab, q3, q4, q5⟩
  rw [lg_entry_eq]
  exact K p l e _ s m As.toArray below meth c ok s.heap [] _ q2 va_S.rf (lvL_entry hlen)
section RC
variable {μ ν : Mi} {d mc ms dn mcn msn n : Nat} {Q : Nat → Option Value → Hp → Prop} {pc : Nat} {L L0 : List (Option Value)} {st rest As : List Value} {h : Hp} {nc ns : Nat} {a b ci k idx : Nat}
/-- what the caller has at the call -/
theorem preS_of {p : Program} {l : Launch} {R : Room} {s : State} {m : MethodId} {args : Array Value} {meth : Method} {c : Code} {H : Heap} {locs : List Loc} (ok : Okx μ d mc ms (hpB h) p l R s m args meth c) (hR : Rp h s H) (hS : va_S (fun q => hpB h ≤ q) s.heap H locs) : PreS s H (PcR As h) As := by
  refine ⟨PcR_blind As h, fun U hU hW => ⟨rfl, by rw [hU]; exact hR.moved hW.alike, ok.2.2.2.2.2.2.2.2.2.2.2.1.warm hW, ?_, ?_⟩⟩
  · rw [hU]
    exact vx_Zq.moved hW.alike (vx_Zq.kept ok.2.2.2.2.2.2.2.2.2.2.2.2.1 (fun a h1 h2 => hS.2.1 a h1 h2))
  · rw [hU]
    exact vx_Zq.moved hW.alike (vx_Zq.kept ok.2.2.2.2.2.2.2.2.2.2.2.2.2 (fun a h1 h2 => hS.2.1 a h1 h2))
theorem callB_ok {p : Program} {l : Launch} {R : Room} {s : State} {m : MethodId} {args : Array Value} {meth : Method} {c : Code} (ok : Okx μ d mc ms (hpB h) p l R s m args meth c) (hm : MfB n ν) (hlk : Cond.methodLink (mo μ) idx (my ν) ∈ tG) (hlev : dn + 1 ≤ d) :
    CallB R s args (mo μ) idx (my ν) (mb ν) (ml ν) (mr ν) (codeC ν :: tG) (Rm dn mcn msn) mcn msn n := by
  obtain ⟨⟨m2, m3, m4, m5, m6⟩, m1, m7⟩ := hm
  have hts := ok.2.2.2.2.2.1
  obtain ⟨r1, r2, r3, r4⟩ := ok.2.2.2.2.2.2.2.2.1
  refine ⟨rfl, rfl, Nat.le_trans hlev r3, ?_, fun w hw a' U hW => ?_, List.mem_cons_self, hts _ m1, hts _ m2, ⟨m3.1, m3.2.1⟩, fun sig hs => ?_, hts _ hlk⟩
  · show 8 + (ml ν + 11) + 35 * dn ≤ R.locals
    omega
  · have hw' : w ∈ tG := by
      rcases List.mem_cons.mp hw with e | e
      · rw [e]; exact m1
      · exact e
    exact word_at hW (good_of_word (tG_good hw')) (hts w hw')
  · have h2 := m3.2.2
    rw [hs] at h2
    exact (Option.some.inj h2).symm
/-- behind a call: it came back, or it threw -/
theorem runFin {p : Program} {l : Launch} {e : Env} {R : Room} {s : State} {m : MethodId} {args : Array Value} {below : List Frame} {meth : Method} {c : Code} {H : Heap} {locs : List Loc} {ls : Array Slot} {st0 : List Value} {Qc : Nat → Option Value → Hp → Prop} {aa : Array Value}
    (ok : Okx μ d mc ms (hpB h) p l R s m args meth c) (hS : va_S (fun q => hpB h ≤ q) s.heap H locs) (hl : lvL ls (ml μ) L)
    (hr : vx_Run p l e R s m args below meth c H locs nc ns mcn msn (F0 m pc ls st0) rest (QcR Qc (hpB h) aa) (XcR Qc (hpB h)) (fun q => hpB h ≤ q))
    (k : ∀ (r : Option Value) (h' : Hp), hpB h' = hpB h → Qc 0 r h' → Wm μ d mc ms Q (pc + 3) L (r.toList ++ rest) h' (nc + mcn) (ns + msn))
    (kx : ∀ (j : Nat) (h' : Hp) (ce : Cell) (q : Addr) (H1 : Heap) (locs1 : List Loc), 1 ≤ j → j ≤ 3 → Qc j none h' → hpB h' = hpB h → Rp h' s H1 → va_S (fun q => hpB h ≤ q) s.heap H1 locs1 → H1[q]? = some ce → ce.vm = .none → s.vm.findClass (exn j) = some ce.cls →
      vx_W p l e R s m args below meth c H1 locs1 (nc + mcn) (ns + msn) (vx_MQ below (QcR Q (hpB h)) (XcR Q (hpB h)) args s mc ms (fun q => hpB h ≤ q)) (F0 m pc ls rest) q) :
    W p l e R s m args below meth c H locs nc ns (vx_MQ below (QcR Q (hpB h)) (XcR Q (hpB h)) args s mc ms (fun q => hpB h ≤ q)) (F0 m pc ls st0) := by
  intro T hT X
  rcases hr T hT X with ⟨v, st₀, t, T', L', h0, X', hL, e1, e2, ⟨r, h', hv, hq, hB, hRp, hF⟩, st⟩ | ⟨q, st₀, t, T', L', E, ce, h0, X', hL, e1, e2, ⟨j, h', hj1, hj2, hE, hq, hB, hRp, hF⟩, hce, hcv, hcl, st⟩
  · cases hv
    obtain ⟨k1, k2, k3⟩ := vx_keep h0 e1 hS (fun q _ h => h) (fun q h => h) hL hF
    have hal : t.vm.Alike s.vm := by rw [← e2]; exact X'.warmed.alike.symm
    have KW := k v h' hB hq p l e R s m args below meth c (by rw [hB]; exact ok) T'.heap (locs ++ L') ls (by rw [e1]; exact hRp.moved hal) (by rw [hB]; exact k3) hl
    rw [hB] at KW
    obtain ⟨t2, a1, b1⟩ := KW T' rfl X'
    exact ⟨t2, st t2 a1, b1⟩
  · obtain ⟨k1, k2, k3⟩ := vx_keep h0 e1 hS (fun q _ h => h) (fun q h => h) hL hF
    have hal : t.vm.Alike s.vm := by rw [← e2]; exact X'.warmed.alike.symm
    obtain ⟨t2, a1, b1⟩ := kx j h' ce q T'.heap (locs ++ L') hj1 hj2 hq hB (by rw [e1]; exact hRp.moved hal) k3 (by rw [e1]; exact hce) hcv (by rw [← hE]; exact hcl) T' rfl X'
    exact ⟨t2, st.trans a1, b1⟩
def Qn (X : Option Value → Hp → Prop) : Nat → Option Value → Hp → Prop := fun j r h' => j = 0 ∧ X r h'
def Qx (X : Option Value → Hp → Prop) (Q : Nat → Option Value → Hp → Prop) : Nat → Option Value → Hp → Prop := fun j r h' => (j = 0 → X r h') ∧ (j ≠ 0 → Q j none h')
/-- a call of a method that doesn't throw: of an object's method -/
theorem rl_callV (hm : MfV ci n ν) (hd : decode (mb μ) pc = .ok (.invokevirtual idx, 3)) (hlk : Cond.methodLink (mo μ) idx (my ν) ∈ tG) (hk : hpK h b = 10 + ci) (hlev : dn + 1 ≤ d) (hrest : (rest.map fun v => v.category).sum ≤ 8) (hc : nc + mcn ≤ mc) (hs : ns + msn ≤ ms) (hn : As.length = n) (hlen : (lg_sl (.ref b :: As)).length ≤ ml ν) (hL0 : entL (ml ν) (.ref b :: As) = L0) (hst : As.reverse ++ .ref b :: rest = st)
    (K : ∀ Qc : Nat → Option Value → Hp → Prop, (∀ (r : Option Value) (h' : Hp), Wm μ d mc ms Q (pc + 3) L (r.toList ++ rest) h' (nc + mcn) (ns + msn) → Qc 0 r h') → Wm ν dn mcn msn Qc 0 L0 [] h 0 0) : Wm μ d mc ms Q pc L st h nc ns := by
  intro p l e R s m args below meth c ok H locs ls hR hS hl
  subst hL0; subst hst
  have hK := K (Qn (fun r h' => Wm μ d mc ms Q (pc + 3) L (r.toList ++ rest) h' (nc + mcn) (ns + msn))) (fun r h' w => ⟨rfl, w⟩)
  obtain ⟨hmB, m1, m2, r, m3, m4⟩ := hm
  have hM := metOf (l := l) ok.2.2.2.2.2.2.2.2.2.1 hmB hlen hK
  have hts := ok.2.2.2.2.2.1
  obtain ⟨r1, r2, r3, r4⟩ := ok.2.2.2.2.2.2.2.2.1
  obtain ⟨z1, z2, z3, D, z4, z5⟩ := id hR
  obtain ⟨cell, q1, q2, q3, -⟩ := (z5 b).obj m3 hk
  refine runFin ok hS hl (vx_runV (Ts := tG) (C := (my ν).cls) ⟨ok.1, ok.2.1, ok.2.2.2.1, ok.2.2.2.2.1, hts⟩ hM ⟨callB_ok ok hmB hlk hlev, hts _ m1, hts _ m2⟩ ⟨(preS_of ok hR hS).1, ⟨cell, q1, by rw [q3]; rfl, by rw [q2, ← m4]; exact (z4.1 ci r m3).2.1⟩, (preS_of ok hR hS).2⟩ rfl hn hl.1 rfl (lv_room hrest) hd ⟨by rw [r1]; exact hc, by rw [r2]; exact hs⟩) (fun r h' _ w => w.2) (fun j h' ce q H1 locs1 j1 j2 w => absurd w.1 (by omega))
/-- of a static method -/
theorem rl_callS (hm : MfS n ν) (hd : decode (mb μ) pc = .ok (.invokestatic idx, 3)) (hlk : Cond.methodLink (mo μ) idx (my ν) ∈ tG) (hlev : dn + 1 ≤ d) (hrest : (rest.map fun v => v.category).sum ≤ 8) (hc : nc + mcn ≤ mc) (hs : ns + msn ≤ ms) (hn : As.length = n) (hlen : (lg_sl As).length ≤ ml ν) (hL0 : entL (ml ν) As = L0) (hst : As.reverse ++ rest = st)
    (K : ∀ Qc : Nat → Option Value → Hp → Prop, (∀ (r : Option Value) (h' : Hp), Wm μ d mc ms Q (pc + 3) L (r.toList ++ rest) h' (nc + mcn) (ns + msn) → Qc 0 r h') → Wm ν dn mcn msn Qc 0 L0 [] h 0 0) : Wm μ d mc ms Q pc L st h nc ns := by
  intro p l e R s m args below meth c ok H locs ls hR hS hl
  subst hL0; subst hst
  have hK := K (Qn (fun r h' => Wm μ d mc ms Q (pc + 3) L (r.toList ++ rest) h' (nc + mcn) (ns + msn))) (fun r h' w => ⟨rfl, w⟩)
  obtain ⟨hmB, m1⟩ := hm
  have hM := metOf (l := l) ok.2.2.2.2.2.2.2.2.2.1 hmB hlen hK
  have hts := ok.2.2.2.2.2.1
  obtain ⟨r1, r2, r3, r4⟩ := ok.2.2.2.2.2.2.2.2.1
  refine runFin ok hS hl (vx_runS (Ts := tG) ⟨ok.1, ok.2.1, ok.2.2.2.1, ok.2.2.2.2.1, hts⟩ hM ⟨callB_ok ok hmB hlk hlev, hts _ m1⟩ (preS_of ok hR hS) rfl hn hl.1 rfl (lv_room hrest) hd ⟨by rw [r1]; exact hc, by rw [r2]; exact hs⟩) (fun r h' _ w => w.2) (fun j h' ce q H1 locs1 j1 j2 w => absurd w.1 (by omega))
/-- of a static method that has handlers -/
theorem rl_callW (hm : MfW n ν) (hd : decode (mb μ) pc = .ok (.invokestatic idx, 3)) (hlk : Cond.methodLink (mo μ) idx (my ν) ∈ tG) (hlev : dn + 1 ≤ d) (hrest : (rest.map fun v => v.category).sum ≤ 8) (hc : nc + mcn ≤ mc) (hs : ns + msn ≤ ms) (hn : As.length = n) (hlen : (lg_sl As).length ≤ ml ν) (hL0 : entL (ml ν) As = L0) (hst : As.reverse ++ rest = st)
    (K : ∀ Qc : Nat → Option Value → Hp → Prop, (∀ (r : Option Value) (h' : Hp), Wm μ d mc ms Q (pc + 3) L (r.toList ++ rest) h' (nc + mcn) (ns + msn) → Qc 0 r h') → Wm ν dn mcn msn Qc 0 L0 [] h 0 0) : Wm μ d mc ms Q pc L st h nc ns := by
  intro p l e R s m args below meth c ok H locs ls hR hS hl
  subst hL0; subst hst
  have hK := K (Qn (fun r h' => Wm μ d mc ms Q (pc + 3) L (r.toList ++ rest) h' (nc + mcn) (ns + msn))) (fun r h' w => ⟨rfl, w⟩)
  have hM := metOfW (l := l) ok.2.2.2.2.2.2.2.2.2.1 hm hlen hK
  obtain ⟨⟨m2, m3, m4, m5, m6⟩, m1, m7⟩ := hm
  have hts := ok.2.2.2.2.2.1
  obtain ⟨r1, r2, r3, r4⟩ := ok.2.2.2.2.2.2.2.2.1
  have cw : vx_CSW R s args (mo μ) idx (my ν) (mb ν) (ml ν) (mr ν) (mh ν) (codeW ν :: tG) (Rm dn mcn msn) mcn msn n := by
    refine ⟨⟨rfl, rfl, Nat.le_trans hlev r3, ?_, fun w hw a' U hW => ?_, List.mem_cons_self⟩, hts _ m1, hts _ m2, ⟨m3.1, m3.2.1⟩, fun sig hs => ?_, hts _ hlk, hts _ m7⟩
    · show 8 + (ml ν + 11) + 35 * dn ≤ R.locals
      omega
    · have hw' : w ∈ tG := by
        rcases List.mem_cons.mp hw with e | e
        · rw [e]; exact m1
        · exact e
      exact word_at hW (good_of_word (tG_good hw')) (hts w hw')
    · have h2 := m3.2.2
      rw [hs] at h2
      exact (Option.some.inj h2).symm
  refine runFin ok hS hl (vx_runSX (Ts := tG) ⟨ok.1, ok.2.1, ok.2.2.2.1, ok.2.2.2.2.1, hts⟩ hM cw (preS_of ok hR hS) rfl hn hl.1 rfl (lv_room hrest) hd ⟨by rw [r1]; exact hc, by rw [r2]; exact hs⟩) (fun r h' _ w => w.2) (fun j h' ce q H1 locs1 j1 j2 w => absurd w.1 (by omega))
/-- of a constructor -/
theorem rl_callI (hm : MfI n ν) (hd : decode (mb μ) pc = .ok (.invokespecial idx, 3)) (hlk : Cond.methodLink (mo μ) idx (my ν) ∈ tG) (hlev : dn + 1 ≤ d) (hrest : (rest.map fun v => v.category).sum ≤ 8) (hc : nc + mcn ≤ mc) (hs : ns + msn ≤ ms) (hn : As.length = n) (hlen : (lg_sl (.ref b :: As)).length ≤ ml ν) (hL0 : entL (ml ν) (.ref b :: As) = L0) (hst : As.reverse ++ .ref b :: rest = st)
    (K : ∀ Qc : Nat → Option Value → Hp → Prop, (∀ (r : Option Value) (h' : Hp), Wm μ d mc ms Q (pc + 3) L (r.toList ++ rest) h' (nc + mcn) (ns + msn) → Qc 0 r h') → Wm ν dn mcn msn Qc 0 L0 [] h 0 0) : Wm μ d mc ms Q pc L st h nc ns := by
  intro p l e R s m args below meth c ok H locs ls hR hS hl
  subst hL0; subst hst
  have hK := K (Qn (fun r h' => Wm μ d mc ms Q (pc + 3) L (r.toList ++ rest) h' (nc + mcn) (ns + msn))) (fun r h' w => ⟨rfl, w⟩)
  obtain ⟨hmB, m1, m2, m3⟩ := hm
  have hM := metOf (l := l) ok.2.2.2.2.2.2.2.2.2.1 hmB hlen hK
  have hts := ok.2.2.2.2.2.1
  obtain ⟨r1, r2, r3, r4⟩ := ok.2.2.2.2.2.2.2.2.1
  have cb := callB_ok (mcn := mcn) (msn := msn) ok hmB hlk hlev
  rw [m3] at cb
  refine runFin ok hS hl (vx_runI (Ts := tG) ⟨ok.1, ok.2.1, ok.2.2.2.1, ok.2.2.2.2.1, hts⟩ hM ⟨cb, m1, hts _ m2⟩ (preS_of ok hR hS) rfl hn hl.1 rfl (lv_room hrest) hd ⟨by rw [r1]; exact hc, by rw [r2]; exact hs⟩) (fun r h' _ w => w.2) (fun j h' ce q H1 locs1 j1 j2 w => absurd w.1 (by omega))
/-- of a private constructor of a nest mate -/
theorem rl_callN (hm : MfI n ν) (hd : decode (mb μ) pc = .ok (.invokespecial idx, 3)) (hlk : (mo μ, idx, my ν) ∈ nwM) (hlev : dn + 1 ≤ d) (hrest : (rest.map fun v => v.category).sum ≤ 8) (hc : nc + mcn ≤ mc) (hs : ns + msn ≤ ms) (hn : As.length = n) (hlen : (lg_sl (.ref b :: As)).length ≤ ml ν) (hL0 : entL (ml ν) (.ref b :: As) = L0) (hst : As.reverse ++ .ref b :: rest = st)
    (K : ∀ Qc : Nat → Option Value → Hp → Prop, (∀ (r : Option Value) (h' : Hp), Wm μ d mc ms Q (pc + 3) L (r.toList ++ rest) h' (nc + mcn) (ns + msn) → Qc 0 r h') → Wm ν dn mcn msn Qc 0 L0 [] h 0 0) : Wm μ d mc ms Q pc L st h nc ns := by
  intro p l e R s m args below meth c ok H locs ls hR hS hl
  subst hL0; subst hst
  have hK := K (Qn (fun r h' => Wm μ d mc ms Q (pc + 3) L (r.toList ++ rest) h' (nc + mcn) (ns + msn))) (fun r h' w => ⟨rfl, w⟩)
  obtain ⟨hmB, m1, m2, m3⟩ := hm
  have hM := metOf (l := l) ok.2.2.2.2.2.2.2.2.2.1 hmB hlen hK
  have hts := ok.2.2.2.2.2.1
  obtain ⟨r1, r2, r3, r4⟩ := ok.2.2.2.2.2.2.2.2.1
  have hX := ok.2.2.2.2.2.2.2.2.2.2.2.1
  obtain ⟨⟨n2, n3, n4, n5, n6⟩, n1, n7⟩ := hmB
  have hc0 : codeC ν = Cond.code (my ν) (mb ν) (ml ν) none := by unfold codeC; rw [m3]
  have cw : va_CN R s args (mo μ) idx (my ν) "EscrowCounter" (mb ν) (ml ν) none (codeC ν :: tG) (Rm dn mcn msn) mcn msn n := by
    refine ⟨⟨rfl, rfl, Nat.le_trans hlev r3, ?_, fun w hw a' U hW => ?_, by rw [hc0]; exact List.mem_cons_self⟩, by rw [← hc0]; exact hts _ n1, hts _ n2, ⟨n3.1, n3.2.1⟩, fun sig hs => ?_, va_Nw.use rfl (hX.2.2.1 _ hlk)⟩
    · show 8 + (ml ν + 11) + 35 * dn ≤ R.locals
      omega
    · have hw' : w ∈ tG := by
        rcases List.mem_cons.mp hw with e | e
        · rw [e]; exact n1
        · exact e
      exact word_at hW (good_of_word (tG_good hw')) (hts w hw')
    · have h2 := n3.2.2
      rw [hs] at h2
      exact (Option.some.inj h2).symm
  refine runFin ok hS hl (vx_runIN (Ts := tG) ⟨ok.1, ok.2.1, ok.2.2.2.1, ok.2.2.2.2.1, hts⟩ hM ⟨cw, m1, hts _ m2⟩ (preS_of ok hR hS) rfl hn hl.1 rfl (lv_room hrest) hd ⟨by rw [r1]; exact hc, by rw [r2]; exact hs⟩) (fun r h' _ w => w.2) (fun j h' ce q H1 locs1 j1 j2 w => absurd w.1 (by omega))
/-- of a static method that may throw, out of a method without handlers -/
theorem rl_callSX (hm : MfS n ν) (hd : decode (mb μ) pc = .ok (.invokestatic idx, 3)) (hlk : Cond.methodLink (mo μ) idx (my ν) ∈ tG) (hno : mh μ = [] ∧ ¬ (my μ).name = "law") (hlev : dn + 1 ≤ d) (hrest : (rest.map fun v => v.category).sum ≤ 8) (hc : nc + mcn ≤ mc) (hs : ns + msn ≤ ms) (hn : As.length = n) (hlen : (lg_sl As).length ≤ ml ν) (hL0 : entL (ml ν) As = L0) (hst : As.reverse ++ rest = st)
    (K : ∀ Qc : Nat → Option Value → Hp → Prop, (∀ (r : Option Value) (h' : Hp), Wm μ d mc ms Q (pc + 3) L (r.toList ++ rest) h' (nc + mcn) (ns + msn) → Qc 0 r h') → (∀ (j : Nat) (h' : Hp), j ≠ 0 → Q j none h' → Qc j none h') → Wm ν dn mcn msn Qc 0 L0 [] h 0 0) : Wm μ d mc ms Q pc L st h nc ns := by
  intro p l e R s m args below meth c ok H locs ls hR hS hl
  subst hL0; subst hst
  have hK := K (Qx (fun r h' => Wm μ d mc ms Q (pc + 3) L (r.toList ++ rest) h' (nc + mcn) (ns + msn)) Q) (fun r h' w => ⟨fun _ => w, fun q => absurd rfl q⟩) (fun j h' q w => ⟨fun e => absurd e q, fun _ => w⟩)
  obtain ⟨hmB, m1⟩ := hm
  have hM := metOf (l := l) ok.2.2.2.2.2.2.2.2.2.1 hmB hlen hK
  have hts := ok.2.2.2.2.2.1
  obtain ⟨r1, r2, r3, r4⟩ := ok.2.2.2.2.2.2.2.2.1
  have htab : c.exceptionTable.toList = [] := by
    rcases ok.2.2.2.2.2.2.2.2.2.2.1 with q | q
    · exact absurd q hno.2
    · rw [q, hno.1]; rfl
  refine runFin ok hS hl (vx_runS (Ts := tG) ⟨ok.1, ok.2.1, ok.2.2.2.1, ok.2.2.2.2.1, hts⟩ hM ⟨callB_ok ok hmB hlk hlev, hts _ m1⟩ (preS_of ok hR hS) rfl hn hl.1 rfl (lv_room hrest) hd ⟨by rw [r1]; exact hc, by rw [r2]; exact hs⟩) (fun r h' _ w => w.1 rfl) (fun j h' ce q H1 locs1 j1 j2 w hB hR1 hS1 hce hcv hcl => ?_)
  refine vx_out (E := exn j) (fun x hx => by rw [htab] at hx; cases hx) ok.2.2.2.2.2.2.1 hce hcv hcl (fun t ht hal => ⟨j, h', j1, j2, rfl, w.2 (by omega), hB, by rw [ht]; exact hR1.moved hal, hS1.F ht⟩) hS1.2.2 hc hs
end RC

/-! THE HEAP'S RULES -/
def Clf (ci : Nat) (C : String) (T : u_T) (N : Nat) : Prop :=
  Cls[ci]? = some (C, T, N) ∧ (∀ w ∈ u_ws C T N, w ∈ tG) ∧ (∀ k, k < N → parseFieldDescriptor (T k).2.2.1 = some (fty ci k)) ∧ (∀ a, a < N → ∀ b, b < N → a ≠ b → (T a).2.1 ≠ (T b).2.1) ∧ Cond.instantiable C N ∈ tG ∧ Cond.initialized C ∈ tG
theorem Cok.obj {D : va_G} {U : State} {h : Hp} {H : Heap} {a ci : Nat} {r : vw_C} (k : Cok D U h H a) (hc : Cls[ci]? = some r) (hk : hpK h a = 10 + ci) : t_OB a (D.1 ci) r.2.2 (D.2 ci) H (slv h ci a) := k.2.2.2.2.1 ci r hc hk
/-- only an object's fields changed -/
theorem Cok.ofObj {D : va_G} {U : State} {h' : Hp} {H' : Heap} {a ci : Nat} {r : vw_C} (hlt : a < H'.size) (hc : Cls[ci]? = some r) (hk : hpK h' a = 10 + ci) (ob : t_OB a (D.1 ci) r.2.2 (D.2 ci) H' (slv h' ci a)) : Cok D U h' H' a := by
  have hci := Cls_lt hc
  refine ⟨fun _ => hlt, fun q => by omega, fun q => by omega, fun q => by omega, fun cj r' h1 h2 => ?_, fun cj r' h1 h2 => ?_⟩
  · have e : cj = ci := by omega
    subst e
    cases Option.some.inj (h1.symm.trans hc)
    exact ob
  · have := Cls_lt h1
    omega
theorem fty_int {ci k : Nat} (h : frf ci k = false) : fty ci k = .int := by
  unfold frf at h
  split at h
  · assumption
  · cases h
section RH
variable {μ : Mi} {d mc ms : Nat} {Q : Nat → Option Value → Hp → Prop} {pc : Nat} {L : List (Option Value)} {st : List Value} {h : Hp} {nc ns : Nat} {a ci k idx : Nat} {C : String} {T : u_T} {N : Nat}
theorem rl_getV (cf : Clf ci C T N) (hd : decode (mb μ) pc = .ok (.getfield idx, 3)) (hlk : Cond.fieldLink (mo μ) idx (T k).1 (T k).2.1 (T k).2.2.1 ∈ tG) (hk : k < N) (ht : hpK h a = 10 + ci) (kk : Wm μ d mc ms Q (pc + 3) L (slv h ci a k :: st) h nc ns) : Wm μ d mc ms Q pc L (.ref a :: st) h nc ns := by
  intro p l e R s m args below meth c ok H locs ls hR hS hl
  obtain ⟨z1, z2, z3, D, z4, z5⟩ := id hR
  obtain ⟨c1, c2, c3, c4, c5, c6⟩ := cf
  obtain ⟨cell, q1, q2, q3, q4⟩ := (z5 a).obj c1 ht
  obtain ⟨hSl, hfc, kC, hkC, hkind⟩ := z4.1 ci _ c1
  obtain ⟨cf, kf, fi, f, hi, hsl⟩ := hSl k hk
  have hts := ok.2.2.2.2.2.1
  refine W.getf ok.1 ok.2.1 ok.2.2.2.2.1 (hts _ hlk) hi (u_facts hfc hkC (u_lays hts c2 hk) hi).1 q1 (by rw [q3]; exact fun h => by cases h) (v := slv h ci a k) ?_ rfl rfl hd (kk p l e R s m args below meth c ok H locs ls hR hS hl)
  rw [hsl, q4 k hk]
theorem rl_getI (cf : Clf ci C T N) (hd : decode (mb μ) pc = .ok (.getfield idx, 3)) (hlk : Cond.fieldLink (mo μ) idx (T k).1 (T k).2.1 (T k).2.2.1 ∈ tG) (hk : k < N) (hr : frf ci k = false) (ht : hpK h a = 10 + ci) (kk : Wm μ d mc ms Q (pc + 3) L (.int (hpI h a k) :: st) h nc ns) : Wm μ d mc ms Q pc L (.ref a :: st) h nc ns := by
  refine rl_getV cf hd hlk hk ht ?_
  rw [show slv h ci a k = .int (hpI h a k) by simp [slv, hr]]
  exact kk
theorem rl_getP {x : Nat} (cf : Clf ci C T N) (hd : decode (mb μ) pc = .ok (.getfield idx, 3)) (hlk : Cond.fieldLink (mo μ) idx (T k).1 (T k).2.1 (T k).2.2.1 ∈ tG) (hk : k < N) (hr : frf ci k = true) (ht : hpK h a = 10 + ci) (hx : hpP h a k = some x) (kk : Wm μ d mc ms Q (pc + 3) L (.ref x :: st) h nc ns) : Wm μ d mc ms Q pc L (.ref a :: st) h nc ns := by
  refine rl_getV cf hd hlk hk ht ?_
  rw [show slv h ci a k = .ref x by simp [slv, hr, hx, va_rf]]
  exact kk
/-- the slots of a class are apart -/
theorem rl_apart {s : State} {args : Array Value} {D : va_G} (cf : Clf ci C T N) (hts : ∀ w ∈ tG, w.before args s = true) (hK : va_K D Cls [] s) : ∀ x y, x < N → y < N → x ≠ y → (D.2 ci) x ≠ (D.2 ci) y := va_apart (own := C) hts cf.2.1 (fty ci) cf.2.2.1 cf.2.2.2.1 hK cf.1
theorem rl_putV {v : Value} {h' : Hp} (cf : Clf ci C T N) (hd : decode (mb μ) pc = .ok (.putfield idx, 3)) (hlk : Cond.fieldLink (mo μ) idx (T k).1 (T k).2.1 (T k).2.2.1 ∈ tG) (hk : k < N) (ht : hpK h a = 10 + ci) (hfin : (T k).2.2.2 = false ∨ ((my μ).name = "<init>" ∧ (T k).1 = mo μ)) (hn : narrow (fty ci k) v = v) (hfit : fits (fty ci k) v = true)
    (eT : hpT h' = hpT h) (eZ : hpZ h' = hpZ h) (eB : hpB h' = hpB h) (o : ∀ b, b ≠ a → (∀ j, hpI h' b j = hpI h b j) ∧ (∀ j, hpP h' b j = hpP h b j) ∧ (∀ j, hpJ h' b j = hpJ h b j)) (eS : ∀ j, slv h' ci a j = updV (slv h ci a) k v j)
    (kk : Wm μ d mc ms Q (pc + 3) L st h' nc ns) : Wm μ d mc ms Q pc L (v :: .ref a :: st) h nc ns := by
  intro p l e R s m args below meth c ok H locs ls hR hS hl
  obtain ⟨z1, z2, z3, D, z4, z5⟩ := id hR
  have hts := ok.2.2.2.2.2.1
  have hap := rl_apart cf hts z4
  obtain ⟨c1, c2, c3, c4, c5, c6⟩ := cf
  obtain ⟨cell, q1, q2, q3, q4⟩ := (z5 a).obj c1 ht
  obtain ⟨hSl, hfc, kC, hkC, hkind⟩ := z4.1 ci _ c1
  obtain ⟨cf, kf, fi, f, hi, hsl⟩ := hSl k hk
  have hst := (u_facts hfc hkC (u_lays hts c2 hk) hi).1
  have hbase : hpB h ≤ a := z3 a (by omega) (by omega)
  have hown := ok.2.2.2.2.1
  have hlt : f.slot < cell.slots.size := by rw [hsl]; exact k2_hasslot (q4 k hk)
  have fin : ∀ H' : Heap, H'[a]? = some (cell.setSlot f.slot v) → H'.size = H.size → (∀ q, q ≠ a → H'[q]? = H[q]?) → W p l e R s m args below meth c H' (locs ++ [⟨a, f.slot⟩]) nc ns (vx_MQ below (QcR Q (hpB h)) (XcR Q (hpB h)) args s mc ms (fun q => hpB h ≤ q)) (F0 m (pc + 3) ls st) := by
    intro H' e1 e2 e3
    have hR' : Rp h' s H' := hR.put eT eZ eB o e2 e3 (fun D' K' k' => by
      obtain ⟨cell', q1', q2', q3', q4'⟩ := k'.obj c1 ht
      cases Option.some.inj (q1.symm.trans q1')
      obtain ⟨hSl', -, -⟩ := K'.1 ci _ c1
      obtain ⟨cf', kf', fi', f', hi', hsl'⟩ := hSl' k hk
      cases Option.some.inj (hi.symm.trans hi')
      have hap' := rl_apart ⟨c1, c2, c3, c4, c5, c6⟩ hts K'
      rw [hsl'] at e1
      refine Cok.ofObj (ci := ci) (by rw [e2]; exact (Array.getElem?_eq_some_iff.mp q1).1) c1 (by simp only [hpK, eT]; exact ht) (t_OB.to (V := updV (slv h ci a) k v) ⟨_, e1, q2', q3', t_set q4' hap' hk v⟩ (fun j _ => (eS j).symm)))
    have := kk p l e R s m args below meth c (by rw [eB]; exact ok) H' (locs ++ [⟨a, f.slot⟩]) ls hR' (by rw [eB]; exact hS.put e2 e3 hbase) hl
    rw [eB] at this
    exact this
  rcases hfin with hfin | ⟨hin, hdecl⟩
  · have hlay := hts _ (c2 _ (u_in_lay hk))
    unfold u_lay at hlay
    rw [if_neg (by rw [hfin]; decide)] at hlay
    have h6 := u_store hfc hkC hkind hlay hi (c3 k hk) hn hfit
    exact W.putK ok.1 ok.2.1 (f := f) ⟨hown, hts _ hlk, ⟨_, _, _, hi⟩, hst⟩ (by rw [q2]; exact h6) q1 q3 hlt rfl rfl hd fin
  · have hin2 := ok.2.2.2.2.2.2.2.1 hin
    by_cases hf : (T k).2.2.2 = true
    · have hlay := hts _ (c2 _ (u_in_lay hk))
      unfold u_lay at hlay
      rw [if_pos hf] at hlay
      have hcf : m.cls = cf := by
        obtain ⟨_, _, c', _, _, _, -, -, hf', -, -, -, hown2, -⟩ := Cond.laysFinal_spec hlay
        have e1 : c' = cf := by have := hi.symm.trans hf'; simp at this; exact this.1.symm
        rw [hdecl] at hown2
        rw [← e1]; exact Option.some.inj (hown.symm.trans hown2)
      have h6 := u_fits hfc hkC hkind (Or.inr hlay) hi (c3 k hk) hn hfit
      exact W.putFinK ok.1 ok.2.1 hown (hts _ hlk) hi hst hcf hin2 (by rw [q2]; exact h6) q1 q3 hlt rfl rfl hd fin
    · have hfin : (T k).2.2.2 = false := by simpa using hf
      have hlay := hts _ (c2 _ (u_in_lay hk))
      unfold u_lay at hlay
      rw [if_neg (by rw [hfin]; decide)] at hlay
      have h6 := u_store hfc hkC hkind hlay hi (c3 k hk) hn hfit
      exact W.putK ok.1 ok.2.1 (f := f) ⟨hown, hts _ hlk, ⟨_, _, _, hi⟩, hst⟩ (by rw [q2]; exact h6) q1 q3 hlt rfl rfl hd fin
theorem rl_putI {x : Int32} (cf : Clf ci C T N) (hd : decode (mb μ) pc = .ok (.putfield idx, 3)) (hlk : Cond.fieldLink (mo μ) idx (T k).1 (T k).2.1 (T k).2.2.1 ∈ tG) (hk : k < N) (hr : frf ci k = false) (ht : hpK h a = 10 + ci) (hfin : (T k).2.2.2 = false ∨ ((my μ).name = "<init>" ∧ (T k).1 = mo μ))
    (kk : Wm μ d mc ms Q (pc + 3) L st (stI h a k x) nc ns) : Wm μ d mc ms Q pc L (.int x :: .ref a :: st) h nc ns := by
  refine rl_putV (h' := stI h a k x) cf hd hlk hk ht hfin (by rw [fty_int hr]; rfl) (by rw [fty_int hr]; rfl) rfl rfl rfl (fun b hb => ⟨fun j => up2_a hb, fun j => rfl, fun j => rfl⟩) (fun j => ?_) kk
  by_cases e : j = k
  · subst e
    simp [slv, hr, updV, stI, hpI, up2]
  · simp [slv, updV, stI, hpI, hpP, up2, e]
theorem rl_putP {x : Nat} (cf : Clf ci C T N) (hd : decode (mb μ) pc = .ok (.putfield idx, 3)) (hlk : Cond.fieldLink (mo μ) idx (T k).1 (T k).2.1 (T k).2.2.1 ∈ tG) (hk : k < N) (hr : frf ci k = true) (ht : hpK h a = 10 + ci) (hfin : (T k).2.2.2 = false ∨ ((my μ).name = "<init>" ∧ (T k).1 = mo μ)) (hn : narrow (fty ci k) (.ref x) = .ref x) (hfit : fits (fty ci k) (.ref x) = true)
    (kk : Wm μ d mc ms Q (pc + 3) L st (stP h a k (some x)) nc ns) : Wm μ d mc ms Q pc L (.ref x :: .ref a :: st) h nc ns := by
  refine rl_putV (h' := stP h a k (some x)) cf hd hlk hk ht hfin hn hfit rfl rfl rfl (fun b hb => ⟨fun j => rfl, fun j => up2_a hb, fun j => rfl⟩) (fun j => ?_) kk
  by_cases e : j = k
  · subst e
    simp [slv, hr, updV, stP, hpP, up2, va_rf]
  · simp [slv, updV, stP, hpI, hpP, up2, e]
/-! arrays -/
theorem rl_iald {i : Int32} (hd : decode (mb μ) pc = .ok (.iaload, 1)) (ht : hpK h a = 1 ∨ hpK h a = 2) (hi : vp_in i (hpN h a)) (kk : Wm μ d mc ms Q (pc + 1) L (.int (hpI h a i.toNatClampNeg) :: st) h nc ns) : Wm μ d mc ms Q pc L (.int i :: .ref a :: st) h nc ns := by
  intro p l e R s m args below meth c ok H locs ls hR hS hl
  obtain ⟨z1, z2, z3, D, z4, z5⟩ := id hR
  have hlt : i.toNatClampNeg < hpN h a := Nat.not_le.mp fun q => hi (Or.inr q)
  have K := kk p l e R s m args below meth c ok H locs ls hR hS hl
  rcases ht with ht | ht
  · obtain ⟨cA, q1, q2⟩ := (z5 a).2.1 ht
    exact W.iald (v := .int (hpI h a i.toNatClampNeg)) ok.1 ok.2.1 q1 (q2 _ _) (fun q => by cases q) (by rw [arrV_size]; exact hi) (arrV_read _ _ hlt) rfl rfl hd K
  · obtain ⟨scr, q1, q2, q3, q4, q5⟩ := (z5 a).2.2.1 ht
    exact W.iald (v := .int (hpI h a i.toNatClampNeg)) ok.1 ok.2.1 q1 q2 q3 (by rw [q4]; exact hi) (q5 _ hlt) rfl rfl hd K
theorem rl_lald {i : Int32} (hd : decode (mb μ) pc = .ok (.laload, 1)) (ht : hpK h a = 3) (hi : vp_in i (hpN h a)) (kk : Wm μ d mc ms Q (pc + 1) L (.long (hpJ h a i.toNatClampNeg) :: st) h nc ns) : Wm μ d mc ms Q pc L (.int i :: .ref a :: st) h nc ns := by
  intro p l e R s m args below meth c ok H locs ls hR hS hl
  obtain ⟨z1, z2, z3, D, z4, z5⟩ := id hR
  have hlt : i.toNatClampNeg < hpN h a := Nat.not_le.mp fun q => hi (Or.inr q)
  have K := kk p l e R s m args below meth c ok H locs ls hR hS hl
  obtain ⟨cA, q1, q2⟩ := (z5 a).2.2.2.1 ht
  exact W.lald (v := .long (hpJ h a i.toNatClampNeg)) ok.1 ok.2.1 q1 (q2 _ _) (fun q => by cases q) (by rw [arrV_size]; exact hi) (arrV_read _ _ hlt) rfl rfl hd K
theorem rl_aald {i : Int32} {x : Nat} {r : vw_C} (hd : decode (mb μ) pc = .ok (.aaload, 1)) (hc : Cls[ci]? = some r) (ht : hpK h a = 30 + ci) (hi : vp_in i (hpN h a)) (hx : hpP h a i.toNatClampNeg = some x) (kk : Wm μ d mc ms Q (pc + 1) L (.ref x :: st) h nc ns) : Wm μ d mc ms Q pc L (.int i :: .ref a :: st) h nc ns := by
  intro p l e R s m args below meth c ok H locs ls hR hS hl
  obtain ⟨z1, z2, z3, D, z4, z5⟩ := id hR
  have hlt : i.toNatClampNeg < hpN h a := Nat.not_le.mp fun q => hi (Or.inr q)
  have K := kk p l e R s m args below meth c ok H locs ls hR hS hl
  obtain ⟨cA, q1, q2, q3⟩ := (z5 a).2.2.2.2.2 ci r hc ht
  exact W.aald (v := .ref x) (ty := .object r.1) ok.1 ok.2.1 q1 (q2 _ _) rfl (fun q => by cases q) (by rw [arrV_size]; exact hi) (by rw [arrV_read _ _ hlt, hx]; rfl) rfl rfl hd K
theorem rl_alen {n : Int32} (hd : decode (mb μ) pc = .ok (.arraylength, 1)) (ht : hpK h a = 1 ∨ hpK h a = 2 ∨ ∃ (ci : Nat) (r : vw_C), Cls[ci]? = some r ∧ hpK h a = 30 + ci) (hn : nI (hpN h a) = n) (kk : Wm μ d mc ms Q (pc + 1) L (.int n :: st) h nc ns) : Wm μ d mc ms Q pc L (.ref a :: st) h nc ns := by
  intro p l e R s m args below meth c ok H locs ls hR hS hl
  obtain ⟨z1, z2, z3, D, z4, z5⟩ := id hR
  have K := kk p l e R s m args below meth c ok H locs ls hR hS hl
  rcases ht with ht | ht | ⟨ci, r, hc, ht⟩
  · obtain ⟨cA, q1, q2⟩ := (z5 a).2.1 ht
    exact W.alen ok.1 ok.2.1 q1 (q2 _ _) (by rw [arrV_size]; exact hn) rfl rfl hd K
  · obtain ⟨scr, q1, q2, q3, q4, q5⟩ := (z5 a).2.2.1 ht
    exact W.alen ok.1 ok.2.1 q1 q2 (by rw [q4]; exact hn) rfl rfl hd K
  · obtain ⟨cA, q1, q2, q3⟩ := (z5 a).2.2.2.2.2 ci r hc ht
    exact W.alen ok.1 ok.2.1 q1 (q2 _ _) (by rw [arrV_size]; exact hn) rfl rfl hd K
theorem rl_iast {i x : Int32} (hd : decode (mb μ) pc = .ok (.iastore, 1)) (ht : hpK h a = 1) (hi : vp_in i (hpN h a)) (kk : Wm μ d mc ms Q (pc + 1) L st (stI h a i.toNatClampNeg x) nc ns) : Wm μ d mc ms Q pc L (.int x :: .int i :: .ref a :: st) h nc ns := by
  intro p l e R s m args below meth c ok H locs ls hR hS hl
  obtain ⟨z1, z2, z3, D, z4, z5⟩ := id hR
  obtain ⟨cA, q1, q2⟩ := (z5 a).2.1 ht
  refine W.iast ok.1 ok.2.1 q1 (q2 _ _) (fun q => by cases q) (by rw [arrV_size]; exact hi) rfl rfl hd fun H' e1 e2 e3 => ?_
  have hR' : Rp (stI h a i.toNatClampNeg x) s H' := hR.put rfl rfl rfl (fun b hb => ⟨fun j => up2_a hb, fun j => rfl, fun j => rfl⟩) e2 e3 (fun D' K' k' => by
    have ht' : hpK (stI h a i.toNatClampNeg x) a = 1 := ht
    refine ⟨fun _ => by rw [e2]; exact (Array.getElem?_eq_some_iff.mp q1).1, fun _ => ⟨cA, ?_, q2⟩, fun q => by omega, fun q => by omega, fun cj r' h1 h2 => by omega, fun cj r' h1 h2 => by omega⟩
    rw [e1, arrV_store]
    show some (arrV cA (hpN h a) _) = some (arrV cA (hpN h a) _)
    congr 2
    funext j
    by_cases e : j = i.toNatClampNeg
    · simp [updV, e, stI, hpI, up2]
    · simp [updV, e, stI, hpI, up2])
  exact kk p l e R s m args below meth c ok H' _ ls hR' (hS.put e2 e3 (z3 a (by omega) (by omega))) hl
theorem rl_last {i : Int32} {x : Int64} (hd : decode (mb μ) pc = .ok (.lastore, 1)) (ht : hpK h a = 3) (hi : vp_in i (hpN h a)) (kk : Wm μ d mc ms Q (pc + 1) L st (stJ h a i.toNatClampNeg x) nc ns) : Wm μ d mc ms Q pc L (.long x :: .int i :: .ref a :: st) h nc ns := by
  intro p l e R s m args below meth c ok H locs ls hR hS hl
  obtain ⟨z1, z2, z3, D, z4, z5⟩ := id hR
  obtain ⟨cA, q1, q2⟩ := (z5 a).2.2.2.1 ht
  refine W.last ok.1 ok.2.1 q1 (q2 _ _) (fun q => by cases q) (by rw [arrV_size]; exact hi) rfl rfl hd fun H' e1 e2 e3 => ?_
  have hR' : Rp (stJ h a i.toNatClampNeg x) s H' := hR.put rfl rfl rfl (fun b hb => ⟨fun j => rfl, fun j => rfl, fun j => up2_a hb⟩) e2 e3 (fun D' K' k' => by
    have ht' : hpK (stJ h a i.toNatClampNeg x) a = 3 := ht
    refine ⟨fun _ => by rw [e2]; exact (Array.getElem?_eq_some_iff.mp q1).1, fun q => by omega, fun q => by omega, fun _ => ⟨cA, ?_, q2⟩, fun cj r' h1 h2 => by omega, fun cj r' h1 h2 => by omega⟩
    rw [e1, arrV_store]
    show some (arrV cA (hpN h a) _) = some (arrV cA (hpN h a) _)
    congr 2
    funext j
    by_cases e : j = i.toNatClampNeg
    · simp [updV, e, stJ, hpJ, up2]
    · simp [updV, e, stJ, hpJ, up2])
  exact kk p l e R s m args below meth c ok H' _ ls hR' (hS.put e2 e3 (z3 a (by omega) (by omega))) hl
theorem rl_aast {i : Int32} {x : Nat} {r : vw_C} (hd : decode (mb μ) pc = .ok (.aastore, 1)) (hc : Cls[ci]? = some r) (ht : hpK h a = 30 + ci) (hi : vp_in i (hpN h a)) (hx : hpK h x = 10 + ci) (kk : Wm μ d mc ms Q (pc + 1) L st (stP h a i.toNatClampNeg (some x)) nc ns) : Wm μ d mc ms Q pc L (.ref x :: .int i :: .ref a :: st) h nc ns := by
  intro p l e R s m args below meth c ok H locs ls hR hS hl
  obtain ⟨z1, z2, z3, D, z4, z5⟩ := id hR
  have hlt : i.toNatClampNeg < hpN h a := Nat.not_le.mp fun q => hi (Or.inr q)
  have h0 : ¬ i < 0 := fun q => hi (Or.inl q)
  obtain ⟨cA, q1, q2, q3⟩ := (z5 a).2.2.2.2.2 ci r hc ht
  obtain ⟨cellV, g1, g2, g3, -⟩ := (z5 x).obj hc hx
  have hcls := (z4.1 ci r hc).2
  obtain ⟨kA, comp, k1, k2, k3, k4⟩ := q3
  have hcomp : comp = D.1 ci := Option.some.inj (k3.symm.trans hcls.1)
  subst hcomp
  obtain ⟨kC, hkC, -⟩ := hcls.2
  refine W.aast ok.1 ok.2.1 q1 (fun q h => by cases h) (fun h => by cases h) k1 k2 rfl hkC ⟨h0, by rw [arrV_size]; exact hlt⟩ g1 (fun q h => by rw [g3] at h; cases h) (by rw [g2]; exact hkC) (by rw [g2]; exact va_assign hcls) rfl rfl hd fun H' e1 e2 e3 => ?_
  have hci := Cls_lt hc
  have hR' : Rp (stP h a i.toNatClampNeg (some x)) s H' := hR.put rfl rfl rfl (fun b hb => ⟨fun j => rfl, fun j => up2_a hb, fun j => rfl⟩) e2 e3 (fun D' K' k' => by
    have ht' : hpK (stP h a i.toNatClampNeg (some x)) a = 30 + ci := ht
    refine ⟨fun _ => by rw [e2]; exact (Array.getElem?_eq_some_iff.mp q1).1, fun q => by omega, fun q => by omega, fun q => by omega, fun cj r' h1 h2 => by have := Cls_lt h1; omega, fun cj r' h1 h2 => ?_⟩
    have e : cj = ci := by omega
    subst e
    cases Option.some.inj (h1.symm.trans hc)
    refine ⟨cA, ?_, q2, ⟨kA, _, k1, k2, k3, k4⟩⟩
    rw [e1, arrV_store]
    show some (arrV cA (hpN h a) _) = some (arrV cA (hpN h a) _)
    congr 2
    funext j
    by_cases e : j = i.toNatClampNeg
    · simp [updV, e, stP, hpP, up2, va_rf]
    · simp [updV, e, stP, hpP, up2])
  exact kk p l e R s m args below meth c ok H' _ ls hR' (hS.put e2 e3 (z3 a (by omega) (by omega))) hl
end RH

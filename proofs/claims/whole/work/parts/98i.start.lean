/-! THE CLAIM OUT OF ONE WALK OF THE LAW'S BODY. Your part is whole_start (and what it stands on); all else here is the same for every law, but numbers. -/
def R_law : String := "EscrowCounterLaw"
def lw_P (b : Addr) (xs : List Int32) (args : Array Value) (s : State) : Prop := args = #[.ref b] ∧ s.IntsAt b xs ∧ xs.length ≤ 3073 ∧ (Jvm.Cond.and given_1 narrow_1).before args s = true
def lw_Q (_ : Array Value) (s : State) (o : Outcome) (t : State) : Prop := o = .returned (some (.int 1)) ∧ Framed s o t [] 601024 7293000
def lw_Z (below : List Frame) (a : Array Value) (s : State) : State → Prop := fun t => ∃ o, t.status = .running ∧ Ended t below o ∧ lw_Q a s o t
/-- the law's own end, with 1 on the stack, nothing written that was there before, its room as the claim has it -/
theorem lw_ret {p : Program} {l : Launch} {e : Env} {s : State} {m : MethodId} {below : List Frame} {meth : Method} {c : Code} {b : Nat} (hx : p.tables.exec = Jvm.exec) (hb : c.code = code) (hr : meth.sig.returnType = ret) (hlocks : meth.locks = false) {pc : Nat} {H : Heap} {ls : Array Slot} (hdg : decode code pc = .ok (.ireturn, 1)) : W p l e room_1 s m #[Value.ref b] below meth c H [] 601024 7293000 (lw_Z below #[Value.ref b] s) (F0 m pc ls [.int 1]) := by
  intro T hT X
  obtain ⟨fs, hret, hrun, hended, hW, hframe⟩ := X.leave (v := some (.int 1)) (hlocks := hlocks) (fun h => by rw [hr] at h; cases h)
  have hmeth' : T.vm.method? m = some meth := X.method'
  refine ⟨T.setFrames fs, ?_, .returned (some (.int 1)), hrun, hended, rfl, ⟨_, rfl⟩, hW, hframe⟩
  jvm_step X.here [X.here.top, hx, hb, hdg, hmeth', hr, ret, narrow_b1]
  (try refine ⟨rfl, ?_⟩); (try refine ⟨rfl, ?_⟩)
  first | (intro acts; rw [hret _ acts rfl rfl rfl]) | rw [hret _ _ rfl rfl rfl]
  exact Steps.refl _
/-- what holds at the law's entry: the machine, the code, the tables' words (any of lw_tbl by 'hts w (by decide +kernel)'), the script of L ints xs at the cell b, what the Statement gives of the start (any of its parts by flat_of_before) -/
def lw_At (p : Program) (s : State) (m : MethodId) (meth : Method) (c : Code) (b L : Nat) (xs : Nat → Int32) : Prop :=
  p.tables.exec = Jvm.exec ∧ c.code = code ∧ meth.sig.returnType = ret ∧ c.maxLocals = 7 ∧ s.vm.findClass R_law = some m.cls ∧ (∀ w ∈ lw_tbl, w.before #[Value.ref b] s = true) ∧ va_X b L xs s s.heap ∧ b < s.heap.size ∧ meth.locks = false ∧ (Jvm.Cond.and given_1 narrow_1).before #[Value.ref b] s = true
/-- what the tables and the start give beside the good words -/
theorem xtra_ok {s : State} {b : Nat} (hts : ∀ w ∈ lw_tbl, w.before #[Value.ref b] s = true) (hgv : (Jvm.Cond.and given_1 narrow_1).before #[Value.ref b] s = true) : Xtra s := by
  have hs := flat_of_before _ hgv
  have ht : ∀ (i : Nat) (w : Cond), lw_tbl[i]? = some w → w.before #[Value.ref b] s = true := fun i w h => hts w (List.mem_of_getElem? h)
  have hf : ∀ (i : Nat) (w : Cond), (flatC (Jvm.Cond.and given_1 narrow_1))[i]? = some w → w.before #[Value.ref b] s = true := fun i w h => hs w (List.mem_of_getElem? h)
  have st : ∀ (k : Nat) (tx : String) (i j : Nat), lw_tbl[i]? = some (Cond.stringRef "EscrowCounter" k tx) → (flatC (Jvm.Cond.and given_1 narrow_1))[j]? = some (Cond.exactly (.string "EscrowCounter" k) "java/lang/String") → ∃ a : Nat, vk_R "EscrowCounter" k tx a s := by
    intro k tx i j h1 h2
    obtain ⟨a, c, cell, k', e1, -⟩ := Cond.exactly_spec (args := #[Value.ref b]) (first := s) (o := none) (s := s) (idx := []) (hf j _ h2)
    exact ⟨a, vk_R.of (ht i _ h1) e1⟩
  refine ⟨?_, ?_, ?_, va_Nw.of rfl (ht 624 _ (by decide +kernel)), ?_, ?_, ?_⟩
  · exact List.forall_mem_cons.mpr ⟨va_Nw.of rfl (ht 604 _ (by decide +kernel)), List.forall_mem_cons.mpr ⟨va_Nw.of rfl (ht 687 _ (by decide +kernel)), List.forall_mem_cons.mpr ⟨va_Nw.of rfl (ht 704 _ (by decide +kernel)), fun _ h => absurd h List.not_mem_nil⟩⟩⟩
  · exact List.forall_mem_cons.mpr ⟨va_Nw.of rfl (ht 606 _ (by decide +kernel)), List.forall_mem_cons.mpr ⟨va_Nw.of rfl (ht 608 _ (by decide +kernel)), List.forall_mem_cons.mpr ⟨va_Nw.of rfl (ht 610 _ (by decide +kernel)), fun _ h => absurd h List.not_mem_nil⟩⟩⟩
  · exact List.forall_mem_cons.mpr ⟨va_Nw.of rfl (ht 117 _ (by decide +kernel)), List.forall_mem_cons.mpr ⟨va_Nw.of rfl (ht 160 _ (by decide +kernel)), List.forall_mem_cons.mpr ⟨va_Nw.of rfl (ht 274 _ (by decide +kernel)), fun _ h => absurd h List.not_mem_nil⟩⟩⟩
  · exact List.forall_mem_cons.mpr ⟨st 51 _ 643 126 (by decide +kernel) (by decide +kernel), List.forall_mem_cons.mpr ⟨st 277 _ 694 176 (by decide +kernel) (by decide +kernel), List.forall_mem_cons.mpr ⟨st 279 _ 701 219 (by decide +kernel) (by decide +kernel), List.forall_mem_cons.mpr ⟨st 281 _ 711 284 (by decide +kernel) (by decide +kernel), List.forall_mem_cons.mpr ⟨st 137 _ 809 318 (by decide +kernel) (by decide +kernel), List.forall_mem_cons.mpr ⟨st 145 _ 821 357 (by decide +kernel) (by decide +kernel), List.forall_mem_cons.mpr ⟨st 170 _ 858 403 (by decide +kernel) (by decide +kernel), List.forall_mem_cons.mpr ⟨st 198 _ 892 434 (by decide +kernel) (by decide +kernel), List.forall_mem_cons.mpr ⟨st 203 _ 900 492 (by decide +kernel) (by decide +kernel), List.forall_mem_cons.mpr ⟨st 209 _ 916 534 (by decide +kernel) (by decide +kernel), List.forall_mem_cons.mpr ⟨st 214 _ 917 575 (by decide +kernel) (by decide +kernel), List.forall_mem_cons.mpr ⟨st 237 _ 929 605 (by decide +kernel) (by decide +kernel), fun _ h => absurd h List.not_mem_nil⟩⟩⟩⟩⟩⟩⟩⟩⟩⟩⟩⟩
  · exact List.forall_mem_cons.mpr ⟨va_AO.of (ht 104 _ (by decide +kernel)), List.forall_mem_cons.mpr ⟨va_AO.of (ht 106 _ (by decide +kernel)), List.forall_mem_cons.mpr ⟨va_AO.of (ht 108 _ (by decide +kernel)), List.forall_mem_cons.mpr ⟨va_AO.of (ht 115 _ (by decide +kernel)), List.forall_mem_cons.mpr ⟨va_AO.of (ht 252 _ (by decide +kernel)), List.forall_mem_cons.mpr ⟨va_AO.of (ht 272 _ (by decide +kernel)), fun _ h => absurd h List.not_mem_nil⟩⟩⟩⟩⟩⟩
  · exact List.forall_mem_cons.mpr ⟨List.forall_mem_cons.mpr ⟨fun e => absurd rfl e, List.forall_mem_cons.mpr ⟨fun _ => va_Nc.of (hf 28 _ (by decide +kernel)), List.forall_mem_cons.mpr ⟨fun _ => va_Nc.of (hf 40 _ (by decide +kernel)), fun _ h => absurd h List.not_mem_nil⟩⟩⟩, List.forall_mem_cons.mpr ⟨List.forall_mem_cons.mpr ⟨fun _ => va_Nc.of (hf 16 _ (by decide +kernel)), List.forall_mem_cons.mpr ⟨fun e => absurd rfl e, List.forall_mem_cons.mpr ⟨fun _ => va_Nc.of (hf 41 _ (by decide +kernel)), fun _ h => absurd h List.not_mem_nil⟩⟩⟩, List.forall_mem_cons.mpr ⟨List.forall_mem_cons.mpr ⟨fun _ => va_Nc.of (hf 17 _ (by decide +kernel)), List.forall_mem_cons.mpr ⟨fun _ => va_Nc.of (hf 29 _ (by decide +kernel)), List.forall_mem_cons.mpr ⟨fun e => absurd rfl e, fun _ h => absurd h List.not_mem_nil⟩⟩⟩, fun _ h => absurd h List.not_mem_nil⟩⟩⟩
theorem known_ok {s : State} {args : Array Value} (hts : ∀ w ∈ tG, w.before args s = true) : ∃ D : va_G, va_K D Cls [] s := by
  have one : ∀ {ci : Nat} {C : String} {T : u_T} {N : Nat}, Clf ci C T N → ∃ p : ClassId × (Nat → Nat), ∀ q : vw_C, Cls[ci]? = some q → u_Kn s q.1 q.2.1 q.2.2 p.1 p.2 := by
    intro ci C T N cf
    obtain ⟨c, i, h⟩ := u_known (n := N) hts cf.2.1 (hts _ cf.2.2.2.2.1)
    exact ⟨(c, i), fun q hq => by rw [cf.1] at hq; cases hq; exact h⟩
  have key : ∀ ci : Nat, ∃ p : ClassId × (Nat → Nat), ∀ q : vw_C, Cls[ci]? = some q → u_Kn s q.1 q.2.1 q.2.2 p.1 p.2 := by
    intro ci
    match ci with
    | 0 => exact one cfX0
    | 1 => exact one cfX1
    | 2 => exact one cfX2
    | 3 => exact one cfX3
    | 4 => exact one cfX4
    | 5 => exact one cfX5
    | 6 => exact one cfX6
    | 7 => exact one cfX7
    | 8 => exact one cfX8
    | 9 => exact one cfX9
    | k + 10 =>
      obtain ⟨p, -⟩ := one cfX0
      exact ⟨p, fun q hq => by have := Cls_lt hq; omega⟩
  exact ⟨(fun ci => (Classical.choose (key ci)).1, fun ci => (Classical.choose (key ci)).2), fun ci q hq => Classical.choose_spec (key ci) q hq, fun k q h => by simp at h⟩
/-- the first flat heap: the script alone -/
def hSt0 (b L z : Nat) (xs : Nat → Int32) : Hp := ((fun b' j => if b' = b then xs j else 0), (fun _ _ => none), (fun _ _ => 0), (fun a => if a = b then (2, L, 0) else (0, 0, 0)), z, z)
theorem hSt0_T {b L z a : Nat} {xs : Nat → Int32} : hpT (hSt0 b L z xs) a = if a = b then (2, L, 0) else (0, 0, 0) := rfl
theorem hSt0_I {b L z : Nat} {xs : Nat → Int32} : hpI (hSt0 b L z xs) b = xs := by
  funext j
  show (if b = b then xs j else 0) = xs j
  rw [if_pos rfl]
theorem hSt0_R {s : State} {b L : Nat} {xs : Nat → Int32} {D : va_G} (hK : va_K D Cls [] s) (hX : va_X b L xs s s.heap) (hbl : b < s.heap.size) : Rp (hSt0 b L s.heap.size xs) s s.heap := by
  have kk : ∀ a, a ≠ b → hpK (hSt0 b L s.heap.size xs) a = 0 := fun a ha => by unfold hpK; rw [hSt0_T, if_neg ha]
  have kb : hpK (hSt0 b L s.heap.size xs) b = 2 := by unfold hpK; rw [hSt0_T, if_pos rfl]
  have nb : hpN (hSt0 b L s.heap.size xs) b = L := by unfold hpN; rw [hSt0_T, if_pos rfl]
  refine ⟨rfl, Nat.le_refl _, fun a h1 h2 => ?_, D, hK, fun a => ?_⟩
  · by_cases e : a = b
    · rw [e] at h2; exact absurd kb h2
    · exact absurd (kk a e) h1
  · by_cases e : a = b
    · subst e
      refine ⟨fun _ => hbl, fun q => by omega, fun _ => ?_, fun q => by omega, fun ci r q1 q2 => by omega, fun ci r q1 q2 => by omega⟩
      rw [nb, hSt0_I]
      exact hX
    · have e0 := kk a e
      exact ⟨fun q => absurd e0 q, fun q => by omega, fun q => by omega, fun q => by omega, fun ci r q1 q2 => by omega, fun ci r q1 q2 => by omega⟩
theorem hSt0_G {b L z : Nat} {xs : Nat → Int32} : Tg (hSt0 b L z xs) (fun _ => False) := by
  have t : ∀ a, tgO (hSt0 b L z xs) a = 0 := fun a => by
    unfold tgO
    rw [hSt0_T]
    split <;> rfl
  exact ⟨fun a a' h1 => absurd (t a) h1, fun a _ => t a, fun a h1 => absurd (t a) h1⟩
def Qlw : Nat → Option Value → Hp → Prop := fun j r _ => j = 0 ∧ r = some (.int 1)
theorem whole_start {p : Program} {e : Env} {s : State} {m : MethodId} {below : List Frame} {meth : Method} {c : Code} (l : Launch) (hflags : l.flags = flags0) {b L : Nat} {xs : Nat → Int32} (hL : L ≤ 3073) (C0 : lw_At p s m meth c b L xs) : W p l e room_1 s m #[Value.ref b] below meth c s.heap [] 0 0 (lw_Z below #[Value.ref b] s) (entryFrame m ([Value.ref b] : List Value).toArray 7) := by
  obtain ⟨hx, hb, hr, hml, hown, hts, hX, hbl, hlocks, hgv⟩ := id C0
  have hs := flat_of_before _ hgv
  have htG : ∀ w ∈ tG, w.before #[Value.ref b] s = true := fun w hw => hts w (List.mem_filter.mp hw).1
  obtain ⟨D, hK⟩ := known_ok htG
  have hR := hSt0_R hK hX hbl
  have hst : l.stackTraces = false := by unfold Launch.stackTraces; rw [hflags]; decide
  have hA : ∀ a : Nat, a < s.heap.size → ¬ (fun q : Nat => hpB (hSt0 b L s.heap.size xs) ≤ q) a := fun a h1 h2 => by
    have : s.heap.size ≤ a := h2
    omega
  have hZ1 : vx_Zq Bundle.tN "UNASSIGNED_STACK" Bundle.steD (fun q => hpB (hSt0 b L s.heap.size xs) ≤ q) s s.heap := vx_Zqof (args := #[Value.ref b]) (hts _ (List.mem_of_getElem? (i := 629) (by decide +kernel))) (hts _ (List.mem_of_getElem? (i := 76) (by decide +kernel))) (hs _ (List.mem_of_getElem? (i := 4) (by decide +kernel))) hA
  have hZ2 : vx_Zq Bundle.tN "SUPPRESSED_SENTINEL" Bundle.listD (fun q => hpB (hSt0 b L s.heap.size xs) ≤ q) s s.heap := vx_Zqof (args := #[Value.ref b]) (hts _ (List.mem_of_getElem? (i := 631) (by decide +kernel))) (hts _ (List.mem_of_getElem? (i := 76) (by decide +kernel))) (hs _ (List.mem_of_getElem? (i := 5) (by decide +kernel))) hA
  have ok : Okx mL_law 11 601024 7293000 (hpB (hSt0 b L s.heap.size xs)) p l room_1 s m #[Value.ref b] meth c := ⟨hx, hb, hr, hml, hown, htG, hlocks, fun q => absurd q (by decide), ⟨rfl, rfl, by decide, by decide⟩, hst, Or.inl rfl, xtra_ok hts hgv, hZ1, hZ2⟩
  have hl := lv_entry ([.ref b]) (n := 7) (Nat.le_of_ble_eq_true rfl)
  rw [lg_entry_eq]
  generalize (lg_sl ([.ref b]) ++ List.replicate (7 - (lg_sl ([.ref b])).length) Slot.unset).toArray = ls at hl ⊢
  have hlL : lvL ls (ml mL_law) [some (.ref b), none, none, none, none, none, none] := by
    refine ⟨hl.1, hl.2.1, fun i v hv => ?_⟩
    match i, hv with
    | 0, hv =>
      cases hv
      exact hl.2.2 (0, .ref b) List.mem_cons_self
    | 1, hv => cases hv
    | 2, hv => cases hv
    | 3, hv => cases hv
    | 4, hv => cases hv
    | 5, hv => cases hv
    | 6, hv => cases hv
    | k + 7, hv => simp at hv
  have main := law_begin (Q := Qlw) (h := hSt0 b L s.heap.size xs) (a0 := b) (xs := xs) hL (fun _ => ⟨rfl, rfl⟩) (by rw [hSt0_T, if_pos rfl]) hbl hSt0_G (fun j => by rw [hSt0_I]) p l e room_1 s m #[Value.ref b] below meth c ok s.heap [] ls hR va_S.rf hlL
  intro T hT X
  obtain ⟨t, a1, o, b1, b2, b3⟩ := main T hT X
  refine ⟨t, a1, o, b1, b2, ?_⟩
  rcases b3 with ⟨⟨r, h', e1, e2, -⟩, LL, f1, f2⟩ | ⟨q, e1, E, ce, LL, ⟨k, h', k1, k2, k3, k4, -⟩, -⟩
  · refine ⟨by rw [e1, e2.2], ⟨_, e1⟩, f1.2.1, f1.2.2.weaken (fun x hx' hlt => ?_) (Nat.le_refl _) (Nat.le_refl _)⟩
    have : s.heap.size ≤ x.base := f2 x hx'
    exact absurd hlt (Nat.not_lt.mpr this)
  · have : k = 0 := k4.1
    omega

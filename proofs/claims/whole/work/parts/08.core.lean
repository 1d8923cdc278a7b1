/-! THE FLAT HEAP: ints, references, longs by address and place; of each known cell its kind, length and tag; the heap's size; from where on cells may be written.
kinds: 0 not known, 1 an int array, 2 an int array that is only read, 3 a long array, 10 + ci an object of class ci, 30 + ci an array of references to class ci -/
abbrev Hp : Type := (Nat → Nat → Int32) × (Nat → Nat → Option Nat) × (Nat → Nat → Int64) × (Nat → Nat × Nat × Nat) × Nat × Nat
def hpI (h : Hp) : Nat → Nat → Int32 := h.1
def hpP (h : Hp) : Nat → Nat → Option Nat := h.2.1
def hpJ (h : Hp) : Nat → Nat → Int64 := h.2.2.1
def hpT (h : Hp) : Nat → Nat × Nat × Nat := h.2.2.2.1
def hpZ (h : Hp) : Nat := h.2.2.2.2.1
def hpB (h : Hp) : Nat := h.2.2.2.2.2
def hpK (h : Hp) (a : Nat) : Nat := (hpT h a).1
def hpN (h : Hp) (a : Nat) : Nat := (hpT h a).2.1
def up2 {α : Type} (f : Nat → Nat → α) (a k : Nat) (v : α) : Nat → Nat → α := fun b j => if b = a ∧ j = k then v else f b j
def stI (h : Hp) (a k : Nat) (v : Int32) : Hp := (up2 h.1 a k v, h.2)
def stP (h : Hp) (a k : Nat) (v : Option Nat) : Hp := (h.1, up2 h.2.1 a k v, h.2.2)
def stJ (h : Hp) (a k : Nat) (v : Int64) : Hp := (h.1, h.2.1, up2 h.2.2.1 a k v, h.2.2.2)
def stA (h : Hp) (a : Nat) (f : Nat → Int32) : Hp := ((fun b j => if b = a then f j else hpI h b j), h.2)
def stN (h : Hp) (kd n tg : Nat) : Hp := ((fun b j => if b = hpZ h then 0 else hpI h b j), (fun b j => if b = hpZ h then none else hpP h b j), (fun b j => if b = hpZ h then 0 else hpJ h b j), (fun b => if b = hpZ h then (kd, n, tg) else hpT h b), hpZ h + 1, hpB h)
theorem up2_s {α : Type} {f : Nat → Nat → α} {a k : Nat} {v : α} : up2 f a k v a k = v := by simp [up2]
theorem up2_a {α : Type} {f : Nat → Nat → α} {a k b j : Nat} {v : α} (h : b ≠ a) : up2 f a k v b j = f b j := by simp [up2, h]
theorem up2_k {α : Type} {f : Nat → Nat → α} {a k b j : Nat} {v : α} (h : j ≠ k) : up2 f a k v b j = f b j := by simp [up2, h]
/-- field types and which fields hold references -/
def fty (ci : Nat) : Nat → FieldType := match ci with
  | 0 => tyX0
  | 1 => tyX1
  | 2 => tyX2
  | 3 => tyX3
  | 4 => tyX4
  | 5 => tyX5
  | 6 => tyX6
  | 7 => tyX7
  | 8 => tyX8
  | _ => tyX9
def frf (ci k : Nat) : Bool := match fty ci k with
  | .int => false
  | _ => true
def slv (h : Hp) (ci a k : Nat) : Value := if frf ci k = true then va_rf (hpP h a k) else .int (hpI h a k)
def Cok (D : va_G) (U : State) (h : Hp) (H : Heap) (a : Nat) : Prop :=
  (hpK h a ≠ 0 → a < H.size) ∧
  (hpK h a = 1 → ∃ cA : ClassId, H[a]? = some (arrV cA (hpN h a) (fun j => .int (hpI h a j))) ∧ ArrOfT U cA .int) ∧
  (hpK h a = 2 → va_X a (hpN h a) (hpI h a) U H) ∧
  (hpK h a = 3 → ∃ cA : ClassId, H[a]? = some (arrV cA (hpN h a) (fun j => .long (hpJ h a j))) ∧ ArrOfT U cA .long) ∧
  (∀ (ci : Nat) (r : vw_C), Cls[ci]? = some r → hpK h a = 10 + ci → t_OB a (D.1 ci) r.2.2 (D.2 ci) H (slv h ci a)) ∧
  (∀ (ci : Nat) (r : vw_C), Cls[ci]? = some r → hpK h a = 30 + ci → ∃ cA : ClassId, H[a]? = some (arrV cA (hpN h a) (fun j => va_rf (hpP h a j))) ∧ ArrOfT U cA (.object r.1) ∧ va_RA U cA (.object r.1))
def Rp (h : Hp) (U : State) (H : Heap) : Prop :=
  hpZ h = H.size ∧ hpB h ≤ H.size ∧ (∀ a, hpK h a ≠ 0 → hpK h a ≠ 2 → hpB h ≤ a) ∧ ∃ D : va_G, va_K D Cls [] U ∧ ∀ a, Cok D U h H a
theorem Cls_lt {ci : Nat} {r : vw_C} (h : Cls[ci]? = some r) : ci < 10 := (List.getElem?_eq_some_iff.mp h).1
theorem Cok.moved {D : va_G} {u U : State} {h : Hp} {H : Heap} {a : Nat} (hvm : u.vm.Alike U.vm) (k : Cok D u h H a) : Cok D U h H a := by
  obtain ⟨k0, k1, k2, k3, k4, k5⟩ := k
  refine ⟨k0, fun q => ?_, fun q => (k2 q).moved hvm, fun q => ?_, k4, fun ci r q1 q2 => ?_⟩
  · obtain ⟨cA, x, y⟩ := k1 q
    exact ⟨cA, x, arrOfT_moved hvm y⟩
  · obtain ⟨cA, x, y⟩ := k3 q
    exact ⟨cA, x, arrOfT_moved hvm y⟩
  · obtain ⟨cA, x, y, z⟩ := k5 ci r q1 q2
    exact ⟨cA, x, arrOfT_moved hvm y, z.moved hvm⟩
theorem Rp.moved {u U : State} {h : Hp} {H : Heap} (hvm : u.vm.Alike U.vm) (k : Rp h u H) : Rp h U H := by
  obtain ⟨k1, k2, k3, D, k4, k5⟩ := k
  exact ⟨k1, k2, k3, D, k4.moved hvm, fun a => (k5 a).moved hvm⟩
/-- a cell that nobody touched -/
theorem Cok.keep {D : va_G} {U : State} {h h' : Hp} {H H' : Heap} {a : Nat} (k : Cok D U h H a) (eT : hpT h' a = hpT h a) (eI : ∀ j, hpI h' a j = hpI h a j) (eP : ∀ j, hpP h' a j = hpP h a j) (eJ : ∀ j, hpJ h' a j = hpJ h a j) (eH : H'[a]? = H[a]?) (hsz : H.size ≤ H'.size) : Cok D U h' H' a := by
  obtain ⟨k0, k1, k2, k3, k4, k5⟩ := k
  have eK : hpK h' a = hpK h a := by simp [hpK, eT]
  have eN : hpN h' a = hpN h a := by simp [hpN, eT]
  have fI : hpI h' a = hpI h a := funext eI
  have fP : hpP h' a = hpP h a := funext eP
  have fJ : hpJ h' a = hpJ h a := funext eJ
  have fS : ∀ ci, slv h' ci a = slv h ci a := fun ci => funext fun j => by simp [slv, fI, fP]
  unfold Cok
  rw [eK, eN, fI, fP, fJ, eH]
  refine ⟨fun q => Nat.lt_of_lt_of_le (k0 q) hsz, k1, fun q => (k2 q).kept eH, k3, fun ci r q1 q2 => ?_, k5⟩
  rw [fS]
  exact (k4 ci r q1 q2).kept eH
/-- a write in one cell -/
theorem Rp.put {U : State} {h h' : Hp} {H H' : Heap} {a : Nat} (k : Rp h U H) (eT : hpT h' = hpT h) (eZ : hpZ h' = hpZ h) (eB : hpB h' = hpB h) (o : ∀ b, b ≠ a → (∀ j, hpI h' b j = hpI h b j) ∧ (∀ j, hpP h' b j = hpP h b j) ∧ (∀ j, hpJ h' b j = hpJ h b j))
    (z : H'.size = H.size) (oq : ∀ q : Nat, q ≠ a → H'[q]? = H[q]?) (ha : ∀ D : va_G, va_K D Cls [] U → Cok D U h H a → Cok D U h' H' a) : Rp h' U H' := by
  obtain ⟨k1, k2, k3, D, k4, k5⟩ := k
  refine ⟨by rw [eZ, z]; exact k1, by rw [eB, z]; exact k2, fun b => by simp only [hpK, eT, eB]; exact k3 b, D, k4, fun b => ?_⟩
  by_cases hb : b = a
  · subst hb
    exact ha D k4 (k5 b)
  · obtain ⟨o1, o2, o3⟩ := o b hb
    exact (k5 b).keep (by rw [eT]) o1 o2 o3 (oq b hb) (by omega)
/-! THE LOCALS -/
def lvL (ls : Array Slot) (n : Nat) (L : List (Option Value)) : Prop := ls.size = n ∧ lv_wf ls ∧ ∀ (i : Nat) (v : Value), L[i]? = some (some v) → ls[i]? = some (.val v)
def wkL : List (Option Value) → List (Option Value) → Prop
  | [], _ => True
  | none :: r', _ :: r => wkL r' r
  | some v :: r', x :: r => x = some v ∧ wkL r' r
  | _ :: _, [] => False
theorem wkL_at : ∀ (L' L : List (Option Value)), wkL L' L → ∀ (i : Nat) (v : Value), L'[i]? = some (some v) → L[i]? = some (some v)
  | [], _, _, i, v, h => by simp at h
  | none :: r', x :: r, hw, 0, v, h => by simp at h
  | none :: r', x :: r, hw, i + 1, v, h => by
    have := wkL_at r' r hw i v (by simpa using h)
    simpa using this
  | some w :: r', x :: r, hw, 0, v, h => by
    have : w = v := by simpa using h
    rw [← this, hw.1]; rfl
  | some w :: r', x :: r, hw, i + 1, v, h => by
    have := wkL_at r' r hw.2 i v (by simpa using h)
    simpa using this
  | none :: _, [], hw, _, _, _ => hw.elim
  | some _ :: _, [], hw, _, _, _ => hw.elim
/-- a long that stands just below place i goes -/
def kilV (v : Option Value) : Option Value := match v with
  | some (.long _) => none
  | some (.double _) => none
  | x => x
def kilL (L : List (Option Value)) (i : Nat) : List (Option Value) := match i with
  | 0 => L
  | j + 1 => match L[j]? with
    | some x => L.set j (kilV x)
    | none => L
def sto1 (L : List (Option Value)) (i : Nat) (v : Value) : List (Option Value) := (kilL L i).set i (some v)
def sto2 (L : List (Option Value)) (i : Nat) (v : Value) : List (Option Value) := ((kilL L i).set i (some v)).set (i + 1) none
theorem kilV_some {x : Option Value} {v : Value} (h : kilV x = some v) : x = some v ∧ ¬ v.category = 2 := by
  unfold kilV at h
  split at h
  · cases h
  · cases h
  · next y h1 h2 =>
    subst h
    refine ⟨rfl, fun q => ?_⟩
    cases v with
    | long z => exact h1 z rfl
    | double z => exact h2 z rfl
    | _ => simp [Value.category] at q
theorem kilL_at {L : List (Option Value)} {i j : Nat} {v : Value} (h : (kilL L i)[j]? = some (some v)) : L[j]? = some (some v) ∧ ¬ (j + 1 = i ∧ v.category = 2) := by
  cases i with
  | zero => exact ⟨h, fun q => by omega⟩
  | succ n =>
    unfold kilL at h
    simp only at h
    split at h
    · next x hx =>
      by_cases e : j = n
      · subst e
        have hl : j < L.length := (List.getElem?_eq_some_iff.mp hx).1
        rw [List.getElem?_set_self hl] at h
        obtain ⟨h1, h2⟩ := kilV_some (Option.some.inj h)
        rw [h1] at hx
        exact ⟨hx, fun q => h2 q.2⟩
      · rw [List.getElem?_set_ne (fun q => e q.symm)] at h
        exact ⟨h, fun q => by omega⟩
    · next hx =>
      refine ⟨h, fun q => ?_⟩
      have e : j = n := by omega
      subst e
      rw [hx] at h
      cases h
theorem lvL.store1 {ls : Array Slot} {n i : Nat} {L : List (Option Value)} {v : Value} (h : lvL ls n L) (hi : i < n) (hc : v.category = 1) : ∃ ls', storeLocals ls i v = some ls' ∧ lvL ls' n (sto1 L i v) := by
  obtain ⟨ls', e1, h1⟩ := lv_store1 (l := []) (v := v) ⟨h.1, h.2.1, fun q hq => by cases hq⟩ hi hc
  refine ⟨ls', e1, h1.1, h1.2.1, fun j w hw => ?_⟩
  by_cases e : j = i
  · subst e
    unfold sto1 at hw
    have hl : j < (kilL L j).length := by
      have := (List.getElem?_eq_some_iff.mp hw).1
      simpa using this
    rw [List.getElem?_set_self hl] at hw
    cases hw
    exact h1.2.2 (j, v) List.mem_cons_self
  · unfold sto1 at hw
    rw [List.getElem?_set_ne (fun q => e q.symm)] at hw
    obtain ⟨g1, g2⟩ := kilL_at hw
    obtain ⟨ls2, e2, h2⟩ := lv_store1 (l := [(j, w)]) (v := v) ⟨h.1, h.2.1, fun q hq => by rw [List.mem_singleton.mp hq]; exact h.2.2 j w g1⟩ hi hc
    cases Option.some.inj (e1.symm.trans e2)
    refine h2.2.2 (j, w) (List.mem_cons_of_mem _ (List.mem_filter.mpr ⟨List.mem_cons_self, ?_⟩))
    by_cases e3 : j + 1 = i
    · have : ¬ w.category = 2 := fun q => g2 ⟨e3, q⟩
      simp [e, e3, this]
    · simp [e, e3]
theorem lvL.store2 {ls : Array Slot} {n i : Nat} {L : List (Option Value)} {v : Value} (h : lvL ls n L) (hi : i + 1 < n) (hc : v.category = 2) : ∃ ls', storeLocals ls i v = some ls' ∧ lvL ls' n (sto2 L i v) := by
  obtain ⟨ls', e1, h1⟩ := lv_store2 (l := []) (v := v) ⟨h.1, h.2.1, fun q hq => by cases hq⟩ hi hc
  refine ⟨ls', e1, h1.1, h1.2.1, fun j w hw => ?_⟩
  unfold sto2 at hw
  by_cases e4 : j = i + 1
  · subst e4
    have hl : i + 1 < ((kilL L i).set i (some v)).length := by
      have := (List.getElem?_eq_some_iff.mp hw).1
      simpa using this
    rw [List.getElem?_set_self hl] at hw
    cases hw
  rw [List.getElem?_set_ne (fun q => e4 q.symm)] at hw
  by_cases e : j = i
  · subst e
    have hl : j < (kilL L j).length := by
      have := (List.getElem?_eq_some_iff.mp hw).1
      simpa using this
    rw [List.getElem?_set_self hl] at hw
    cases hw
    exact h1.2.2 (j, v) List.mem_cons_self
  · rw [List.getElem?_set_ne (fun q => e q.symm)] at hw
    obtain ⟨g1, g2⟩ := kilL_at hw
    obtain ⟨ls2, e2, h2⟩ := lv_store2 (l := [(j, w)]) (v := v) ⟨h.1, h.2.1, fun q hq => by rw [List.mem_singleton.mp hq]; exact h.2.2 j w g1⟩ hi hc
    cases Option.some.inj (e1.symm.trans e2)
    refine h2.2.2 (j, w) (List.mem_cons_of_mem _ (List.mem_filter.mpr ⟨List.mem_cons_self, ?_⟩))
    by_cases e3 : j + 1 = i
    · have : ¬ w.category = 2 := fun q => g2 ⟨e3, q⟩
      simp [e, e3, e4, this]
    · simp [e, e3, e4]
/-! THE JUDGEMENT: method μ at level d, from pc with locals L, stack st, flat heap h on, with nc cells and ns slots made so far: ends as Q says -/
def tG : List Cond := lw_tbl.filter goodWord
theorem tG_good {w : Cond} (h : w ∈ tG) : goodWord w = true := (List.mem_filter.mp h).2
theorem tg_r (ws : List Cond) (ps : List Nat) (hp : ws = ps.filterMap (fun i => lw_tbl[i]?)) (h : ws.all goodWord = true) : ∀ w ∈ ws, w ∈ tG := fun w hw => by
  have h1 := List.all_eq_true.mp h w hw
  rw [hp] at hw
  obtain ⟨i, -, hi⟩ := List.mem_filterMap.mp hw
  exact List.mem_filter.mpr ⟨List.mem_of_getElem? hi, h1⟩
theorem tg_1 {w : Cond} (i : Nat) (hp : lw_tbl[i]? = some w) (h : goodWord w = true) : w ∈ tG := List.mem_filter.mpr ⟨List.mem_of_getElem? hp, h⟩
abbrev Mi : Type := String × MethodName × ByteArray × Nat × Option FieldType × List (Nat × Nat × Nat × Nat)
def mo (μ : Mi) : String := μ.1
def my (μ : Mi) : MethodName := μ.2.1
def mb (μ : Mi) : ByteArray := μ.2.2.1
def ml (μ : Mi) : Nat := μ.2.2.2.1
def mr (μ : Mi) : Option FieldType := μ.2.2.2.2.1
def mh (μ : Mi) : List (Nat × Nat × Nat × Nat) := μ.2.2.2.2.2
def exn : Nat → String
  | 1 => "java/lang/IndexOutOfBoundsException"
  | 2 => "java/lang/IllegalArgumentException"
  | _ => "java/lang/IllegalStateException"
/-- the texts of the class's exceptions, the words that no list of good words keeps, the array classes, the pairs of exceptions of which none is the other -/
def strs : List (String × Nat × String) := [("EscrowCounter", 51, "a bound or the start value is out of its range"), ("EscrowCounter", 277, "there is no such site, kind or message"), ("EscrowCounter", 279, "an argument is out of its range, or both sites are the same"), ("EscrowCounter", 281, "the state does not allow it"), ("EscrowCounter", 137, "too many messages are under way"), ("EscrowCounter", 145, "there is no such fact about a message"), ("EscrowCounter", 170, "there is no such kind"), ("EscrowCounter", 198, "there is no such loan, or no such fact about it"), ("EscrowCounter", 203, "the amount is out of its range"), ("EscrowCounter", 209, "the code is out of its range"), ("EscrowCounter", 214, "the text is full"), ("EscrowCounter", 237, "the history is empty")]
def nwC : List String := ["java/lang/IllegalArgumentException", "java/lang/IndexOutOfBoundsException", "java/lang/IllegalStateException"]
def nwD : List MethodName := [⟨"java/lang/RuntimeException", "<init>", "(Ljava/lang/String;)V"⟩, ⟨"java/lang/Exception", "<init>", "(Ljava/lang/String;)V"⟩, ⟨"java/lang/Throwable", "<init>", "(Ljava/lang/String;)V"⟩]
def nwM : List (String × Nat × MethodName) := [("EscrowCounter$View", 15, ⟨"EscrowCounter$SiteRecord", "<init>", "()V"⟩), ("EscrowCounter$State", 36, ⟨"EscrowCounter$Loan", "<init>", "()V"⟩), ("EscrowCounter$Script", 21, ⟨"EscrowCounter$Command", "<init>", "()V"⟩)]
def aovs : List String := ["EscrowCounter$Loan", "EscrowCounter$Message", "EscrowCounter$View", "EscrowCounter$SiteRecord", "EscrowCounter$State", "EscrowCounter$Command"]
def Xtra (s : State) : Prop := (∀ x ∈ nwC, va_Nw (.castable x x) s) ∧ (∀ x ∈ nwD, va_Nw (.declares x) s) ∧ (∀ x ∈ nwM, va_Nw (.methodLinkNest x.1 x.2.1 x.2.2 "EscrowCounter") s) ∧ va_Nw (.superclass "java/lang/Throwable" "java/lang/Object") s ∧
  (∀ x ∈ strs, ∃ a : Nat, vk_R x.1 x.2.1 x.2.2 a s) ∧ (∀ x ∈ aovs, va_AO x s) ∧ ∀ x ∈ nwC, ∀ y ∈ nwC, x ≠ y → va_Nc x y s
theorem nw_super {a b : String} {s U : State} (hW : s.WarmedH U.vm) (h : va_Nw (.superclass a b) s) : va_Nw (.superclass a b) U := by
  have hf : ∃ c, s.vm.findClass a = some c := by
    have h1 := h
    simp only [va_Nw, Cond.before, Cond.holds, Cond.value] at h1
    cases hc : s.vm.findClass a with
    | none => simp [hc] at h1
    | some c => exact ⟨c, rfl⟩
  obtain ⟨c, hc⟩ := hf
  obtain ⟨q, k, kp, g1, g2, g3, g4, g5, g6, g7⟩ := Cond.superclass_spec (args := #[]) (first := s) (o := none) (idx := []) hc h
  obtain ⟨k', e1, e2⟩ := hW.alike.2.2 _ _ g2
  obtain ⟨kp', e3, e4⟩ := hW.alike.2.2 _ _ g3
  have f1 : U.vm.findClass a = some c := by rw [hW.alike.findClass]; exact hc
  have f2 : U.vm.findClass b = some q := by rw [hW.alike.findClass]; exact g1
  have i1 : k'.super = some q := by rw [e2]; exact g4
  have i2 : k'.kind = .ordinary := by rw [e2]; exact g5
  have i3 : kp'.kind = .ordinary := by rw [e4]; exact g6
  have i4 : k'.isInterface = false := by rw [e2]; exact g7
  simp [va_Nw, Cond.before, Cond.holds, Cond.value, f1, f2, e1, e3, i1, i2, i3, i4]
theorem Xtra.warm {s U : State} (hW : s.WarmedH U.vm) (h : Xtra s) : Xtra U := by
  obtain ⟨h1, h2, h3, h4, h5, h6, h7⟩ := h
  exact ⟨fun x hx => (h1 x hx).warmC hW, fun x hx => (h2 x hx).warmD hW, fun x hx => (h3 x hx).warmM hW, nw_super hW h4, fun x hx => by
    obtain ⟨a, ha⟩ := h5 x hx
    exact ⟨a, ha.warm hW⟩, fun x hx => (h6 x hx).moved hW.alike, fun x hx y hy hn => (h7 x hx y hy hn).moved hW.alike⟩
def Okx (μ : Mi) (d mc ms B : Nat) (p : Program) (l : Launch) (R : Room) (s : State) (m : MethodId) (args : Array Value) (meth : Method) (c : Code) : Prop :=
  p.tables.exec = Jvm.exec ∧ c.code = mb μ ∧ meth.sig.returnType = mr μ ∧ c.maxLocals = ml μ ∧ s.vm.findClass (mo μ) = some m.cls ∧ (∀ w ∈ tG, w.before args s = true) ∧ meth.locks = false ∧ ((my μ).name = "<init>" → meth.name = "<init>") ∧
  (R.cells = mc ∧ R.slots = ms ∧ d ≤ R.frames ∧ 35 * d ≤ R.locals) ∧ l.stackTraces = false ∧ ((my μ).name = "law" ∨ c.exceptionTable.toList = tableOf (mh μ)) ∧
  Xtra s ∧ vx_Zq Bundle.tN "UNASSIGNED_STACK" Bundle.steD (fun q => B ≤ q) s s.heap ∧ vx_Zq Bundle.tN "SUPPRESSED_SENTINEL" Bundle.listD (fun q => B ≤ q) s s.heap
def QcR (Q : Nat → Option Value → Hp → Prop) (B : Nat) : Array Value → State → Outcome → State → Prop := fun _ st o t => ∃ (r : Option Value) (h' : Hp), o = .returned r ∧ Q 0 r h' ∧ hpB h' = B ∧ Rp h' t t.heap ∧ va_F (fun q => B ≤ q) st t
def XcR (Q : Nat → Option Value → Hp → Prop) (B : Nat) : String → State → State → Prop := fun E st t => ∃ (k : Nat) (h' : Hp), 1 ≤ k ∧ k ≤ 3 ∧ E = exn k ∧ Q k none h' ∧ hpB h' = B ∧ Rp h' t t.heap ∧ va_F (fun q => B ≤ q) st t
def Wm (μ : Mi) (d mc ms : Nat) (Q : Nat → Option Value → Hp → Prop) (pc : Nat) (L : List (Option Value)) (st : List Value) (h : Hp) (nc ns : Nat) : Prop :=
  ∀ (p : Program) (l : Launch) (e : Env) (R : Room) (s : State) (m : MethodId) (args : Array Value) (below : List Frame) (meth : Method) (c : Code), Okx μ d mc ms (hpB h) p l R s m args meth c →
    ∀ (H : Heap) (locs : List Loc) (ls : Array Slot), Rp h s H → va_S (fun q => hpB h ≤ q) s.heap H locs → lvL ls (ml μ) L →
      W p l e R s m args below meth c H locs nc ns (vx_MQ below (QcR Q (hpB h)) (XcR Q (hpB h)) args s mc ms (fun q => hpB h ≤ q)) (F0 m pc ls st)

section RL
variable {μ : Mi} {d mc ms : Nat} {Q : Nat → Option Value → Hp → Prop} {pc : Nat} {L : List (Option Value)} {st : List Value} {h : Hp} {nc ns : Nat}
theorem rl_iconst {n : Int} {v : Int32} (hd : decode (mb μ) pc = .ok (.iconst n, 1)) (hv : Int32.ofInt n = v) (k : Wm μ d mc ms Q (pc + 1) L (.int v :: st) h nc ns) : Wm μ d mc ms Q pc L st h nc ns := by
  intro p l e R s m args below meth c ok H locs ls hR hS hl
  exact lv_iconst ok.1 ok.2.1 hd hv (k p l e R s m args below meth c ok H locs ls hR hS hl)
theorem rl_bipush {n : Int} {v : Int32} (hd : decode (mb μ) pc = .ok (.bipush n, 2)) (hv : (Int8.ofInt n).toInt32 = v) (k : Wm μ d mc ms Q (pc + 2) L (.int v :: st) h nc ns) : Wm μ d mc ms Q pc L st h nc ns := by
  intro p l e R s m args below meth c ok H locs ls hR hS hl
  exact lv_bipush ok.1 ok.2.1 hd hv (k p l e R s m args below meth c ok H locs ls hR hS hl)
theorem rl_sipush {n : Int} {v : Int32} (hd : decode (mb μ) pc = .ok (.sipush n, 3)) (hv : (Int16.ofInt n).toInt32 = v) (k : Wm μ d mc ms Q (pc + 3) L (.int v :: st) h nc ns) : Wm μ d mc ms Q pc L st h nc ns := by
  intro p l e R s m args below meth c ok H locs ls hR hS hl
  exact lv_sipush ok.1 ok.2.1 hd hv (k p l e R s m args below meth c ok H locs ls hR hS hl)
theorem rl_lconst {n : Fin 2} {v : Int64} (hd : decode (mb μ) pc = .ok (.lconst n, 1)) (hv : Int64.ofNat (n : Nat) = v) (k : Wm μ d mc ms Q (pc + 1) L (.long v :: st) h nc ns) : Wm μ d mc ms Q pc L st h nc ns := by
  intro p l e R s m args below meth c ok H locs ls hR hS hl
  exact lv_lconst ok.1 ok.2.1 hd hv (k p l e R s m args below meth c ok H locs ls hR hS hl)
theorem rl_iload_n {k4 : Fin 4} {i : Nat} {x : Int32} (hd : decode (mb μ) pc = .ok (.iload_n k4, 1)) (hi : (k4 : Nat) = i) (hx : L[i]? = some (some (.int x))) (k : Wm μ d mc ms Q (pc + 1) L (.int x :: st) h nc ns) : Wm μ d mc ms Q pc L st h nc ns := by
  intro p l e R s m args below meth c ok H locs ls hR hS hl
  exact lv_iload_n ok.1 ok.2.1 hd hi (hl.2.2 _ _ hx) (k p l e R s m args below meth c ok H locs ls hR hS hl)
theorem rl_iload {i : Nat} {x : Int32} (hd : decode (mb μ) pc = .ok (.iload i, 2)) (hx : L[i]? = some (some (.int x))) (k : Wm μ d mc ms Q (pc + 2) L (.int x :: st) h nc ns) : Wm μ d mc ms Q pc L st h nc ns := by
  intro p l e R s m args below meth c ok H locs ls hR hS hl
  exact lv_iload ok.1 ok.2.1 hd (hl.2.2 _ _ hx) (k p l e R s m args below meth c ok H locs ls hR hS hl)
theorem rl_lload_n {k4 : Fin 4} {i : Nat} {x : Int64} (hd : decode (mb μ) pc = .ok (.lload_n k4, 1)) (hi : (k4 : Nat) = i) (hx : L[i]? = some (some (.long x))) (k : Wm μ d mc ms Q (pc + 1) L (.long x :: st) h nc ns) : Wm μ d mc ms Q pc L st h nc ns := by
  intro p l e R s m args below meth c ok H locs ls hR hS hl
  exact lv_lload_n ok.1 ok.2.1 hd hi (hl.2.2 _ _ hx) (k p l e R s m args below meth c ok H locs ls hR hS hl)
theorem rl_lload {i : Nat} {x : Int64} (hd : decode (mb μ) pc = .ok (.lload i, 2)) (hx : L[i]? = some (some (.long x))) (k : Wm μ d mc ms Q (pc + 2) L (.long x :: st) h nc ns) : Wm μ d mc ms Q pc L st h nc ns := by
  intro p l e R s m args below meth c ok H locs ls hR hS hl
  exact lv_lload ok.1 ok.2.1 hd (hl.2.2 _ _ hx) (k p l e R s m args below meth c ok H locs ls hR hS hl)
theorem rl_aload_n {k4 : Fin 4} {i : Nat} {x : Nat} (hd : decode (mb μ) pc = .ok (.aload_n k4, 1)) (hi : (k4 : Nat) = i) (hx : L[i]? = some (some (.ref x))) (k : Wm μ d mc ms Q (pc + 1) L (.ref x :: st) h nc ns) : Wm μ d mc ms Q pc L st h nc ns := by
  intro p l e R s m args below meth c ok H locs ls hR hS hl
  exact lv_aload_n ok.1 ok.2.1 hd hi (hl.2.2 _ _ hx) (k p l e R s m args below meth c ok H locs ls hR hS hl)
theorem rl_aload {i : Nat} {x : Nat} (hd : decode (mb μ) pc = .ok (.aload i, 2)) (hx : L[i]? = some (some (.ref x))) (k : Wm μ d mc ms Q (pc + 2) L (.ref x :: st) h nc ns) : Wm μ d mc ms Q pc L st h nc ns := by
  intro p l e R s m args below meth c ok H locs ls hR hS hl
  exact lv_aload ok.1 ok.2.1 hd (hl.2.2 _ _ hx) (k p l e R s m args below meth c ok H locs ls hR hS hl)
theorem rl_istore_n {k4 : Fin 4} {i : Nat} {x : Int32} {L' : List (Option Value)} (hd : decode (mb μ) pc = .ok (.istore_n k4, 1)) (hi : (k4 : Nat) = i) (hn : i < ml μ) (hL : sto1 L i (.int x) = L') (k : Wm μ d mc ms Q (pc + 1) L' st h nc ns) : Wm μ d mc ms Q pc L (.int x :: st) h nc ns := by
  intro p l e R s m args below meth c ok H locs ls hR hS hl
  obtain ⟨ls', e', h'⟩ := hl.store1 (i := i) (v := .int x) hn rfl
  subst hi
  intro T hT X
  obtain ⟨t, a, b⟩ := k p l e R s m args below meth c ok H locs ls' hR hS (hL ▸ h') T hT X
  refine ⟨t, ?_, b⟩
  have hexec := ok.1
  have hb := ok.2.1
  jvm_step X.here [X.here.top, ↓top_set X.here.top, hexec, hb, hd, e']
  exact a
theorem rl_istore {i : Nat} {x : Int32} {L' : List (Option Value)} (hd : decode (mb μ) pc = .ok (.istore i, 2)) (hn : i < ml μ) (hL : sto1 L i (.int x) = L') (k : Wm μ d mc ms Q (pc + 2) L' st h nc ns) : Wm μ d mc ms Q pc L (.int x :: st) h nc ns := by
  intro p l e R s m args below meth c ok H locs ls hR hS hl
  obtain ⟨ls', e', h'⟩ := hl.store1 (i := i) (v := .int x) hn rfl
  intro T hT X
  obtain ⟨t, a, b⟩ := k p l e R s m args below meth c ok H locs ls' hR hS (hL ▸ h') T hT X
  refine ⟨t, ?_, b⟩
  have hexec := ok.1
  have hb := ok.2.1
  jvm_step X.here [X.here.top, ↓top_set X.here.top, hexec, hb, hd, e']
  exact a
theorem rl_lstore_n {k4 : Fin 4} {i : Nat} {x : Int64} {L' : List (Option Value)} (hd : decode (mb μ) pc = .ok (.lstore_n k4, 1)) (hi : (k4 : Nat) = i) (hn : i + 1 < ml μ) (hL : sto2 L i (.long x) = L') (k : Wm μ d mc ms Q (pc + 1) L' st h nc ns) : Wm μ d mc ms Q pc L (.long x :: st) h nc ns := by
  intro p l e R s m args below meth c ok H locs ls hR hS hl
  obtain ⟨ls', e', h'⟩ := hl.store2 (i := i) (v := .long x) hn rfl
  subst hi
  intro T hT X
  obtain ⟨t, a, b⟩ := k p l e R s m args below meth c ok H locs ls' hR hS (hL ▸ h') T hT X
  refine ⟨t, ?_, b⟩
  have hexec := ok.1
  have hb := ok.2.1
  jvm_step X.here [X.here.top, ↓top_set X.here.top, hexec, hb, hd, e']
  exact a
theorem rl_lstore {i : Nat} {x : Int64} {L' : List (Option Value)} (hd : decode (mb μ) pc = .ok (.lstore i, 2)) (hn : i + 1 < ml μ) (hL : sto2 L i (.long x) = L') (k : Wm μ d mc ms Q (pc + 2) L' st h nc ns) : Wm μ d mc ms Q pc L (.long x :: st) h nc ns := by
  intro p l e R s m args below meth c ok H locs ls hR hS hl
  obtain ⟨ls', e', h'⟩ := hl.store2 (i := i) (v := .long x) hn rfl
  intro T hT X
  obtain ⟨t, a, b⟩ := k p l e R s m args below meth c ok H locs ls' hR hS (hL ▸ h') T hT X
  refine ⟨t, ?_, b⟩
  have hexec := ok.1
  have hb := ok.2.1
  jvm_step X.here [X.here.top, ↓top_set X.here.top, hexec, hb, hd, e']
  exact a
theorem rl_astore_n {k4 : Fin 4} {i : Nat} {x : Nat} {L' : List (Option Value)} (hd : decode (mb μ) pc = .ok (.astore_n k4, 1)) (hi : (k4 : Nat) = i) (hn : i < ml μ) (hL : sto1 L i (.ref x) = L') (k : Wm μ d mc ms Q (pc + 1) L' st h nc ns) : Wm μ d mc ms Q pc L (.ref x :: st) h nc ns := by
  intro p l e R s m args below meth c ok H locs ls hR hS hl
  obtain ⟨ls', e', h'⟩ := hl.store1 (i := i) (v := .ref x) hn rfl
  subst hi
  intro T hT X
  obtain ⟨t, a, b⟩ := k p l e R s m args below meth c ok H locs ls' hR hS (hL ▸ h') T hT X
  refine ⟨t, ?_, b⟩
  have hexec := ok.1
  have hb := ok.2.1
  jvm_step X.here [X.here.top, ↓top_set X.here.top, hexec, hb, hd, e']
  exact ⟨rfl, a⟩
theorem rl_astore {i : Nat} {x : Nat} {L' : List (Option Value)} (hd : decode (mb μ) pc = .ok (.astore i, 2)) (hn : i < ml μ) (hL : sto1 L i (.ref x) = L') (k : Wm μ d mc ms Q (pc + 2) L' st h nc ns) : Wm μ d mc ms Q pc L (.ref x :: st) h nc ns := by
  intro p l e R s m args below meth c ok H locs ls hR hS hl
  obtain ⟨ls', e', h'⟩ := hl.store1 (i := i) (v := .ref x) hn rfl
  intro T hT X
  obtain ⟨t, a, b⟩ := k p l e R s m args below meth c ok H locs ls' hR hS (hL ▸ h') T hT X
  refine ⟨t, ?_, b⟩
  have hexec := ok.1
  have hb := ok.2.1
  jvm_step X.here [X.here.top, ↓top_set X.here.top, hexec, hb, hd, e']
  exact ⟨rfl, a⟩
theorem rl_iinc {i : Nat} {n : Int} {x v : Int32} {L' : List (Option Value)} (hd : decode (mb μ) pc = .ok (.iinc i n, 3)) (hx : L[i]? = some (some (.int x))) (hv : x + Int32.ofInt n = v) (hn : i < ml μ) (hL : sto1 L i (.int v) = L') (k : Wm μ d mc ms Q (pc + 3) L' st h nc ns) : Wm μ d mc ms Q pc L st h nc ns := by
  intro p l e R s m args below meth c ok H locs ls hR hS hl
  have hxx := hl.2.2 _ _ hx
  have hb9 : lv_has ls (ml μ) [(i, .int x)] := ⟨hl.1, hl.2.1, fun q hq => by rw [List.mem_singleton.mp hq]; exact hxx⟩
  obtain ⟨ls', e', h'⟩ := hl.store1 (i := i) (v := .int v) hn rfl
  intro T hT X
  obtain ⟨t, a, b⟩ := k p l e R s m args below meth c ok H locs ls' hR hS (hL ▸ h') T hT X
  refine ⟨t, ?_, b⟩
  have hexec := ok.1
  have hb := ok.2.1
  subst hv
  jvm_step X.here [X.here.top, ↓top_set X.here.top, hexec, hb, hd, hxx, e']
  exact a
theorem rl_iadd {x y : Int32} (hd : decode (mb μ) pc = .ok (.iadd, 1))  (k : Wm μ d mc ms Q (pc + 1) L (.int (x + y) :: st) h nc ns) : Wm μ d mc ms Q pc L (.int y :: .int x :: st) h nc ns := by
  intro p l e R s m args below meth c ok H locs ls hR hS hl
  exact lv_iadd ok.1 ok.2.1 hd  (k p l e R s m args below meth c ok H locs ls hR hS hl)
theorem rl_isub {x y : Int32} (hd : decode (mb μ) pc = .ok (.isub, 1))  (k : Wm μ d mc ms Q (pc + 1) L (.int (x - y) :: st) h nc ns) : Wm μ d mc ms Q pc L (.int y :: .int x :: st) h nc ns := by
  intro p l e R s m args below meth c ok H locs ls hR hS hl
  exact lv_isub ok.1 ok.2.1 hd  (k p l e R s m args below meth c ok H locs ls hR hS hl)
theorem rl_imul {x y : Int32} (hd : decode (mb μ) pc = .ok (.imul, 1))  (k : Wm μ d mc ms Q (pc + 1) L (.int (x * y) :: st) h nc ns) : Wm μ d mc ms Q pc L (.int y :: .int x :: st) h nc ns := by
  intro p l e R s m args below meth c ok H locs ls hR hS hl
  exact lv_imul ok.1 ok.2.1 hd  (k p l e R s m args below meth c ok H locs ls hR hS hl)
theorem rl_iand {x y : Int32} (hd : decode (mb μ) pc = .ok (.iand, 1))  (k : Wm μ d mc ms Q (pc + 1) L (.int (x &&& y) :: st) h nc ns) : Wm μ d mc ms Q pc L (.int y :: .int x :: st) h nc ns := by
  intro p l e R s m args below meth c ok H locs ls hR hS hl
  exact lv_iand ok.1 ok.2.1 hd  (k p l e R s m args below meth c ok H locs ls hR hS hl)
theorem rl_ior {x y : Int32} (hd : decode (mb μ) pc = .ok (.ior, 1))  (k : Wm μ d mc ms Q (pc + 1) L (.int (x ||| y) :: st) h nc ns) : Wm μ d mc ms Q pc L (.int y :: .int x :: st) h nc ns := by
  intro p l e R s m args below meth c ok H locs ls hR hS hl
  exact lv_ior ok.1 ok.2.1 hd  (k p l e R s m args below meth c ok H locs ls hR hS hl)
theorem rl_ladd {x y : Int64} (hd : decode (mb μ) pc = .ok (.ladd, 1))  (k : Wm μ d mc ms Q (pc + 1) L (.long (x + y) :: st) h nc ns) : Wm μ d mc ms Q pc L (.long y :: .long x :: st) h nc ns := by
  intro p l e R s m args below meth c ok H locs ls hR hS hl
  exact lv_ladd ok.1 ok.2.1 hd  (k p l e R s m args below meth c ok H locs ls hR hS hl)
theorem rl_lmul {x y : Int64} (hd : decode (mb μ) pc = .ok (.lmul, 1))  (k : Wm μ d mc ms Q (pc + 1) L (.long (x * y) :: st) h nc ns) : Wm μ d mc ms Q pc L (.long y :: .long x :: st) h nc ns := by
  intro p l e R s m args below meth c ok H locs ls hR hS hl
  exact lv_lmul ok.1 ok.2.1 hd  (k p l e R s m args below meth c ok H locs ls hR hS hl)
theorem rl_ineg {x : Int32} (hd : decode (mb μ) pc = .ok (.ineg, 1))  (k : Wm μ d mc ms Q (pc + 1) L (.int (-x) :: st) h nc ns) : Wm μ d mc ms Q pc L (.int x :: st) h nc ns := by
  intro p l e R s m args below meth c ok H locs ls hR hS hl
  exact lv_ineg ok.1 ok.2.1 hd  (k p l e R s m args below meth c ok H locs ls hR hS hl)
theorem rl_irem {x y : Int32} (hd : decode (mb μ) pc = .ok (.irem, 1)) (hne : ¬ y = 0) (k : Wm μ d mc ms Q (pc + 1) L (.int (x - x / y * y) :: st) h nc ns) : Wm μ d mc ms Q pc L (.int y :: .int x :: st) h nc ns := by
  intro p l e R s m args below meth c ok H locs ls hR hS hl
  exact lv_irem ok.1 ok.2.1 hd hne (k p l e R s m args below meth c ok H locs ls hR hS hl)
theorem rl_ldiv {x y : Int64} (hd : decode (mb μ) pc = .ok (.ldiv, 1)) (hne : ¬ y = 0) (k : Wm μ d mc ms Q (pc + 1) L (.long (x / y) :: st) h nc ns) : Wm μ d mc ms Q pc L (.long y :: .long x :: st) h nc ns := by
  intro p l e R s m args below meth c ok H locs ls hR hS hl
  exact lv_ldiv ok.1 ok.2.1 hd hne (k p l e R s m args below meth c ok H locs ls hR hS hl)
theorem rl_ishl {x y : Int32} (hd : decode (mb μ) pc = .ok (.ishl, 1))  (k : Wm μ d mc ms Q (pc + 1) L (.int (x <<< (y &&& 31)) :: st) h nc ns) : Wm μ d mc ms Q pc L (.int y :: .int x :: st) h nc ns := by
  intro p l e R s m args below meth c ok H locs ls hR hS hl
  exact lv_ishl ok.1 ok.2.1 hd  (k p l e R s m args below meth c ok H locs ls hR hS hl)
theorem rl_ishr {x y : Int32} (hd : decode (mb μ) pc = .ok (.ishr, 1))  (k : Wm μ d mc ms Q (pc + 1) L (.int (x >>> (y &&& 31)) :: st) h nc ns) : Wm μ d mc ms Q pc L (.int y :: .int x :: st) h nc ns := by
  intro p l e R s m args below meth c ok H locs ls hR hS hl
  exact lv_ishr ok.1 ok.2.1 hd  (k p l e R s m args below meth c ok H locs ls hR hS hl)
theorem rl_i2l {x : Int32} (hd : decode (mb μ) pc = .ok (.i2l, 1))  (k : Wm μ d mc ms Q (pc + 1) L (.long x.toInt64 :: st) h nc ns) : Wm μ d mc ms Q pc L (.int x :: st) h nc ns := by
  intro p l e R s m args below meth c ok H locs ls hR hS hl
  exact lv_i2l ok.1 ok.2.1 hd rfl (k p l e R s m args below meth c ok H locs ls hR hS hl)
theorem rl_l2i {x : Int64} (hd : decode (mb μ) pc = .ok (.l2i, 1))  (k : Wm μ d mc ms Q (pc + 1) L (.int x.toInt32 :: st) h nc ns) : Wm μ d mc ms Q pc L (.long x :: st) h nc ns := by
  intro p l e R s m args below meth c ok H locs ls hR hS hl
  exact lv_l2i ok.1 ok.2.1 hd rfl (k p l e R s m args below meth c ok H locs ls hR hS hl)
theorem rl_lcmp {x y : Int64} (hd : decode (mb μ) pc = .ok (.lcmp, 1))  (k : Wm μ d mc ms Q (pc + 1) L (.int (lg_cmp x y) :: st) h nc ns) : Wm μ d mc ms Q pc L (.long y :: .long x :: st) h nc ns := by
  intro p l e R s m args below meth c ok H locs ls hR hS hl
  exact W.lcmp ok.1 ok.2.1 hd  (k p l e R s m args below meth c ok H locs ls hR hS hl)
theorem rl_dup {va : Value} (hd : decode (mb μ) pc = .ok (.dup, 1)) (hva : va.category = 1) (k : Wm μ d mc ms Q (pc + 1) L (va :: va :: st) h nc ns) : Wm μ d mc ms Q pc L (va :: st) h nc ns := by
  intro p l e R s m args below meth c ok H locs ls hR hS hl
  exact lv_dup ok.1 ok.2.1 hd hva (k p l e R s m args below meth c ok H locs ls hR hS hl)
theorem rl_pop {va : Value} (hd : decode (mb μ) pc = .ok (.pop, 1)) (hva : va.category = 1) (k : Wm μ d mc ms Q (pc + 1) L st h nc ns) : Wm μ d mc ms Q pc L (va :: st) h nc ns := by
  intro p l e R s m args below meth c ok H locs ls hR hS hl
  exact lv_pop ok.1 ok.2.1 hd hva (k p l e R s m args below meth c ok H locs ls hR hS hl)
theorem rl_dup2 {va vb : Value} (hd : decode (mb μ) pc = .ok (.dup2, 1)) (hva : va.category = 1) (hvb : vb.category = 1) (k : Wm μ d mc ms Q (pc + 1) L (va :: vb :: va :: vb :: st) h nc ns) : Wm μ d mc ms Q pc L (va :: vb :: st) h nc ns := by
  intro p l e R s m args below meth c ok H locs ls hR hS hl
  exact lv_dup2_11 ok.1 ok.2.1 hd hva hvb (k p l e R s m args below meth c ok H locs ls hR hS hl)
theorem rl_if_eq {x : Int32} {off : Int} {tgt : Nat} (hd : decode (mb μ) pc = .ok (.ifCond .eq off, 3)) (ht : (pc : Int) + off = (tgt : Int)) (kt : x = 0 → Wm μ d mc ms Q tgt L st h nc ns) (kf : ¬ x = 0 → Wm μ d mc ms Q (pc + 3) L st h nc ns) : Wm μ d mc ms Q pc L (.int x :: st) h nc ns := by
  intro p l e R s m args below meth c ok H locs ls hR hS hl
  exact lv_if_eq ok.1 ok.2.1 hd ht (fun q => kt q p l e R s m args below meth c ok H locs ls hR hS hl) (fun q => kf q p l e R s m args below meth c ok H locs ls hR hS hl)
theorem rl_if_ne {x : Int32} {off : Int} {tgt : Nat} (hd : decode (mb μ) pc = .ok (.ifCond .ne off, 3)) (ht : (pc : Int) + off = (tgt : Int)) (kt : ¬ x = 0 → Wm μ d mc ms Q tgt L st h nc ns) (kf : x = 0 → Wm μ d mc ms Q (pc + 3) L st h nc ns) : Wm μ d mc ms Q pc L (.int x :: st) h nc ns := by
  intro p l e R s m args below meth c ok H locs ls hR hS hl
  exact lv_if_ne ok.1 ok.2.1 hd ht (fun q => kt q p l e R s m args below meth c ok H locs ls hR hS hl) (fun q => kf q p l e R s m args below meth c ok H locs ls hR hS hl)
theorem rl_if_lt {x : Int32} {off : Int} {tgt : Nat} (hd : decode (mb μ) pc = .ok (.ifCond .lt off, 3)) (ht : (pc : Int) + off = (tgt : Int)) (kt : x < 0 → Wm μ d mc ms Q tgt L st h nc ns) (kf : ¬ x < 0 → Wm μ d mc ms Q (pc + 3) L st h nc ns) : Wm μ d mc ms Q pc L (.int x :: st) h nc ns := by
  intro p l e R s m args below meth c ok H locs ls hR hS hl
  exact lv_if_lt ok.1 ok.2.1 hd ht (fun q => kt q p l e R s m args below meth c ok H locs ls hR hS hl) (fun q => kf q p l e R s m args below meth c ok H locs ls hR hS hl)
theorem rl_if_ge {x : Int32} {off : Int} {tgt : Nat} (hd : decode (mb μ) pc = .ok (.ifCond .ge off, 3)) (ht : (pc : Int) + off = (tgt : Int)) (kt : 0 ≤ x → Wm μ d mc ms Q tgt L st h nc ns) (kf : ¬ 0 ≤ x → Wm μ d mc ms Q (pc + 3) L st h nc ns) : Wm μ d mc ms Q pc L (.int x :: st) h nc ns := by
  intro p l e R s m args below meth c ok H locs ls hR hS hl
  exact lv_if_ge ok.1 ok.2.1 hd ht (fun q => kt q p l e R s m args below meth c ok H locs ls hR hS hl) (fun q => kf q p l e R s m args below meth c ok H locs ls hR hS hl)
theorem rl_if_gt {x : Int32} {off : Int} {tgt : Nat} (hd : decode (mb μ) pc = .ok (.ifCond .gt off, 3)) (ht : (pc : Int) + off = (tgt : Int)) (kt : 0 < x → Wm μ d mc ms Q tgt L st h nc ns) (kf : ¬ 0 < x → Wm μ d mc ms Q (pc + 3) L st h nc ns) : Wm μ d mc ms Q pc L (.int x :: st) h nc ns := by
  intro p l e R s m args below meth c ok H locs ls hR hS hl
  exact lv_if_gt ok.1 ok.2.1 hd ht (fun q => kt q p l e R s m args below meth c ok H locs ls hR hS hl) (fun q => kf q p l e R s m args below meth c ok H locs ls hR hS hl)
theorem rl_if_le {x : Int32} {off : Int} {tgt : Nat} (hd : decode (mb μ) pc = .ok (.ifCond .le off, 3)) (ht : (pc : Int) + off = (tgt : Int)) (kt : x ≤ 0 → Wm μ d mc ms Q tgt L st h nc ns) (kf : ¬ x ≤ 0 → Wm μ d mc ms Q (pc + 3) L st h nc ns) : Wm μ d mc ms Q pc L (.int x :: st) h nc ns := by
  intro p l e R s m args below meth c ok H locs ls hR hS hl
  exact lv_if_le ok.1 ok.2.1 hd ht (fun q => kt q p l e R s m args below meth c ok H locs ls hR hS hl) (fun q => kf q p l e R s m args below meth c ok H locs ls hR hS hl)
theorem rl_icmp_eq {x y : Int32} {off : Int} {tgt : Nat} (hd : decode (mb μ) pc = .ok (.if_icmp .eq off, 3)) (ht : (pc : Int) + off = (tgt : Int)) (kt : x = y → Wm μ d mc ms Q tgt L st h nc ns) (kf : ¬ x = y → Wm μ d mc ms Q (pc + 3) L st h nc ns) : Wm μ d mc ms Q pc L (.int y :: .int x :: st) h nc ns := by
  intro p l e R s m args below meth c ok H locs ls hR hS hl
  exact lv_icmp_eq ok.1 ok.2.1 hd ht (fun q => kt q p l e R s m args below meth c ok H locs ls hR hS hl) (fun q => kf q p l e R s m args below meth c ok H locs ls hR hS hl)
theorem rl_icmp_ne {x y : Int32} {off : Int} {tgt : Nat} (hd : decode (mb μ) pc = .ok (.if_icmp .ne off, 3)) (ht : (pc : Int) + off = (tgt : Int)) (kt : ¬ x = y → Wm μ d mc ms Q tgt L st h nc ns) (kf : x = y → Wm μ d mc ms Q (pc + 3) L st h nc ns) : Wm μ d mc ms Q pc L (.int y :: .int x :: st) h nc ns := by
  intro p l e R s m args below meth c ok H locs ls hR hS hl
  exact lv_icmp_ne ok.1 ok.2.1 hd ht (fun q => kt q p l e R s m args below meth c ok H locs ls hR hS hl) (fun q => kf q p l e R s m args below meth c ok H locs ls hR hS hl)
theorem rl_icmp_lt {x y : Int32} {off : Int} {tgt : Nat} (hd : decode (mb μ) pc = .ok (.if_icmp .lt off, 3)) (ht : (pc : Int) + off = (tgt : Int)) (kt : x < y → Wm μ d mc ms Q tgt L st h nc ns) (kf : ¬ x < y → Wm μ d mc ms Q (pc + 3) L st h nc ns) : Wm μ d mc ms Q pc L (.int y :: .int x :: st) h nc ns := by
  intro p l e R s m args below meth c ok H locs ls hR hS hl
  exact lv_icmp_lt ok.1 ok.2.1 hd ht (fun q => kt q p l e R s m args below meth c ok H locs ls hR hS hl) (fun q => kf q p l e R s m args below meth c ok H locs ls hR hS hl)
theorem rl_icmp_ge {x y : Int32} {off : Int} {tgt : Nat} (hd : decode (mb μ) pc = .ok (.if_icmp .ge off, 3)) (ht : (pc : Int) + off = (tgt : Int)) (kt : y ≤ x → Wm μ d mc ms Q tgt L st h nc ns) (kf : ¬ y ≤ x → Wm μ d mc ms Q (pc + 3) L st h nc ns) : Wm μ d mc ms Q pc L (.int y :: .int x :: st) h nc ns := by
  intro p l e R s m args below meth c ok H locs ls hR hS hl
  exact lv_icmp_ge ok.1 ok.2.1 hd ht (fun q => kt q p l e R s m args below meth c ok H locs ls hR hS hl) (fun q => kf q p l e R s m args below meth c ok H locs ls hR hS hl)
theorem rl_icmp_gt {x y : Int32} {off : Int} {tgt : Nat} (hd : decode (mb μ) pc = .ok (.if_icmp .gt off, 3)) (ht : (pc : Int) + off = (tgt : Int)) (kt : y < x → Wm μ d mc ms Q tgt L st h nc ns) (kf : ¬ y < x → Wm μ d mc ms Q (pc + 3) L st h nc ns) : Wm μ d mc ms Q pc L (.int y :: .int x :: st) h nc ns := by
  intro p l e R s m args below meth c ok H locs ls hR hS hl
  exact lv_icmp_gt ok.1 ok.2.1 hd ht (fun q => kt q p l e R s m args below meth c ok H locs ls hR hS hl) (fun q => kf q p l e R s m args below meth c ok H locs ls hR hS hl)
theorem rl_icmp_le {x y : Int32} {off : Int} {tgt : Nat} (hd : decode (mb μ) pc = .ok (.if_icmp .le off, 3)) (ht : (pc : Int) + off = (tgt : Int)) (kt : x ≤ y → Wm μ d mc ms Q tgt L st h nc ns) (kf : ¬ x ≤ y → Wm μ d mc ms Q (pc + 3) L st h nc ns) : Wm μ d mc ms Q pc L (.int y :: .int x :: st) h nc ns := by
  intro p l e R s m args below meth c ok H locs ls hR hS hl
  exact lv_icmp_le ok.1 ok.2.1 hd ht (fun q => kt q p l e R s m args below meth c ok H locs ls hR hS hl) (fun q => kf q p l e R s m args below meth c ok H locs ls hR hS hl)
theorem rl_goto {off : Int} {tgt : Nat} (hd : decode (mb μ) pc = .ok (.goto off, 3)) (ht : (pc : Int) + off = (tgt : Int)) (k : Wm μ d mc ms Q tgt L st h nc ns) : Wm μ d mc ms Q pc L st h nc ns := by
  intro p l e R s m args below meth c ok H locs ls hR hS hl
  exact lv_goto ok.1 ok.2.1 hd ht (k p l e R s m args below meth c ok H locs ls hR hS hl)
end RL

/-! Object's constructor, arraycopy, max, min -/
section RM
variable {μ : Mi} {d mc ms : Nat} {Q : Nat → Option Value → Hp → Prop} {pc : Nat} {L : List (Option Value)} {st : List Value} {h : Hp} {nc ns : Nat} {a a0 idx : Nat}
theorem rl_obj (hd : decode (mb μ) pc = .ok (.invokespecial idx, 3)) (hlk : Cond.methodLink (mo μ) idx objectInit ∈ tG) (h1 : Cond.instanceMethod objectInit ∈ tG) (h2 : Cond.code objectInit ⟨#[0xb1]⟩ 1 none ∈ tG) (hd1 : 1 ≤ d) (hrest : (st.map fun v => v.category).sum ≤ 8) (k : Wm μ d mc ms Q (pc + 3) L st h nc ns) : Wm μ d mc ms Q pc L (.ref a :: st) h nc ns := by
  intro p l e R s m args below meth c ok H locs ls hR hS hl
  have hts := ok.2.2.2.2.2.1
  obtain ⟨r1, r2, r3, r4⟩ := ok.2.2.2.2.2.2.2.2.1
  have hr := lv_room (m := m) (pc := pc) (ls := ls) (rest := .ref a :: st) hrest
  exact W.objInit ok.1 ok.2.1 ok.2.2.2.2.1 (hts _ hlk) (hts _ h1) (hts _ h2) (g := F0 m pc ls (.ref a :: st)) rfl (by rw [ok.2.2.2.1]; exact hl.1) rfl hd (by omega) (by omega) (k p l e R s m args below meth c ok H locs ls hR hS hl)
theorem rl_max {x y : Int32} (hd : decode (mb μ) pc = .ok (.invokestatic idx, 3)) (hlk : Cond.methodLink (mo μ) idx Lib.Math.max.name ∈ tG) (h1 : Cond.static Lib.Math.max.name ∈ tG) (h2 : Cond.initialized "java/lang/Math" ∈ tG) (h3 : Cond.code Lib.Math.max.name Lib.Math.max.code 2 (some .int) ∈ tG) (hd1 : 1 ≤ d) (hrest : (st.map fun v => v.category).sum ≤ 8) (hc : nc ≤ mc) (hs : ns ≤ ms)
    (k : Wm μ d mc ms Q (pc + 3) L (.int (if x < y then y else x) :: st) h nc ns) : Wm μ d mc ms Q pc L (.int y :: .int x :: st) h nc ns := by
  intro p l e R s m args below meth c ok H locs ls hR hS hl
  have hts := ok.2.2.2.2.2.1
  obtain ⟨r1, r2, r3, r4⟩ := ok.2.2.2.2.2.2.2.2.1
  exact va_mmax ok.1 ok.2.1 (by rw [ok.2.2.2.1]; exact hl.1.symm) ok.2.2.2.2.1 (hts _ hlk) (hts _ h1) (hts _ h2) (hts _ h3) (by omega) (by omega) (by omega) (by omega) hd (k p l e R s m args below meth c ok H locs ls hR hS hl)
theorem rl_min {x y : Int32} (hd : decode (mb μ) pc = .ok (.invokestatic idx, 3)) (hlk : Cond.methodLink (mo μ) idx Lib.Math.min.name ∈ tG) (h1 : Cond.static Lib.Math.min.name ∈ tG) (h2 : Cond.initialized "java/lang/Math" ∈ tG) (h3 : Cond.code Lib.Math.min.name Lib.Math.min.code 2 (some .int) ∈ tG) (hd1 : 1 ≤ d) (hrest : (st.map fun v => v.category).sum ≤ 8) (hc : nc ≤ mc) (hs : ns ≤ ms)
    (k : Wm μ d mc ms Q (pc + 3) L (.int (if y < x then y else x) :: st) h nc ns) : Wm μ d mc ms Q pc L (.int y :: .int x :: st) h nc ns := by
  intro p l e R s m args below meth c ok H locs ls hR hS hl
  have hts := ok.2.2.2.2.2.1
  obtain ⟨r1, r2, r3, r4⟩ := ok.2.2.2.2.2.2.2.2.1
  exact va_mmin ok.1 ok.2.1 (by rw [ok.2.2.2.1]; exact hl.1.symm) ok.2.2.2.2.1 (hts _ hlk) (hts _ h1) (hts _ h2) (hts _ h3) (by omega) (by omega) (by omega) (by omega) hd (k p l e R s m args below meth c ok H locs ls hR hS hl)
set_option maxHeartbeats 1000000 in
theorem rl_copy {sp dp n : Int32} (hd : decode (mb μ) pc = .ok (.invokestatic idx, 3)) (hlk : Cond.methodLink (mo μ) idx arraycopyName ∈ tG) (h1 : Cond.native arraycopyName ∈ tG) (h2 : Cond.static arraycopyName ∈ tG) (h3 : Cond.initialized "java/lang/System" ∈ tG) (hd1 : 1 ≤ d) (hw : nativeFrameWords "java/lang/System" "arraycopy" 5 + 19 ≤ 35) (hrest : (st.map fun v => v.category).sum ≤ 8)
    (hk0 : hpK h a0 = 1) (hk : hpK h a = 1) (g1 : ¬ sp < 0) (g2 : ¬ dp < 0) (g3 : ¬ n < 0) (g4 : sp.toNatClampNeg + n.toNatClampNeg ≤ hpN h a0) (g5 : dp.toNatClampNeg + n.toNatClampNeg ≤ hpN h a)
    (k : Wm μ d mc ms Q (pc + 3) L st (stA h a (va_cpy (hpI h a0) (hpI h a) sp.toNatClampNeg dp.toNatClampNeg n.toNatClampNeg)) nc ns) : Wm μ d mc ms Q pc L (.int n :: .int dp :: .ref a :: .int sp :: .ref a0 :: st) h nc ns := by
  intro p l e R s m args below meth c ok H locs ls hR hS hl
  have nn : ∀ z : Int32, ¬ z < 0 → z.toInt = (z.toNatClampNeg : Int) := by
    intro z hz
    have hz0 : (0 : Int) ≤ z.toInt := by
      have := Int32.not_lt.mp hz
      simpa using Int32.le_iff_toInt_le.mp this
    show z.toInt = ((z.toInt.toNat : Nat) : Int)
    omega
  have hts := ok.2.2.2.2.2.1
  obtain ⟨r1, r2, r3, r4⟩ := ok.2.2.2.2.2.2.2.2.1
  obtain ⟨z1, z2, z3, D, z4, z5⟩ := id hR
  obtain ⟨c0, q0, t0⟩ := (z5 a0).2.1 hk0
  obtain ⟨c1, q1, t1⟩ := (z5 a).2.1 hk
  intro T hT X
  obtain ⟨-, k0, hk0', cm0, hkk0⟩ := t0 (hpN h a0) (fun j => .int (hpI h a0 j))
  obtain ⟨-, k1, hk1', cm1, hkk1⟩ := t1 (hpN h a) (fun j => .int (hpI h a j))
  obtain ⟨vm', X', step⟩ := X.arraycopy ok.1 ok.2.2.2.2.1 (hts _ hlk) (hts _ h1) (hts _ h2) (hts _ h3) (src := a0) (dst := a) (cs := vp_cell c0 (hpN h a0, .inl (hpI h a0))) (cd := vp_cell c1 (hpN h a, .inl (hpI h a))) (srcPos := sp) (destPos := dp) (n := n) (by rw [hT]; exact q0) (by rw [hT]; exact q1)
    (fun _ h => by cases h) (fun _ h => by cases h) (fun h => by cases h) (fun h => by cases h) hk0' hk1' hkk0 hkk1 (by simp [refKind]) g1 g2 g3
    (by rw [nn sp g1, nn n g3]; show ¬ _ > ((arrV c0 (hpN h a0) (fun j => .int (hpI h a0 j))).slots.size : Int); rw [arrV_size]; omega)
    (by rw [nn dp g2, nn n g3]; show ¬ _ > ((arrV c1 (hpN h a) (fun j => .int (hpI h a j))).slots.size : Int); rw [arrV_size]; omega)
    (fun vm₁ _ i hi => by
      have e : (vp_cell c0 (hpN h a0, .inl (hpI h a0))).slots.getD (sp.toNatClampNeg + i) .null = .int (hpI h a0 (sp.toNatClampNeg + i)) := by
        show (arrV c0 (hpN h a0) (fun j => .int (hpI h a0 j))).slots.getD _ _ = _
        rw [Array.getD_eq_getD_getElem?, arrV_read _ _ (by omega)]
        rfl
      refine ⟨?_, ?_⟩
      · rw [e]
        rfl
      · rw [e]
        exact trivial)
    (g := F0 m pc ls (.int n :: .int dp :: .ref a :: .int sp :: .ref a0 :: st)) rfl (by rw [ok.2.2.2.1]; exact hl.1) (rest := st) rfl (by rw [ok.2.1]; exact hd) (by omega) (by show 2 * 0 + _ + _ ≤ _; omega)
  have e1 : copied (vp_cell c0 (hpN h a0, .inl (hpI h a0))) (vp_cell c1 (hpN h a, .inl (hpI h a))) sp dp n = vp_cell c1 (hpN h a, .inl (va_cpy (hpI h a0) (hpI h a) sp.toNatClampNeg dp.toNatClampNeg n.toNatClampNeg)) := va_copied (fun z => .int z) c0 c1 (hpI h a0) (hpI h a) g4
  rw [e1] at X' step
  have hla : a < H.size := (Array.getElem?_eq_some_iff.mp q1).1
  generalize hf : va_cpy (hpI h a0) (hpI h a) sp.toNatClampNeg dp.toNatClampNeg n.toNatClampNeg = f at k X' step
  have hheap : ((T.setVm vm').setCell a (vp_cell c1 (hpN h a, .inl f))).heap = H.setIfInBounds a (vp_cell c1 (hpN h a, .inl f)) := by rw [← hT]; rfl
  have oq : ∀ q : Nat, q ≠ a → (H.setIfInBounds a (vp_cell c1 (hpN h a, .inl f)))[q]? = H[q]? := fun q hq => by simp [Array.getElem?_setIfInBounds, Ne.symm hq]
  have hself : (H.setIfInBounds a (vp_cell c1 (hpN h a, .inl f)))[a]? = some (vp_cell c1 (hpN h a, .inl f)) := by simp [Array.getElem?_setIfInBounds, hla]
  have hR' : Rp (stA h a f) s (H.setIfInBounds a (vp_cell c1 (hpN h a, .inl f))) := hR.put rfl rfl rfl (fun b hb => ⟨fun j => by simp [stA, hpI, hb], fun j => rfl, fun j => rfl⟩) (by simp) oq (fun D' K' k' => by
    have ht' : hpK (stA h a f) a = 1 := hk
    refine ⟨fun _ => by simp; exact hla, fun _ => ⟨c1, ?_, t1⟩, fun q => by omega, fun q => by omega, fun cj r' h1 h2 => by omega, fun cj r' h1 h2 => by omega⟩
    rw [hself, vp_cell_i]
    show some (arrV c1 (hpN h a) _) = some (arrV c1 (hpN h a) _)
    congr 2
    funext j
    simp [stA, hpI])
  obtain ⟨t, a1, b1⟩ := k p l e R s m args below meth c ok _ _ ls hR' ⟨by simp; exact hS.1, fun q g1 g2 => by
      rw [oq q (fun e => g2 (by rw [e]; exact z3 a (by omega) (by omega)))]
      exact hS.2.1 q g1 g2, fun q hq => by
      rcases List.mem_append.mp hq with h | h
      · exact hS.2.2 q h
      · obtain ⟨z, -, hz⟩ := List.mem_map.mp h
        rw [← hz]
        exact z3 a (by omega) (by omega)⟩ hl _ hheap X'
  exact ⟨t, step t a1, b1⟩
/-! switches -/
theorem rl_lookup {dflt : Int} {ps : Array (Int × Int)} {len : Nat} {x : Int32} (hd : decode (mb μ) pc = .ok (.lookupswitch dflt ps, len)) (hp : (ps.toList.zip (ps.toList.drop 1)).all (fun (a, next) => a.1 < next.1) = true) {tgt : Nat} (ht : (pc : Int) + Op.lookupswitch.offset ps.toList dflt x.toInt = (tgt : Int)) (k : Wm μ d mc ms Q tgt L st h nc ns) : Wm μ d mc ms Q pc L (.int x :: st) h nc ns := by
  intro p l e R s m args below meth c ok H locs ls hR hS hl
  exact lv_lookup ok.1 ok.2.1 hd hp rfl ht (k p l e R s m args below meth c ok H locs ls hR hS hl)
theorem rl_tableOut {dflt lo hi : Int} {offs : Array Int} {len : Nat} {x : Int32} {tgt : Nat} (hd : decode (mb μ) pc = .ok (.tableswitch dflt lo hi offs, len)) (hx : x.toInt < lo ∨ hi < x.toInt) (ht : (pc : Int) + dflt = (tgt : Int)) (k : Wm μ d mc ms Q tgt L st h nc ns) : Wm μ d mc ms Q pc L (.int x :: st) h nc ns := by
  intro p l e R s m args below meth c ok H locs ls hR hS hl
  exact lv_tableOut ok.1 ok.2.1 hd hx ht (k p l e R s m args below meth c ok H locs ls hR hS hl)
theorem rl_tableIn {dflt lo hi : Int} {offs : Array Int} {len : Nat} {x : Int32} {off : Int} {tgt : Nat} (hd : decode (mb μ) pc = .ok (.tableswitch dflt lo hi offs, len)) (h1 : ¬ x.toInt < lo) (h2 : ¬ hi < x.toInt) (ho : offs[(x.toInt - lo).toNat]? = some off) (ht : (pc : Int) + off = (tgt : Int)) (k : Wm μ d mc ms Q tgt L st h nc ns) : Wm μ d mc ms Q pc L (.int x :: st) h nc ns := by
  intro p l e R s m args below meth c ok H locs ls hR hS hl
  exact lv_tableIn ok.1 ok.2.1 hd h1 h2 ho ht (k p l e R s m args below meth c ok H locs ls hR hS hl)
end RM

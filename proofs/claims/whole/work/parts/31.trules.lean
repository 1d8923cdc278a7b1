/-! THE RULES ON TAGGED CELLS -/
def vVw (n k w : Nat) : Prop := k < 7 ∧ (w < n ∨ (5 ≤ w ∧ w < 13))
def vRc (n k w o : Nat) : Prop := vVw n k w ∧ o < n
section TL
variable {n : Nat} {ad : Nat → Nat} {h0 : Hp}
theorem lSt {k : Nat} (L : Lay n ad h0) (v : k < 7) : cl h0 ad (gSt k) 16 0 := (L.2.2.1 k v).1.1
theorem lVa {k : Nat} (L : Lay n ad h0) (v : k < 7) : cl h0 ad (gVa k) 37 n := (L.2.2.1 k v).2.1.1
theorem lLa {k : Nat} (L : Lay n ad h0) (v : k < 7) : cl h0 ad (gLa k) 32 10 := (L.2.2.1 k v).2.1.2.1
theorem lMa {k : Nat} (L : Lay n ad h0) (v : k < 7) : cl h0 ad (gMa k) 33 8 := (L.2.2.1 k v).2.1.2.2
theorem lLn {k l : Nat} (L : Lay n ad h0) (v : k < 7 ∧ l < 10) : cl h0 ad (gLn k l) 12 0 := ((L.2.2.1 k v.1).2.2.2.1 l v.2).2
theorem lMg {k m : Nat} (L : Lay n ad h0) (v : k < 7 ∧ m < 8) : cl h0 ad (gMg k m) 13 0 := ((L.2.2.1 k v.1).2.2.2.2.1 m v.2).1
theorem lVw {k w : Nat} (L : Lay n ad h0) (v : vVw n k w) : cl h0 ad (gVw k w) 17 0 := ((L.2.2.1 k v.1).2.2.2.2.2 w v.2).1
theorem lRa {k w : Nat} (L : Lay n ad h0) (v : vVw n k w) : cl h0 ad (gRa k w) 35 n := ((L.2.2.1 k v.1).2.2.2.2.2 w v.2).2.2.1
theorem lRc {k w o : Nat} (L : Lay n ad h0) (v : vRc n k w o) : cl h0 ad (gRc k w o) 15 0 := (((L.2.2.1 k v.1.1).2.2.2.2.2 w v.1.2).2.2.2 o v.2).2.1
theorem lAr0 {k w o : Nat} (L : Lay n ad h0) (v : vRc n k w o) : cl h0 ad (gAr k w o 0) 1 2 := (((L.2.2.1 k v.1.1).2.2.2.2.2 w v.1.2).2.2.2 o v.2).2.2.1.2
theorem lAr1 {k w o : Nat} (L : Lay n ad h0) (v : vRc n k w o) : cl h0 ad (gAr k w o 1) 1 2 := (((L.2.2.1 k v.1.1).2.2.2.2.2 w v.1.2).2.2.2 o v.2).2.2.2.1.2
theorem lAr2 {k w o : Nat} (L : Lay n ad h0) (v : vRc n k w o) : cl h0 ad (gAr k w o 2) 1 10 := (((L.2.2.1 k v.1.1).2.2.2.2.2 w v.1.2).2.2.2 o v.2).2.2.2.2.1.2
theorem lAr3 {k w o : Nat} (L : Lay n ad h0) (v : vRc n k w o) : cl h0 ad (gAr k w o 3) 1 10 := (((L.2.2.1 k v.1.1).2.2.2.2.2 w v.1.2).2.2.2 o v.2).2.2.2.2.2.2
theorem rStV {k : Nat} (L : Lay n ad h0) (v : k < 7) : rf h0 ad (gSt k) 7 (gVa k) := (L.2.2.1 k v).1.2.1
theorem rStL {k : Nat} (L : Lay n ad h0) (v : k < 7) : rf h0 ad (gSt k) 8 (gLa k) := (L.2.2.1 k v).1.2.2.1
theorem rStM {k : Nat} (L : Lay n ad h0) (v : k < 7) : rf h0 ad (gSt k) 9 (gMa k) := (L.2.2.1 k v).1.2.2.2
theorem rVa {k s : Nat} (L : Lay n ad h0) (v : k < 7) (w : s < n) : rf h0 ad (gVa k) s (gVw k s) := (L.2.2.1 k v).2.2.1 s w
theorem rLa {k l : Nat} (L : Lay n ad h0) (v : k < 7) (w : l < 10) : rf h0 ad (gLa k) l (gLn k l) := ((L.2.2.1 k v).2.2.2.1 l w).1
theorem rMg {k m : Nat} (L : Lay n ad h0) (v : k < 7 ∧ m < 8) : rf h0 ad (gMg k m) 3 (gVw k (5 + m)) := ((L.2.2.1 k v.1).2.2.2.2.1 m v.2).2
theorem rVw {k w : Nat} (L : Lay n ad h0) (v : vVw n k w) : rf h0 ad (gVw k w) 0 (gRa k w) := ((L.2.2.1 k v.1).2.2.2.2.2 w v.2).2.1
theorem rRa {k w o : Nat} (L : Lay n ad h0) (v : vVw n k w) (ho : o < n) : rf h0 ad (gRa k w) o (gRc k w o) := (((L.2.2.1 k v.1).2.2.2.2.2 w v.2).2.2.2 o ho).1
theorem rRc2 {k w o : Nat} (L : Lay n ad h0) (v : vRc n k w o) : rf h0 ad (gRc k w o) 2 (gAr k w o 0) := (((L.2.2.1 k v.1.1).2.2.2.2.2 w v.1.2).2.2.2 o v.2).2.2.1.1
theorem rRc3 {k w o : Nat} (L : Lay n ad h0) (v : vRc n k w o) : rf h0 ad (gRc k w o) 3 (gAr k w o 1) := (((L.2.2.1 k v.1.1).2.2.2.2.2 w v.1.2).2.2.2 o v.2).2.2.2.1.1
theorem rRc4 {k w o : Nat} (L : Lay n ad h0) (v : vRc n k w o) : rf h0 ad (gRc k w o) 4 (gAr k w o 2) := (((L.2.2.1 k v.1.1).2.2.2.2.2 w v.1.2).2.2.2 o v.2).2.2.2.2.1.1
theorem rRc6 {k w o : Nat} (L : Lay n ad h0) (v : vRc n k w o) : rf h0 ad (gRc k w o) 6 (gAr k w o 3) := (((L.2.2.1 k v.1.1).2.2.2.2.2 w v.1.2).2.2.2 o v.2).2.2.2.2.2.1
theorem lEc (L : Lay n ad h0) : cl h0 ad gEc 18 0 := L.2.2.2.2.1.1
theorem lHi (L : Lay n ad h0) : cl h0 ad gHi 11 0 := L.2.2.2.2.2.1.1
theorem lRi (L : Lay n ad h0) : cl h0 ad gRi 36 6 := L.2.2.2.2.2.1.2.2.1
theorem lSc (L : Lay n ad h0) : cl h0 ad gSc 14 0 := L.2.2.2.2.2.2.1
theorem lSg (L : Lay n ad h0) : cl h0 ad gSg 1 60 := L.2.2.2.2.2.2.2.2.1
theorem lCa (L : Lay n ad h0) : cl h0 ad gCa 30 30 := L.2.2.2.2.2.2.2.2.2.2.1
theorem lCm {i : Nat} (L : Lay n ad h0) (v : i < 30) : cl h0 ad (gCm i) 10 0 := (L.2.2.2.2.2.2.2.2.2.2.2 i v).2
theorem rEc1 (L : Lay n ad h0) : rf h0 ad gEc 1 (gSt 0) := L.2.2.2.2.1.2.1
theorem rEc2 (L : Lay n ad h0) : rf h0 ad gEc 2 gHi := L.2.2.2.2.1.2.2.1
theorem rEc3 (L : Lay n ad h0) : rf h0 ad gEc 3 gSc := L.2.2.2.2.1.2.2.2
theorem rHi (L : Lay n ad h0) : rf h0 ad gHi 0 gRi := L.2.2.2.2.2.1.2.1
theorem rRi {i : Nat} (L : Lay n ad h0) (v : i < 6) : rf h0 ad gRi i (gSt (1 + i)) := L.2.2.2.2.2.1.2.2.2 i v
theorem rSc0 (L : Lay n ad h0) : rf h0 ad gSc 0 gSg := L.2.2.2.2.2.2.2.1
theorem rSc1 (L : Lay n ad h0) : rf h0 ad gSc 1 gCa := L.2.2.2.2.2.2.2.2.2.1
theorem rCa {i : Nat} (L : Lay n ad h0) (v : i < 30) : rf h0 ad gCa i (gCm i) := (L.2.2.2.2.2.2.2.2.2.2.2 i v).1
theorem lMo0 (L : Lay n ad h0) : cl h0 ad (gMo 0) 19 0 := L.2.2.2.1.1
theorem lMo1 (L : Lay n ad h0) : cl h0 ad (gMo 1) 1 2400 := L.2.2.2.1.2.1.2
theorem lMo2 (L : Lay n ad h0) : cl h0 ad (gMo 2) 1 12000 := L.2.2.2.1.2.2.1.2
theorem lMo3 (L : Lay n ad h0) : cl h0 ad (gMo 3) 1 2400 := L.2.2.2.1.2.2.2.1.2
theorem lMo4 (L : Lay n ad h0) : cl h0 ad (gMo 4) 1 60 := L.2.2.2.1.2.2.2.2.1.2
theorem lMo5 (L : Lay n ad h0) : cl h0 ad (gMo 5) 1 60 := L.2.2.2.1.2.2.2.2.2.1.2
theorem lMo6 (L : Lay n ad h0) : cl h0 ad (gMo 6) 1 60 := L.2.2.2.1.2.2.2.2.2.2.1.2
theorem lMo7 (L : Lay n ad h0) : cl h0 ad (gMo 7) 1 60 := L.2.2.2.1.2.2.2.2.2.2.2.1.2
theorem lMo8 (L : Lay n ad h0) : cl h0 ad (gMo 8) 1 60 := L.2.2.2.1.2.2.2.2.2.2.2.2.2
theorem rMo1 (L : Lay n ad h0) : rf h0 ad (gMo 0) 1 (gMo 1) := L.2.2.2.1.2.1.1
theorem rMo2 (L : Lay n ad h0) : rf h0 ad (gMo 0) 2 (gMo 2) := L.2.2.2.1.2.2.1.1
theorem rMo3 (L : Lay n ad h0) : rf h0 ad (gMo 0) 3 (gMo 3) := L.2.2.2.1.2.2.2.1.1
theorem rMo5 (L : Lay n ad h0) : rf h0 ad (gMo 0) 5 (gMo 4) := L.2.2.2.1.2.2.2.2.1.1
theorem rMo10 (L : Lay n ad h0) : rf h0 ad (gMo 0) 10 (gMo 5) := L.2.2.2.1.2.2.2.2.2.1.1
theorem rMo11 (L : Lay n ad h0) : rf h0 ad (gMo 0) 11 (gMo 6) := L.2.2.2.1.2.2.2.2.2.2.1.1
theorem rMo12 (L : Lay n ad h0) : rf h0 ad (gMo 0) 12 (gMo 7) := L.2.2.2.1.2.2.2.2.2.2.2.1.1
theorem rMo13 (L : Lay n ad h0) : rf h0 ad (gMo 0) 13 (gMo 8) := L.2.2.2.1.2.2.2.2.2.2.2.2.1
theorem lay5 (L : Lay n ad h0) : n < 2 ^ 31 := by have := L.1; omega
end TL
section TR
variable {n : Nat} {ad : Nat → Nat} {h0 : Hp} {cs : Nat → Nat → Int32} {pm : Nat → Nat → Nat} {g len : Nat}
variable {μ : Mi} {d mc ms : Nat} {Q : Nat → Option Value → Hp → Prop} {pc : Nat} {L9 : List (Option Value)} {st : List Value} {nc ns : Nat} {ci k idx : Nat} {C : String} {T : u_T} {N : Nat}
theorem rt_getI (cf : Clf ci C T N) (hd : decode (mb μ) pc = .ok (.getfield idx, 3)) (hlk : Cond.fieldLink (mo μ) idx (T k).1 (T k).2.1 (T k).2.2.1 ∈ tG) (hk : k < N) (hr : frf ci k = false) (c : cl h0 ad g (10 + ci) len) (hg : g ≠ 0) (kk : Wm μ d mc ms Q (pc + 3) L9 (.int (cs g k) :: st) (HN h0 ad cs pm) nc ns) : Wm μ d mc ms Q pc L9 (.ref (ad g) :: st) (HN h0 ad cs pm) nc ns := by
  refine rl_getI cf hd hlk hk hr c.K ?_
  rw [c.I hg]
  exact kk
theorem rt_getP {g' : Nat} (cf : Clf ci C T N) (hd : decode (mb μ) pc = .ok (.getfield idx, 3)) (hlk : Cond.fieldLink (mo μ) idx (T k).1 (T k).2.1 (T k).2.2.1 ∈ tG) (hk : k < N) (hr : frf ci k = true) (c : cl h0 ad g (10 + ci) len) (r : rf h0 ad g k g') (hg : ¬ (g % 10000 = 4 ∧ g < 70000)) (kk : Wm μ d mc ms Q (pc + 3) L9 (.ref (ad g') :: st) (HN h0 ad cs pm) nc ns) : Wm μ d mc ms Q pc L9 (.ref (ad g) :: st) (HN h0 ad cs pm) nc ns :=
  rl_getP cf hd hlk hk hr c.K (r.P c hg) kk
theorem rt_putI {x : Int32} (hu : ∀ b, tgO h0 b ≠ 0 → ad (tgO h0 b) = b) (cf : Clf ci C T N) (hd : decode (mb μ) pc = .ok (.putfield idx, 3)) (hlk : Cond.fieldLink (mo μ) idx (T k).1 (T k).2.1 (T k).2.2.1 ∈ tG) (hk : k < N) (hr : frf ci k = false) (c : cl h0 ad g (10 + ci) len) (hg : g ≠ 0) (hfin : (T k).2.2.2 = false ∨ ((my μ).name = "<init>" ∧ (T k).1 = mo μ)) (kk : Wm μ d mc ms Q (pc + 3) L9 st (HN h0 ad (up2 cs g k x) pm) nc ns) : Wm μ d mc ms Q pc L9 (.int x :: .ref (ad g) :: st) (HN h0 ad cs pm) nc ns := by
  refine rl_putI cf hd hlk hk hr c.K hfin ?_
  rw [HN_stI hu c hg]
  exact kk
theorem rt_iald {x : Int32} {j : Nat} (hd : decode (mb μ) pc = .ok (.iaload, 1)) (c : cl h0 ad g 1 len) (hg : g ≠ 0) (hx : x = nI j) (hj : j < len) (hl : len < 2 ^ 31) (kk : Wm μ d mc ms Q (pc + 1) L9 (.int (cs g j) :: st) (HN h0 ad cs pm) nc ns) : Wm μ d mc ms Q pc L9 (.int x :: .ref (ad g) :: st) (HN h0 ad cs pm) nc ns := by
  subst hx
  refine rl_iald hd (Or.inl c.K) (c.in (vp_in_nI hj hl)) ?_
  rw [c.I hg, nI_clamp (by omega)]
  exact kk
theorem rt_iast {x y : Int32} {j : Nat} (hu : ∀ b, tgO h0 b ≠ 0 → ad (tgO h0 b) = b) (hd : decode (mb μ) pc = .ok (.iastore, 1)) (c : cl h0 ad g 1 len) (hg : g ≠ 0) (hx : x = nI j) (hj : j < len) (hl : len < 2 ^ 31) (kk : Wm μ d mc ms Q (pc + 1) L9 st (HN h0 ad (up2 cs g j y) pm) nc ns) : Wm μ d mc ms Q pc L9 (.int y :: .int x :: .ref (ad g) :: st) (HN h0 ad cs pm) nc ns := by
  subst hx
  refine rl_iast hd c.K (c.in (vp_in_nI hj hl)) ?_
  rw [nI_clamp (by omega), HN_stI hu c hg]
  exact kk
theorem rt_aald {x : Int32} {j g' : Nat} {r9 : vw_C} (hd : decode (mb μ) pc = .ok (.aaload, 1)) (hc : Cls[ci]? = some r9) (c : cl h0 ad g (30 + ci) len) (hx : x = nI j) (hj : j < len) (hl : len < 2 ^ 31) (r : rf h0 ad g j g') (hg : ¬ (g % 10000 = 4 ∧ g < 70000)) (kk : Wm μ d mc ms Q (pc + 1) L9 (.ref (ad g') :: st) (HN h0 ad cs pm) nc ns) : Wm μ d mc ms Q pc L9 (.int x :: .ref (ad g) :: st) (HN h0 ad cs pm) nc ns := by
  subst hx
  refine rl_aald hd hc c.K (c.in (vp_in_nI hj hl)) ?_ kk
  rw [nI_clamp (by omega)]
  exact r.P c hg
theorem gMa_k {k : Nat} (h : k < 7) : gMa k % 10000 = 4 ∧ gMa k < 70000 ∧ gMa k / 10000 = k := by unfold gMa; omega
theorem HN_Ma {j : Nat} (L : Lay n ad h0) (v : k < 7) : hpP (HN h0 ad cs pm) (ad (gMa k)) j = some (ad (gMg k (pm k j))) := by
  show (if tgO h0 (ad (gMa k)) % 10000 = 4 ∧ tgO h0 (ad (gMa k)) < 70000 then some (ad (gMg (tgO h0 (ad (gMa k)) / 10000) (pm (tgO h0 (ad (gMa k)) / 10000) j))) else _) = _
  obtain ⟨e1, e2, e3⟩ := gMa_k v
  rw [(lMa L v).tag, if_pos ⟨e1, e2⟩, e3]
theorem rt_aaldM {x : Int32} {j : Nat} (L : Lay n ad h0) (hd : decode (mb μ) pc = .ok (.aaload, 1)) (v : k < 7) (hx : x = nI j) (hj : j < 8) (kk : Wm μ d mc ms Q (pc + 1) L9 (.ref (ad (gMg k (pm k j))) :: st) (HN h0 ad cs pm) nc ns) : Wm μ d mc ms Q pc L9 (.int x :: .ref (ad (gMa k)) :: st) (HN h0 ad cs pm) nc ns := by
  subst hx
  refine rl_aald (ci := 3) hd rfl (lMa L v).K ((lMa L v).in (vp_in_nI hj (by decide))) ?_ kk
  rw [nI_clamp (by omega)]
  exact HN_Ma L v
theorem HN_stP {j m : Nat} (L : Lay n ad h0) (v : k < 7) : stP (HN h0 ad cs pm) (ad (gMa k)) j (some (ad (gMg k m))) = HN h0 ad cs (up2 pm k j m) := by
  unfold stP HN
  refine Prod.ext rfl (Prod.ext ?_ rfl)
  funext b i
  show up2 (fun b j => if tgO h0 b % 10000 = 4 ∧ tgO h0 b < 70000 then some (ad (gMg (tgO h0 b / 10000) (pm (tgO h0 b / 10000) j))) else hpP h0 b j) (ad (gMa k)) j (some (ad (gMg k m))) b i = (if tgO h0 b % 10000 = 4 ∧ tgO h0 b < 70000 then some (ad (gMg (tgO h0 b / 10000) (up2 pm k j m (tgO h0 b / 10000) i))) else hpP h0 b i)
  have ht := (lMa L v).tag
  obtain ⟨e1, e2, e3⟩ := gMa_k v
  by_cases hb : b = ad (gMa k)
  · subst hb
    by_cases hi : i = j
    · subst hi
      simp [up2, ht, e1, e2, e3]
    · simp [up2, ht, e1, e2, e3, hi]
  · have hne : tgO h0 b ≠ gMa k := fun e => hb (by rw [← e, L.2.1 b (by rw [e]; unfold gMa; omega)])
    simp only [up2, hb, false_and, if_false]
    by_cases hq : tgO h0 b % 10000 = 4 ∧ tgO h0 b < 70000
    · rw [if_pos hq, if_pos hq]
      have hk : tgO h0 b / 10000 ≠ k := fun e => hne (by unfold gMa; omega)
      simp [hk]
    · rw [if_neg hq, if_neg hq]
theorem rt_aastM {x : Int32} {j m : Nat} (L : Lay n ad h0) (hd : decode (mb μ) pc = .ok (.aastore, 1)) (v : k < 7) (hm : m < 8) (hx : x = nI j) (hj : j < 8) (kk : Wm μ d mc ms Q (pc + 1) L9 st (HN h0 ad cs (up2 pm k j m)) nc ns) : Wm μ d mc ms Q pc L9 (.ref (ad (gMg k m)) :: .int x :: .ref (ad (gMa k)) :: st) (HN h0 ad cs pm) nc ns := by
  subst hx
  refine rl_aast (ci := 3) hd rfl (lMa L v).K ((lMa L v).in (vp_in_nI hj (by decide))) (lMg L ⟨v, hm⟩).K ?_
  rw [nI_clamp (by omega), HN_stP L v]
  exact kk
theorem rt_alen {r9 : vw_C} (hd : decode (mb μ) pc = .ok (.arraylength, 1)) (c : cl h0 ad g (30 + ci) len) (hc : Cls[ci]? = some r9) (kk : Wm μ d mc ms Q (pc + 1) L9 (.int (nI len) :: st) (HN h0 ad cs pm) nc ns) : Wm μ d mc ms Q pc L9 (.ref (ad g) :: st) (HN h0 ad cs pm) nc ns :=
  rl_alen hd (Or.inr (Or.inr ⟨ci, r9, hc, c.K⟩)) (by rw [c.N]) kk
theorem rt_alenI (hd : decode (mb μ) pc = .ok (.arraylength, 1)) (c : cl h0 ad g 1 len) (kk : Wm μ d mc ms Q (pc + 1) L9 (.int (nI len) :: st) (HN h0 ad cs pm) nc ns) : Wm μ d mc ms Q pc L9 (.ref (ad g) :: st) (HN h0 ad cs pm) nc ns :=
  rl_alen hd (Or.inl c.K) (by rw [c.N]) kk
/-- arraycopy of a whole row onto a row of the same length -/
theorem rt_copy {g0 : Nat} {x : Int32} (hu : ∀ b, tgO h0 b ≠ 0 → ad (tgO h0 b) = b) (hd : decode (mb μ) pc = .ok (.invokestatic idx, 3)) (hlk : Cond.methodLink (mo μ) idx arraycopyName ∈ tG) (hd1 : 1 ≤ d) (hrest : (st.map fun v => v.category).sum ≤ 8) (c0 : cl h0 ad g0 1 len) (c : cl h0 ad g 1 len) (hg0 : g0 ≠ 0) (hg : g ≠ 0) (hx : x = nI len) (hl : len < 2 ^ 31)
    (h1 : Cond.native arraycopyName ∈ tG) (h2 : Cond.static arraycopyName ∈ tG) (h3 : Cond.initialized "java/lang/System" ∈ tG)
    (kk : Wm μ d mc ms Q (pc + 3) L9 st (HN h0 ad (seR cs g (fun j => if j < len then cs g0 j else cs g j)) pm) nc ns) : Wm μ d mc ms Q pc L9 (.int x :: .int (nI 0) :: .ref (ad g) :: .int (nI 0) :: .ref (ad g0) :: st) (HN h0 ad cs pm) nc ns := by
  subst hx
  have e0 : (nI 0).toNatClampNeg = 0 := by decide
  refine rl_copy hd hlk h1 h2 h3 hd1 (by decide) hrest c0.K c.K (by decide) (by decide) (nI_pos hl) (by rw [e0, nI_clamp hl, c0.N]; omega) (by rw [e0, nI_clamp hl, c.N]; omega) ?_
  rw [HN_stA hu c hg, c0.I hg0, c.I hg, e0, nI_clamp hl]
  have : va_cpy (cs g0) (cs g) 0 0 len = fun j => if j < len then cs g0 j else cs g j := by
    funext j
    by_cases hj : j < len
    · rw [pk_cpy_in (Nat.zero_le j) (by omega)]
      simp [hj]
    · rw [pk_cpy_out (Or.inr (by omega))]
      simp [hj]
  rw [this]
  exact kk
end TR

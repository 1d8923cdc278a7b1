theorem vMV {n k m : Nat} (v : k < 7 ∧ m < 8) : vVw n k (5 + m) := ⟨v.1, Or.inr ⟨by omega, by omega⟩⟩
theorem nzSt {k : Nat} : gSt k ≠ 0 := by unfold gSt; omega
theorem nzVa {k : Nat} : gVa k ≠ 0 := by unfold gVa; omega
theorem nzLa {k : Nat} : gLa k ≠ 0 := by unfold gLa; omega
theorem nzMa {k : Nat} : gMa k ≠ 0 := by unfold gMa; omega
theorem nzLn {k l : Nat} : gLn k l ≠ 0 := by unfold gLn; omega
theorem nzMg {k m : Nat} : gMg k m ≠ 0 := by unfold gMg; omega
theorem nzVw {k w : Nat} : gVw k w ≠ 0 := by unfold gVw; omega
theorem nzRa {k w : Nat} : gRa k w ≠ 0 := by unfold gRa; omega
theorem nzRc {k w o : Nat} : gRc k w o ≠ 0 := by unfold gRc; omega
theorem nzAr {k w o t : Nat} : gAr k w o t ≠ 0 := by unfold gAr; omega
theorem nzEc : gEc ≠ 0 := by decide
theorem nzHi : gHi ≠ 0 := by decide
theorem nzRi : gRi ≠ 0 := by decide
theorem nzSc : gSc ≠ 0 := by decide
theorem nzSg : gSg ≠ 0 := by decide
theorem nzCa : gCa ≠ 0 := by decide
theorem nzCm {i : Nat} : gCm i ≠ 0 := by unfold gCm; omega
theorem nzMo {c : Nat} : gMo c ≠ 0 := by unfold gMo; omega
theorem naSt {k : Nat} : ¬ (gSt k % 10000 = 4 ∧ gSt k < 70000) := by unfold gSt; omega
theorem naVa {k : Nat} : ¬ (gVa k % 10000 = 4 ∧ gVa k < 70000) := by unfold gVa; omega
theorem naLa {k : Nat} : ¬ (gLa k % 10000 = 4 ∧ gLa k < 70000) := by unfold gLa; omega
theorem naEc : ¬ (gEc % 10000 = 4 ∧ gEc < 70000) := by decide
theorem naHi : ¬ (gHi % 10000 = 4 ∧ gHi < 70000) := by decide
theorem naRi : ¬ (gRi % 10000 = 4 ∧ gRi < 70000) := by decide
theorem naSc : ¬ (gSc % 10000 = 4 ∧ gSc < 70000) := by decide
theorem naCa : ¬ (gCa % 10000 = 4 ∧ gCa < 70000) := by decide
theorem naMo {c : Nat} : ¬ (gMo c % 10000 = 4 ∧ gMo c < 70000) := by unfold gMo; omega
theorem naMgg {k m : Nat} (v : k < 7 ∧ m < 8) : ¬ (gMg k m % 10000 = 4 ∧ gMg k m < 70000) := by obtain ⟨v1, v2⟩ := v; unfold gMg; omega
section NA
variable {n : Nat} {ad : Nat → Nat} {h0 : Hp} {k w o t : Nat}
theorem naVw (L : Lay n ad h0) (v : vVw n k w) : ¬ (gVw k w % 10000 = 4 ∧ gVw k w < 70000) := by
  have h1 := L.1; obtain ⟨v1, v2⟩ := v; unfold gVw; omega
theorem naRa (L : Lay n ad h0) (v : vVw n k w) : ¬ (gRa k w % 10000 = 4 ∧ gRa k w < 70000) := by
  have h1 := L.1; obtain ⟨v1, v2⟩ := v; unfold gRa; omega
theorem naRc (L : Lay n ad h0) (v : vRc n k w o) : ¬ (gRc k w o % 10000 = 4 ∧ gRc k w o < 70000) := by
  have h1 := L.1; obtain ⟨⟨v1, v2⟩, v3⟩ := v; unfold gRc; omega
end NA
section TV
variable {n : Nat} {ad : Nat → Nat} {h0 : Hp} {cs : Nat → Nat → Int32} {pm : Nat → Nat → Nat} {g len : Nat}
variable {μ : Mi} {d mc ms : Nat} {Q : Nat → Option Value → Hp → Prop} {pc : Nat} {L9 : List (Option Value)} {st : List Value} {nc ns : Nat} {ci k idx : Nat} {C : String} {T : u_T} {N : Nat}
theorem rt_getIv {x : Int32} (cf : Clf ci C T N) (hd : decode (mb μ) pc = .ok (.getfield idx, 3)) (hlk : Cond.fieldLink (mo μ) idx (T k).1 (T k).2.1 (T k).2.2.1 ∈ tG) (hk : k < N) (hr : frf ci k = false) (c : cl h0 ad g (10 + ci) len) (hg : g ≠ 0) (hv : cs g k = x) (kk : Wm μ d mc ms Q (pc + 3) L9 (.int x :: st) (HN h0 ad cs pm) nc ns) : Wm μ d mc ms Q pc L9 (.ref (ad g) :: st) (HN h0 ad cs pm) nc ns := by
  subst hv
  exact rt_getI cf hd hlk hk hr c hg kk
theorem rt_ialdv {x y : Int32} {j : Nat} (hd : decode (mb μ) pc = .ok (.iaload, 1)) (c : cl h0 ad g 1 len) (hg : g ≠ 0) (hx : x = nI j) (hj : j < len) (hl : len < 2 ^ 31) (hv : cs g j = y) (kk : Wm μ d mc ms Q (pc + 1) L9 (.int y :: st) (HN h0 ad cs pm) nc ns) : Wm μ d mc ms Q pc L9 (.int x :: .ref (ad g) :: st) (HN h0 ad cs pm) nc ns := by
  subst hv
  exact rt_iald hd c hg hx hj hl kk
end TV

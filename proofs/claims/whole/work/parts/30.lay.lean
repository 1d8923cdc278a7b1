/-! THE LAYOUT: every cell of the class and of the reference has a tag; ad gives its address; the ints of all tagged cells are one function cs of tag and place; pm k j is which message object stands at place j of state k -/
def gSt (k : Nat) : Nat := 10000 * k + 1
def gVa (k : Nat) : Nat := 10000 * k + 2
def gLa (k : Nat) : Nat := 10000 * k + 3
def gMa (k : Nat) : Nat := 10000 * k + 4
def gLn (k l : Nat) : Nat := 10000 * k + 10 + l
def gMg (k m : Nat) : Nat := 10000 * k + 20 + m
def gVw (k w : Nat) : Nat := 10000 * k + 100 + w
def gRa (k w : Nat) : Nat := 10000 * k + 200 + w
def gRc (k w o : Nat) : Nat := 10000 * k + 1000 + 10 * w + o
def gAr (k w o t : Nat) : Nat := 10000 * k + 2000 + 100 * w + 10 * o + t
def gEc : Nat := 80000
def gHi : Nat := 80001
def gRi : Nat := 80002
def gSc : Nat := 80003
def gSg : Nat := 80004
def gCa : Nat := 80005
def gCm (i : Nat) : Nat := 80100 + i
def gMo (c : Nat) : Nat := 90000 + c
def tgO (h : Hp) (a : Nat) : Nat := (hpT h a).2.2
noncomputable def HN (h0 : Hp) (ad : Nat → Nat) (cs : Nat → Nat → Int32) (pm : Nat → Nat → Nat) : Hp :=
  ((fun b j => if tgO h0 b = 0 then hpI h0 b j else cs (tgO h0 b) j),
   (fun b j => if tgO h0 b % 10000 = 4 ∧ tgO h0 b < 70000 then some (ad (gMg (tgO h0 b / 10000) (pm (tgO h0 b / 10000) j))) else hpP h0 b j), h0.2.2)
/-- a cell: its kind, its length -/
def cl (h0 : Hp) (ad : Nat → Nat) (g kd n : Nat) : Prop := hpT h0 (ad g) = (kd, n, g)
/-- a reference in a cell -/
def rf (h0 : Hp) (ad : Nat → Nat) (g j g' : Nat) : Prop := hpP h0 (ad g) j = some (ad g')
def LaySt (n : Nat) (ad : Nat → Nat) (h0 : Hp) (k : Nat) : Prop :=
  (cl h0 ad (gSt k) 16 0 ∧ rf h0 ad (gSt k) 7 (gVa k) ∧ rf h0 ad (gSt k) 8 (gLa k) ∧ rf h0 ad (gSt k) 9 (gMa k)) ∧
  (cl h0 ad (gVa k) 37 n ∧ cl h0 ad (gLa k) 32 10 ∧ cl h0 ad (gMa k) 33 8) ∧
  (∀ s, s < n → rf h0 ad (gVa k) s (gVw k s)) ∧
  (∀ l, l < 10 → rf h0 ad (gLa k) l (gLn k l) ∧ cl h0 ad (gLn k l) 12 0) ∧
  (∀ m, m < 8 → cl h0 ad (gMg k m) 13 0 ∧ rf h0 ad (gMg k m) 3 (gVw k (5 + m))) ∧
  (∀ w, (w < n ∨ (5 ≤ w ∧ w < 13)) → cl h0 ad (gVw k w) 17 0 ∧ rf h0 ad (gVw k w) 0 (gRa k w) ∧ cl h0 ad (gRa k w) 35 n ∧
    ∀ o, o < n → rf h0 ad (gRa k w) o (gRc k w o) ∧ cl h0 ad (gRc k w o) 15 0 ∧ (rf h0 ad (gRc k w o) 2 (gAr k w o 0) ∧ cl h0 ad (gAr k w o 0) 1 2) ∧ (rf h0 ad (gRc k w o) 3 (gAr k w o 1) ∧ cl h0 ad (gAr k w o 1) 1 2) ∧
      (rf h0 ad (gRc k w o) 4 (gAr k w o 2) ∧ cl h0 ad (gAr k w o 2) 1 10) ∧ (rf h0 ad (gRc k w o) 6 (gAr k w o 3) ∧ cl h0 ad (gAr k w o 3) 1 10))
def LayMo (ad : Nat → Nat) (h0 : Hp) : Prop :=
  cl h0 ad (gMo 0) 19 0 ∧ (rf h0 ad (gMo 0) 1 (gMo 1) ∧ cl h0 ad (gMo 1) 1 2400) ∧ (rf h0 ad (gMo 0) 2 (gMo 2) ∧ cl h0 ad (gMo 2) 1 12000) ∧ (rf h0 ad (gMo 0) 3 (gMo 3) ∧ cl h0 ad (gMo 3) 1 2400) ∧
  (rf h0 ad (gMo 0) 5 (gMo 4) ∧ cl h0 ad (gMo 4) 1 60) ∧ (rf h0 ad (gMo 0) 10 (gMo 5) ∧ cl h0 ad (gMo 5) 1 60) ∧ (rf h0 ad (gMo 0) 11 (gMo 6) ∧ cl h0 ad (gMo 6) 1 60) ∧ (rf h0 ad (gMo 0) 12 (gMo 7) ∧ cl h0 ad (gMo 7) 1 60) ∧ (rf h0 ad (gMo 0) 13 (gMo 8) ∧ cl h0 ad (gMo 8) 1 60)
def LayEc (ad : Nat → Nat) (h0 : Hp) : Prop :=
  (cl h0 ad gEc 18 0 ∧ rf h0 ad gEc 1 (gSt 0) ∧ rf h0 ad gEc 2 gHi ∧ rf h0 ad gEc 3 gSc) ∧ (cl h0 ad gHi 11 0 ∧ rf h0 ad gHi 0 gRi ∧ cl h0 ad gRi 36 6 ∧ ∀ i, i < 6 → rf h0 ad gRi i (gSt (1 + i))) ∧
  (cl h0 ad gSc 14 0 ∧ rf h0 ad gSc 0 gSg ∧ cl h0 ad gSg 1 60 ∧ rf h0 ad gSc 1 gCa ∧ cl h0 ad gCa 30 30 ∧ ∀ i, i < 30 → rf h0 ad gCa i (gCm i) ∧ cl h0 ad (gCm i) 10 0)
/-- tags are names: a tagged cell is where ad says -/
def Lay (n : Nat) (ad : Nat → Nat) (h0 : Hp) : Prop := (2 ≤ n ∧ n ≤ 5) ∧ (∀ b, tgO h0 b ≠ 0 → ad (tgO h0 b) = b) ∧ (∀ k, k < 7 → LaySt n ad h0 k) ∧ LayMo ad h0 ∧ LayEc ad h0
section LY
variable {n : Nat} {ad : Nat → Nat} {h0 : Hp} {cs : Nat → Nat → Int32} {pm : Nat → Nat → Nat} {g j kd len : Nat}
theorem cl.K (c : cl h0 ad g kd len) : hpK (HN h0 ad cs pm) (ad g) = kd := by
  show (hpT h0 (ad g)).1 = kd
  rw [c]
theorem cl.N (c : cl h0 ad g kd len) : hpN (HN h0 ad cs pm) (ad g) = len := by
  show (hpT h0 (ad g)).2.1 = len
  rw [c]
theorem cl.tag (c : cl h0 ad g kd len) : tgO h0 (ad g) = g := by
  show (hpT h0 (ad g)).2.2 = g
  rw [c]
theorem cl.I (c : cl h0 ad g kd len) (hg : g ≠ 0) : hpI (HN h0 ad cs pm) (ad g) = cs g := by
  funext j
  show (if tgO h0 (ad g) = 0 then _ else cs (tgO h0 (ad g)) j) = _
  rw [c.tag, if_neg hg]
theorem rf.P {g' : Nat} (r : rf h0 ad g j g') (c : cl h0 ad g kd len) (hg : ¬ (g % 10000 = 4 ∧ g < 70000)) : hpP (HN h0 ad cs pm) (ad g) j = some (ad g') := by
  show (if tgO h0 (ad g) % 10000 = 4 ∧ tgO h0 (ad g) < 70000 then _ else hpP h0 (ad g) j) = _
  rw [c.tag, if_neg hg]
  exact r
theorem cl.in (c : cl h0 ad g kd len) {x : Int32} (h : vp_in x len) : vp_in x (hpN (HN h0 ad cs pm) (ad g)) := by
  rw [c.N]; exact h
theorem HN_stI (hu : ∀ b, tgO h0 b ≠ 0 → ad (tgO h0 b) = b) (c : cl h0 ad g kd len) (hg : g ≠ 0) (x : Int32) : stI (HN h0 ad cs pm) (ad g) j x = HN h0 ad (up2 cs g j x) pm := by
  unfold stI HN
  refine congrArg (fun f => (f, _)) ?_
  funext b i
  have ht := c.tag
  by_cases hb : b = ad g
  · subst hb
    simp [up2, ht, hg]
  · have hne : tgO h0 b ≠ g := fun e => hb (by rw [← e, hu b (by rw [e]; exact hg)])
    simp [up2, hb, hne]
/-- one cell's ints anew -/
def seR (cs : Nat → Nat → Int32) (g : Nat) (f : Nat → Int32) : Nat → Nat → Int32 := fun g' j => if g' = g then f j else cs g' j
theorem seR_s {f : Nat → Int32} : seR cs g f g = f := by funext j; simp [seR]
theorem seR_n {f : Nat → Int32} {g' : Nat} (h : g' ≠ g) : seR cs g f g' = cs g' := by funext j; simp [seR, h]
theorem seR_seR {f f' : Nat → Int32} : seR (seR cs g f) g f' = seR cs g f' := by funext g' j; by_cases h : g' = g <;> simp [seR, h]
theorem up2_seR {x : Int32} : up2 cs g j x = seR cs g (upd (cs g) j x) := by
  funext g' i
  by_cases h : g' = g
  · subst h
    by_cases h2 : i = j <;> simp [up2, seR, upd, h2]
  · simp [up2, seR, h]
theorem HN_stA (hu : ∀ b, tgO h0 b ≠ 0 → ad (tgO h0 b) = b) (c : cl h0 ad g kd len) (hg : g ≠ 0) (f : Nat → Int32) : stA (HN h0 ad cs pm) (ad g) f = HN h0 ad (seR cs g f) pm := by
  unfold stA HN
  refine congrArg (fun f => (f, _)) ?_
  funext b i
  have ht := c.tag
  by_cases hb : b = ad g
  · subst hb
    simp [seR, ht, hg]
  · have hne : tgO h0 b ≠ g := fun e => hb (by rw [← e, hu b (by rw [e]; exact hg)])
    simp [seR, hb, hne, hpI]
end LY

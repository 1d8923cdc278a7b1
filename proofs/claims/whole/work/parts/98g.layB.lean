/-! THE LAW: from its entry to its loop -/
section LYB
variable {hb h hm : Hp} {n k w o a b j Ln a0 : Nat} {U : Nat → Prop} {xs : Nat → Int32} {Q : Nat → Option Value → Hp → Prop}
theorem Wm_eqv {μ : Mi} {d mc ms pc nc ns : Nat} {L : List (Option Value)} {st : List Value} {h' : Hp} (hB : hpB h' = hpB h) (hR : ∀ s H, Rp h s H → Rp h' s H) (w : Wm μ d mc ms Q pc L st h' nc ns) : Wm μ d mc ms Q pc L st h nc ns := by
  intro p l e R s m args below meth c ok H locs ls r sv lv
  have := w p l e R s m args below meth c (by rw [hB]; exact ok) H locs ls (hR s H r) (by rw [hB]; exact sv) lv
  rw [hB] at this
  exact this
theorem arrV_cg {cA : ClassId} {N : Nat} {f g : Nat → Value} (h : ∀ j, j < N → f j = g j) : arrV cA N f = arrV cA N g := by
  have e : (fun j : Fin N => f j.val) = (fun j : Fin N => g j.val) := funext (fun j => h j.val j.isLt)
  unfold arrV
  rw [e]
theorem Rp_HN {ad : Nat → Nat} (L : Lay n ad h) (rm : ∀ k, k < 7 → ∀ m, m < 8 → rf h ad (gMa k) m (gMg k m)) {cs : Nat → Nat → Int32} (hcs : ∀ b j, tgO h b ≠ 0 → cs (tgO h b) j = hpI h b j) {s : State} {H : Heap} (r : Rp h s H) : Rp (HN h ad cs (fun _ j => j)) s H := by
  obtain ⟨k1, k2, k3, D, k4, k5⟩ := r
  have eI : ∀ b j, hpI (HN h ad cs (fun _ j => j)) b j = hpI h b j := by
    intro b j
    show (if tgO h b = 0 then hpI h b j else cs (tgO h b) j) = _
    by_cases e : tgO h b = 0
    · rw [if_pos e]
    · rw [if_neg e]; exact hcs b j e
  refine ⟨k1, k2, k3, D, k4, fun a => ?_⟩
  by_cases c : tgO h a % 10000 = 4 ∧ tgO h a < 70000
  · obtain ⟨k, hk⟩ : ∃ k, k = tgO h a / 10000 := ⟨_, rfl⟩
    have hk7 : k < 7 := by omega
    have ht : tgO h a = gMa k := by unfold gMa; omega
    have ha : ad (gMa k) = a := by rw [← ht]; exact L.2.1 a (by omega)
    have hT : hpT h a = (33, 8, gMa k) := by
      have := (L.2.2.1 k hk7).2.1.2.2
      unfold cl at this
      rw [ha] at this
      exact this
    have hK : hpK h a = 33 := by unfold hpK; rw [hT]
    have hN : hpN h a = 8 := by unfold hpN; rw [hT]
    have hK' : hpK (HN h ad cs (fun _ j => j)) a = 33 := hK
    obtain ⟨c0, c1, c2, c3, c4, c5⟩ := k5 a
    refine ⟨c0, fun q => by omega, fun q => by omega, fun q => by omega, fun ci r q1 q2 => ?_, fun ci r q1 q2 => ?_⟩
    · have := Cls_lt q1; omega
    · obtain ⟨cA, x1, x2, x3⟩ := c5 ci r q1 q2
      refine ⟨cA, x1.trans (congrArg some (arrV_cg (fun j hj => ?_))), x2, x3⟩
      have hj8 : j < 8 := by
        have : hpN h a = 8 := hN
        omega
      have e1 : hpP h a j = some (ad (gMg k j)) := by
        have := rm k hk7 j hj8
        unfold rf at this
        rw [ha] at this
        exact this
      have e2 : hpP (HN h ad cs (fun _ j => j)) a j = some (ad (gMg k j)) := by
        show (if tgO h a % 10000 = 4 ∧ tgO h a < 70000 then some (ad (gMg (tgO h a / 10000) j)) else hpP h a j) = _
        rw [if_pos c, ← hk]
      rw [e1, e2]
  · exact (k5 a).keep rfl (eI a) (fun j => by
      show (if tgO h a % 10000 = 4 ∧ tgO h a < 70000 then some (ad (gMg (tgO h a / 10000) j)) else hpP h a j) = _
      rw [if_neg c]) (fun _ => rfl) rfl (Nat.le_refl _)
theorem bA_I {x y z : Int32} : hpI (bA h a x y z) b j = if b = a ∧ j = 6 then nI 0 else if b = a ∧ j = 5 then nI 0 else if b = a ∧ j = 4 then nI 0 else if b = a ∧ j = 3 then z else if b = a ∧ j = 2 then y else if b = a ∧ j = 1 then x else hpI h b j := rfl
theorem sA_I : hpI (sA h a) b j = if b = a ∧ j = 4 then nI 0 else if b = a + 1 ∧ j = 3 then nI 50 else if b = a + 1 ∧ j = 2 then nI 100 else if b = a + 1 ∧ j = 1 then nI 0 else hpI h b j := rfl
theorem rw_all {aE e0 E1 E aM : Nat} (hn : 2 ≤ n ∧ n ≤ 5) (t : Tg h U) (s : Tp hb h aE E) (r : EcB hb n aE e0 E1 E) (sm : Tp hm h aM (aM + 9)) (m : MoB hm n aM) (iB : ∀ b, aE ≤ b → b < E → ∀ j, hpI h b j = hpI (bA hb (aE + 1) (nI 0) (nI 100) (nI 50)) b j) (iM : ∀ b, aM ≤ b → b < aM + 9 → ∀ j, hpI h b j = hpI (sA hm aM) b j) : RW n 0 (fun g j => hpI h (adr h g) j) (fun _ j => j) := by
  obtain ⟨⟨r1, r2, r3, r4, r5⟩, K, H, C⟩ := r
  have x1 := K.2.2.2.2
  have x2 := H.2.2
  have x3 := C.2.2
  obtain ⟨⟨⟨b1, b2, b3, b4⟩, ⟨b5, b6, b7⟩, b8, b9⟩, V, -⟩ := K
  obtain ⟨⟨h1, h2, h3, h4⟩, HL, -⟩ := H
  obtain ⟨⟨c1, c2, c3, c4, c5, c6⟩, CL, -⟩ := C
  obtain ⟨m1, m2, m3, m4, m5⟩ := m
  have iB' : ∀ b, aE ≤ b → b < E → b ≠ aE + 1 → ∀ j, hpI h b j = hpI hb b j := fun b y1 y2 y3 j => by
    rw [iB b y1 y2, bA_I, if_neg (by omega), if_neg (by omega), if_neg (by omega), if_neg (by omega), if_neg (by omega), if_neg (by omega)]
  have gE : adr h gEc = aE := adr_eq t ((s aE (by omega) (by omega)).1.trans r1) (by unfold gEc; omega)
  have gS : adr h (gSt 0) = aE + 1 := adr_eq t ((s (aE + 1) (by omega) (by omega)).1.trans b1) (by unfold gSt; omega)
  have gH : adr h gHi = e0 := adr_eq t ((s e0 (by omega) (by omega)).1.trans h1) (by unfold gHi; omega)
  have gC : adr h gSc = E1 := adr_eq t ((s E1 (by omega) (by omega)).1.trans c1) (by unfold gSc; omega)
  have gM0 : adr h (gMo 0) = aM := adr_eq t ((sm aM (by omega) (by omega)).1.trans m1) (by unfold gMo; omega)
  have gM1 : adr h (gMo 1) = aM + 1 := adr_eq t ((sm (aM + 1) (by omega) (by omega)).1.trans (m2 1 (by omega) (by omega)).1) (by unfold gMo; omega)
  have hv : ∀ j, hpI h (adr h (gMo 1)) j = if j = 3 then nI 50 else if j = 2 then nI 100 else nI 0 := fun j => by
    rw [gM1, iM _ (by omega) (by omega), sA_I, if_neg (by omega)]
    by_cases e3 : j = 3
    · rw [if_pos ⟨rfl, e3⟩, if_pos e3]
    · rw [if_neg (by omega), if_neg e3]
      by_cases e2 : j = 2
      · rw [if_pos ⟨rfl, e2⟩, if_pos e2]
      · rw [if_neg (by omega), if_neg e2]
        by_cases e1 : j = 1
        · rw [if_pos ⟨rfl, e1⟩]
        · rw [if_neg (by omega)]; exact m5 _ (by omega) (by omega) j
  have hf : ∀ j, hpI h (adr h (gMo 0)) j = if j = 0 then nI n else nI 0 := fun j => by
    rw [gM0, iM _ (by omega) (by omega), sA_I]
    by_cases e : j = 4
    · rw [if_pos ⟨rfl, e⟩, if_neg (by omega)]
    · rw [if_neg (by omega), if_neg (by omega), if_neg (by omega), if_neg (by omega)]
      by_cases e0' : j = 0
      · rw [if_pos e0', e0']; exact m3
      · rw [if_neg e0']; exact m4 j e0'
  have hz : ∀ s' o', s' < n → o' < n → ∀ x, rdC (fun g j => hpI h (adr h g) j) 0 s' o' x = nI 0 := by
    intro s' o' hs ho x
    obtain ⟨b, e', v1, v2, v3, v4, v5⟩ := V s' hs
    obtain ⟨y1, y2⟩ := v5.2.2.2 o' ho
    obtain ⟨⟨z1, z2, z3, z4, z5⟩, -, z6⟩ := y2
    have q : ∀ i kd l g, i < 5 → hpT hb (b + 2 + 5 * o' + i) = (kd, l, g) → g ≠ 0 → ∀ j, hpI h (adr h g) j = nI 0 := by
      intro i kd l g hi hT hg j
      rw [adr_eq t ((s (b + 2 + 5 * o' + i) (by omega) (by omega)).1.trans hT) hg, iB' _ (by omega) (by omega) (by omega)]
      exact z6 _ (by omega) (by omega) j
    have q0 := q 0 15 0 (gRc 0 s' o') (by omega) z1 (by unfold gRc; omega)
    have q1 := q 1 1 2 (gAr 0 s' o' 0) (by omega) z2 (by unfold gAr; omega)
    have q2 := q 2 1 2 (gAr 0 s' o' 1) (by omega) z3 (by unfold gAr; omega)
    have q3 := q 3 1 10 (gAr 0 s' o' 2) (by omega) z4 (by unfold gAr; omega)
    have q4 := q 4 1 10 (gAr 0 s' o' 3) (by omega) z5 (by unfold gAr; omega)
    unfold rdC
    simp only [q0, q1, q2, q3, q4]
    (repeat' split) <;> rfl
  have hS0 : ∀ k, k < 7 → hpI h (adr h (gSt k)) 0 = nI n := by
    intro k hk
    by_cases e : k = 0
    · subst e
      rw [gS, iB _ (by omega) (by omega), bA_I, if_neg (by omega), if_neg (by omega), if_neg (by omega), if_neg (by omega), if_neg (by omega), if_neg (by omega)]
      exact b8
    · obtain ⟨b, e', v1, v2, v3, v4⟩ := HL (k - 1) (by omega)
      have v4' : StK hb n (1 + (k - 1)) b e' := v4
      rw [show 1 + (k - 1) = k by omega] at v4'
      have v5 := v4'.2.2.2.2
      rw [adr_eq t ((s b (by omega) (by omega)).1.trans v4'.1.1.1) (by unfold gSt; omega), iB' _ (by omega) (by omega) (by omega)]
      exact v4'.1.2.2.1
  have hSt : ∀ j, 1 ≤ j → j ≤ 6 → hpI h (adr h (gSt 0)) j = if j = 3 then nI 50 else if j = 2 then nI 100 else nI 0 := by
    intro j j1 j2
    rw [gS, iB _ (by omega) (by omega), bA_I]
    by_cases e6 : j = 6
    · rw [if_pos ⟨rfl, e6⟩, if_neg (by omega), if_neg (by omega)]
    · rw [if_neg (by omega)]
      by_cases e5 : j = 5
      · rw [if_pos ⟨rfl, e5⟩, if_neg (by omega), if_neg (by omega)]
      · rw [if_neg (by omega)]
        by_cases e4 : j = 4
        · rw [if_pos ⟨rfl, e4⟩, if_neg (by omega), if_neg (by omega)]
        · rw [if_neg (by omega)]
          by_cases e3 : j = 3
          · rw [if_pos ⟨rfl, e3⟩, if_pos e3]
          · rw [if_neg (by omega), if_neg e3]
            by_cases e2 : j = 2
            · rw [if_pos ⟨rfl, e2⟩, if_pos e2]
            · rw [if_neg (by omega), if_neg e2, if_pos ⟨rfl, by omega⟩]
  refine ⟨0, 0, 0, 0, 0, ?_, ⟨fun k hk => ⟨hk, hS0 k hk, fun j hj => hj, fun i j _ _ e => e⟩, by omega, by omega, ?_, ?_, fun j hj => by omega⟩, ⟨⟨?_, ?_, ?_, ?_, ?_, ?_⟩, ⟨?_, ?_, by omega, by omega⟩, fun s' o' hs ho x hx => ?_, fun l hl => by omega, fun j hj => by omega⟩, ?_, fun j hj => by omega, ⟨?_, ?_, ?_⟩, by omega, ?_, fun i hi => by omega⟩
  · show hpI h (adr h gEc) 0 = nI n
    rw [gE, iB' _ (by omega) (by omega) (by omega)]; exact r5
  · show hpI h (adr h gHi) 1 = nI 0
    rw [gH, iB' _ (by omega) (by omega) (by omega)]; exact h4 1
  · show hpI h (adr h gHi) 2 = nI 0
    rw [gH, iB' _ (by omega) (by omega) (by omega)]; exact h4 2
  · show hpI h (adr h (gSt 0)) 1 = hpI h (adr h (gMo 1)) 1
    rw [hSt 1 (by omega) (by omega), hv 1]
  · show hpI h (adr h (gSt 0)) 2 = hpI h (adr h (gMo 1)) 2
    rw [hSt 2 (by omega) (by omega), hv 2]
  · show hpI h (adr h (gSt 0)) 3 = hpI h (adr h (gMo 1)) 3
    rw [hSt 3 (by omega) (by omega), hv 3]
  · show hpI h (adr h (gSt 0)) 4 = hpI h (adr h (gMo 1)) 0
    rw [hSt 4 (by omega) (by omega), hv 0]; rfl
  · show hpI h (adr h (gSt 0)) 5 = nI 0
    rw [hSt 5 (by omega) (by omega)]; rfl
  · show hpI h (adr h (gSt 0)) 6 = nI 0
    rw [hSt 6 (by omega) (by omega)]; rfl
  · show hpI h (adr h (gMo 1)) 4 = nI 0
    rw [hv 4]; rfl
  · show hpI h (adr h (gMo 1)) 5 = nI 0
    rw [hv 5]; rfl
  · rw [hz s' o' hs ho x]
    have g1 := rcA_ge s' o'
    split
    · unfold tOf
      split
      · show nI 0 = hpI h (adr h (gMo 1)) 0
        rw [hv 0]; rfl
      · show nI 0 = hpI h (adr h (gMo 1)) (rcA s' o' + 1)
        rw [hv, if_neg (by omega), if_neg (by omega)]
    · show nI 0 = hpI h (adr h (gMo 1)) (rcA s' o' + x)
      rw [hv, if_neg (by omega), if_neg (by omega)]
  · refine (PI.begin (v := fun j => hpI h (adr h (gMo 1)) j) hn (show beB (nI 0) (nI 100) (nI 50) = true by decide)).cg (by omega) (fun j hj => ?_)
    show hpI h (adr h (gMo 1)) j = _
    rw [hv]
    by_cases e3 : j = 3
    · rw [if_pos e3, e3]
      unfold staV
      rw [upd_eq]
    · rw [if_neg e3]
      by_cases e2 : j = 2
      · rw [if_pos e2, e2]
        unfold staV
        rw [upd_ne (by omega), upd_eq]
      · rw [if_neg e2]
        by_cases e1 : j = 1
        · rw [e1]
          unfold staV
          rw [upd_ne (by omega), upd_ne (by omega), upd_eq]
        · rw [sta_c hj e1 e2 e3]
  · show hpI h (adr h (gMo 0)) 0 = nI n
    rw [hf]; rfl
  · show hpI h (adr h (gMo 0)) 4 = nI 0
    rw [hf]; rfl
  · show hpI h (adr h (gMo 0)) 6 = nI 0
    rw [hf]; rfl
  · show hpI h (adr h gSc) 2 = nI 0
    rw [gC, iB' _ (by omega) (by omega) (by omega)]; exact c6 2
end LYB

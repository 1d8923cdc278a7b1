/-! THE CLASS: the history -/
section CL
variable {n lc mc c ol : Nat} {ad : Nat → Nat} {h0 : Hp} {cs cs' : Nat → Nat → Int32} {pm pm' : Nat → Nat → Nat} {k k0 k1 s o l t m : Nat} {v v' p : Nat → Int32}
theorem SR.congr (hn : n ≤ 5) (h : SR n lc mc cs pm k v) (e : ∀ j, j < 2400 → v' j = v j) : SR n lc mc cs pm k v' := by
  obtain ⟨a, ⟨b1, b2, b3, b4⟩, c, d, f⟩ := h
  refine ⟨?_, ⟨?_, ?_, b3, b4⟩, ?_, ?_, ?_⟩
  · rw [e 0 (by omega), e 1 (by omega), e 2 (by omega), e 3 (by omega)]; exact a
  · rw [e 4 (by omega)]; exact b1
  · rw [e 5 (by omega)]; exact b2
  · intro s o hs ho x hx
    have r2 := rcA_lt (s := s) (i := o) (by omega) (by omega)
    rw [c s o hs ho x hx]
    unfold tOf
    rw [e 0 (by omega), e (rcA s o + 1) (by omega), e (rcA s o + x) (by omega)]
  · intro l hl x hx
    rw [d l hl x hx, e]
    unfold lnA; omega
  · intro j hj
    obtain ⟨f1, f2⟩ := f j hj
    have hm : mgA j + 160 ≤ 2400 := by unfold mgA; omega
    exact ⟨fun x hx => by rw [f1 x hx, e _ (by omega)], fun o ho x hx => by rw [f2 o ho x hx, e _ (by omega)]⟩
/-- what another state's writes leave -/
theorem SR.fr (hn : n ≤ 5) (hpm : ∀ j, j < 8 → pm k j < 8) (h : SR n lc mc cs pm k v) (f : ∀ g, g / 10000 = k → cs' g = cs g) (ep : pm' k = pm k) : SR n lc mc cs' pm' k v := by
  obtain ⟨a, ⟨b1, b2, b3, b4⟩, c, d, e⟩ := h
  have rr : ∀ w o x, w < 13 → o < 5 → rdC cs' k w o x = rdC cs k w o x := by
    intro w o x hw ho
    refine rd_same (fun g hg => f g ?_)
    rcases hg with rfl | ⟨t, ht, rfl⟩
    · unfold gRc; omega
    · unfold gAr; omega
  refine ⟨?_, ⟨b1, b2, b3, b4⟩, ?_, ?_, ?_⟩
  · rw [f (gSt k) (by unfold gSt; omega)]; exact a
  · intro s o hs ho x hx
    rw [rr s o x (by omega) (by omega)]; exact c s o hs ho x hx
  · intro l hl x hx
    rw [f (gLn k l) (by unfold gLn; omega)]; exact d l hl x hx
  · intro j hj
    obtain ⟨e1, e2⟩ := e j hj
    have hp := hpm j (by omega)
    rw [ep]
    exact ⟨fun x hx => by rw [f (gMg k (pm k j)) (by unfold gMg; omega)]; exact e1 x hx, fun o ho x hx => by rw [rr _ o x (by omega) (by omega)]; exact e2 o ho x hx⟩
theorem S0.fr (h : S0 n cs pm k) (f : ∀ g, g / 10000 = k → cs' g = cs g) (ep : pm' k = pm k) : S0 n cs' pm' k := by
  obtain ⟨a, b, c, d⟩ := h
  refine ⟨a, ?_, ?_, ?_⟩
  · rw [f (gSt k) (by unfold gSt; omega)]; exact b
  · rw [ep]; exact c
  · rw [ep]; exact d
def pl (ol j : Nat) : Nat := 1 + (ol + j) % 6
/-- the history holds the past p, c states of it, the oldest at place ol -/
def HS (n : Nat) (cs : Nat → Nat → Int32) (pm : Nat → Nat → Nat) (p : Nat → Int32) (c ol : Nat) : Prop := (∀ k, k < 7 → S0 n cs pm k) ∧ ol < 6 ∧ c ≤ 5 ∧ cs gHi 1 = nI ol ∧ cs gHi 2 = nI c ∧ ∀ j, j < c → ∃ lc mc, SR n lc mc cs pm (pl ol j) (fun i => p (2400 * j + i))
theorem c1_place (L : Lay n ad h0) (h1 : cs gHi 1 = nI ol) (ho : ol < 6) {b : Nat} (hb : b < 6) {X : Nat → Hp → Prop} (q : X (ad (gSt (pl ol b))) (HN h0 ad cs pm)) : CKr mX1_place 0 0 0 [some (.ref (ad gHi)), some (.int (nI b))] (HN h0 ad cs pm) X := by
  intro Qc kq
  refine tX1_place_0 L ⟨(ol + b) % 6, ?_, by omega, kq _ _ q⟩
  rw [h1, nI_add, pk_rem (by omega) (by omega) (by omega)]
/-- the history, once place b of it (a free one) is written -/
theorem HS.fr (hn : n ≤ 5) (h : HS n cs pm p c ol) {b : Nat} (hb : c ≤ b ∧ b < 6) (f : FrS (pl ol b) cs cs') (s0 : S0 n cs' pm (pl ol b)) : HS n cs' pm p c ol := by
  obtain ⟨h1, h2, h3, h4, h5, h6⟩ := h
  have hg : gHi / 10000 ≠ pl ol b := by unfold gHi pl; omega
  refine ⟨fun k hk => ?_, h2, h3, by rw [f gHi hg]; exact h4, by rw [f gHi hg]; exact h5, fun j hj => ?_⟩
  · by_cases e : k = pl ol b
    · rw [e]; exact s0
    · exact (h1 k hk).fr (fun g hg => f g (by omega)) rfl
  · obtain ⟨lc, mc, r⟩ := h6 j hj
    refine ⟨lc, mc, r.fr hn (h1 _ (by unfold pl; omega)).2.2.1 (fun g hg => f g ?_) rfl⟩
    rw [hg]
    unfold pl
    omega
theorem c1_save (L : Lay n ad h0) (h : HS n cs pm p c ol) (hr : SR n lc mc cs pm 0 v) {X : Hp → Prop} (q : ∀ cs', FrS (pl ol c) cs cs' → HS n cs' pm p c ol → SR n lc mc cs' pm 0 v → SR n lc mc cs' pm (pl ol c) v → X (HN h0 ad cs' pm)) : CKv mX1_save 5 0 0 [some (.ref (ad gHi)), some (.ref (ad (gSt 0)))] (HN h0 ad cs pm) X := by
  intro Qc kq
  have hb := L.1
  have h' := h
  obtain ⟨h1, h2, h3, h4, h5, h6⟩ := h'
  have hp7 : pl ol c < 7 ∧ 0 ≠ pl ol c := by unfold pl; omega
  refine tX1_save_0 L ?_
  rw [h5]
  refine c1_place L h4 h2 (by omega) (tX1_save_8 L ⟨hp7.1, c6_copyFrom L (h1 _ hp7.1) (h1 0 (by omega)) hp7.2 hr (fun D hF hS hR => tX1_save_12 L (kq _ (q D hF (h.fr (by omega) ⟨Nat.le_refl _, by omega⟩ hF hS) ?_ hR)))⟩)
  exact hr.fr (by omega) (h1 0 (by omega)).2.2.1 (fun g hg => hF g (by omega)) rfl
theorem c1_bringBackSaved (L : Lay n ad h0) (h : HS n cs pm p c ol) (hr : SR n lc mc cs pm (pl ol c) v) {X : Hp → Prop} (q : ∀ cs', FrS 0 cs cs' → (∀ k, k < 7 → S0 n cs' pm k) → SR n lc mc cs' pm 0 v → X (HN h0 ad cs' pm)) : CKv mX1_bringBackSaved 5 0 0 [some (.ref (ad gHi)), some (.ref (ad (gSt 0)))] (HN h0 ad cs pm) X := by
  intro Qc kq
  have h' := h
  obtain ⟨h1, h2, h3, h4, h5, h6⟩ := h'
  have hp7 : pl ol c < 7 ∧ pl ol c ≠ 0 := by unfold pl; omega
  refine tX1_bringBackSaved_0 L ?_
  rw [h5]
  refine c1_place L h4 h2 (by omega) (tX1_bringBackSaved_9 L ⟨by omega, c6_copyFrom L (h1 0 (by omega)) (h1 _ hp7.1) hp7.2 hr (fun D hF hS hR => tX1_bringBackSaved_12 L (kq _ (q D hF (fun k hk => ?_) hR)))⟩)
  by_cases e : k = 0
  · rw [e]; exact hS
  · exact (h1 k hk).fr (fun g hg => hF g (by omega)) rfl
end CL

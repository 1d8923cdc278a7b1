/-! THE CLASS: the history keeps and brings back -/
def FrH (cs cs' : Nat → Nat → Int32) : Prop := ∀ g, 80000 ≤ g → g ≠ gHi → cs' g = cs g
section CM
variable {n lc mc c ol : Nat} {ad : Nat → Nat} {h0 : Hp} {cs cs' : Nat → Nat → Int32} {pm pm' : Nat → Nat → Nat} {k : Nat} {v v' p : Nat → Int32}
theorem FrS.H (h : FrS k cs cs') (hk : k < 7) : FrH cs cs' := fun g hg _ => h g (by omega)
theorem FrH.trans {cs'' : Nat → Nat → Int32} (a : FrH cs cs') (b : FrH cs' cs'') : FrH cs cs'' := fun g h1 h2 => by rw [b g h1 h2, a g h1 h2]
theorem gHi_k {g : Nat} (hk : k < 7) (h : g / 10000 = k) : g ≠ gHi := by intro e; subst e; unfold gHi at h; omega
theorem c1_keep (L : Lay n ad h0) (h : HS n cs pm p c ol) (hr : SR n lc mc cs pm (pl ol c) v) {X : Hp → Prop} (q : ∀ cs' ol', (∀ g, g ≠ gHi → cs' g = cs g) → HS n cs' pm (actP c v p) (actC c) ol' → X (HN h0 ad cs' pm)) : CKv mX1_keep 0 0 0 [some (.ref (ad gHi))] (HN h0 ad cs pm) X := by
  intro Qc kq
  have hb := L.1
  obtain ⟨h1, h2, h3, h4, h5, h6⟩ := h
  refine tX1_keep_0 L ⟨fun cc => ?_, fun cc => ?_⟩
  · rw [h5, nI_leI (by omega) (by omega)] at cc
    have c5 : c = 5 := by omega
    subst c5
    rw [h4, nI_add, pk_rem (by omega) (by omega) (by omega)]
    have f : ∀ g, g ≠ gHi → up2 cs gHi 1 (nI ((ol + 1) % 6)) g = cs g := by
      intro g hg; funext y; rw [up2_a hg]
    refine kq _ (q _ ((ol + 1) % 6) f ⟨fun k hk => (h1 k hk).fr (fun g hg => f g (gHi_k hk hg)) rfl, by omega, by show actC 5 ≤ 5; decide, up2_s, ?_, fun j hj => ?_⟩)
    · rw [up2_k (by omega)]; exact h5
    · have hj5 : j < 5 := hj
      have hk7 : pl ((ol + 1) % 6) j < 7 := by unfold pl; omega
      have epl : pl ((ol + 1) % 6) j = pl ol (j + 1) := by unfold pl; omega
      by_cases c4 : j = 4
      · subst c4
        have ep5 : pl ((ol + 1) % 6) 4 = pl ol 5 := epl
        refine ⟨lc, mc, ?_⟩
        rw [ep5]
        refine (hr.fr (by omega) (h1 _ (by rw [← ep5]; exact hk7)).2.2.1 (fun g hg => f g (gHi_k (by rw [← ep5]; exact hk7) hg)) rfl).congr (by omega) (fun i hi => ?_)
        show actP 5 v p (2400 * 4 + i) = v i
        unfold actP
        rw [if_pos rfl]
        unfold ovw
        rw [if_pos (by omega)]
        exact congrArg v (by omega)
      · obtain ⟨lc', mc', r⟩ := h6 (j + 1) (by omega)
        refine ⟨lc', mc', ?_⟩
        rw [epl]
        refine (r.fr (by omega) (h1 _ (by rw [← epl]; exact hk7)).2.2.1 (fun g hg => f g (gHi_k (by rw [← epl]; exact hk7) hg)) rfl).congr (by omega) (fun i hi => ?_)
        show actP 5 v p (2400 * j + i) = p (2400 * (j + 1) + i)
        unfold actP
        rw [if_pos rfl]
        unfold ovw
        rw [if_neg (by omega)]
        unfold shf
        rw [if_pos (by omega)]
        exact congrArg p (by omega)
  · rw [h5, nI_leI (by omega) (by omega)] at cc
    have eC : actC c = c + 1 := by unfold actC; rw [if_neg (by omega)]
    rw [h5, nI_add]
    have f : ∀ g, g ≠ gHi → up2 cs gHi 2 (nI (c + 1)) g = cs g := by
      intro g hg; funext y; rw [up2_a hg]
    refine kq _ (q _ ol f ⟨fun k hk => (h1 k hk).fr (fun g hg => f g (gHi_k hk hg)) rfl, h2, by omega, ?_, by rw [eC]; exact up2_s, fun j hj => ?_⟩)
    · rw [up2_k (by omega)]; exact h4
    · have hk7 : pl ol j < 7 := by unfold pl; omega
      rw [eC] at hj
      by_cases cj : j = c
      · subst cj
        refine ⟨lc, mc, (hr.fr (by omega) (h1 _ hk7).2.2.1 (fun g hg => f g (gHi_k hk7 hg)) rfl).congr (by omega) (fun i hi => ?_)⟩
        show actP j v p (2400 * j + i) = v i
        unfold actP
        rw [if_neg (by omega)]
        unfold ovw
        rw [if_pos (by omega)]
        exact congrArg v (by omega)
      · obtain ⟨lc', mc', r⟩ := h6 j (by omega)
        refine ⟨lc', mc', (r.fr (by omega) (h1 _ hk7).2.2.1 (fun g hg => f g (gHi_k hk7 hg)) rfl).congr (by omega) (fun i hi => ?_)⟩
        show actP c v p (2400 * j + i) = p (2400 * j + i)
        unfold actP
        rw [if_neg (by omega)]
        unfold ovw
        rw [if_neg (by omega)]
theorem c1_add (L : Lay n ad h0) (h : HS n cs pm p c ol) (hr : SR n lc mc cs pm 0 v) {X : Hp → Prop} (q : ∀ cs' ol', FrH cs cs' → HS n cs' pm (actP c v p) (actC c) ol' → SR n lc mc cs' pm 0 v → X (HN h0 ad cs' pm)) : CKv mX1_add 5 0 0 [some (.ref (ad gHi)), some (.ref (ad (gSt 0)))] (HN h0 ad cs pm) X := by
  intro Qc kq
  have hb := L.1
  have h' := h
  obtain ⟨h1, h2, h3, h4, h5, h6⟩ := h'
  have hp7 : pl ol c < 7 ∧ 0 ≠ pl ol c := by unfold pl; omega
  refine tX1_add_0 L ?_
  rw [h5]
  refine c1_place L h4 h2 (by omega) (tX1_add_8 L ⟨hp7.1, c6_copyFrom L (h1 _ hp7.1) (h1 0 (by omega)) hp7.2 hr (fun D hF hS hR => tX1_add_12 L (c1_keep L (h.fr (by omega) ⟨Nat.le_refl _, by omega⟩ hF hS) hR (fun E ol' hE hH => tX1_add_16 L (kq _ (q E ol' ?_ hH ?_)))))⟩)
  · intro g hg1 hg2
    rw [hE g hg2, hF g (by omega)]
  · refine hr.fr (by omega) (h1 0 (by omega)).2.2.1 (fun g hg => ?_) rfl
    rw [hE g (gHi_k (by omega) hg), hF g (by omega)]
theorem c1_bringBackLatest (L : Lay n ad h0) (h : HS n cs pm p c ol) (hc : c ≠ 0) {X : Hp → Prop} (q : ∀ cs' lc mc, FrH cs cs' → cs' gHi 2 = nI (c - 1) → HS n cs' pm p (c - 1) ol → SR n lc mc cs' pm 0 (fun i => p (2400 * (c - 1) + i)) → X (HN h0 ad cs' pm)) : CKv mX1_bringBackLatest 5 0 0 [some (.ref (ad gHi)), some (.ref (ad (gSt 0)))] (HN h0 ad cs pm) X := by
  intro Qc kq
  have hb := L.1
  obtain ⟨h1, h2, h3, h4, h5, h6⟩ := h
  obtain ⟨lc, mc, hr⟩ := h6 (c - 1) (by omega)
  have hp7 : pl ol (c - 1) < 7 ∧ pl ol (c - 1) ≠ 0 := by unfold pl; omega
  refine tX1_bringBackLatest_0 L ?_
  rw [h5, pk_sub (by omega)]
  have f : ∀ g, g ≠ gHi → up2 cs gHi 2 (nI (c - 1)) g = cs g := by
    intro g hg; funext y; rw [up2_a hg]
  have hS : ∀ k, k < 7 → S0 n (up2 cs gHi 2 (nI (c - 1))) pm k := fun k hk => (h1 k hk).fr (fun g hg => f g (gHi_k hk hg)) rfl
  have hR : SR n lc mc (up2 cs gHi 2 (nI (c - 1))) pm (pl ol (c - 1)) (fun i => p (2400 * (c - 1) + i)) := hr.fr (by omega) (h1 _ hp7.1).2.2.1 (fun g hg => f g (gHi_k hp7.1 hg)) rfl
  refine c1_place L (ol := ol) (by rw [up2_k (by omega)]; exact h4) h2 (by omega) (tX1_bringBackLatest_19 L ⟨by omega, c6_copyFrom L (hS 0 (by omega)) (hS _ hp7.1) hp7.2 hR (fun D hF hS0 hR0 => tX1_bringBackLatest_22 L (kq _ (q D lc mc ?_ ?_ ⟨fun k hk => ?_, h2, by omega, ?_, ?_, fun j hj => ?_⟩ hR0)))⟩)
  · intro g hg1 hg2
    rw [hF g (by omega), f g hg2]
  · rw [hF gHi (by unfold gHi; omega), up2_s]
  · by_cases e : k = 0
    · rw [e]; exact hS0
    · exact (hS k hk).fr (fun g hg => hF g (by omega)) rfl
  · rw [hF gHi (by unfold gHi; omega), up2_k (by omega)]; exact h4
  · rw [hF gHi (by unfold gHi; omega), up2_s]
  · obtain ⟨lc', mc', r⟩ := h6 j (by omega)
    have hk7 : pl ol j < 7 ∧ pl ol j ≠ 0 := by unfold pl; omega
    refine ⟨lc', mc', r.fr (by omega) (h1 _ hk7.1).2.2.1 (fun g hg => ?_) rfl⟩
    rw [hF g (by omega), f g (gHi_k hk7.1 hg)]
theorem c1_forget (L : Lay n ad h0) (h1 : ∀ k, k < 7 → S0 n cs pm k) {X : Hp → Prop} (q : ∀ cs', (∀ g, g ≠ gHi → cs' g = cs g) → (∀ p, HS n cs' pm p 0 0) → X (HN h0 ad cs' pm)) : CKv mX1_forget 0 0 0 [some (.ref (ad gHi))] (HN h0 ad cs pm) X := by
  intro Qc kq
  have f : ∀ g, g ≠ gHi → up2 (up2 cs gHi 1 (nI 0)) gHi 2 (nI 0) g = cs g := by
    intro g hg; funext y; rw [up2_a hg, up2_a hg]
  refine tX1_forget_0 L (kq _ (q _ f (fun p => ⟨fun k hk => (h1 k hk).fr (fun g hg => f g (gHi_k hk hg)) rfl, by omega, by omega, ?_, up2_s, fun j hj => absurd hj (by omega)⟩)))
  rw [up2_k (by omega), up2_s]
end CM

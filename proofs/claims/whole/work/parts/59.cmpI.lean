/-! THE CLASS: messages are posted, handed over; a state is copied, begun anew -/
section CI
variable {n lc mc : Nat} {ad : Nat → Nat} {h0 : Hp} {cs cs' : Nat → Nat → Int32} {pm : Nat → Nat → Nat} {k k0 k1 s o l t m : Nat} {v v' : Nat → Int32}
theorem wrV_mg {i j y : Nat} {a b : Int32} (hj : j < mc) (hy : y < 160) : wrV v mc s a b i (mgA j + y) = v (mgA j + y) := by
  unfold wrV
  rw [if_neg (by unfold mgA; omega), if_neg (by unfold mgA; omega), if_neg (by unfold mgA; omega), if_neg (by unfold mgA; omega)]
theorem wrV_rc {x : Nat} {a b : Int32} (ho : o < n) (hx : x < 27) : wrV v mc s a b n (mgA mc + 3 + 30 * o + x) = if x = 1 then tOf v s o else v (rcA s o + x) := by
  unfold wrV
  rw [if_neg (by omega), if_neg (by omega), if_neg (by omega), if_pos (by omega)]
  have e : mgA mc + 3 + 30 * o + x - (mgA mc + 3) = 30 * o + x := by omega
  rw [e]
  have e2 : (30 * o + x) % 30 = x := by omega
  have e3 : (30 * o + x) / 30 = o := by omega
  rw [e2, e3]
  by_cases c : x = 1
  · rw [if_pos c, if_pos c]
  · rw [if_neg c, if_neg c, rcA_i s o]
    exact congrArg v (by omega)
theorem rd_g {g' : Nat} (hg : g' = gSt k ∨ ∃ m, m < 8 ∧ g' = gMg k m) (f : ∀ g, g ≠ g' → cs' g = cs g) {w x : Nat} (hw : w < 13) (ho : o < 5) : rdC cs' k w o x = rdC cs k w o x := by
  refine rd_same (fun g h => f g ?_)
  rcases hg with rfl | ⟨m, hm, rfl⟩
  · rcases h with rfl | ⟨t, ht, rfl⟩
    · unfold gSt gRc; omega
    · unfold gSt gAr; omega
  · rcases h with rfl | ⟨t, ht, rfl⟩
    · unfold gMg gRc; omega
    · unfold gMg gAr; omega
theorem c6_post (L : Lay n ad h0) (h0' : S0 n cs pm k) (h : SR n lc mc cs pm k v) (hmc : mc < 8) (hs : s < n) {b : Int32} {X : Int32 → Hp → Prop} (q : ∀ cs', FrS k cs cs' → S0 n cs' pm k → SR n lc (mc + 1) cs' pm k (upd (wrV v mc s (nI s) b n) 5 (nI (mc + 1))) → X (nI mc) (HN h0 ad cs' pm)) : CKi mX6_post 3 0 0 [some (.ref (ad (gSt k))), some (.int (nI s)), some (.int b), none, none] (HN h0 ad cs pm) X := by
  intro Qc kq
  have hb := L.1
  have h0'' := h0'
  obtain ⟨hk, hn, hp1, hp2⟩ := h0'
  have h' := h
  obtain ⟨⟨a1, a2, a3, a4, a5, a6⟩, ⟨b1, b2, b3, b4⟩, c, d, e⟩ := h'
  have hp := hp1 mc hmc
  have hmg := mgA_ge mc
  refine tX6_post_0 L ⟨hk, mc, a6, hmc, hp, s, rfl, hs, ?_⟩
  rw [a6, a4]
  generalize hD : up2 (up2 (up2 cs (gMg k (pm k mc)) 0 (nI s)) (gMg k (pm k mc)) 1 b) (gMg k (pm k mc)) 2 (v 0) = D
  have D1 : ∀ g, g ≠ gMg k (pm k mc) → D g = cs g := by
    intro g hg; funext y; rw [← hD, up2_a hg, up2_a hg, up2_a hg]
  have D2 : D (gMg k (pm k mc)) 0 = nI s ∧ D (gMg k (pm k mc)) 1 = b ∧ D (gMg k (pm k mc)) 2 = v 0 := by
    rw [← hD]
    exact ⟨by rw [up2_k (by omega), up2_k (by omega), up2_s], by rw [up2_k (by omega), up2_s], up2_s⟩
  refine c7_copyFrom L ⟨hk, Or.inl hs⟩ ⟨hk, Or.inr ⟨by omega, by omega⟩⟩ (by omega) (fun E hF hE => tX6_post_48 L ⟨hk, kq _ _ ?_⟩)
  have eS : E (gSt k) = cs (gSt k) := by
    rw [hF (gSt k) (fun o ho => ⟨by unfold gSt gRc; omega, fun t ht => by unfold gSt gAr; omega⟩), D1 _ (by unfold gSt gMg; omega)]
  rw [eS, a6, nI_add]
  have U1 : ∀ g, g ≠ gSt k → up2 E (gSt k) 6 (nI (mc + 1)) g = E g := by
    intro g hg; funext y; rw [up2_a hg]
  have rE : ∀ w o x, w < 13 → o < 5 → rdC (up2 E (gSt k) 6 (nI (mc + 1))) k w o x = rdC E k w o x := fun w o x hw ho => rd_g (Or.inl rfl) U1 hw ho
  have rD : ∀ w o x, w < 13 → o < 5 → rdC D k w o x = rdC cs k w o x := fun w o x hw ho => rd_g (Or.inr ⟨pm k mc, hp, rfl⟩) D1 hw ho
  have rO : ∀ w o x, w < 13 → o < 5 → w ≠ 5 + pm k mc → rdC (up2 E (gSt k) 6 (nI (mc + 1))) k w o x = rdC cs k w o x := by
    intro w o x hw ho hne
    rw [rE w o x hw ho, hF.rd (by omega) (by omega) hw (by omega) ho, rD w o x hw ho]
  refine q _ ?_ ⟨hk, ?_, hp1, hp2⟩ (h.msg (by omega) (by omega) (fun y hy => ?_) up2_s (fun s o x hs ho hx => rO s o x (by omega) (by omega) (by omega)) (fun l hl => ?_) (fun j hj h5 => ?_) upd_eq ?_)
  · intro g hg
    rw [U1 g (by intro e9; apply hg; rw [e9]; unfold gSt; omega), hF.S (by omega) (by omega) g hg, D1 g (by intro e9; apply hg; rw [e9]; unfold gMg; omega)]
  · rw [up2_k (by omega), eS]; exact hn
  · rw [up2_k hy, eS]
  · rw [U1 _ (by unfold gLn gSt; omega), hF (gLn k l) (fun o ho => ⟨by unfold gLn gRc; omega, fun t ht => by unfold gLn gAr; omega⟩), D1 _ (by unfold gLn gMg; omega)]
  · rw [upd_ne h5, wrV_lo hj]
  · intro j hj
    have hpj := hp1 j (by omega)
    have hmj := mgA_ge j
    have eM : ∀ x, up2 E (gSt k) 6 (nI (mc + 1)) (gMg k (pm k j)) x = D (gMg k (pm k j)) x := by
      intro x
      rw [U1 _ (by unfold gMg gSt; omega), hF (gMg k (pm k j)) (fun o ho => ⟨by unfold gMg gRc; omega, fun t ht => by unfold gMg gAr; omega⟩)]
    by_cases cj : j = mc
    · subst cj
      refine ⟨fun x hx => ?_, fun o ho x hx => ?_⟩
      · rw [eM, upd_ne (by omega)]
        obtain ⟨d0, d1, d2⟩ := D2
        have : x = 0 ∨ x = 1 ∨ x = 2 := by omega
        rcases this with rfl | rfl | rfl
        · rw [d0]; unfold wrV; rw [if_pos (by omega)]
        · rw [d1]; unfold wrV; rw [if_neg (by omega), if_pos rfl]
        · rw [d2]; unfold wrV; rw [if_neg (by omega), if_neg (by omega), if_pos rfl]
      · rw [rE _ o x (by omega) (by omega), hE o ho x hx, rD s o x (by omega) (by omega), c s o hs ho x hx, upd_ne (by omega), wrV_rc ho hx]
    · obtain ⟨e1, e2⟩ := e j (by omega)
      have hpne : pm k j ≠ pm k mc := fun e9 => cj (hp2 _ _ (by omega) (by omega) e9)
      refine ⟨fun x hx => ?_, fun o ho x hx => ?_⟩
      · rw [eM, D1 _ (by unfold gMg; omega), e1 x hx, upd_ne (by omega), wrV_mg (by omega) (by omega)]
      · rw [rO _ o x (by omega) (by omega) (by omega), e2 o ho x hx, upd_ne (by omega), show mgA j + 3 + 30 * o + x = mgA j + (3 + 30 * o + x) by omega, wrV_mg (by omega) (by omega)]
theorem c6_postAgain (L : Lay n ad h0) (h0' : S0 n cs pm k) (h : SR n lc mc cs pm k v) (hmc : mc < 8) (hm : m < mc) {X : Int32 → Hp → Prop} (q : ∀ cs', FrS k cs cs' → S0 n cs' pm k → SR n lc (mc + 1) cs' pm k (reV v mc m) → X (nI mc) (HN h0 ad cs' pm)) : CKi mX6_postAgain 4 0 0 [some (.ref (ad (gSt k))), some (.int (nI m)), none] (HN h0 ad cs pm) X := by
  intro Qc kq
  have hb := L.1
  obtain ⟨hk, hn, hp1, hp2⟩ := h0'
  have h' := h
  obtain ⟨⟨a1, a2, a3, a4, a5, a6⟩, ⟨b1, b2, b3, b4⟩, c, d, e⟩ := h'
  have hp := hp1 mc hmc
  have hpm := hp1 m (by omega)
  have hmg := mgA_ge mc
  have hne : pm k m ≠ pm k mc := fun e9 => by have := hp2 _ _ (by omega) (by omega) e9; omega
  refine tX6_postAgain_0 L ⟨hk, mc, a6, hmc, hp, m, rfl, by omega, hpm, c3_copyFrom L hk hk hp hpm (by omega) (fun E hF hE1 hE2 => tX6_postAgain_20 L ⟨hk, ?_⟩)⟩
  rw [a6]
  have eS : E (gSt k) = cs (gSt k) := hF (gSt k) (by unfold gSt gMg; omega) (fun o ho => ⟨by unfold gSt gRc; omega, fun t ht => by unfold gSt gAr; omega⟩)
  rw [eS, a6, nI_add]
  have U1 : ∀ g, g ≠ gSt k → up2 E (gSt k) 6 (nI (mc + 1)) g = E g := by
    intro g hg; funext y; rw [up2_a hg]
  have rE : ∀ w o x, w < 13 → o < 5 → rdC (up2 E (gSt k) 6 (nI (mc + 1))) k w o x = rdC E k w o x := fun w o x hw ho => rd_g (Or.inl rfl) U1 hw ho
  have rO : ∀ w o x, w < 13 → o < 5 → w ≠ 5 + pm k mc → rdC (up2 E (gSt k) 6 (nI (mc + 1))) k w o x = rdC cs k w o x := by
    intro w o x hw ho hwe
    rw [rE w o x hw ho]
    refine rd_same (fun g hg => hF g ?_ (fun o' ho' => ?_))
    · rcases hg with rfl | ⟨t, ht, rfl⟩
      · unfold gMg gRc; omega
      · unfold gMg gAr; omega
    · rcases hg with rfl | ⟨t, ht, rfl⟩
      · exact ⟨by unfold gRc; omega, fun t ht => by unfold gRc gAr; omega⟩
      · exact ⟨by unfold gRc gAr; omega, fun t' ht' => by unfold gAr; omega⟩
  refine kq _ _ (q _ ?_ ⟨hk, ?_, hp1, hp2⟩ (h.msg (by omega) (by omega) (fun y hy => ?_) up2_s (fun s o x hs ho hx => rO s o x (by omega) (by omega) (by omega)) (fun l hl => ?_) (fun j hj h5 => ?_) upd_eq ?_))
  · intro g hg
    rw [U1 g (by intro e9; apply hg; rw [e9]; unfold gSt; omega)]
    refine hF g (by intro e9; apply hg; rw [e9]; unfold gMg; omega) (fun o ho => ⟨by intro e9; apply hg; rw [e9]; unfold gRc; omega, fun t ht => by intro e9; apply hg; rw [e9]; unfold gAr; omega⟩)
  · rw [up2_k (by omega), eS]; exact hn
  · rw [up2_k hy, eS]
  · rw [U1 _ (by unfold gLn gSt; omega), hF (gLn k l) (by unfold gLn gMg; omega) (fun o ho => ⟨by unfold gLn gRc; omega, fun t ht => by unfold gLn gAr; omega⟩)]
  · rw [reV, upd_ne h5]; unfold ovw; rw [if_neg (by omega)]
  · intro j hj
    have hpj := hp1 j (by omega)
    have hmj := mgA_ge j
    by_cases cj : j = mc
    · subst cj
      obtain ⟨e1, e2⟩ := e m hm
      have ov : ∀ y, y < 160 → reV v j m (mgA j + y) = v (mgA m + y) := by
        intro y hy
        rw [reV, upd_ne (by omega)]
        unfold ovw
        rw [if_pos (by omega), Nat.add_sub_cancel_left]
      refine ⟨fun x hx => ?_, fun o ho x hx => ?_⟩
      · rw [U1 _ (by unfold gMg gSt; omega), hE1 x hx, e1 x hx, ov x (by omega)]
      · rw [rE _ o x (by omega) (by omega), hE2 o ho x hx, e2 o ho x hx, show mgA j + 3 + 30 * o + x = mgA j + (3 + 30 * o + x) by omega, ov _ (by omega)]
        exact congrArg v (by omega)
    · obtain ⟨e1, e2⟩ := e j (by omega)
      have hpne : pm k j ≠ pm k mc := fun e9 => cj (hp2 _ _ (by omega) (by omega) e9)
      have hmj2 : mgA j + 160 ≤ mgA mc := by unfold mgA; omega
      have ov : ∀ y, y < 160 → reV v mc m (mgA j + y) = v (mgA j + y) := by
        intro y hy
        rw [reV, upd_ne (by omega)]
        unfold ovw
        rw [if_neg (by omega)]
      refine ⟨fun x hx => ?_, fun o ho x hx => ?_⟩
      · rw [U1 _ (by unfold gMg gSt; omega), hF (gMg k (pm k j)) (by unfold gMg; omega) (fun o ho => ⟨by unfold gMg gRc; omega, fun t ht => by unfold gMg gAr; omega⟩), e1 x hx, ov x (by omega)]
      · rw [rO _ o x (by omega) (by omega) (by omega), e2 o ho x hx, show mgA j + 3 + 30 * o + x = mgA j + (3 + 30 * o + x) by omega, ov _ (by omega)]
end CI

/-! THE CLASS: throwing; changes -/
section CV
variable {n lc mc c ol : Nat} {ad : Nat → Nat} {h0 : Hp} {cs cs' : Nat → Nat → Int32} {pm pm' : Nat → Nat → Nat} {v p : Nat → Int32}
theorem c8_throwFor (L : Lay n ad h0) {w : Nat} (hw : w < 4) {X : Hp → Prop} {Y : Nat → Hp → Prop} (q0 : w = 0 → X (HN h0 ad cs pm)) (q1 : w ≠ 0 → ∀ z, hpZ h0 ≤ z → Y w (HN (stZ h0 z) ad cs pm)) : CXv mX8_throwFor 6 1 6 [some (.int (nI w))] (HN h0 ad cs pm) X Y := by
  intro Qc kq ky
  refine tX8_throwFor_0 L ?_
  rw [nI_inj5 (by omega) (by omega), nI_inj5 (by omega) (by omega), nI_inj5 (by omega) (by omega)]
  refine ⟨fun c1 => ⟨fun c2 => ⟨fun c3 => ⟨by omega, by omega, kq _ (q0 (by omega))⟩, fun c3 => ⟨by omega, by omega, fun z hz => ?_⟩⟩, fun c2 => ⟨by omega, by omega, fun z hz => ?_⟩⟩, fun c1 => ⟨by omega, by omega, fun z hz => ?_⟩⟩
  · have := ky w _ (by omega) (q1 (by omega) z hz); rw [c3] at this; exact this
  · have := ky w _ (by omega) (q1 (by omega) z hz); rw [c2] at this; exact this
  · have := ky w _ (by omega) (q1 (by omega) z hz); rw [c1] at this; exact this
theorem HS.now (hn : n ≤ 5) (h : HS n cs pm p c ol) (f : FrS 0 cs cs') (s0 : S0 n cs' pm' 0) (ep : ∀ k, k ≠ 0 → pm' k = pm k) : HS n cs' pm' p c ol := by
  obtain ⟨h1, h2, h3, h4, h5, h6⟩ := h
  have hg : gHi / 10000 ≠ 0 := by unfold gHi; omega
  refine ⟨fun k hk => ?_, h2, h3, by rw [f gHi hg]; exact h4, by rw [f gHi hg]; exact h5, fun j hj => ?_⟩
  · by_cases e : k = 0
    · rw [e]; exact s0
    · exact (h1 k hk).fr (fun g hg => f g (by omega)) (ep k e)
  · obtain ⟨lc, mc, r⟩ := h6 j hj
    have hp : pl ol j < 7 ∧ pl ol j ≠ 0 := by unfold pl; omega
    exact ⟨lc, mc, r.fr hn (h1 _ hp.1).2.2.1 (fun g hg => f g (by omega)) (ep _ hp.2)⟩
theorem chF_lt {a x : Int32} : chF n a x < 4 := by unfold chF; split <;> (try split) <;> omega
theorem chF_0 (hn : 1 ≤ n ∧ n ≤ 5) {a x : Int32} (h : chF n a x = 0) : ∃ s, s < n ∧ a = nI s ∧ inB x (nI 1) (nI 999) = true := by
  unfold chF at h
  split at h
  · omega
  · next h1 =>
    split at h
    · omega
    · next h2 =>
      obtain ⟨s, hs, rfl⟩ := siB_t hn (by simpa using h1)
      exact ⟨s, hs, rfl, by simpa using h2⟩
theorem c8_increase (L : Lay n ad h0) (hE : cs gEc 0 = nI n) (hH : HS n cs pm p c ol) (hR : SR n lc mc cs pm 0 v) (hw : WL n lc v) {a x : Int32} {X : Int32 → Hp → Prop} {Y : Nat → Hp → Prop} (q0 : ∀ s, s < n → a = nI s → inB x (nI 1) (nI 999) = true → ∀ cs' ol', FrH cs cs' → HS n cs' pm (actP c v p) (actC c) ol' → SR n lc mc cs' pm 0 (chV n lc v s 0 x) → X (bI (chB n lc v s 0 x)) (HN h0 ad cs' pm)) (q1 : chF n a x ≠ 0 → ∀ z, hpZ h0 ≤ z → Y (chF n a x) (HN (stZ h0 z) ad cs pm)) : CXi mX8_increase 7 1 6 [some (.ref (ad gEc)), some (.int a), some (.int x)] (HN h0 ad cs pm) X Y := by
  intro Qc kq ky
  have hb := L.1
  refine tX8_increase_0 L ⟨by omega, by omega, c8_changeFault L hE (tX8_increase_6 (mcn := 1) (msn := 6) L ⟨by omega, by omega, c8_throwFor L chF_lt (fun h => ?_) (fun h z hz => ky _ _ h (q1 h z hz))⟩)⟩
  obtain ⟨s, hs, rfl, hx⟩ := chF_0 (by omega) h
  refine tX8_increase_9 L ⟨by omega, by omega, c1_add L hH hR (fun D ol' hF hH2 hR2 => tX8_increase_20 L ⟨by omega, by omega, c6_change L (hH2.1 0 (by omega)) hR2 hw hs (by omega) (fun E hFE hSE hRE => tX8_increase_30 L ⟨by omega, by omega, bI_nar _, kq _ _ (q0 s hs rfl hx E ol' (hF.trans (hFE.H (by omega))) (hH2.now (by omega) hFE hSE (fun _ _ => rfl)) hRE)⟩)⟩)⟩
theorem c8_decrease (L : Lay n ad h0) (hE : cs gEc 0 = nI n) (hH : HS n cs pm p c ol) (hR : SR n lc mc cs pm 0 v) (hw : WL n lc v) {a x : Int32} {X : Int32 → Hp → Prop} {Y : Nat → Hp → Prop} (q0 : ∀ s, s < n → a = nI s → inB x (nI 1) (nI 999) = true → ∀ cs' ol', FrH cs cs' → HS n cs' pm (actP c v p) (actC c) ol' → SR n lc mc cs' pm 0 (chV n lc v s 1 x) → X (bI (chB n lc v s 1 x)) (HN h0 ad cs' pm)) (q1 : chF n a x ≠ 0 → ∀ z, hpZ h0 ≤ z → Y (chF n a x) (HN (stZ h0 z) ad cs pm)) : CXi mX8_decrease 7 1 6 [some (.ref (ad gEc)), some (.int a), some (.int x)] (HN h0 ad cs pm) X Y := by
  intro Qc kq ky
  have hb := L.1
  refine tX8_decrease_0 L ⟨by omega, by omega, c8_changeFault L hE (tX8_decrease_6 (mcn := 1) (msn := 6) L ⟨by omega, by omega, c8_throwFor L chF_lt (fun h => ?_) (fun h z hz => ky _ _ h (q1 h z hz))⟩)⟩
  obtain ⟨s, hs, rfl, hx⟩ := chF_0 (by omega) h
  refine tX8_decrease_9 L ⟨by omega, by omega, c1_add L hH hR (fun D ol' hF hH2 hR2 => tX8_decrease_20 L ⟨by omega, by omega, c6_change L (hH2.1 0 (by omega)) hR2 hw hs (by omega) (fun E hFE hSE hRE => tX8_decrease_30 L ⟨by omega, by omega, bI_nar _, kq _ _ (q0 s hs rfl hx E ol' (hF.trans (hFE.H (by omega))) (hH2.now (by omega) hFE hSE (fun _ _ => rfl)) hRE)⟩)⟩)⟩
end CV

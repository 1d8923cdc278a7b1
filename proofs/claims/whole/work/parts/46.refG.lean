/-! the reference: asking -/
def bsN (w : Nat → Int32) (tk : Int32) : Nat → Option Nat
  | 0 => none
  | i + 1 => if (tk >>> (nI i &&& 31)) &&& nI 1 = 0 then (match bsN w tk i with
    | none => some i
    | some b => if ¬ w i ≤ w b then some i else some b) else bsN w tk i
theorem bsN_lt {w : Nat → Int32} {tk : Int32} : ∀ {i b : Nat}, bsN w tk i = some b → b < i
  | 0, b, h => by simp [bsN] at h
  | i + 1, b, h => by
    rw [bsN] at h
    split at h
    · split at h
      · cases h; omega
      · next c hc =>
        have := bsN_lt hc
        split at h
        · cases h; omega
        · cases h; omega
    · have := bsN_lt h; omega
def heR (n : Nat) (w : Nat → Int32) (x : Int32) : Nat → Nat → Int32 → Int32 → Int32
  | 0, _, _, _ => -1
  | g + 1, i, sum, tk => if sum < x then (match bsN w tk n with
    | none => heR n w x g (i + 1) (sum + nI 0) (tk ||| nI 0)
    | some b => heR n w x g (i + 1) (sum + w b) (tk ||| (nI 1 <<< (nI b &&& 31)))) else nI i
def heF (n : Nat) (a k x : Int32) : Nat := if siB n a = false ∨ kiB k = false then 1 else if inB x (nI 0) (nI 30000) = false then 2 else 0
def ofL (v : Nat → Int32) (l w : Nat) : Int32 := if w < 5 then v (lnA l + w) else if w = 5 then usL v (lb v l) l else if w = 6 then reL v l else bI (bkB v l)
def dorV (n lc : Nat) (v : Nat → Int32) (k : Nat) : Nat → Int32
  | 0 => if k = 0 then v 2 - valV n v else valV n v - v 1
  | i + 1 => dorV n lc v k i - avl n lc v i k
theorem oI_neg : ¬ (0 : Int32) ≤ oI none := by decide
theorem oI_neg' : oI none < (0 : Int32) := by decide
section RG
variable {n lc c mc m : Nat} {ad : Nat → Nat} {h0 : Hp} {cs : Nat → Nat → Int32} {pm : Nat → Nat → Nat} {s o l k t : Nat} {f v p : Nat → Int32}
theorem c9_thrown (L : Lay n ad h0) {X : Int32 → Hp → Prop} (q : X (f 7) (HN h0 ad (mS cs f v p) pm)) : CKi mX9_thrown 0 0 0 [some (.ref (ad (gMo 0)))] (HN h0 ad (mS cs f v p) pm) X := by
  intro Qc kq
  refine tX9_thrown_0 L ?_
  rw [mS_0]
  exact kq _ _ q
theorem c9_sites (L : Lay n ad h0) {X : Int32 → Hp → Prop} (q : X (f 0) (HN h0 ad (mS cs (upd f 7 (nI 0)) v p) pm)) : CKi mX9_sites 0 0 0 [some (.ref (ad (gMo 0)))] (HN h0 ad (mS cs f v p) pm) X := by
  intro Qc kq
  refine tX9_sites_0 L ?_
  rw [mS_u0, mS_0]
  exact kq _ _ q
theorem c9_messages (L : Lay n ad h0) {X : Int32 → Hp → Prop} (q : X (v 5) (HN h0 ad (mS cs (upd f 7 (nI 0)) v p) pm)) : CKi mX9_messages 0 0 0 [some (.ref (ad (gMo 0)))] (HN h0 ad (mS cs f v p) pm) X := by
  intro Qc kq
  refine tX9_messages_0 L ?_
  rw [mS_u0, mS_1]
  exact kq _ _ q
theorem c9_time (L : Lay n ad h0) {X : Int32 → Hp → Prop} (q : X (v 0) (HN h0 ad (mS cs (upd f 7 (nI 0)) v p) pm)) : CKi mX9_time 0 0 0 [some (.ref (ad (gMo 0)))] (HN h0 ad (mS cs f v p) pm) X := by
  intro Qc kq
  refine tX9_time_0 L ?_
  rw [mS_u0, mS_1]
  exact kq _ _ q
theorem c9_loans (L : Lay n ad h0) {X : Int32 → Hp → Prop} (q : X (v 4) (HN h0 ad (mS cs (upd f 7 (nI 0)) v p) pm)) : CKi mX9_loans 0 0 0 [some (.ref (ad (gMo 0)))] (HN h0 ad (mS cs f v p) pm) X := by
  intro Qc kq
  refine tX9_loans_0 L ?_
  rw [mS_u0, mS_1]
  exact kq _ _ q
theorem c9_value (L : Lay n ad h0) (hn : f 0 = nI n) {X : Int32 → Hp → Prop} (q : X (valV n v) (HN h0 ad (mS cs (upd f 7 (nI 0)) v p) pm)) : CKi mX9_value 3 0 0 [some (.ref (ad (gMo 0)))] (HN h0 ad (mS cs f v p) pm) X := by
  intro Qc kq
  refine tX9_value_0 L ?_
  rw [mS_u0]
  refine c9_valueNow L (by rw [mS_0, upd_ne (by omega)]; exact hn) (tX9_value_9 L (kq _ _ ?_))
  rw [mS_1]
  exact q
theorem c9_message (L : Lay n ad h0) (hv : v 5 = nI mc) (hmc : mc ≤ 8) {a b : Int32} {X : Int32 → Hp → Prop} (q0 : ∀ m w, m < mc → w < 3 → a = nI m → b = nI w → X (v (mgA m + w)) (HN h0 ad (mS cs (upd f 7 (nI 0)) v p) pm)) (q1 : (miB mc a && inB b (nI 0) (nI 2)) = false → X (nI 0) (HN h0 ad (mS cs (upd f 7 (nI 1)) v p) pm)) : CKi mX9_message 2 0 0 [some (.ref (ad (gMo 0))), some (.int a), some (.int b)] (HN h0 ad (mS cs f v p) pm) X := by
  intro Qc kq
  refine tX9_message_0 L (c9_isMes L hv (tX9_message_6 L ⟨fun h => ?_, fun h => c9_in L (tX9_message_15 L ⟨fun h2 => ?_, fun h2 => ?_⟩)⟩))
  · rw [bI_z] at h; rw [mS_u0]; exact kq _ _ (q1 (by simp [h]))
  · rw [bI_z] at h2; rw [mS_u0]; exact kq _ _ (q1 (by simp [h2]))
  · rw [bI_z] at h h2
    obtain ⟨m, hm, rfl⟩ := miB_t hmc (show miB mc a = true by simpa using h)
    have h3 := inB_t.mp (show inB b (nI 0) (nI 2) = true by simpa using h2)
    obtain ⟨w, hw, rfl⟩ := nI_of2 (M := nI 2) (n := 2) (nI_toInt (by omega)) (Int32.not_lt.mpr h3.1) h3.2
    rw [mS_u0]
    refine c9_messageAt L (tX9_message_41 L ⟨mgA m + w, nI_add _ _, by unfold mgA; omega, ?_⟩)
    rw [mS_1]
    exact kq _ _ (q0 m w hm (by omega) rfl rfl)
theorem c9_known (L : Lay n ad h0) (hn : f 0 = nI n) {a : Int32} {X : Int32 → Hp → Prop} (q0 : ∀ s, s < n → a = nI s → X (knwV n v s) (HN h0 ad (mS cs (upd f 7 (nI 0)) v p) pm)) (q1 : siB n a = false → X (nI 0) (HN h0 ad (mS cs (upd f 7 (nI 1)) v p) pm)) : CKi mX9_known 2 0 0 [some (.ref (ad (gMo 0))), some (.int a)] (HN h0 ad (mS cs f v p) pm) X := by
  intro Qc kq
  have hb := L.1
  refine tX9_known_0 L (c9_isSite L (by rw [mS_0]; exact hn) (tX9_known_6 L ⟨fun h => ?_, fun h => ?_⟩))
  · rw [bI_z] at h; rw [mS_u0]; exact kq _ _ (q1 h)
  · rw [bI_z] at h
    obtain ⟨s, hs, rfl⟩ := siB_t (by omega) (show siB n a = true by simpa using h)
    rw [mS_u0]
    refine c9_knownBy L (by rw [mS_0, upd_ne (by omega)]; exact hn) hs (tX9_known_29 L (kq _ _ ?_))
    rw [mS_1]
    exact q0 s hs rfl
theorem c9_isWrong (L : Lay n ad h0) (hn : f 0 = nI n) {a b : Int32} {X : Int32 → Hp → Prop} (q0 : ∀ s k, s < n → k < 2 → a = nI s → b = nI k → X (nI 0) (HN h0 ad (mS cs (upd f 7 (nI 0)) v p) pm)) (q1 : (siB n a && kiB b) = false → X (nI 1) (HN h0 ad (mS cs (upd f 7 (nI 1)) v p) pm)) : CKi mX9_isWrong 2 0 0 [some (.ref (ad (gMo 0))), some (.int a), some (.int b)] (HN h0 ad (mS cs f v p) pm) X := by
  intro Qc kq
  have hb := L.1
  refine tX9_isWrong_0 L (c9_isSite L (by rw [mS_0]; exact hn) (tX9_isWrong_6 L ⟨fun h => ?_, fun h => c9_in L (tX9_isWrong_15 L ⟨fun h2 => ?_, fun h2 => ?_⟩)⟩))
  · rw [bI_z] at h; rw [mS_u0]; exact kq _ _ (q1 (by simp [h]))
  · rw [bI_z] at h2; rw [mS_u0]; exact kq _ _ (q1 (by simp [kiB, h2]))
  · rw [bI_z] at h h2
    obtain ⟨s, hs, rfl⟩ := siB_t (by omega) (show siB n a = true by simpa using h)
    obtain ⟨k, hk, rfl⟩ := kiB_t (show kiB b = true by simpa [kiB] using h2)
    rw [mS_u0]
    exact kq _ _ (q0 s k hs hk rfl rfl)
theorem c9_own (L : Lay n ad h0) (hn : f 0 = nI n) (hw : WL n lc v) {a b : Int32} {X : Int32 → Hp → Prop} (q0 : ∀ s k, s < n → k < 2 → a = nI s → b = nI k → X (own n lc v s k) (HN h0 ad (mS cs (upd f 7 (nI 0)) v p) pm)) (q1 : (siB n a && kiB b) = false → X (nI 0) (HN h0 ad (mS cs (upd f 7 (nI 1)) v p) pm)) : CKi mX9_own 4 0 0 [some (.ref (ad (gMo 0))), some (.int a), some (.int b)] (HN h0 ad (mS cs f v p) pm) X := by
  intro Qc kq
  refine tX9_own_0 L (c9_isWrong L hn (fun s k hs hk ha hb => ?_) (fun h => ?_))
  · subst ha hb
    refine tX9_own_6 L ⟨fun _ => c9_ownRights (lc := lc) L (by rw [mS_0, upd_ne (by omega)]; exact hn) (by rw [mS_1]; exact hw) hs hk (tX9_own_19 L (kq _ _ ?_)), fun h => absurd rfl h⟩
    rw [mS_1]
    exact q0 s k hs hk rfl rfl
  · exact tX9_own_6 L ⟨fun h2 => absurd h2 (by decide), fun _ => tX9_own_19 L (kq _ _ (q1 h))⟩
theorem c9_available (L : Lay n ad h0) (hn : f 0 = nI n) (hw : WL n lc v) {a b : Int32} {X : Int32 → Hp → Prop} (q0 : ∀ s k, s < n → k < 2 → a = nI s → b = nI k → X (avl n lc v s k) (HN h0 ad (mS cs (upd f 7 (nI 0)) v p) pm)) (q1 : (siB n a && kiB b) = false → X (nI 0) (HN h0 ad (mS cs (upd f 7 (nI 1)) v p) pm)) : CKi mX9_available 5 0 0 [some (.ref (ad (gMo 0))), some (.int a), some (.int b)] (HN h0 ad (mS cs f v p) pm) X := by
  intro Qc kq
  refine tX9_available_0 L (c9_isWrong L hn (fun s k hs hk ha hb => ?_) (fun h => ?_))
  · subst ha hb
    refine tX9_available_6 L ⟨fun _ => c9_allRights (lc := lc) L (by rw [mS_0, upd_ne (by omega)]; exact hn) (by rw [mS_1]; exact hw) hs hk (tX9_available_19 L (kq _ _ ?_)), fun h => absurd rfl h⟩
    rw [mS_1]
    exact q0 s k hs hk rfl rfl
  · exact tX9_available_6 L ⟨fun h2 => absurd h2 (by decide), fun _ => tX9_available_19 L (kq _ _ (q1 h))⟩
theorem c9_dormant (L : Lay n ad h0) (hn : f 0 = nI n) (hw : WL n lc v) {b : Int32} {X : Int32 → Hp → Prop} (q0 : ∀ k, k < 2 → b = nI k → X (dorV n lc v k n) (HN h0 ad (mS cs (upd f 7 (nI 0)) v p) pm)) (q1 : kiB b = false → X (nI 0) (HN h0 ad (mS cs (upd f 7 (nI 1)) v p) pm)) : CKi mX9_dormant 5 0 0 [some (.ref (ad (gMo 0))), some (.int b), none, none] (HN h0 ad (mS cs f v p) pm) X := by
  intro Qc kq
  have hb := L.1
  refine tX9_dormant_0 L (c9_in L (tX9_dormant_7 L ⟨fun h => ?_, fun h => ?_⟩))
  · rw [bI_z] at h; rw [mS_u0]; exact kq _ _ (q1 h)
  · rw [bI_z] at h
    obtain ⟨k, hk, rfl⟩ := kiB_t (show kiB b = true by simpa [kiB] using h)
    rw [mS_u0]
    have hn' : mS cs (upd f 7 (nI 0)) v p (gMo 0) 0 = nI n := by rw [mS_0, upd_ne (by omega)]; exact hn
    have key : ∀ i, i ≤ n → Wm mX9_dormant 5 0 0 Qc 59 [some (.ref (ad (gMo 0))), some (.int (nI k)), some (.int (dorV n lc v k i)), some (.int (nI i))] [] (HN h0 ad (mS cs (upd f 7 (nI 0)) v p) pm) 0 0 := by
      refine loopU n _ ?_ ?_
      · refine tX9_dormant_59 L ⟨fun _ => kq _ _ (q0 k hk rfl), fun c => absurd ?_ c⟩
        rw [hn']; exact nI_le (Nat.le_refl _) (by omega)
      · intro i hi ih
        refine tX9_dormant_59 L ⟨fun c => absurd c ?_, fun _ => c9_allRights (lc := lc) L hn' (by rw [mS_1]; exact hw) hi hk (tX9_dormant_74 L ?_)⟩
        · rw [hn']; exact nI_ge hi (by omega)
        · rw [mS_1, nI_add]; exact ih
    have k0 := key 0 (Nat.zero_le _)
    have ez : nI k = 0 ↔ k = 0 := by rw [← nIz]; exact nI_inj5 (by omega) (by omega)
    rw [dorV] at k0
    refine ⟨fun h2 => c9_valueNow L hn' (tX9_dormant_49 L ?_), fun h2 => c9_valueNow L hn' (tX9_dormant_41 L ?_)⟩
    · rw [ez] at h2
      rw [if_neg h2] at k0
      rw [mS_1]
      exact k0
    · rw [ez] at h2
      rw [if_pos h2] at k0
      rw [mS_1]
      exact k0
theorem c9_demand (L : Lay n ad h0) (hn : f 0 = nI n) {a b x : Int32} {X : Int32 → Hp → Prop} (q0 : ∀ s o k, s < n → o < n → k < 2 → a = nI s → b = nI o → x = nI k → X (v (rcA s o + 14 + k)) (HN h0 ad (mS cs (upd f 7 (nI 0)) v p) pm)) (q1 : (siB n a && (siB n b && kiB x)) = false → X (nI 0) (HN h0 ad (mS cs (upd f 7 (nI 1)) v p) pm)) : CKi mX9_demand 2 0 0 [some (.ref (ad (gMo 0))), some (.int a), some (.int b), some (.int x)] (HN h0 ad (mS cs f v p) pm) X := by
  intro Qc kq
  have hb := L.1
  have hn' : mS cs f v p (gMo 0) 0 = nI n := by rw [mS_0]; exact hn
  refine tX9_demand_0 L (c9_isSite L hn' (tX9_demand_6 L ⟨fun h => ?_, fun h => c9_isSite L hn' (tX9_demand_14 L ⟨fun h2 => ?_, fun h2 => c9_in L (tX9_demand_23 L ⟨fun h3 => ?_, fun h3 => ?_⟩)⟩)⟩))
  · rw [bI_z] at h; rw [mS_u0]; exact kq _ _ (q1 (by simp [h]))
  · rw [bI_z] at h2; rw [mS_u0]; exact kq _ _ (q1 (by simp [h2]))
  · rw [bI_z] at h3; rw [mS_u0]; exact kq _ _ (q1 (by simp [kiB, h3]))
  · rw [bI_z] at h h2 h3
    obtain ⟨s, hs, rfl⟩ := siB_t (by omega) (show siB n a = true by simpa using h)
    obtain ⟨o, ho, rfl⟩ := siB_t (by omega) (show siB n b = true by simpa using h2)
    obtain ⟨k, hk, rfl⟩ := kiB_t (show kiB x = true by simpa [kiB] using h3)
    rw [mS_u0]
    refine c9_record (tX9_demand_50 L ⟨rcA s o + 14 + k, by simp only [nI_add], by unfold rcA; omega, ?_⟩)
    rw [mS_1]
    exact kq _ _ (q0 s o k hs ho hk rfl rfl rfl)
theorem c9_isTwo (L : Lay n ad h0) (hn : f 0 = nI n) {a b : Int32} {X : Int32 → Hp → Prop} (q0 : ∀ s o, s < n → o < n → a = nI s → b = nI o → X (nI 1) (HN h0 ad (mS cs (upd f 7 (nI 0)) v p) pm)) (q1 : (siB n a && siB n b) = false → X (nI 0) (HN h0 ad (mS cs (upd f 7 (nI 1)) v p) pm)) : CKi mX9_isTwo 2 0 0 [some (.ref (ad (gMo 0))), some (.int a), some (.int b)] (HN h0 ad (mS cs f v p) pm) X := by
  intro Qc kq
  have hb := L.1
  have hn' : mS cs f v p (gMo 0) 0 = nI n := by rw [mS_0]; exact hn
  refine tX9_isTwo_0 L (c9_isSite L hn' (tX9_isTwo_6 L ⟨fun h => ?_, fun h => c9_isSite L hn' (tX9_isTwo_14 L ⟨fun h2 => ?_, fun h2 => ?_⟩)⟩))
  · rw [bI_z] at h; rw [mS_u0]; exact kq _ _ (q1 (by simp [h]))
  · rw [bI_z] at h2; rw [mS_u0]; exact kq _ _ (q1 (by simp [h2]))
  · rw [bI_z] at h h2
    obtain ⟨s, hs, rfl⟩ := siB_t (by omega) (show siB n a = true by simpa using h)
    obtain ⟨o, ho, rfl⟩ := siB_t (by omega) (show siB n b = true by simpa using h2)
    rw [mS_u0]
    exact kq _ _ (q0 s o hs ho rfl rfl)
theorem c9_version (L : Lay n ad h0) (hn : f 0 = nI n) {a b : Int32} {X : Int32 → Hp → Prop} (q0 : ∀ s o, s < n → o < n → a = nI s → b = nI o → X (v (rcA s o)) (HN h0 ad (mS cs (upd f 7 (nI 0)) v p) pm)) (q1 : (siB n a && siB n b) = false → X (nI 0) (HN h0 ad (mS cs (upd f 7 (nI 1)) v p) pm)) : CKi mX9_version 3 0 0 [some (.ref (ad (gMo 0))), some (.int a), some (.int b)] (HN h0 ad (mS cs f v p) pm) X := by
  intro Qc kq
  have hb := L.1
  refine tX9_version_0 L (c9_isTwo L hn (fun s o hs ho ha hb => ?_) (fun h => tX9_version_6 L ⟨fun _ => kq _ _ (q1 h), fun h2 => absurd rfl h2⟩))
  subst ha hb
  refine tX9_version_6 L ⟨fun h => absurd h (by decide), fun _ => c9_record (tX9_version_18 L ⟨rcA s o, nI_add _ _, by unfold rcA; omega, ?_⟩)⟩
  rw [mS_1]
  exact kq _ _ (q0 s o hs ho rfl rfl)
theorem c9_copyTime (L : Lay n ad h0) (hn : f 0 = nI n) {a b : Int32} {X : Int32 → Hp → Prop} (q0 : ∀ s o, s < n → o < n → a = nI s → b = nI o → X (tOf v s o) (HN h0 ad (mS cs (upd f 7 (nI 0)) v p) pm)) (q1 : (siB n a && siB n b) = false → X (nI 0) (HN h0 ad (mS cs (upd f 7 (nI 1)) v p) pm)) : CKi mX9_copyTime 3 0 0 [some (.ref (ad (gMo 0))), some (.int a), some (.int b)] (HN h0 ad (mS cs f v p) pm) X := by
  intro Qc kq
  have hb := L.1
  refine tX9_copyTime_0 L (c9_isTwo L hn (fun s o hs ho ha hb => ?_) (fun h => tX9_copyTime_6 L ⟨fun _ => kq _ _ (q1 h), fun h2 => absurd rfl h2⟩))
  subst ha hb
  refine tX9_copyTime_6 L ⟨fun h => absurd h (by decide), fun _ => c9_timeOf L (by omega) (by omega) (tX9_copyTime_15 L (kq _ _ ?_))⟩
  rw [mS_1]
  exact q0 s o hs ho rfl rfl
theorem c9_ofLoan (L : Lay n ad h0) (hw : WL n lc (cs (gMo 1))) (hl : l < lc) (hm : m < 8) {X : Int32 → Hp → Prop} (q : X (ofL (cs (gMo 1)) l m) (HN h0 ad cs pm)) : CKi mX9_ofLoan 3 0 0 [some (.ref (ad (gMo 0))), some (.int (nI l)), some (.int (nI m)), none] (HN h0 ad cs pm) X := by
  intro Qc kq
  have hw' := hw
  obtain ⟨w1, w2, w3⟩ := hw'
  obtain ⟨a1, a2, a3, a4, a5, a6⟩ := w3 l hl
  refine tX9_ofLoan_0 L (c9_loanAt L (tX9_ofLoan_4 L ⟨fun h => ⟨fun h2 => ⟨fun h3 => ?_, fun h3 => ?_⟩, fun h2 => ⟨lnA l + 1, nI_add _ _, by unfold lnA; omega, ?_⟩⟩, fun h => ⟨lnA l + m, nI_add _ _, by unfold lnA; omega, kq _ _ ?_⟩⟩))
  all_goals rw [nI_leI (by omega) (by omega)] at h
  · rw [nI_inj5 (by omega) (by omega)] at h2 h3
    rw [ofL, if_neg (by omega), if_neg h2, if_neg h3] at q
    refine c9_isBack L hw hl (tX9_ofLoan_61 L ⟨fun h4 => kq _ _ ?_, fun h4 => kq _ _ ?_⟩)
    · rw [bI_z] at h4; rw [h4] at q; exact q
    · rw [bI_z] at h4; rw [show bkB (cs (gMo 1)) l = true by simpa using h4] at q; exact q
  · rw [nI_inj5 (by omega) (by omega)] at h2 h3
    rw [ofL, if_neg (by omega), if_neg h2, if_pos h3] at q
    exact c9_restOf L hw hl (tX9_ofLoan_53 L (kq _ _ q))
  · rw [nI_inj5 (by omega) (by omega)] at h2
    rw [ofL, if_neg (by omega), if_pos h2] at q
    rw [a3]
    exact c9_usedOf L hw hl a4 (tX9_ofLoan_39 L (kq _ _ q))
  · rw [ofL, if_pos (by omega)] at q
    exact q
theorem c9_loan (L : Lay n ad h0) (hw : WL n lc v) {a b : Int32} {X : Int32 → Hp → Prop} (q0 : ∀ l w, l < lc → w < 8 → a = nI l → b = nI w → X (ofL v l w) (HN h0 ad (mS cs (upd f 7 (nI 0)) v p) pm)) (q1 : (inB a (nI 0) (nI lc - nI 1) && inB b (nI 0) (nI 7)) = false → X (nI 0) (HN h0 ad (mS cs (upd f 7 (nI 1)) v p) pm)) : CKi mX9_loan 4 0 0 [some (.ref (ad (gMo 0))), some (.int a), some (.int b)] (HN h0 ad (mS cs f v p) pm) X := by
  intro Qc kq
  have hw' := hw
  obtain ⟨w1, w2, w3⟩ := hw'
  refine tX9_loan_0 L ?_
  rw [mS_1, w1]
  refine c9_in L (tX9_loan_14 L ⟨fun h => ?_, fun h => c9_in L (tX9_loan_24 L ⟨fun h2 => ?_, fun h2 => ?_⟩)⟩)
  · rw [bI_z] at h; rw [mS_u0]; exact kq _ _ (q1 (by simp [h]))
  · rw [bI_z] at h2; rw [mS_u0]; exact kq _ _ (q1 (by simp [h2]))
  · rw [bI_z] at h h2
    have h1 := inB_t.mp (show inB a (nI 0) (nI lc - nI 1) = true by simpa using h)
    have h3 := inB_t.mp (show inB b (nI 0) (nI 7) = true by simpa using h2)
    obtain ⟨w, hww, rfl⟩ := nI_of2 (M := nI 7) (n := 7) (nI_toInt (by omega)) (Int32.not_lt.mpr h3.1) h3.2
    by_cases hz : lc = 0
    · subst hz
      exact absurd (Int32.le_trans h1.1 h1.2) (by decide)
    · rw [pk_sub (by omega)] at h1
      obtain ⟨l, hl, rfl⟩ := nI_of2 (M := nI (lc - 1)) (n := lc - 1) (nI_toInt (by omega)) (Int32.not_lt.mpr h1.1) h1.2
      rw [mS_u0]
      refine c9_ofLoan (lc := lc) L (by rw [mS_1]; exact hw) (by omega) (by omega) (tX9_loan_48 L (kq _ _ ?_))
      rw [mS_1]
      exact q0 l w (by omega) (by omega) rfl rfl
theorem c9_helpers (L : Lay n ad h0) (hn : f 0 = nI n) (hw : WL n lc v) {a b x : Int32} {X : Int32 → Hp → Prop} (q0 : ∀ s k, s < n → k < 2 → a = nI s → b = nI k → inB x (nI 0) (nI 30000) = true → X (heR n (fun o => own n lc v o k) x n 0 (avl n lc v s k) (nI 1 <<< (nI s &&& 31))) (HN h0 ad (mS cs (upd f 7 (nI 0)) v p) pm)) (q1 : heF n a b x ≠ 0 → X (nI 0) (HN h0 ad (mS cs (upd f 7 (nI (heF n a b x))) v p) pm)) : CKi mX9_helpers 5 0 0 [some (.ref (ad (gMo 0))), some (.int a), some (.int b), some (.int x), none, none, none, none, none, none] (HN h0 ad (mS cs f v p) pm) X := by
  intro Qc kq
  have hb := L.1
  refine tX9_helpers_0 L (c9_isSite L (by rw [mS_0]; exact hn) (tX9_helpers_6 L ⟨fun h => ?_, fun h => c9_in L (tX9_helpers_15 L ⟨fun h2 => c9_in L (tX9_helpers_30 L ⟨fun h3 => ?_, fun h3 => ?_⟩), fun h2 => ?_⟩)⟩))
  · rw [bI_z] at h
    have e : heF n a b x = 1 := by simp [heF, h]
    rw [e] at q1; rw [mS_u0]; exact kq _ _ (q1 (by omega))
  · rw [bI_z] at h h2 h3
    obtain ⟨s, hs, rfl⟩ := siB_t (by omega) (show siB n a = true by simpa using h)
    obtain ⟨k, hk, rfl⟩ := kiB_t (show kiB b = true by simpa [kiB] using h2)
    have qq := q0 s k hs hk rfl rfl (by simpa using h3)
    rw [mS_u0]
    have hn' : mS cs (upd f 7 (nI 0)) v p (gMo 0) 0 = nI n := by rw [mS_0, upd_ne (by omega)]; exact hn
    have hw' : WL n lc (mS cs (upd f 7 (nI 0)) v p (gMo 1)) := by rw [mS_1]; exact hw
    refine c9_allRights (lc := lc) L hn' hw' hs hk (tX9_helpers_56 L ?_)
    rw [mS_1]
    have main : ∀ (g i : Nat) (sum tk : Int32), i + g = n → X (heR n (fun o => own n lc v o k) x g i sum tk) (HN h0 ad (mS cs (upd f 7 (nI 0)) v p) pm) → Wm mX9_helpers 5 0 0 Qc 66 [some (.ref (ad (gMo 0))), none, some (.int (nI k)), some (.int x), some (.int sum), some (.int tk), some (.int (nI i)), none, none, none] [] (HN h0 ad (mS cs (upd f 7 (nI 0)) v p) pm) 0 0 := by
      intro g
      induction g with
      | zero =>
        intro i sum tk hi qi
        refine tX9_helpers_66 L ⟨fun _ => kq _ _ qi, fun c => absurd ?_ c⟩
        rw [hn']; exact nI_le (by omega) (by omega)
      | succ g ih =>
        intro i sum tk hi qi
        refine tX9_helpers_66 L ⟨fun c => absurd c ?_, fun _ => ⟨fun c2 => ?_, fun c2 => ?_⟩⟩
        · rw [hn']; exact nI_ge (by omega) (by omega)
        · rw [heR, if_pos c2] at qi
          have key : ∀ j, j ≤ n → Wm mX9_helpers 5 0 0 Qc 90 [some (.ref (ad (gMo 0))), none, some (.int (nI k)), some (.int x), some (.int sum), some (.int tk), some (.int (nI i)), some (.int (oI (bsN (fun o => own n lc v o k) tk j))), some (.int (nI j)), none] [] (HN h0 ad (mS cs (upd f 7 (nI 0)) v p) pm) 0 0 := by
            refine loopU n _ ?_ ?_
            · refine tX9_helpers_90 L ⟨fun _ => ?_, fun c => absurd (by rw [hn']; exact nI_le (Nat.le_refl _) (by omega)) c⟩
              cases e : bsN (fun o => own n lc v o k) tk n with
              | none =>
                rw [e] at qi
                refine ⟨fun c => absurd c oI_neg, fun _ => tX9_helpers_176 L ⟨fun c => absurd c oI_neg, fun _ => ?_⟩⟩
                rw [nI_add]
                exact ih (i + 1) _ _ (by omega) qi
              | some w =>
                rw [e] at qi
                have hwn := bsN_lt e
                refine ⟨fun _ => c9_ownRights (lc := lc) L hn' hw' hwn hk (tX9_helpers_176 L ⟨fun _ => ?_, fun c => absurd (nI_pos' (by omega)) c⟩), fun c => absurd (nI_pos' (by omega)) c⟩
                rw [mS_1, nI_add]
                exact ih (i + 1) _ _ (by omega) qi
            · intro j hj ihj
              refine tX9_helpers_90 L ⟨fun c => absurd c (by rw [hn']; exact nI_ge hj (by omega)), fun _ => ⟨fun c => ?_, fun c => ?_⟩⟩
              · refine tX9_helpers_148 L ?_
                rw [bsN, if_neg c] at ihj
                rw [nI_add]
                exact ihj
              · rw [bsN, if_pos c] at ihj
                cases e : bsN (fun o => own n lc v o k) tk j with
                | none =>
                  rw [e] at ihj
                  refine ⟨fun _ => tX9_helpers_143 L ?_, fun c => absurd oI_neg' c⟩
                  rw [nI_add]
                  exact ihj
                | some w =>
                  rw [e] at ihj
                  have hwn := bsN_lt e
                  refine ⟨fun c => absurd c (nI_pos (by omega)), fun _ => c9_ownRights (lc := lc) L hn' hw' hj hk (tX9_helpers_133 L (c9_ownRights (lc := lc) L hn' hw' (s := w) (by omega) hk (tX9_helpers_140 L ⟨fun c3 => tX9_helpers_148 L ?_, fun c3 => tX9_helpers_143 L ?_⟩)))⟩
                  · rw [mS_1] at c3
                    rw [nI_add]
                    simp only [c3, not_true, if_false] at ihj
                    exact ihj
                  · rw [mS_1] at c3
                    rw [nI_add]
                    simp only [c3, not_false_iff, if_true] at ihj
                    exact ihj
          exact key 0 (Nat.zero_le _)
        · rw [heR, if_neg c2] at qi
          exact kq _ _ qi
    exact main n 0 _ _ (by omega) qq
  · rw [bI_z] at h h2 h3
    have e : heF n a b x = 2 := by
      have h2' : ¬ kiB b = false := h2
      rw [heF, if_neg (by rintro (e | e) <;> contradiction), if_pos h3]
    rw [e] at q1; rw [mS_u0]; exact kq _ _ (q1 (by omega))
  · rw [bI_z] at h2
    have h2' : kiB b = false := h2
    have e : heF n a b x = 1 := by simp [heF, h2']
    rw [e] at q1; rw [mS_u0]; exact kq _ _ (q1 (by omega))
end RG

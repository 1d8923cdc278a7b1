/-! the reference: rebalance, type, undo, fingerprint -/
theorem mS_uo {cs : Nat → Nat → Int32} {f v p : Nat → Int32} {g j : Nat} {x : Int32} (h0 : g ≠ gMo 0) (h1 : g ≠ gMo 1) (h2 : g ≠ gMo 2) : up2 (mS cs f v p) g j x = mS (up2 cs g j x) f v p := by
  rw [up2_seR, up2_seR, mS_o h0 h1 h2]
  funext g' i
  by_cases h : g' = g
  · subst h; simp [seR, mS, h0, h1, h2]
  · unfold mS seR
    simp only [h, if_false]
def rbA (v : Nat → Int32) (s k : Nat) : Nat → Int64
  | 0 => 0
  | i + 1 => rbA v s k i + (v (rcA s i + 14 + k)).toInt64
def rbP (v : Nat → Int32) (s k : Nat) (R al : Int64) (o : Nat) : Int32 := if o = s then nI 0 else ((R * (v (rcA s o + 14 + k)).toInt64) / al).toInt32
def rbM (v : Nat → Int32) (s k : Nat) (R al : Int64) : Nat → Int32
  | 0 => nI 0
  | i + 1 => if rbP v s k R al i ≤ 0 then rbM v s k R al i else rbM v s k R al i + rbP v s k R al i
def rbV (v : Nat → Int32) (s k : Nat) (R al : Int64) : Nat → (Nat → Int32)
  | 0 => v
  | i + 1 => if rbP v s k R al i ≤ 0 then rbV v s k R al i else givV (rbV v s k R al i) k s i (rbP v s k R al i)
theorem rbV_o {v : Nat → Int32} {s k : Nat} {R al : Int64} {o x : Nat} (hk : k < 2) (ho : o ≠ s) (ho5 : o < 5) (hx : x < 30) : ∀ i, i ≤ 5 → rbV v s k R al i (rcA s o + x) = v (rcA s o + x)
  | 0, _ => rfl
  | i + 1, hi => by
    have ih := rbV_o (v := v) (R := R) (al := al) hk ho ho5 hx i (by omega)
    rw [rbV]
    split
    · exact ih
    · rw [givV, chgV, upd_ne (by unfold rcA; omega), upd_ne (by unfold rcA; omega)]
      exact ih
theorem rbV_z {v : Nat → Int32} {s k n : Nat} {R al : Int64} (hA : ∀ i, i < n → ¬ rbP v s k R al i ≤ 0 → rbM v s k R al (i + 1) ≠ 0) : ∀ i, i ≤ n → rbM v s k R al i = 0 → rbV v s k R al i = v
  | 0, _, _ => rfl
  | i + 1, hi, h => by
    by_cases c : rbP v s k R al i ≤ 0
    · rw [rbM, if_pos c] at h
      rw [rbV, if_pos c]
      exact rbV_z hA i (by omega) h
    · exact absurd h (hA i (by omega) c)
def mx (j : Int64) (x : Int32) : Int64 := 31 * j + x.toInt64
def fpK (n lc : Nat) (v : Nat → Int32) (s : Nat) : Nat → Int64 → Int64
  | 0, j => j
  | i + 1, j => mx (mx (fpK n lc v s i j) (own n lc v s i)) (avl n lc v s i)
def fpO (v : Nat → Int32) (s : Nat) : Nat → Int64 → Int64
  | 0, j => j
  | i + 1, j => mx (mx (fpO v s i j) (v (rcA s i))) (tOf v s i)
def fpN (n lc : Nat) (v : Nat → Int32) : Nat → Int64 → Int64
  | 0, j => j
  | i + 1, j => fpO v i n (mx (fpK n lc v i 2 (fpN n lc v i j)) (knwV n v i))
def fpW (v : Nat → Int32) (l : Nat) : Nat → Int64 → Int64
  | 0, j => j
  | i + 1, j => mx (fpW v l i j) (ofL v l (5 + i))
def fpL (v : Nat → Int32) : Nat → Int64 → Int64
  | 0, j => j
  | i + 1, j => fpW v i 3 (fpL v i j)
def fpR (n lc : Nat) (v : Nat → Int32) : Int64 := fpL v lc (fpN n lc v n (mx (mx (mx (mx 71 (v 0)) (valV n v)) (v 4)) (v 5)))
def tyF (ty : Nat) (x : Int32) : Nat := if inB x (nI 32) (nI 126) = false then 1 else if ty = 60 then 2 else 0
section RH
variable {n lc c mc m : Nat} {ad : Nat → Nat} {h0 : Hp} {cs : Nat → Nat → Int32} {pm : Nat → Nat → Nat} {s o l k t : Nat} {f v p : Nat → Int32}
theorem c9_rebalance (L : Lay n ad h0) (hn : f 0 = nI n) (hc : f 4 = nI c) (h5 : c ≤ 5) (hw : WL n lc v) {a b : Int32} {X : Int32 → Hp → Prop} (hA : ∀ s k, s < n → k < 2 → a = nI s → b = nI k → ∀ i, i < n → ¬ rbP v s k (own n lc v s k).toInt64 (rbA v s k n) i ≤ 0 → rbM v s k (own n lc v s k).toInt64 (rbA v s k n) (i + 1) ≠ 0)
    (q0 : ∀ s k, s < n → k < 2 → a = nI s → b = nI k → (lg_cmp (rbA v s k n) 0 ≤ 0 ∨ rbM v s k (own n lc v s k).toInt64 (rbA v s k n) n = 0) → X (nI 0) (HN h0 ad (mS cs (upd f 7 (nI 0)) v p) pm))
    (q1 : ∀ s k, s < n → k < 2 → a = nI s → b = nI k → ¬ lg_cmp (rbA v s k n) 0 ≤ 0 → rbM v s k (own n lc v s k).toInt64 (rbA v s k n) n ≠ 0 → X (rbM v s k (own n lc v s k).toInt64 (rbA v s k n) n) (HN h0 ad (mS cs (actF c (upd f 7 (nI 0))) (rbV v s k (own n lc v s k).toInt64 (rbA v s k n) n) (actP c v p)) pm))
    (q2 : (siB n a && kiB b) = false → X (nI 0) (HN h0 ad (mS cs (upd f 7 (nI 1)) v p) pm)) : CKi mX9_rebalance 4 0 0 [some (.ref (ad (gMo 0))), some (.int a), some (.int b), none, none, none, none, none, none, none] (HN h0 ad (mS cs f v p) pm) X := by
  intro Qc kq
  have hb := L.1
  refine tX9_rebalance_0 L (c9_isSite L (by rw [mS_0]; exact hn) (tX9_rebalance_6 L ⟨fun h => ?_, fun h => c9_in L (tX9_rebalance_15 L ⟨fun h2 => ?_, fun h2 => ?_⟩)⟩))
  · rw [bI_z] at h; rw [mS_u0]; exact kq _ _ (q2 (by simp [h]))
  · rw [bI_z] at h2; rw [mS_u0]; exact kq _ _ (q2 (by simp [kiB, h2]))
  rw [bI_z] at h h2
  obtain ⟨s, hs, rfl⟩ := siB_t (by omega) (show siB n a = true by simpa using h)
  obtain ⟨k, hk, rfl⟩ := kiB_t (show kiB b = true by simpa [kiB] using h2)
  have hA := hA s k hs hk rfl rfl
  have q0 := q0 s k hs hk rfl rfl
  have q1 := q1 s k hs hk rfl rfl
  rw [mS_u0]
  generalize hF : upd f 7 (nI 0) = F at *
  have hF0 : F 0 = nI n := by rw [← hF, upd_ne (by omega)]; exact hn
  have hF4 : F 4 = nI c := by rw [← hF, upd_ne (by omega)]; exact hc
  have hn' : ∀ w p', mS cs F w p' (gMo 0) 0 = nI n := fun w p' => by rw [mS_0]; exact hF0
  have hn2 : ∀ w p', mS cs (actF c F) w p' (gMo 0) 0 = nI n := fun w p' => by rw [mS_0, actF, upd_ne (by omega)]; exact hF0
  have sum : ∀ i, i ≤ n → Wm mX9_rebalance 4 0 0 Qc 40 [some (.ref (ad (gMo 0))), some (.int (nI s)), some (.int (nI k)), some (.long (rbA v s k i)), none, some (.int (nI i)), none, none, none, none] [] (HN h0 ad (mS cs F v p) pm) 0 0 := by
    refine loopU n _ ?_ ?_
    · refine tX9_rebalance_40 L ⟨fun _ => c9_ownRights (lc := lc) L (hn' _ _) (by rw [mS_1]; exact hw) hs hk (tX9_rebalance_81 L ?_), fun c => absurd (by rw [hn']; exact nI_le (Nat.le_refl _) (by omega)) c⟩
      rw [mS_1]
      generalize hR : (own n lc v s k).toInt64 = R at *
      generalize hal : rbA v s k n = al at *
      by_cases cl : lg_cmp al 0 ≤ 0
      · refine tX9_rebalance_90 L ⟨fun _ => kq _ _ (q0 (Or.inl cl)), fun _ => ⟨fun _ => kq _ _ (q0 (Or.inl cl)), fun c2 => absurd cl c2⟩⟩
      · have hal0 : ¬ al = 0 := fun e => cl (by rw [e]; decide)
        have zer := rbV_z hA
        have main : ∀ i, i ≤ n → Wm mX9_rebalance 4 0 0 Qc 90 [some (.ref (ad (gMo 0))), some (.int (nI s)), some (.int (nI k)), some (.long al), none, some (.long R), none, some (.int (rbM v s k R al i)), some (.int (nI i)), none] [] (HN h0 ad (if rbM v s k R al i = 0 then mS cs F v p else mS cs (actF c F) (rbV v s k R al i) (actP c v p)) pm) 0 0 := by
          refine loopU n _ ?_ ?_
          · by_cases z : rbM v s k R al n = 0
            · rw [if_pos z]
              refine tX9_rebalance_90 L ⟨fun _ => kq _ _ (by rw [z]; exact q0 (Or.inr z)), fun c => absurd (by rw [hn']; exact nI_le (Nat.le_refl _) (by omega)) c⟩
            · rw [if_neg z]
              refine tX9_rebalance_90 L ⟨fun _ => kq _ _ (q1 cl z), fun c => absurd (by rw [hn2]; exact nI_le (Nat.le_refl _) (by omega)) c⟩
          · intro i hi ih
            have hrc := rcA_lt (s := s) (i := i) (by omega) (by omega)
            have skip : ∀ H : Hp, H = HN h0 ad (if rbM v s k R al i = 0 then mS cs F v p else mS cs (actF c F) (rbV v s k R al i) (actP c v p)) pm → rbP v s k R al i ≤ 0 → Wm mX9_rebalance 4 0 0 Qc 176 [some (.ref (ad (gMo 0))), some (.int (nI s)), some (.int (nI k)), some (.long al), none, some (.long R), none, some (.int (rbM v s k R al i)), some (.int (nI i)), none] [] H 0 0 := by
              intro H eH hp
              subst eH
              have e : rbM v s k R al (i + 1) = rbM v s k R al i := by rw [rbM, if_pos hp]
              have e2 : rbV v s k R al (i + 1) = rbV v s k R al i := by rw [rbV, if_pos hp]
              rw [e, e2] at ih
              refine tX9_rebalance_176 L ?_
              rw [nI_add]
              exact ih
            have give : ¬ rbP v s k R al i ≤ 0 → ∀ w, w = rbV v s k R al i → Wm mX9_rebalance 4 0 0 Qc 154 [some (.ref (ad (gMo 0))), some (.int (nI s)), some (.int (nI k)), some (.long al), none, some (.long R), none, some (.int (rbM v s k R al i)), some (.int (nI i)), some (.int (rbP v s k R al i))] [] (HN h0 ad (mS cs (actF c F) w (actP c v p)) pm) 0 0 := by
              intro hp w ew
              subst ew
              have hne := hA i hi hp
              rw [if_neg hne] at ih
              have e : rbM v s k R al (i + 1) = rbM v s k R al i + rbP v s k R al i := by rw [rbM, if_neg hp]
              have e2 : rbV v s k R al (i + 1) = givV (rbV v s k R al i) k s i (rbP v s k R al i) := by rw [rbV, if_neg hp]
              rw [e, e2] at ih
              refine tX9_rebalance_154 L ⟨fun c => absurd c hp, fun _ => c9_gives L hs hi hk (tX9_rebalance_169 L (tX9_rebalance_176 L ?_))⟩
              rw [nI_add]
              exact ih
            by_cases z : rbM v s k R al i = 0
            · have hV := zer i (by omega) z
              have hz := skip _ rfl
              rw [if_pos z] at hz
              rw [if_pos z]
              refine tX9_rebalance_90 L ⟨fun c => absurd c (by rw [hn']; exact nI_ge hi (by omega)), fun _ => ⟨fun c2 => absurd c2 cl, fun _ => ⟨fun c3 => ?_, fun c3 => ⟨fun _ => ?_, fun c4 => absurd (by decide) c4⟩⟩⟩⟩
              · rw [nI_inj5 (by omega) (by omega)] at c3
                have eP : ((R * (v (rcA s i + 14 + k)).toInt64) / al).toInt32 = rbP v s k R al i := by rw [rbP, if_neg c3]
                refine c9_record (tX9_rebalance_127 L ⟨rcA s i + 14 + k, by simp only [nI_add], by omega, hal0, ?_⟩)
                rw [mS_1, eP]
                refine ⟨fun c4 => tX9_rebalance_154 L ⟨fun _ => hz c4, fun c5 => absurd c4 c5⟩, fun c4 => ⟨fun c5 => absurd z c5, fun _ => c9_act (c := c) L hF4 h5 (give c4 v hV.symm)⟩⟩
              · rw [nI_inj5 (by omega) (by omega)] at c3
                have eP : rbP v s k R al i = nI 0 := by rw [rbP, if_pos c3]
                exact tX9_rebalance_154 L ⟨fun _ => hz (by rw [eP]; decide), fun c5 => absurd (by decide) c5⟩
            · have hz := skip _ rfl
              rw [if_neg z] at hz
              rw [if_neg z]
              refine tX9_rebalance_90 L ⟨fun c => absurd c (by rw [hn2]; exact nI_ge hi (by omega)), fun _ => ⟨fun c2 => absurd c2 cl, fun _ => ⟨fun c3 => ?_, fun c3 => ⟨fun _ => ?_, fun c4 => absurd (by decide) c4⟩⟩⟩⟩
              · rw [nI_inj5 (by omega) (by omega)] at c3
                have eP : ((R * (v (rcA s i + 14 + k)).toInt64) / al).toInt32 = rbP v s k R al i := by rw [rbP, if_neg c3]
                refine c9_record (tX9_rebalance_127 L ⟨rcA s i + 14 + k, by simp only [nI_add], by omega, hal0, ?_⟩)
                have e9 := rbV_o (v := v) (s := s) (k := k) (R := R) (al := al) (o := i) (x := 14 + k) hk c3 (by omega) (by omega) i (by omega)
                rw [← Nat.add_assoc] at e9
                rw [mS_1, e9, eP]
                refine ⟨fun c4 => tX9_rebalance_154 L ⟨fun _ => hz c4, fun c5 => absurd c4 c5⟩, fun c4 => ⟨fun _ => give c4 _ rfl, fun c5 => absurd c5 z⟩⟩
              · rw [nI_inj5 (by omega) (by omega)] at c3
                have eP : rbP v s k R al i = nI 0 := by rw [rbP, if_pos c3]
                exact tX9_rebalance_154 L ⟨fun _ => hz (by rw [eP]; decide), fun c5 => absurd (by decide) c5⟩
        have m0 := main 0 (Nat.zero_le _)
        rw [if_pos (show rbM v s k R al 0 = 0 from rfl)] at m0
        exact m0
    · intro i hi ih
      refine tX9_rebalance_40 L ⟨fun c => absurd c (by rw [hn']; exact nI_ge hi (by omega)), fun _ => c9_record (tX9_rebalance_60 L ⟨rcA s i + 14 + k, by simp only [nI_add], by unfold rcA; omega, ?_⟩)⟩
      rw [mS_1, nI_add]
      exact ih
  exact sum 0 (Nat.zero_le _)
theorem c9_type (L : Lay n ad h0) {ty : Nat} (hy : f 6 = nI ty) (hty : ty ≤ 60) {x : Int32} {X : Int32 → Hp → Prop} (q0 : ty < 60 → inB x (nI 32) (nI 126) = true → X (nI (ty + 1)) (HN h0 ad (mS (up2 cs (gMo 4) ty x) (upd (upd f 7 (nI 0)) 6 (nI (ty + 1))) v p) pm)) (q1 : tyF ty x ≠ 0 → X (nI 0) (HN h0 ad (mS cs (upd f 7 (nI (tyF ty x))) v p) pm)) : CKi mX9_type 1 0 0 [some (.ref (ad (gMo 0))), some (.int x)] (HN h0 ad (mS cs f v p) pm) X := by
  intro Qc kq
  refine tX9_type_0 L ?_
  rw [mS_u0]
  have hy' : mS cs (upd f 7 (nI 0)) v p (gMo 0) 6 = nI ty := by rw [mS_0, upd_ne (by omega)]; exact hy
  refine c9_in L (tX9_type_13 L ⟨fun h => ⟨fun h2 => ⟨ty, hy', ?_, ?_⟩, fun h2 => ?_⟩, fun h => ?_⟩)
  · rw [hy', nI_inj5 (by omega) (by omega)] at h2; omega
  · rw [hy', nI_inj5 (by omega) (by omega)] at h2
    rw [bI_z] at h
    rw [hy', mS_uo (by simp [gMo]) (by simp [gMo]) (by simp [gMo]), mS_u0, nI_add]
    exact kq _ _ (q0 (by omega) (by simpa using h))
  · rw [hy', nI_inj5 (by omega) (by omega)] at h2
    rw [bI_z] at h
    have e : tyF ty x = 2 := by rw [tyF, if_neg h, if_pos h2]
    rw [e] at q1
    refine c9_fails L (tX9_type_36 L (kq _ _ ?_))
    rw [upd_upd]; exact q1 (by omega)
  · rw [bI_z] at h
    have e : tyF ty x = 1 := by rw [tyF, if_pos h]
    rw [e] at q1
    refine c9_fails L (tX9_type_21 L (kq _ _ ?_))
    rw [upd_upd]; exact q1 (by omega)
theorem c9_clearText (L : Lay n ad h0) {X : Int32 → Hp → Prop} (q : X (f 6) (HN h0 ad (mS cs (upd (upd f 7 (nI 0)) 6 (nI 0)) v p) pm)) : CKi mX9_clearText 0 0 0 [some (.ref (ad (gMo 0))), none] (HN h0 ad (mS cs f v p) pm) X := by
  intro Qc kq
  refine tX9_clearText_0 L ?_
  rw [mS_u0, mS_u0, mS_0]
  exact kq _ _ q
theorem c9_undo (L : Lay n ad h0) (hc : f 4 = nI c) (h5 : c ≤ 5) {X : Int32 → Hp → Prop} (q0 : c ≠ 0 → X (nI (c - 1)) (HN h0 ad (mS cs (upd (upd f 7 (nI 0)) 4 (nI (c - 1))) (ovw v 0 (fun i => p (2400 * (c - 1) + i)) 2400) p) pm)) (q1 : c = 0 → X (nI 0) (HN h0 ad (mS cs (upd f 7 (nI 1)) v p) pm)) : CKi mX9_undo 1 0 0 [some (.ref (ad (gMo 0))), none] (HN h0 ad (mS cs f v p) pm) X := by
  intro Qc kq
  have ez : nI c = 0 ↔ c = 0 := by rw [← nIz]; exact nI_inj5 (by omega) (by omega)
  refine tX9_undo_0 L ⟨fun h => ?_, fun h => ?_⟩
  · rw [mS_0, hc, ez] at h
    rw [mS_0, hc, mS_u0, mS_u0, pk_sub (by omega)]
    have hF : (upd (upd f 7 (nI 0)) 4 (nI (c - 1))) 4 = nI (c - 1) := upd_eq
    have key : ∀ i, i ≤ 2400 → Wm mX9_undo 1 0 0 Qc 30 [some (.ref (ad (gMo 0))), some (.int (nI i))] [] (HN h0 ad (mS cs (upd (upd f 7 (nI 0)) 4 (nI (c - 1))) (ovw v 0 (fun i => p (2400 * (c - 1) + i)) i) p) pm) 0 0 := by
      refine loopU 2400 _ ?_ ?_
      · refine tX9_undo_30 L ⟨fun _ => ?_, fun c => absurd (nI_le (Nat.le_refl _) (by omega)) c⟩
        rw [mS_0, hF]
        exact kq _ _ (q0 h)
      · intro i hi ih
        refine tX9_undo_30 L ⟨fun c => absurd c (nI_ge hi (by omega)), fun _ => ⟨2400 * (c - 1) + i, ?_, by omega, i, rfl, hi, ?_⟩⟩
        · rw [mS_0, hF]; simp only [nI_add, pk_mul]
        · have e := ovw_u (p := v) (w := fun i => p (2400 * (c - 1) + i)) (a := 0) (i := i)
          rw [Nat.zero_add] at e
          rw [mS_2, mS_u1, e, nI_add]
          exact ih
    have k0 := key 0 (Nat.zero_le _)
    rw [ovw_0] at k0
    exact k0
  · rw [mS_0, hc, ez] at h
    rw [mS_u0]
    refine c9_fails L (tX9_undo_17 L (kq _ _ ?_))
    rw [upd_upd]
    exact q1 h
theorem c9_fingerprint (L : Lay n ad h0) (hn : f 0 = nI n) (hw : WL n lc v) {X : Int64 → Hp → Prop} (q : X (fpR n lc v) (HN h0 ad (mS cs (upd f 7 (nI 0)) v p) pm)) : CKl mX9_fingerprint 5 0 0 [some (.ref (ad (gMo 0))), none, none, none, none] (HN h0 ad (mS cs f v p) pm) X := by
  intro Qc kq
  have hb := L.1
  refine tX9_fingerprint_0 L ?_
  rw [mS_u0]
  generalize hF : upd f 7 (nI 0) = F at *
  have hn' : mS cs F v p (gMo 0) 0 = nI n := by rw [mS_0, ← hF, upd_ne (by omega)]; exact hn
  have hw1 : WL n lc (mS cs F v p (gMo 1)) := by rw [mS_1]; exact hw
  have hw' := hw
  obtain ⟨w1, w2, w3⟩ := hw'
  refine c9_valueNow L hn' (tX9_fingerprint_27 L ?_)
  rw [mS_1, mS_1]
  generalize hst : mx (mx (mx (mx 71 (v 0)) (valV n v)) (v 4)) (v 5) = j0
  have est : 31 * (31 * (31 * (2201 + (v 0).toInt64) + (valV n v).toInt64) + (v 4).toInt64) + (v 5).toInt64 = j0 := by
    rw [← hst]
    unfold mx
    rw [show (31 : Int64) * 71 = 2201 by decide]
  rw [est]
  have loans : ∀ l, l ≤ lc → Wm mX9_fingerprint 5 0 0 Qc 183 [some (.ref (ad (gMo 0))), some (.long (fpL v l (fpN n lc v n j0))), none, some (.int (nI l)), none] [] (HN h0 ad (mS cs F v p) pm) 0 0 := by
    refine loopU lc _ ?_ ?_
    · refine tX9_fingerprint_183 L ⟨fun _ => kq _ _ ?_, fun c => absurd (by rw [mS_1, w1]; exact nI_le (Nat.le_refl _) (by omega)) c⟩
      rw [fpR, hst] at q
      exact q
    · intro l hl ih
      have key : ∀ w, w ≤ 3 → Wm mX9_fingerprint 5 0 0 Qc 196 [some (.ref (ad (gMo 0))), some (.long (fpW v l w (fpL v l (fpN n lc v n j0)))), none, some (.int (nI l)), some (.int (nI (5 + w)))] [] (HN h0 ad (mS cs F v p) pm) 0 0 := by
        refine loopU 3 _ ?_ ?_
        · refine tX9_fingerprint_196 L ⟨fun _ => ?_, fun c => absurd (nI_le (by omega) (by omega)) c⟩
          rw [nI_add]
          exact ih
        · intro w hw2 ih2
          refine tX9_fingerprint_196 L ⟨fun c => absurd c (nI_ge (by omega) (by omega)), fun _ => c9_ofLoan (lc := lc) L hw1 hl (by omega) (tX9_fingerprint_215 L ?_)⟩
          rw [mS_1, nI_add]
          exact ih2
      refine tX9_fingerprint_183 L ⟨fun c => absurd c (by rw [mS_1, w1]; exact nI_ge hl (by omega)), fun _ => key 0 (Nat.zero_le _)⟩
  have sites : ∀ s, s ≤ n → Wm mX9_fingerprint 5 0 0 Qc 55 [some (.ref (ad (gMo 0))), some (.long (fpN n lc v s j0)), none, some (.int (nI s)), none] [] (HN h0 ad (mS cs F v p) pm) 0 0 := by
    refine loopU n _ ?_ ?_
    · exact tX9_fingerprint_55 L ⟨fun _ => loans 0 (Nat.zero_le _), fun c => absurd (by rw [hn']; exact nI_le (Nat.le_refl _) (by omega)) c⟩
    · intro s hs ih
      have key2 : ∀ o, o ≤ n → Wm mX9_fingerprint 5 0 0 Qc 124 [some (.ref (ad (gMo 0))), some (.long (fpO v s o (mx (fpK n lc v s 2 (fpN n lc v s j0)) (knwV n v s)))), none, some (.int (nI s)), some (.int (nI o))] [] (HN h0 ad (mS cs F v p) pm) 0 0 := by
        refine loopU n _ ?_ ?_
        · refine tX9_fingerprint_124 L ⟨fun _ => ?_, fun c => absurd (by rw [hn']; exact nI_le (Nat.le_refl _) (by omega)) c⟩
          rw [nI_add]
          exact ih
        · intro o ho ih2
          refine tX9_fingerprint_124 L ⟨fun c => absurd c (by rw [hn']; exact nI_ge ho (by omega)), fun _ => c9_record (tX9_fingerprint_148 L ⟨rcA s o, nI_add _ _, by unfold rcA; omega, c9_timeOf L (by omega) (by omega) (tX9_fingerprint_166 L ?_)⟩)⟩
          rw [mS_1, nI_add]
          exact ih2
      have key : ∀ k, k ≤ 2 → Wm mX9_fingerprint 5 0 0 Qc 66 [some (.ref (ad (gMo 0))), some (.long (fpK n lc v s k (fpN n lc v s j0))), none, some (.int (nI s)), some (.int (nI k))] [] (HN h0 ad (mS cs F v p) pm) 0 0 := by
        refine loopU 2 _ ?_ ?_
        · refine tX9_fingerprint_66 L ⟨fun _ => c9_knownBy L hn' hs (tX9_fingerprint_118 L ?_), fun c => absurd (nI_le (Nat.le_refl _) (by omega)) c⟩
          rw [mS_1]
          exact key2 0 (Nat.zero_le _)
        · intro k hk ih2
          refine tX9_fingerprint_66 L ⟨fun c => absurd c (nI_ge hk (by omega)), fun _ => c9_ownRights (lc := lc) L hn' hw1 hs hk (tX9_fingerprint_84 L (c9_allRights (lc := lc) L hn' hw1 hs hk (tX9_fingerprint_99 L ?_)))⟩
          rw [mS_1, nI_add]
          exact ih2
      exact tX9_fingerprint_55 L ⟨fun c => absurd c (by rw [hn']; exact nI_ge hs (by omega)), fun _ => key 0 (Nat.zero_le _)⟩
  exact sites 0 (Nat.zero_le _)
end RH

/-! an access: both sides -/
theorem ch_Tlo {ty ty2 fe mv rc md lo lo2 : Nat → Int32} (D : Nat → Prop) (TT : ch_T ty fe mv rc md lo) (h1 : ∀ j, (∀ k, 0 ≤ k → k < 4 → ¬ j = 5 * k + 4) → ty2 j = ty j) (h2 : ∀ k, k < 4 → (D k → ty2 (5 * k + 4) = ty (5 * k + 4) + 1 ∧ lo2 k = lo k + 1) ∧ (¬ D k → ty2 (5 * k + 4) = ty (5 * k + 4) ∧ lo2 k = lo k)) : ch_T ty2 fe mv rc md lo2 := by
  intro k hk
  obtain ⟨t0, t1, t2, t3, t4⟩ := TT k hk
  rw [h1 _ (fun j _ _ => by omega), h1 (5 * k + 1) (fun j _ _ => by omega), h1 (5 * k + 2) (fun j _ _ => by omega), h1 (5 * k + 3) (fun j _ _ => by omega)]
  refine ⟨t0, t1, t2, t3, ?_⟩
  by_cases z : D k
  · obtain ⟨a, b⟩ := (h2 k hk).1 z
    rw [a, b, t4]
  · obtain ⟨a, b⟩ := (h2 k hk).2 z
    rw [a, b, t4]
section ac
variable {n : Nat} {fr lr : Int32} {st aw ty hd ro ln sp bf ra mk wd iw wr kw sr vl kn sn kp ry fe mv rc md lo : Nat → Int32}
variable {L : Nat → Nat} {T : Nat → Nat → Nat}
theorem v_strict (hn : n ≤ 300) (TT : ch_T ty fe mv rc md lo) {m p : Nat} (g : Bool) (hm : m < 4) (hp : p < 8) (hs : ¬ sp p = 0) : ∃ ty2 lo2 : Nat → Int32, ch_T ty2 fe mv rc md lo2 ∧ (g = false → ty2 = ty) ∧ (g = true → ∀ post : SX → Prop, post ((nI n), fr, st, aw, ty2, hd, ro, ln, sp, bf, ra, mk, wd, iw, wr, kw, sr) → wpX_takeFromOthers post ((nI n), fr, st, aw, ty, hd, ro, ln, sp, bf, ra, mk, wd, iw, wr, kw, sr) (nI m) (nI p)) ∧ (∀ post : SY → Prop, post ((nI n), fr, lr, mk, wd, vl, iw, kn, sn, kp, bf, sp, st, aw, hd, ry, ln, fe, mv, rc, md, lo2, ra) → wY_reach_34 post (nI m) (nI p) (ch_b g) (ch_h2 mk wd iw (nI m) (nI p) n) (nI n) fr lr mk wd vl iw kn sn kp bf sp st aw hd ry ln fe mv rc md lo ra) := by
  cases g
  · exact ⟨ty, lo, TT, fun _ => rfl, fun z => (by cases z), fun post h => br_t rfl h⟩
  · obtain ⟨ty2, h1, h2, h3⟩ := x_take_12 (n := n) (fr := fr) (st := st) (aw := aw) (hd := hd) (ro := ro) (ln := ln) (sp := sp) (bf := bf) (ra := ra) (mk := mk) (wd := wd) (iw := iw) (wr := wr) (kw := kw) (sr := sr) (p := p) hn hm 4 0 ty (by omega)
    have hX : ∀ post : SX → Prop, post ((nI n), fr, st, aw, ty2, hd, ro, ln, sp, bf, ra, mk, wd, iw, wr, kw, sr) → wpX_takeFromOthers post ((nI n), fr, st, aw, ty, hd, ro, ln, sp, bf, ra, mk, wd, iw, wr, kw, sr) (nI m) (nI p) := by
      intro post h
      unfold wpX_takeFromOthers
      dsimp only
      rw [nI_clamp (n := p) (by omega)]
      exact ⟨vp_in_nI hp (by decide), br_f hs ⟨5, h3 post h⟩⟩
    cases e : ch_ow mk wd iw (nI m) (nI p) n
    · obtain ⟨lo2, g1, g2, g3⟩ := y_r48 (n := n) (fr := fr) (lr := lr) (mk := mk) (wd := wd) (vl := vl) (iw := iw) (kn := kn) (sn := sn) (kp := kp) (bf := bf) (sp := sp) (st := st) (aw := aw) (hd := hd) (ry := ry) (ln := ln) (fe := fe) (mv := mv) (rc := rc) (md := md) (ra := ra) (p := p) hn hm 4 0 lo (by omega)
      refine ⟨ty2, lo2, ?_, fun z => (by cases z), fun _ => hX, fun post h => br_f (by decide) (br_f ?_ ⟨5, g3 post h⟩)⟩
      · refine ch_Tlo (fun k => ¬ k = m ∧ ch_hv mk wd iw (nI k) (nI p) n = true) TT h2 (fun k hk => ⟨fun z => ?_, fun z => ?_⟩)
        · exact ⟨(h1 k (Nat.zero_le k) hk).trans (if_pos z), (g1 k (Nat.zero_le k) hk).trans (if_pos z)⟩
        · exact ⟨(h1 k (Nat.zero_le k) hk).trans (if_neg z), (g1 k (Nat.zero_le k) hk).trans (if_neg z)⟩
      · unfold ch_h2
        rw [e, if_neg (by decide)]
        cases ch_hv mk wd iw (nI m) (nI p) n <;> decide
    · refine ⟨ty2, lo, ?_, fun z => (by cases z), fun _ => hX, fun post h => br_f (by decide) (br_t ?_ h)⟩
      · refine ch_Tlo (fun _ => False) TT h2 (fun k hk => ⟨fun z => z.elim, fun _ => ⟨(h1 k (Nat.zero_le k) hk).trans (if_neg ?_), rfl⟩⟩)
        rintro ⟨a, b⟩
        rw [ch_ow_no mk wd iw (nI m) (nI k) (nI p) (fun z => a ((nI_eq (by omega) (by omega)).mp z)) n e] at b
        cases b
      · unfold ch_h2
        rw [e, if_pos rfl]
theorem v_page (A : ch_A n mk wd iw wr vl) (K : ch_K n mk iw hd kw sr kn sn kp) (TT : ch_T ty fe mv rc md lo) {m p : Nat} (g : Bool) (hm : m < 4) (hp : p < 8) : ∃ ty1 sr1 ty2 sn1 fe1 mv1 lo1 : Nat → Int32, ch_K n mk iw hd kw sr1 kn sn1 kp ∧ ch_T ty2 fe1 mv1 rc md lo1 ∧ (g = false → ty2 = ty1) ∧ (∀ post : SX → Prop, post ((nI n), fr, st, aw, ty1, hd, ro, ln, sp, bf, ra, mk, wd, iw, wr, kw, sr1) → wpX_bringPage post ((nI n), fr, st, aw, ty, hd, ro, ln, sp, bf, ra, mk, wd, iw, wr, kw, sr) (nI m) (nI p)) ∧ (g = true → ∀ post : SX → Prop, post ((nI n), fr, st, aw, ty2, hd, ro, ln, sp, bf, ra, mk, wd, iw, wr, kw, sr1) → wpX_takeFromOthers post ((nI n), fr, st, aw, ty1, hd, ro, ln, sp, bf, ra, mk, wd, iw, wr, kw, sr1) (nI m) (nI p)) ∧ (∀ (post : Int32 → SY → Prop) (w : Nat), nI w / 8 = nI p → (∃ n53, wY_access_53 post (nI m) (nI w) (ch_b g) (nI p) (nI n) fr lr mk wd vl iw kn sn1 kp bf sp st aw hd ry ln fe1 mv1 rc md lo1 ra n53 0 (-1) 0) → wpY_access post ((nI n), fr, lr, mk, wd, vl, iw, kn, sn, kp, bf, sp, st, aw, hd, ry, ln, fe, mv, rc, md, lo, ra) (nI m) (nI w) (ch_b g)) := by
  have i8 : vp_in (nI p) 8 := vp_in_nI hp (by decide)
  by_cases s : sp p = 0
  · have ht : ∀ (ty1 sr1 : Nat → Int32) (post : SX → Prop), post ((nI n), fr, st, aw, ty1, hd, ro, ln, sp, bf, ra, mk, wd, iw, wr, kw, sr1) → wpX_takeFromOthers post ((nI n), fr, st, aw, ty1, hd, ro, ln, sp, bf, ra, mk, wd, iw, wr, kw, sr1) (nI m) (nI p) := by
      intro ty1 sr1 post h
      unfold wpX_takeFromOthers
      dsimp only
      rw [nI_clamp (n := p) (by omega)]
      exact ⟨i8, br_t s h⟩
    have ea : ch_any (fun j => decide (wd j / 8 = nI p) && ch_fy iw kn sn m j) n = ch_any (fun j => decide (wd j / 8 = nI p) && ch_fx iw kw sr m j) n := ch_any_e (fun i hi => by rw [ch_fxy A K hm hi])
    cases e : (decide (sp p = 0) && ch_any (fun j => decide (wd j / 8 = nI p) && ch_fx iw kw sr m j) n)
    · refine ⟨ty, sr, ty, sn, fe, mv, lo, K, TT, fun _ => rfl, fun post h => ?_, fun _ => ht ty sr, fun post w hw h => ?_⟩
      · unfold wpX_bringPage
        dsimp only
        rw [nI_clamp (n := p) (by omega)]
        refine ⟨i8, br_t s (x_isStale A.1 hm hp ?_)⟩
        rw [e]
        exact br_t rfl h
      · unfold wpY_access
        dsimp only
        refine ⟨by decide, nm_r hw ⟨i8, ?_⟩⟩
        rw [nI_clamp (n := p) (by omega)]
        refine br_t s (y_isStale A.1 hm hp ?_)
        rw [ea, e]
        exact br_t rfl h
    · obtain ⟨ty1, sr1, sn1, fe1, mv1, K1, TT1, X1, Y1⟩ := v_fetch (fr := fr) (lr := lr) (st := st) (aw := aw) (ro := ro) (ln := ln) (sp := sp) (bf := bf) (ra := ra) (ry := ry) A K TT hm hp
      refine ⟨ty1, sr1, ty1, sn1, fe1, mv1, lo, K1, TT1, fun _ => rfl, fun post h => ?_, fun _ => ht ty1 sr1, fun post w hw h => ?_⟩
      · unfold wpX_bringPage
        dsimp only
        rw [nI_clamp (n := p) (by omega)]
        refine ⟨i8, br_t s (x_isStale A.1 hm hp ?_)⟩
        rw [e]
        exact br_f (by decide) (X1 _ h)
      · unfold wpY_access
        dsimp only
        refine ⟨by decide, nm_r hw ⟨i8, ?_⟩⟩
        rw [nI_clamp (n := p) (by omega)]
        refine br_t s (y_isStale A.1 hm hp ?_)
        rw [ea, e]
        exact br_f (by decide) (Y1 _ h)
  · have i4 : vp_in (nI m) 4 := vp_in_nI hm (by decide)
    cases e : ch_hv mk wd iw (nI m) (nI p) n
    · have e0 : ch_h2 mk wd iw (nI m) (nI p) n = 0 := by
        unfold ch_h2
        rw [if_neg (fun z => by rw [ch_ow_hv mk wd iw (nI m) (nI p) n z] at e; cases e), e]
        rfl
      have TT1 : ch_T (ch_cf ty m 8) (upd fe m (fe m + 1)) (upd mv m (mv m + 8)) rc md lo := ch_Tcf TT pk_us (fun j hj => pk_un hj) pk_us (fun j hj => pk_un hj)
      obtain ⟨ty2, lo2, TT2, z0, z1, z2⟩ := v_strict (fr := fr) (lr := lr) (st := st) (aw := aw) (hd := hd) (ro := ro) (ln := ln) (sp := sp) (bf := bf) (ra := ra) (mk := mk) (wd := wd) (iw := iw) (wr := wr) (kw := kw) (sr := sr) (vl := vl) (kn := kn) (sn := sn) (kp := kp) (ry := ry) A.1 TT1 g hm hp s
      refine ⟨ch_cf ty m 8, sr, ty2, sn, _, _, lo2, K, TT2, z0, fun post h => ?_, z1, fun post w hw h => ?_⟩
      · unfold wpX_bringPage
        dsimp only
        rw [nI_clamp (n := p) (by omega)]
        refine ⟨i8, br_f s (x_hasPage A.1 ?_)⟩
        rw [e]
        exact br_t rfl (x_countFetch hm h)
      · unfold wpY_access
        dsimp only
        refine ⟨by decide, nm_r hw ⟨i8, ?_⟩⟩
        rw [nI_clamp (n := p) (by omega)]
        refine br_f s ?_
        unfold wpY_reach
        dsimp only
        refine y_hasPage A.1 ?_
        rw [nI_clamp (n := m) (by omega)]
        exact br_t e0 ⟨i4, i4, nm_e ⟨i4, i4, nm_e (z2 _ h)⟩⟩
    · have e0 : ¬ ch_h2 mk wd iw (nI m) (nI p) n = 0 := by
        unfold ch_h2
        rw [e]
        split <;> decide
      obtain ⟨ty2, lo2, TT2, z0, z1, z2⟩ := v_strict (fr := fr) (lr := lr) (st := st) (aw := aw) (hd := hd) (ro := ro) (ln := ln) (sp := sp) (bf := bf) (ra := ra) (mk := mk) (wd := wd) (iw := iw) (wr := wr) (kw := kw) (sr := sr) (vl := vl) (kn := kn) (sn := sn) (kp := kp) (ry := ry) A.1 TT g hm hp s
      refine ⟨ty, sr, ty2, sn, fe, mv, lo2, K, TT2, z0, fun post h => ?_, z1, fun post w hw h => ?_⟩
      · unfold wpX_bringPage
        dsimp only
        rw [nI_clamp (n := p) (by omega)]
        refine ⟨i8, br_f s (x_hasPage A.1 ?_)⟩
        rw [e]
        exact br_f (by decide) h
      · unfold wpY_access
        dsimp only
        refine ⟨by decide, nm_r hw ⟨i8, ?_⟩⟩
        rw [nI_clamp (n := p) (by omega)]
        refine br_f s ?_
        unfold wpY_reach
        dsimp only
        refine y_hasPage A.1 ?_
        exact br_f e0 (z2 _ h)
theorem ch_rxy (A : ch_A n mk wd iw wr vl) (K : ch_K n mk iw hd kw sr kn sn kp) {m w : Nat} (g : Bool) (hm : m < 4) : ch_any (ch_ry mk wd iw kn m w g) n = ch_any (ch_rx wd iw kw m w g) n := by
  refine ch_any_e (fun i hi => ?_)
  unfold ch_ry ch_rx
  rw [K.1 m i hm hi]
  by_cases z : mk i = nI m
  · rw [K.2.2.2.1 m i hm hi z, z]
    simp
  · rw [decide_eq_true z, Bool.true_and]
    cases bt (kw i) m <;> rfl
theorem ch_pxy (A : ch_A n mk wd iw wr vl) (K : ch_K n mk iw hd kw sr kn sn kp) {m w p : Nat} (hm : m < 4) (v0 : Int32) : ch_lv (ch_py wd iw sn sp m w p) vl v0 n = ch_lv (ch_px wd iw sr sp m w p) wr v0 n := by
  have e : ∀ i, i < n → ch_py wd iw sn sp m w p i = ch_px wd iw sr sp m w p i := by
    intro i hi
    unfold ch_py ch_qy ch_px
    rcases A.2.2.2.1 i hi with z | z
    · rw [z]
      simp
    · rw [K.2.2.1 m i hm hi z, z]
      cases bt (sr i) m <;> simp [ch_b]
  refine ch_lv_e v0 n e (fun i hi h => ?_)
  rw [e i hi] at h
  unfold ch_px at h
  rcases A.2.2.2.1 i hi with z | z
  · rw [z] at h
    simp at h
  · exact (A.2.2.2.2 i hi z).symm
theorem v_access (R : ch_R n L T st aw ty hd ro ln mk wd iw wr kw sr vl kn sn kp ry fe mv rc md lo) (hn : n < 300) {m w : Nat} (g : Bool) (hm : m < 4) (hw : w < 64) :
    ∃ (val : Int32) (b : Bool) (ty1 sr1 ty2 fe1 mv1 lo1 kn1 sn1 kp1 : Nat → Int32),
      (∀ v v2 : Int32, (g = true → v = v2) → ch_R (n + 1) L T st aw (ch_kt ty2 m b) hd ro ln (upd mk n (nI m)) (upd wd n (nI w)) (upd iw n (ch_b g)) (upd wr n v) (upd kw n ((1 : Int32) <<< (nI m &&& 31))) (upd sr1 n ((1 : Int32) <<< (nI m &&& 31))) (upd vl n v2) kn1 sn1 kp1 ry fe1 mv1 (ch_up rc m b) (upd md m (md m + 1)) lo1) ∧
      (g = false → ty2 = ty1) ∧
      (∀ post : SX → Prop, post ((nI n), fr, st, aw, ty1, hd, ro, ln, sp, bf, ra, mk, wd, iw, wr, kw, sr1) → wpX_bringPage post ((nI n), fr, st, aw, ty, hd, ro, ln, sp, bf, ra, mk, wd, iw, wr, kw, sr) (nI m) (nI w / 8)) ∧
      (∀ post : Int32 → Prop, post val → wpX_valueAt post ((nI n), fr, st, aw, ty1, hd, ro, ln, sp, bf, ra, mk, wd, iw, wr, kw, sr1) (nI m) (nI w)) ∧
      (g = true → ∀ post : SX → Prop, post ((nI n), fr, st, aw, ty2, hd, ro, ln, sp, bf, ra, mk, wd, iw, wr, kw, sr1) → wpX_takeFromOthers post ((nI n), fr, st, aw, ty1, hd, ro, ln, sp, bf, ra, mk, wd, iw, wr, kw, sr1) (nI m) (nI w / 8)) ∧
      (∀ (v : Int32) (post : Int32 → SX → Prop), post (ch_b b) (nI (n + 1), fr, st, aw, ch_kt ty2 m b, hd, ro, ln, sp, bf, ch_up ra w b, upd mk n (nI m), upd wd n (nI w), upd iw n (ch_b g), upd wr n v, upd kw n ((1 : Int32) <<< (nI m &&& 31)), upd sr1 n ((1 : Int32) <<< (nI m &&& 31))) → wpX_keepAccess post ((nI n), fr, st, aw, ty2, hd, ro, ln, sp, bf, ra, mk, wd, iw, wr, kw, sr1) (nI m) (nI w) (ch_b g) v) ∧
      (∀ post : Int32 → SY → Prop, post val ((nI n), fr, ch_b b, upd mk n (nI m), upd wd n (nI w), vl, upd iw n (ch_b g), kn1, sn1, kp1, bf, sp, st, aw, hd, ry, ln, fe1, mv1, ch_up rc m b, upd md m (md m + 1), lo1, ch_up ra w b) → wpY_access post ((nI n), fr, lr, mk, wd, vl, iw, kn, sn, kp, bf, sp, st, aw, hd, ry, ln, fe, mv, rc, md, lo, ra) (nI m) (nI w) (ch_b g)) := by
  obtain ⟨A, K, Q, WX, WY, TT⟩ := R
  have e8 := ch_w8 hw
  obtain ⟨ty1, sr1, ty2, sn0, fe1, mv1, lo1, K1, TT1, z0, z1, z2, z3⟩ := v_page (fr := fr) (lr := lr) (st := st) (aw := aw) (ro := ro) (ln := ln) (sp := sp) (bf := bf) (ra := ra) (ry := ry) A K TT (p := w / 8) g hm (by omega)
  obtain ⟨kn1, sn1, kp1, h1, h2, h3⟩ := y_acc (n := n) (fr := fr) (lr := lr) (mk := mk) (wd := wd) (vl := vl) (iw := iw) (kn := kn) (sn := sn0) (kp := kp) (bf := bf) (sp := sp) (st := st) (aw := aw) (hd := hd) (ry := ry) (ln := ln) (fe := fe1) (mv := mv1) (rc := rc) (md := md) (lo := lo1) (ra := ra) (p := w / 8) hn g _ hm hw (by omega) rfl
  rw [ch_rxy A K1 g hm, ch_pxy A K1 hm] at h3
  refine ⟨ch_lv (ch_px wd iw sr1 sp m w (w / 8)) wr (bf w) n, ch_any (ch_rx wd iw kw m w g) n, ty1, sr1, ty2, fe1, mv1, lo1, kn1, sn1, kp1, ?_, z0, ?_, ?_, ?_, ?_, ?_⟩
  · intro v v2 hv
    refine ⟨ch_Anew A hn hm hw ?_ (fun q => hv (ch_b_1.mp q)), ?_, Q, WX, WY, ch_Tkt _ TT1⟩
    · cases g
      · exact Or.inl rfl
      · exact Or.inr rfl
    · refine ch_Knew K1 hn hm rfl (fun q hq => ?_) (fun j hj => (h2 j hj).1) (fun y q hq => ?_) (fun j hj => (h2 j hj).2.1) (fun q hq => (h1 q hq).2.2) (fun j hj => (h2 j hj).2.2)
      · rw [(h1 q hq).1]
        by_cases z : q = m
        · rw [decide_eq_true z, if_pos z]; rfl
        · rw [decide_eq_false z, if_neg z]; rfl
      · rw [(h1 q hq).2.1, ch_b_1.mp y, Bool.and_true]
        by_cases z : q = m
        · rw [decide_eq_true z, if_pos z]; rfl
        · rw [decide_eq_false z, if_neg z]; rfl
  · rw [e8]
    exact z1
  · exact fun post h => x_valueAt A.1 hm hw h
  · rw [e8]
    exact z2
  · exact fun v post h => x_keepAccess hn hm hw rfl h
  · exact fun post h => z3 post w e8 (h3 post h)
theorem ch_full (hn : n ≤ 300) (h : ¬ n < 300) : (nI n : Int32) = 300 := by
  have : n = 300 := by omega
  subst this
  rfl
theorem v_read {k : Nat} (R : ch_R n L T st aw ty hd ro ln mk wd iw wr kw sr vl kn sn kp ry fe mv rc md lo) (v1 v2 : Int32) : ∃ (r : Int64) (u' : SX) (v' : SY), i_Rel k u' v' ∧ (∀ post : Int64 → SX → Prop, post r u' → wpX_read post ((nI n), fr, st, aw, ty, hd, ro, ln, sp, bf, ra, mk, wd, iw, wr, kw, sr) v1 v2) ∧ (∀ post : Int64 → SY → Prop, post r v' → wpY_read post ((nI n), fr, lr, mk, wd, vl, iw, kn, sn, kp, bf, sp, st, aw, hd, ry, ln, fe, mv, rc, md, lo, ra) v1 v2) := by
  have hn3 := R.1.1
  by_cases a : ch_run st v1
  · by_cases b : ch_rg 64 v2
    · by_cases hn : n < 300
      · have a2 := a
        have b2 := b
        obtain ⟨m, hm, rfl, hs⟩ := a2
        obtain ⟨w, hw, rfl⟩ := b2
        obtain ⟨val, f, ty1, sr1, ty2, fe1, mv1, lo1, kn1, sn1, kp1, R2, z0, zb, zv, zt, zk, zy⟩ := v_access (fr := fr) (lr := lr) (sp := sp) (bf := bf) (ra := ra) R hn false hm hw
        have z0 := z0 rfl
        subst z0
        refine ⟨val.toInt64, _, _, ch_mk fr (ch_b f) sp bf (ch_up ra w f) (R2 0 val (fun z => (by cases z))), fun post h => ?_, fun post h => ?_⟩
        · unfold wpX_read
          dsimp only
          refine x_mayAccess (fun _ _ => br_f (by decide) (br_t (nI_lt (b := 300) hn (by decide)) ⟨by decide, ?_⟩)) (fun z => absurd ⟨a, b⟩ z)
          exact zb _ (zv _ (zk 0 _ h))
        · unfold wpY_read
          dsimp only
          refine y_runs (fun _ => br_f (by decide) ?_) (fun z => absurd a z)
          refine y_in (N := 64) rfl (by decide) (fun _ => br_f (by decide) ?_) (fun z => absurd b z)
          have ne : ¬ (nI n : Int32) = 300 := fun e => absurd ((nI_eq (b := 300) (by omega) (by decide)).mp e) (by omega)
          refine br_f ne (zy _ ?_)
          dsimp only
          rw [nI_clamp (n := n) (by omega)]
          exact nm_r (nI_1 n) ⟨vp_in_nI hn (by decide), nm_e h⟩
      · refine ⟨-10000000000, _, _, ch_mk fr lr sp bf ra R, fun post h => ?_, fun post h => ?_⟩
        · unfold wpX_read
          dsimp only
          exact x_mayAccess (fun _ _ => br_f (by decide) (br_f (nI_nlt (b := 300) (by omega) (by omega)) h)) (fun z => absurd ⟨a, b⟩ z)
        · unfold wpY_read
          dsimp only
          refine y_runs (fun _ => br_f (by decide) ?_) (fun z => absurd a z)
          exact y_in (N := 64) rfl (by decide) (fun _ => br_f (by decide) (br_t (ch_full hn3 hn) h)) (fun z => absurd b z)
    · refine ⟨-10000000000, _, _, ch_mk fr lr sp bf ra R, fun post h => ?_, fun post h => ?_⟩
      · unfold wpX_read
        dsimp only
        exact x_mayAccess (fun _ z => absurd z b) (fun _ => br_t rfl h)
      · unfold wpY_read
        dsimp only
        refine y_runs (fun _ => br_f (by decide) ?_) (fun z => absurd a z)
        exact y_in (N := 64) rfl (by decide) (fun z => absurd z b) (fun _ => br_t rfl h)
  · refine ⟨-10000000000, _, _, ch_mk fr lr sp bf ra R, fun post h => ?_, fun post h => ?_⟩
    · unfold wpX_read
      dsimp only
      exact x_mayAccess (fun z _ => absurd z a) (fun _ => br_t rfl h)
    · unfold wpY_read
      dsimp only
      exact y_runs (fun z => absurd z a) (fun _ => br_t rfl h)
theorem v_add {k : Nat} (R : ch_R n L T st aw ty hd ro ln mk wd iw wr kw sr vl kn sn kp ry fe mv rc md lo) (v1 v2 v3 : Int32) : ∃ (r : Int64) (u' : SX) (v' : SY), i_Rel k u' v' ∧ (∀ post : Int64 → SX → Prop, post r u' → wpX_add post ((nI n), fr, st, aw, ty, hd, ro, ln, sp, bf, ra, mk, wd, iw, wr, kw, sr) v1 v2 v3) ∧ (∀ post : Int64 → SY → Prop, post r v' → wpY_add post ((nI n), fr, lr, mk, wd, vl, iw, kn, sn, kp, bf, sp, st, aw, hd, ry, ln, fe, mv, rc, md, lo, ra) v1 v2 v3) := by
  have hn3 := R.1.1
  by_cases a : ch_run st v1
  · by_cases b : ch_rg 64 v2
    · by_cases hn : n < 300
      · have a2 := a
        have b2 := b
        obtain ⟨m, hm, rfl, hs⟩ := a2
        obtain ⟨w, hw, rfl⟩ := b2
        obtain ⟨val, f, ty1, sr1, ty2, fe1, mv1, lo1, kn1, sn1, kp1, R2, z0, zb, zv, zt, zk, zy⟩ := v_access (fr := fr) (lr := lr) (sp := sp) (bf := bf) (ra := ra) R hn true hm hw
        refine ⟨val.toInt64, _, _, ch_mk fr (ch_b f) sp bf (ch_up ra w f) (R2 (val + v3) (val + v3) (fun _ => rfl)), fun post h => ?_, fun post h => ?_⟩
        · unfold wpX_add
          dsimp only
          refine x_mayAccess (fun _ _ => br_f (by decide) (br_t (nI_lt (b := 300) hn (by decide)) ⟨by decide, ?_⟩)) (fun z => absurd ⟨a, b⟩ z)
          exact zb _ (zv _ ⟨by decide, zt rfl _ (zk (val + v3) _ h)⟩)
        · unfold wpY_add
          dsimp only
          refine y_runs (fun _ => br_f (by decide) ?_) (fun z => absurd a z)
          refine y_in (N := 64) rfl (by decide) (fun _ => br_f (by decide) ?_) (fun z => absurd b z)
          have ne : ¬ (nI n : Int32) = 300 := fun e => absurd ((nI_eq (b := 300) (by omega) (by decide)).mp e) (by omega)
          refine br_f ne (zy _ ?_)
          dsimp only
          rw [nI_clamp (n := n) (by omega)]
          exact nm_r (nI_1 n) ⟨vp_in_nI hn (by decide), nm_e h⟩
      · refine ⟨-10000000000, _, _, ch_mk fr lr sp bf ra R, fun post h => ?_, fun post h => ?_⟩
        · unfold wpX_add
          dsimp only
          exact x_mayAccess (fun _ _ => br_f (by decide) (br_f (nI_nlt (b := 300) (by omega) (by omega)) h)) (fun z => absurd ⟨a, b⟩ z)
        · unfold wpY_add
          dsimp only
          refine y_runs (fun _ => br_f (by decide) ?_) (fun z => absurd a z)
          exact y_in (N := 64) rfl (by decide) (fun _ => br_f (by decide) (br_t (ch_full hn3 hn) h)) (fun z => absurd b z)
    · refine ⟨-10000000000, _, _, ch_mk fr lr sp bf ra R, fun post h => ?_, fun post h => ?_⟩
      · unfold wpX_add
        dsimp only
        exact x_mayAccess (fun _ z => absurd z b) (fun _ => br_t rfl h)
      · unfold wpY_add
        dsimp only
        refine y_runs (fun _ => br_f (by decide) ?_) (fun z => absurd a z)
        exact y_in (N := 64) rfl (by decide) (fun z => absurd z b) (fun _ => br_t rfl h)
  · refine ⟨-10000000000, _, _, ch_mk fr lr sp bf ra R, fun post h => ?_, fun post h => ?_⟩
    · unfold wpX_add
      dsimp only
      exact x_mayAccess (fun z _ => absurd z a) (fun _ => br_t rfl h)
    · unfold wpY_add
      dsimp only
      exact y_runs (fun z => absurd z a) (fun _ => br_t rfl h)
theorem v_write {k : Nat} (R : ch_R n L T st aw ty hd ro ln mk wd iw wr kw sr vl kn sn kp ry fe mv rc md lo) (v1 v2 v3 : Int32) : ∃ (r : Int32) (u' : SX) (v' : SY), i_Rel k u' v' ∧ (∀ post : Int32 → SX → Prop, post r u' → wpX_write post ((nI n), fr, st, aw, ty, hd, ro, ln, sp, bf, ra, mk, wd, iw, wr, kw, sr) v1 v2 v3) ∧ (∀ post : Int32 → SY → Prop, post r v' → wpY_write post ((nI n), fr, lr, mk, wd, vl, iw, kn, sn, kp, bf, sp, st, aw, hd, ry, ln, fe, mv, rc, md, lo, ra) v1 v2 v3) := by
  have hn3 := R.1.1
  by_cases a : ch_run st v1
  · by_cases b : ch_rg 64 v2
    · by_cases hn : n < 300
      · have a2 := a
        have b2 := b
        obtain ⟨m, hm, rfl, hs⟩ := a2
        obtain ⟨w, hw, rfl⟩ := b2
        obtain ⟨val, f, ty1, sr1, ty2, fe1, mv1, lo1, kn1, sn1, kp1, R2, z0, zb, zv, zt, zk, zy⟩ := v_access (fr := fr) (lr := lr) (sp := sp) (bf := bf) (ra := ra) R hn true hm hw
        refine ⟨ch_b f, _, _, ch_mk fr (ch_b f) sp bf (ch_up ra w f) (R2 v3 v3 (fun _ => rfl)), fun post h => ?_, fun post h => ?_⟩
        · unfold wpX_write
          dsimp only
          refine x_mayAccess (fun _ _ => br_f (by decide) (br_t (nI_lt (b := 300) hn (by decide)) ⟨by decide, ?_⟩)) (fun z => absurd ⟨a, b⟩ z)
          refine zb _ ⟨by decide, zt rfl _ (zk v3 _ ?_)⟩
          dsimp only
          cases f
          · exact br_t rfl h
          · exact br_f (by decide) h
        · unfold wpY_write
          dsimp only
          refine y_runs (fun _ => br_f (by decide) ?_) (fun z => absurd a z)
          refine y_in (N := 64) rfl (by decide) (fun _ => br_f (by decide) ?_) (fun z => absurd b z)
          have ne : ¬ (nI n : Int32) = 300 := fun e => absurd ((nI_eq (b := 300) (by omega) (by decide)).mp e) (by omega)
          refine br_f ne (zy _ ?_)
          dsimp only
          rw [nI_clamp (n := n) (by omega)]
          refine nm_r (nI_1 n) ⟨vp_in_nI hn (by decide), nm_e ?_⟩
          cases f
          · exact br_t rfl h
          · exact br_f (by decide) h
      · refine ⟨-2, _, _, ch_mk fr lr sp bf ra R, fun post h => ?_, fun post h => ?_⟩
        · unfold wpX_write
          dsimp only
          exact x_mayAccess (fun _ _ => br_f (by decide) (br_f (nI_nlt (b := 300) (by omega) (by omega)) h)) (fun z => absurd ⟨a, b⟩ z)
        · unfold wpY_write
          dsimp only
          refine y_runs (fun _ => br_f (by decide) ?_) (fun z => absurd a z)
          exact y_in (N := 64) rfl (by decide) (fun _ => br_f (by decide) (br_t (ch_full hn3 hn) h)) (fun z => absurd b z)
    · refine ⟨-1, _, _, ch_mk fr lr sp bf ra R, fun post h => ?_, fun post h => ?_⟩
      · unfold wpX_write
        dsimp only
        exact x_mayAccess (fun _ z => absurd z b) (fun _ => br_t rfl h)
      · unfold wpY_write
        dsimp only
        refine y_runs (fun _ => br_f (by decide) ?_) (fun z => absurd a z)
        exact y_in (N := 64) rfl (by decide) (fun z => absurd z b) (fun _ => br_t rfl h)
  · refine ⟨-1, _, _, ch_mk fr lr sp bf ra R, fun post h => ?_, fun post h => ?_⟩
    · unfold wpX_write
      dsimp only
      exact x_mayAccess (fun z _ => absurd z a) (fun _ => br_t rfl h)
    · unfold wpY_write
      dsimp only
      exact y_runs (fun z => absurd z a) (fun _ => br_t rfl h)
end ac

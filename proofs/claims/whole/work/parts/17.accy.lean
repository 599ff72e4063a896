/-! an access: Y's side -/
def ch_ry (mk wd iw kn : Nat → Int32) (m w : Nat) (g : Bool) (j : Nat) : Bool := decide (wd j = nI w) && (decide (¬ mk j = nI m) && ((g || decide (¬ iw j = 0)) && decide (kn (300 * m + j) = 0)))
def ch_qy (iw sn sp : Nat → Int32) (m p : Nat) (j : Nat) : Bool := decide (¬ iw j = 0) && (decide (¬ sp p = 0) || decide (¬ sn (300 * m + j) = 0))
def ch_py (wd iw sn sp : Nat → Int32) (m w p : Nat) (j : Nat) : Bool := decide (wd j = nI w) && ch_qy iw sn sp m p j
section ay
variable {n : Nat} {fr lr : Int32} {mk wd vl iw kn sn kp bf sp st aw hd ry ln fe mv rc md lo ra : Nat → Int32}
theorem y_a120 {fk : Int32} {post : Int32 → SY → Prop} {J : Int32 → Int32 → Int32 → Prop} {m p i : Nat} {x2 x3 x5 x6 : Int32} (hi : i < 300) (hm : m < 4) (hp : p < 8) (h : J x5 (if ch_qy iw sn sp m p i = true then nI i else x6) (nI (i + 1))) : wY_access_120 post J (nI m) x2 x3 (nI p) x5 x6 (nI i) fk fr lr mk wd vl iw kn sn kp bf sp st aw hd ry ln fe mv rc md lo ra := by
  unfold wY_access_120
  have i3 : vp_in (nI i) 300 := vp_in_nI hi (by decide)
  rw [nI_clamp (n := i) (by omega), nI_clamp (n := p) (by omega), ch_adC hm hi]
  have no : ch_qy iw sn sp m p i = false → J x5 x6 (nI (i + 1)) := by
    intro e
    rw [if_neg (by rw [e]; decide)] at h
    exact h
  have yes : ch_qy iw sn sp m p i = true → J x5 (nI i) (nI (i + 1)) := by
    intro e
    rw [if_pos e] at h
    exact h
  refine ⟨i3, br_c (fun a => nm_r (nI_1 i) (no ?_)) (fun a => ⟨vp_in_nI hp (by decide), br_c (fun b => ⟨ch_adI hm hi, br_c (fun c => nm_r (nI_1 i) (no ?_)) (fun c => nm_r (nI_1 i) (yes ?_))⟩) (fun b => nm_r (nI_1 i) (yes ?_))⟩)⟩
  · unfold ch_qy
    rw [a]
    simp
  · unfold ch_qy
    rw [b, c]
    simp
  · unfold ch_qy
    rw [decide_eq_true a, decide_eq_true c]
    simp
  · unfold ch_qy
    rw [decide_eq_true a, decide_eq_true b]
    rfl
theorem y_a101 {fk : Int32} {post : Int32 → SY → Prop} {J : Int32 → Int32 → Int32 → Prop} {m p i : Nat} {x2 x3 x5 x6 : Int32} (hi : i < 300) (hm : m < 4) (hp : p < 8) (h : J (if kn (300 * m + i) = 0 then 1 else x5) (if ch_qy iw sn sp m p i = true then nI i else x6) (nI (i + 1))) : wY_access_101 post J (nI m) x2 x3 (nI p) x5 x6 (nI i) fk fr lr mk wd vl iw kn sn kp bf sp st aw hd ry ln fe mv rc md lo ra := by
  unfold wY_access_101
  rw [ch_adC hm hi]
  refine ⟨ch_adI hm hi, br_c (fun a => ?_) (fun a => ?_)⟩
  · rw [if_pos a] at h
    exact y_a120 hi hm hp h
  · rw [if_neg a] at h
    exact y_a120 hi hm hp h
theorem y_a53 (hn : n ≤ 300) {post : Int32 → SY → Prop} {m w p : Nat} (g : Bool) (hm : m < 4) (hp : p < 8) (he : wY_access_53 post (nI m) (nI w) (ch_b g) (nI p) (nI n) fr lr mk wd vl iw kn sn kp bf sp st aw hd ry ln fe mv rc md lo ra 1 (ch_b (ch_any (ch_ry mk wd iw kn m w g) n)) (ch_la (ch_py wd iw sn sp m w p) n) (nI n)) : ∀ d i, i + d = n → wY_access_53 post (nI m) (nI w) (ch_b g) (nI p) (nI n) fr lr mk wd vl iw kn sn kp bf sp st aw hd ry ln fe mv rc md lo ra (d + 1) (ch_b (ch_any (ch_ry mk wd iw kn m w g) i)) (ch_la (ch_py wd iw sn sp m w p) i) (nI i) := by
  intro d
  induction d with
  | zero =>
    intro i hi
    have : i = n := by omega
    subst this
    exact he
  | succ d ih =>
    intro i hi
    have ih := ih (i + 1) (by omega)
    have i3 : vp_in (nI i) 300 := vp_in_nI (by omega) (by decide)
    have ea : ch_any (ch_ry mk wd iw kn m w g) (i + 1) = (ch_any (ch_ry mk wd iw kn m w g) i || ch_ry mk wd iw kn m w g i) := rfl
    have el : ch_la (ch_py wd iw sn sp m w p) (i + 1) = if ch_py wd iw sn sp m w p i = true then nI i else ch_la (ch_py wd iw sn sp m w p) i := rfl
    refine br_f (nI_ge (by omega) (by omega)) ⟨i3, ?_⟩
    rw [nI_clamp (n := i) (by omega)]
    refine br_c (fun a => ?_) (fun a => ?_)
    · have ep : ch_py wd iw sn sp m w p i = ch_qy iw sn sp m p i := by
        unfold ch_py
        rw [decide_eq_true a, Bool.true_and]
      rw [el, ep] at ih
      have quiet : ch_ry mk wd iw kn m w g i = false → wY_access_120 post (wY_access_53 post (nI m) (nI w) (ch_b g) (nI p) (nI n) fr lr mk wd vl iw kn sn kp bf sp st aw hd ry ln fe mv rc md lo ra (d + 1)) (nI m) (nI w) (ch_b g) (nI p) (ch_b (ch_any (ch_ry mk wd iw kn m w g) i)) (ch_la (ch_py wd iw sn sp m w p) i) (nI i) (nI n) fr lr mk wd vl iw kn sn kp bf sp st aw hd ry ln fe mv rc md lo ra := by
        intro e
        rw [ea, e, Bool.or_false] at ih
        exact y_a120 (by omega) hm hp ih
      have loud : ¬ mk i = nI m → (g || decide (¬ iw i = 0)) = true → wY_access_101 post (wY_access_53 post (nI m) (nI w) (ch_b g) (nI p) (nI n) fr lr mk wd vl iw kn sn kp bf sp st aw hd ry ln fe mv rc md lo ra (d + 1)) (nI m) (nI w) (ch_b g) (nI p) (ch_b (ch_any (ch_ry mk wd iw kn m w g) i)) (ch_la (ch_py wd iw sn sp m w p) i) (nI i) (nI n) fr lr mk wd vl iw kn sn kp bf sp st aw hd ry ln fe mv rc md lo ra := by
        intro b c
        refine y_a101 (by omega) hm hp ?_
        have er : ch_ry mk wd iw kn m w g i = decide (kn (300 * m + i) = 0) := by
          unfold ch_ry
          rw [decide_eq_true a, decide_eq_true b, c, Bool.true_and, Bool.true_and, Bool.true_and]
        rw [ea, er] at ih
        by_cases z : kn (300 * m + i) = 0
        · rw [decide_eq_true z, Bool.or_true] at ih
          rw [if_pos z]
          exact ih
        · rw [decide_eq_false z, Bool.or_false] at ih
          rw [if_neg z]
          exact ih
      refine ⟨i3, br_c (fun b => quiet ?_) (fun b => ?_)⟩
      · unfold ch_ry
        rw [b]
        simp
      · cases g
        · refine br_t rfl ⟨i3, br_c (fun c => quiet ?_) (fun c => loud b ?_)⟩
          · unfold ch_ry
            rw [c]
            simp
          · rw [decide_eq_true c]
            rfl
        · exact br_f (by decide) (loud b rfl)
    · refine nm_r (nI_1 i) ?_
      have e1 : ch_ry mk wd iw kn m w g i = false := by unfold ch_ry; rw [decide_eq_false a, Bool.false_and]
      have e2 : ch_py wd iw sn sp m w p i = false := by unfold ch_py; rw [decide_eq_false a, Bool.false_and]
      rw [ea, el, e1, e2, Bool.or_false, if_neg (by decide)] at ih
      exact ih
theorem y_a303 (hn : n < 300) {post : Int32 → SY → Prop} {J : Int32 → (Nat → Int32) → (Nat → Int32) → (Nat → Int32) → (Nat → Int32) → (Nat → Int32) → (Nat → Int32) → (Nat → Int32) → (Nat → Int32) → (Nat → Int32) → (Nat → Int32) → (Nat → Int32) → (Nat → Int32) → (Nat → Int32) → (Nat → Int32) → (Nat → Int32) → (Nat → Int32) → (Nat → Int32) → (Nat → Int32) → (Nat → Int32) → (Nat → Int32) → Prop} {x1 x2 x3 x6 : Int32} {q : Nat} (b : Bool) (hq : q < 4) (h : J (nI (q + 1)) mk wd vl iw kn (upd sn (300 * q + n) (ch_b b)) (upd kp (300 * q + n) 0) bf sp st aw hd ry ln fe mv rc md lo ra) : wY_access_303 post J x1 x2 x3 x6 (nI q) (ch_b b) (300 * nI q + nI n) (nI n) fr lr mk wd vl iw kn sn kp bf sp st aw hd ry ln fe mv rc md lo ra := by
  unfold wY_access_303
  rw [ch_adC hq hn, ch_vb, ch_vb0]
  exact ⟨ch_adI hq hn, nm_e ⟨ch_adI hq hn, nm_e (nm_r (nI_1 q) h)⟩⟩
theorem y_a272 (hn : n < 300) {post : Int32 → SY → Prop} {J : Int32 → (Nat → Int32) → (Nat → Int32) → (Nat → Int32) → (Nat → Int32) → (Nat → Int32) → (Nat → Int32) → (Nat → Int32) → (Nat → Int32) → (Nat → Int32) → (Nat → Int32) → (Nat → Int32) → (Nat → Int32) → (Nat → Int32) → (Nat → Int32) → (Nat → Int32) → (Nat → Int32) → (Nat → Int32) → (Nat → Int32) → (Nat → Int32) → (Nat → Int32) → Prop} {x2 x6 : Int32} {m q : Nat} (g b : Bool) (hm : m < 4) (hq : q < 4) (h : J (nI (q + 1)) mk wd vl iw (upd kn (300 * q + n) (ch_b b)) (upd sn (300 * q + n) (ch_b (decide (q = m) && g))) (upd kp (300 * q + n) 0) bf sp st aw hd ry ln fe mv rc md lo ra) : wY_access_272 post J (nI m) x2 (ch_b g) x6 (nI q) (ch_b b) (300 * nI q + nI n) (nI n) fr lr mk wd vl iw kn sn kp bf sp st aw hd ry ln fe mv rc md lo ra := by
  unfold wY_access_272
  rw [ch_adC hq hn, ch_vb]
  refine ⟨ch_adI hq hn, nm_e (br_c (fun a => ?_) (fun a => ?_))⟩
  · have e : q = m := (nI_eq (by omega) (by omega)).mp a
    rw [decide_eq_true e, Bool.true_and] at h
    cases g
    · exact br_t rfl (y_a303 (b := false) hn hq h)
    · exact br_f (by decide) (y_a303 (b := true) hn hq h)
  · have e : ¬ q = m := fun z => a (by rw [z])
    rw [decide_eq_false e, Bool.false_and] at h
    exact y_a303 (b := false) hn hq h
theorem y_a240 (hn : n < 300) {m : Nat} {x2 x6 : Int32} (g : Bool) (hm : m < 4) : ∀ (d q : Nat) (kn sn kp : Nat → Int32), q + d = 4 → ∃ kn' sn' kp' : Nat → Int32,
    (∀ k, q ≤ k → k < 4 → kn' (300 * k + n) = ch_b (decide (k = m)) ∧ sn' (300 * k + n) = ch_b (decide (k = m) && g) ∧ kp' (300 * k + n) = 0) ∧ (∀ j, (∀ k, q ≤ k → k < 4 → ¬ j = 300 * k + n) → kn' j = kn j ∧ sn' j = sn j ∧ kp' j = kp j) ∧
    ∀ post : Int32 → SY → Prop, wY_access_240 post (nI m) x2 (ch_b g) x6 (nI n) fr lr 1 (nI 4) mk wd vl iw kn' sn' kp' bf sp st aw hd ry ln fe mv rc md lo ra → wY_access_240 post (nI m) x2 (ch_b g) x6 (nI n) fr lr (d + 1) (nI q) mk wd vl iw kn sn kp bf sp st aw hd ry ln fe mv rc md lo ra := by
  intro d
  induction d with
  | zero =>
    intro q kn sn kp hq
    have : q = 4 := by omega
    subst this
    exact ⟨kn, sn, kp, fun k h1 h2 => by omega, fun j _ => ⟨rfl, rfl, rfl⟩, fun post h => h⟩
  | succ d ih =>
    intro q kn sn kp hq
    obtain ⟨kn', sn', kp', h1, h2, h3⟩ := ih (q + 1) (upd kn (300 * q + n) (ch_b (decide (q = m)))) (upd sn (300 * q + n) (ch_b (decide (q = m) && g))) (upd kp (300 * q + n) 0) (by omega)
    refine ⟨kn', sn', kp', fun k hk hk2 => ?_, fun j hj => ?_, fun post h => ?_⟩
    · by_cases z : k = q
      · subst z
        obtain ⟨a, b, c⟩ := h2 (300 * k + n) (fun k2 _ _ => by omega)
        rw [a, b, c, pk_us, pk_us, pk_us]
        exact ⟨rfl, rfl, rfl⟩
      · exact h1 k (by omega) hk2
    · obtain ⟨a, b, c⟩ := h2 j (fun k2 hk hk2 => hj k2 (by omega) hk2)
      have z := hj q (by omega) (by omega)
      rw [a, b, c, pk_un z, pk_un z, pk_un z]
      exact ⟨rfl, rfl, rfl⟩
    · have go := h3 post h
      refine br_f (nI_ge (b := 4) (by omega) (by decide)) (br_c (fun a => ?_) (fun a => ?_))
      · have e : q = m := (nI_eq (by omega) (by omega)).mp a
        refine y_a272 (b := true) hn g hm (by omega) ?_
        rw [decide_eq_true e] at go
        rw [decide_eq_true e]
        exact go
      · have e : ¬ q = m := fun z => a (by rw [z])
        refine y_a272 (b := false) hn g hm (by omega) ?_
        rw [decide_eq_false e] at go
        rw [decide_eq_false e]
        exact go
theorem y_a191 (hn : n < 300) {m w : Nat} {x6 : Int32} (g b : Bool) (hm : m < 4) : ∃ kn' sn' kp' : Nat → Int32,
    (∀ k, k < 4 → kn' (300 * k + n) = ch_b (decide (k = m)) ∧ sn' (300 * k + n) = ch_b (decide (k = m) && g) ∧ kp' (300 * k + n) = 0) ∧ (∀ j, (∀ k, k < 4 → ¬ j = 300 * k + n) → kn' j = kn j ∧ sn' j = sn j ∧ kp' j = kp j) ∧
    ∀ (rc ra : Nat → Int32) (post : Int32 → SY → Prop), ((0 ≤ x6 → (vp_in x6 300 ∧ post (vl x6.toNatClampNeg) ((nI n), fr, ch_b b, upd mk n (nI m), upd wd n (nI w), vl, upd iw n (ch_b g), kn', sn', kp', bf, sp, st, aw, hd, ry, ln, fe, mv, rc, upd md m (md m + 1), lo, ra))) ∧ (¬ 0 ≤ x6 → (vp_in (nI w) 64 ∧ post (bf (nI w).toNatClampNeg) ((nI n), fr, ch_b b, upd mk n (nI m), upd wd n (nI w), vl, upd iw n (ch_b g), kn', sn', kp', bf, sp, st, aw, hd, ry, ln, fe, mv, rc, upd md m (md m + 1), lo, ra)))) → wY_access_191 post (nI m) (nI w) (ch_b g) (ch_b b) x6 (nI n) fr lr mk wd vl iw kn sn kp bf sp st aw hd ry ln fe mv rc md lo ra := by
  obtain ⟨kn', sn', kp', h1, h2, _⟩ := y_a240 (n := n) (fr := fr) (lr := ch_b b) (mk := upd mk n (nI m)) (wd := upd wd n (nI w)) (vl := vl) (iw := upd iw n (ch_b g)) (bf := bf) (sp := sp) (st := st) (aw := aw) (hd := hd) (ry := ry) (ln := ln) (fe := fe) (mv := mv) (rc := fun _ => 0) (md := upd md m (md m + 1)) (lo := lo) (ra := fun _ => 0) (x2 := nI w) (x6 := x6) hn g hm 4 0 kn sn kp (by omega)
  refine ⟨kn', sn', kp', fun k hk => h1 k (by omega) hk, fun j hj => h2 j (fun k _ hk => hj k hk), ?_⟩
  intro rc ra post h
  obtain ⟨kn2, sn2, kp2, g1, g2, g3⟩ := y_a240 (n := n) (fr := fr) (lr := ch_b b) (mk := upd mk n (nI m)) (wd := upd wd n (nI w)) (vl := vl) (iw := upd iw n (ch_b g)) (bf := bf) (sp := sp) (st := st) (aw := aw) (hd := hd) (ry := ry) (ln := ln) (fe := fe) (mv := mv) (rc := rc) (md := upd md m (md m + 1)) (lo := lo) (ra := ra) (x2 := nI w) (x6 := x6) hn g hm 4 0 kn sn kp (by omega)
  have e : ∀ j, kn2 j = kn' j ∧ sn2 j = sn' j ∧ kp2 j = kp' j := by
    intro j
    by_cases z : ∃ k, k < 4 ∧ j = 300 * k + n
    · obtain ⟨k, hk, rfl⟩ := z
      obtain ⟨a1, a2, a3⟩ := h1 k (by omega) hk
      obtain ⟨b1, b2, b3⟩ := g1 k (by omega) hk
      rw [a1, a2, a3, b1, b2, b3]
      exact ⟨rfl, rfl, rfl⟩
    · obtain ⟨a1, a2, a3⟩ := h2 j (fun k _ hk q => z ⟨k, hk, q⟩)
      obtain ⟨b1, b2, b3⟩ := g2 j (fun k _ hk q => z ⟨k, hk, q⟩)
      rw [a1, a2, a3, b1, b2, b3]
      exact ⟨rfl, rfl, rfl⟩
  have ek : kn2 = kn' := funext (fun j => (e j).1)
  have es : sn2 = sn' := funext (fun j => (e j).2.1)
  have ep : kp2 = kp' := funext (fun j => (e j).2.2)
  rw [ek, es, ep] at g3
  unfold wY_access_191
  have i3 : vp_in (nI n) 300 := vp_in_nI hn (by decide)
  have i4 : vp_in (nI m) 4 := vp_in_nI hm (by decide)
  rw [nI_clamp (n := m) (by omega), nI_clamp (n := n) (by omega), ch_vb]
  exact ⟨i4, i4, nm_e ⟨ch_nb b, ch_fb b, i3, nm_e ⟨i3, nm_e ⟨i3, nm_e ⟨5, g3 post (br_t (by decide) h)⟩⟩⟩⟩⟩
theorem y_acc (hn : n < 300) {m w p : Nat} (g b : Bool) (hm : m < 4) (hw : w < 64) (hp : p < 8) (hb : ch_any (ch_ry mk wd iw kn m w g) n = b) : ∃ kn' sn' kp' : Nat → Int32,
    (∀ k, k < 4 → kn' (300 * k + n) = ch_b (decide (k = m)) ∧ sn' (300 * k + n) = ch_b (decide (k = m) && g) ∧ kp' (300 * k + n) = 0) ∧ (∀ j, (∀ k, k < 4 → ¬ j = 300 * k + n) → kn' j = kn j ∧ sn' j = sn j ∧ kp' j = kp j) ∧
    ∀ post : Int32 → SY → Prop, post (ch_lv (ch_py wd iw sn sp m w p) vl (bf w) n) ((nI n), fr, ch_b b, upd mk n (nI m), upd wd n (nI w), vl, upd iw n (ch_b g), kn', sn', kp', bf, sp, st, aw, hd, ry, ln, fe, mv, ch_up rc m b, upd md m (md m + 1), lo, ch_up ra w b) → ∃ n53, wY_access_53 post (nI m) (nI w) (ch_b g) (nI p) (nI n) fr lr mk wd vl iw kn sn kp bf sp st aw hd ry ln fe mv rc md lo ra n53 0 (-1) 0 := by
  obtain ⟨kn', sn', kp', h1, h2, h3⟩ := y_a191 (n := n) (fr := fr) (lr := lr) (mk := mk) (wd := wd) (vl := vl) (iw := iw) (kn := kn) (sn := sn) (kp := kp) (bf := bf) (sp := sp) (st := st) (aw := aw) (hd := hd) (ry := ry) (ln := ln) (fe := fe) (mv := mv) (md := md) (lo := lo) (w := w) (x6 := ch_la (ch_py wd iw sn sp m w p) n) hn g b hm
  refine ⟨kn', sn', kp', h1, h2, fun post h => ⟨n + 1, y_a53 (by omega) g hm hp ?_ n 0 (by omega)⟩⟩
  have h4 : ∀ rc ra : Nat → Int32, post (ch_lv (ch_py wd iw sn sp m w p) vl (bf w) n) ((nI n), fr, ch_b b, upd mk n (nI m), upd wd n (nI w), vl, upd iw n (ch_b g), kn', sn', kp', bf, sp, st, aw, hd, ry, ln, fe, mv, rc, upd md m (md m + 1), lo, ra) → wY_access_191 post (nI m) (nI w) (ch_b g) (ch_b b) (ch_la (ch_py wd iw sn sp m w p) n) (nI n) fr lr mk wd vl iw kn sn kp bf sp st aw hd ry ln fe mv rc md lo ra := by
    intro rc ra h
    refine h3 rc ra post ?_
    rcases ch_lv_c (ch_py wd iw sn sp m w p) vl (bf w) n with ⟨a, c⟩ | ⟨i, hi, _, a, c⟩
    · rw [a]
      rw [c] at h
      refine br_f (by decide) ⟨vp_in_nI hw (by decide), ?_⟩
      rw [nI_clamp (n := w) (by omega)]
      exact h
    · rw [a]
      rw [c] at h
      refine br_t (nI_pos' (by omega)) ⟨vp_in_nI (by omega) (by decide), ?_⟩
      rw [nI_clamp (n := i) (by omega)]
      exact h
  refine br_t (nI_le (Nat.le_refl _) (by omega)) ?_
  rw [hb]
  cases b
  · exact br_t rfl (h4 rc ra h)
  · have i4 : vp_in (nI m) 4 := vp_in_nI hm (by decide)
    have a6 : vp_in (nI w) 64 := vp_in_nI hw (by decide)
    rw [nI_clamp (n := m) (by omega), nI_clamp (n := w) (by omega)]
    exact br_f (by decide) ⟨i4, i4, nm_e ⟨a6, a6, nm_e (h4 _ _ h)⟩⟩
theorem y_r71 {fk : Int32} {post : SY → Prop} {J : Int32 → (Nat → Int32) → (Nat → Int32) → (Nat → Int32) → (Nat → Int32) → (Nat → Int32) → (Nat → Int32) → (Nat → Int32) → (Nat → Int32) → (Nat → Int32) → (Nat → Int32) → (Nat → Int32) → (Nat → Int32) → (Nat → Int32) → (Nat → Int32) → (Nat → Int32) → (Nat → Int32) → (Nat → Int32) → (Nat → Int32) → (Nat → Int32) → (Nat → Int32) → Prop} {x1 x2 z : Int32} {i : Nat} (hi : i < 4) (f : z ≤ 0 → J (nI (i + 1)) mk wd vl iw kn sn kp bf sp st aw hd ry ln fe mv rc md lo ra) (t : ¬ z ≤ 0 → J (nI (i + 1)) mk wd vl iw kn sn kp bf sp st aw hd ry ln fe mv rc md (upd lo i (lo i + 1)) ra) : wY_reach_71 post J x1 x2 (nI i) z fk fr lr mk wd vl iw kn sn kp bf sp st aw hd ry ln fe mv rc md lo ra := by
  unfold wY_reach_71
  have i4 : vp_in (nI i) 4 := vp_in_nI hi (by decide)
  rw [nI_clamp (n := i) (by omega)]
  exact br_c (fun a => nm_r (nI_1 i) (f a)) (fun a => ⟨i4, i4, nm_e (nm_r (nI_1 i) (t a))⟩)
theorem ch_h2_le {m p : Int32} : ch_h2 mk wd iw m p n ≤ 0 ↔ ch_hv mk wd iw m p n = false := by
  unfold ch_h2
  cases e : ch_ow mk wd iw m p n
  · rw [if_neg (by decide)]
    cases ch_hv mk wd iw m p n <;> decide
  · rw [if_pos rfl, ch_ow_hv mk wd iw m p n e]
    decide
theorem y_r48 (hn : n ≤ 300) {m p : Nat} (hm : m < 4) : ∀ (d i : Nat) (lo : Nat → Int32), i + d = 4 → ∃ lo' : Nat → Int32, (∀ k, i ≤ k → k < 4 → lo' k = if ¬ k = m ∧ ch_hv mk wd iw (nI k) (nI p) n = true then lo k + 1 else lo k) ∧ (∀ j, (j < i ∨ 4 ≤ j) → lo' j = lo j) ∧ ∀ post : SY → Prop, post ((nI n), fr, lr, mk, wd, vl, iw, kn, sn, kp, bf, sp, st, aw, hd, ry, ln, fe, mv, rc, md, lo', ra) → wY_reach_48 post (nI m) (nI p) (nI n) fr lr (d + 1) (nI i) mk wd vl iw kn sn kp bf sp st aw hd ry ln fe mv rc md lo ra := by
  intro d
  induction d with
  | zero =>
    intro i lo hi
    have : i = 4 := by omega
    subst this
    exact ⟨lo, fun k h1 h2 => by omega, fun j _ => rfl, fun post h => br_t (nI_le (b := 4) (Nat.le_refl 4) (by decide)) h⟩
  | succ d ih =>
    intro i lo hi
    have gt : ¬ (4 : Int32) ≤ nI i := nI_ge (b := 4) (by omega) (by decide)
    by_cases q : ¬ i = m ∧ ch_hv mk wd iw (nI i) (nI p) n = true
    · obtain ⟨lo', h1, h2, h3⟩ := ih (i + 1) (upd lo i (lo i + 1)) (by omega)
      refine ⟨lo', fun k hk hk2 => ?_, fun j hj => ?_, fun post h => ?_⟩
      · by_cases z : k = i
        · subst z
          rw [h2 _ (by omega), pk_us, if_pos q]
        · rw [h1 k (by omega) hk2, pk_un z]
      · rw [h2 j (by omega), pk_un (by omega)]
      · have ne : ¬ nI i = nI m := fun e => q.1 ((nI_eq (by omega) (by omega)).mp e)
        refine br_f gt (br_f ne (y_hasPage hn ?_))
        refine y_r71 (by omega) (fun a => ?_) (fun _ => h3 post h)
        rw [ch_h2_le, q.2] at a
        cases a
    · obtain ⟨lo', h1, h2, h3⟩ := ih (i + 1) lo (by omega)
      refine ⟨lo', fun k hk hk2 => ?_, fun j hj => h2 j (by omega), fun post h => ?_⟩
      · by_cases z : k = i
        · subst z
          rw [h2 _ (by omega), if_neg q]
        · exact h1 k (by omega) hk2
      · refine br_f gt (br_c (fun _ => y_r71 (by omega) (fun _ => h3 post h) (fun a => absurd (by decide) a)) (fun ne => y_hasPage hn ?_))
        have e : ch_hv mk wd iw (nI i) (nI p) n = false := ch_nt (fun z => q ⟨fun e => ne (by rw [e]), z⟩)
        exact y_r71 (by omega) (fun _ => h3 post h) (fun a => absurd (ch_h2_le.mpr e) a)
end ay

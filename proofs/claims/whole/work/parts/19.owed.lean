/-! what is owed -/
section ow
variable {n : Nat} {fr lr : Int32} {st aw ty hd ro ln sp bf ra mk wd iw wr kw sr vl kn sn kp ry fe mv rc md lo : Nat → Int32}
theorem x_init {fk : Int32} {post : SX → Prop} {hd' : Nat → Int32} (hp : post (fk, fr, st, aw, ty, hd', ro, ln, sp, bf, ra, mk, wd, iw, wr, kw, sr)) : ∀ (d i : Nat) (hd : Nat → Int32), i + d = 4 → (∀ j, hd' j = if i ≤ j ∧ j < 4 then -1 else hd j) → wX_init_139 post fk fr (d + 1) (nI i) st aw ty hd ro ln sp bf ra mk wd iw wr kw sr := by
  intro d
  induction d with
  | zero =>
    intro i hd hi hk
    have : i = 4 := by omega
    subst this
    have e : hd' = hd := by
      funext j
      rw [hk j, if_neg (by omega)]
    rw [e] at hp
    exact br_t (nI_le (b := 4) (Nat.le_refl 4) (by decide)) hp
  | succ d ih =>
    intro i hd hi hk
    refine br_f (nI_ge (b := 4) (by omega) (by decide)) ⟨vp_in_nI (by omega) (by decide), ?_⟩
    rw [nI_clamp (by omega)]
    refine nm_e (nm_r (nI_1 i) (ih (i + 1) _ (by omega) ?_))
    intro j
    rw [hk j]
    by_cases z : j = i
    · subst z
      rw [if_pos (by omega), if_neg (by omega), pk_us]
    · rw [pk_un z]
      by_cases y : i ≤ j ∧ j < 4
      · rw [if_pos y, if_pos (by omega)]
      · rw [if_neg y, if_neg (by omega)]
theorem y_init {fk : Int32} {post : SY → Prop} {hd' : Nat → Int32} (hp : post (fk, fr, lr, mk, wd, vl, iw, kn, sn, kp, bf, sp, st, aw, hd', ry, ln, fe, mv, rc, md, lo, ra)) : ∀ (d i : Nat) (hd : Nat → Int32), i + d = 4 → (∀ j, hd' j = if i ≤ j ∧ j < 4 then -1 else hd j) → wY_init_165 post fk fr lr (d + 1) (nI i) mk wd vl iw kn sn kp bf sp st aw hd ry ln fe mv rc md lo ra := by
  intro d
  induction d with
  | zero =>
    intro i hd hi hk
    have : i = 4 := by omega
    subst this
    have e : hd' = hd := by
      funext j
      rw [hk j, if_neg (by omega)]
    rw [e] at hp
    exact br_t (nI_le (b := 4) (Nat.le_refl 4) (by decide)) hp
  | succ d ih =>
    intro i hd hi hk
    refine br_f (nI_ge (b := 4) (by omega) (by decide)) ⟨vp_in_nI (by omega) (by decide), ?_⟩
    rw [nI_clamp (by omega)]
    refine nm_e (nm_r (nI_1 i) (ih (i + 1) _ (by omega) ?_))
    intro j
    rw [hk j]
    by_cases z : j = i
    · subst z
      rw [if_pos (by omega), if_neg (by omega), pk_us]
    · rw [pk_un z]
      by_cases y : i ≤ j ∧ j < 4
      · rw [if_pos y, if_pos (by omega)]
      · rw [if_neg y, if_neg (by omega)]
theorem y_initE {P : SY → Prop} (h : P (nI 0, 0, 0, fun _ => 0, fun _ => 0, fun _ => 0, fun _ => 0, fun _ => 0, fun _ => 0, fun _ => 0, fun _ => 0, fun _ => 0, fun _ => 0, fun _ => 0, fun j => if 0 ≤ j ∧ j < 4 then -1 else 0, fun _ => 0, fun _ => 0, fun _ => 0, fun _ => 0, fun _ => 0, fun _ => 0, fun _ => 0, fun _ => 0)) : wpY_init P := ⟨5, y_init h 4 0 (fun _ => 0) (by omega) (fun j => rfl)⟩
theorem ch_R0 : ch_R 0 (fun _ => 0) (fun _ _ => 0) (fun _ => 0) (fun _ => 0) (fun _ => 0) (fun j => if 0 ≤ j ∧ j < 4 then -1 else 0) (fun _ => 0) (fun _ => 0) (fun _ => 0) (fun _ => 0) (fun _ => 0) (fun _ => 0) (fun _ => 0) (fun _ => 0) (fun _ => 0) (fun _ => 0) (fun _ => 0) (fun _ => 0) (fun _ => 0) (fun _ => 0) (fun _ => 0) (fun _ => 0) (fun _ => 0) (fun _ => 0) := by
  refine ⟨⟨by omega, fun i h => absurd h (Nat.not_lt_zero i), fun i h => absurd h (Nat.not_lt_zero i), fun i h => absurd h (Nat.not_lt_zero i), fun i h => absurd h (Nat.not_lt_zero i)⟩, ch_K0, ⟨fun r _ => Nat.zero_le 4, fun r k _ h => absurd h (Nat.not_lt_zero k), fun r k s j _ h => absurd h (Nat.not_lt_zero k), fun m _ h => absurd (show (0 : Int32) = 1 from h) (by decide), fun l _ h => absurd h (Nat.not_lt_zero 0), fun l hl => Or.inl (if_pos ⟨Nat.zero_le l, hl⟩)⟩, ⟨fun r _ => rfl, fun r k _ h => absurd h (Nat.not_lt_zero k)⟩, ⟨fun r _ => rfl, fun r k _ h => absurd h (Nat.not_lt_zero k)⟩, fun m _ => ⟨rfl, rfl, rfl, rfl, rfl⟩⟩
end ow

theorem i_vc0 : wpX_init (fun u => wpY_init (fun v => i_Rel 0 u v)):= ⟨5, x_init (y_initE (ch_mk 0 0 _ _ _ ch_R0)) 4 0 _ (by omega) (fun j => rfl)⟩
theorem i_vc_mode {k : Nat} {u : SX} {v : SY} (I : i_Rel k u v) (hk : k + 4 ≤ 2048) (v1 : Int32) (v2 : Int32) : wpX_mode (fun r u' => wpY_mode (fun r' v' => r' = r ∧ i_Rel (k + 4) u' v') v v1 (lw_bz v2)) u v1 (lw_bz v2) := by
  obtain ⟨n, L, T, fr, lr, st, aw, ty, hd, ro, ln, sp, bf, ra, mk, wd, iw, wr, kw, sr, vl, kn, sn, kp, ry, fe, mv, rc, md, lo, rfl, rfl, R⟩ := I
  obtain ⟨r, u', v', I2, hX, hY⟩ := v_mode (k := k + 4) (n := n) (fr := fr) (lr := lr) (st := st) (aw := aw) (ty := ty) (hd := hd) (ro := ro) (ln := ln) (sp := sp) (bf := bf) (ra := ra) (mk := mk) (wd := wd) (iw := iw) (wr := wr) (kw := kw) (sr := sr) (vl := vl) (kn := kn) (sn := sn) (kp := kp) (ry := ry) (fe := fe) (mv := mv) (rc := rc) (md := md) (lo := lo) R v1 (lw_bz v2)
  exact hX _ (hY _ ⟨rfl, I2⟩)
theorem i_vc_read {k : Nat} {u : SX} {v : SY} (I : i_Rel k u v) (hk : k + 4 ≤ 2048) (v1 : Int32) (v2 : Int32) : wpX_read (fun r u' => wpY_read (fun r' v' => r' = r ∧ i_Rel (k + 4) u' v') v v1 v2) u v1 v2 := by
  obtain ⟨n, L, T, fr, lr, st, aw, ty, hd, ro, ln, sp, bf, ra, mk, wd, iw, wr, kw, sr, vl, kn, sn, kp, ry, fe, mv, rc, md, lo, rfl, rfl, R⟩ := I
  obtain ⟨r, u', v', I2, hX, hY⟩ := v_read (k := k + 4) (n := n) (fr := fr) (lr := lr) (st := st) (aw := aw) (ty := ty) (hd := hd) (ro := ro) (ln := ln) (sp := sp) (bf := bf) (ra := ra) (mk := mk) (wd := wd) (iw := iw) (wr := wr) (kw := kw) (sr := sr) (vl := vl) (kn := kn) (sn := sn) (kp := kp) (ry := ry) (fe := fe) (mv := mv) (rc := rc) (md := md) (lo := lo) R v1 v2
  exact hX _ (hY _ ⟨rfl, I2⟩)
theorem i_vc_write {k : Nat} {u : SX} {v : SY} (I : i_Rel k u v) (hk : k + 4 ≤ 2048) (v1 : Int32) (v2 : Int32) (v3 : Int32) : wpX_write (fun r u' => wpY_write (fun r' v' => r' = r ∧ i_Rel (k + 4) u' v') v v1 v2 v3) u v1 v2 v3 := by
  obtain ⟨n, L, T, fr, lr, st, aw, ty, hd, ro, ln, sp, bf, ra, mk, wd, iw, wr, kw, sr, vl, kn, sn, kp, ry, fe, mv, rc, md, lo, rfl, rfl, R⟩ := I
  obtain ⟨r, u', v', I2, hX, hY⟩ := v_write (k := k + 4) (n := n) (fr := fr) (lr := lr) (st := st) (aw := aw) (ty := ty) (hd := hd) (ro := ro) (ln := ln) (sp := sp) (bf := bf) (ra := ra) (mk := mk) (wd := wd) (iw := iw) (wr := wr) (kw := kw) (sr := sr) (vl := vl) (kn := kn) (sn := sn) (kp := kp) (ry := ry) (fe := fe) (mv := mv) (rc := rc) (md := md) (lo := lo) R v1 v2 v3
  exact hX _ (hY _ ⟨rfl, I2⟩)
theorem i_vc_add {k : Nat} {u : SX} {v : SY} (I : i_Rel k u v) (hk : k + 4 ≤ 2048) (v1 : Int32) (v2 : Int32) (v3 : Int32) : wpX_add (fun r u' => wpY_add (fun r' v' => r' = r ∧ i_Rel (k + 4) u' v') v v1 v2 v3) u v1 v2 v3 := by
  obtain ⟨n, L, T, fr, lr, st, aw, ty, hd, ro, ln, sp, bf, ra, mk, wd, iw, wr, kw, sr, vl, kn, sn, kp, ry, fe, mv, rc, md, lo, rfl, rfl, R⟩ := I
  obtain ⟨r, u', v', I2, hX, hY⟩ := v_add (k := k + 4) (n := n) (fr := fr) (lr := lr) (st := st) (aw := aw) (ty := ty) (hd := hd) (ro := ro) (ln := ln) (sp := sp) (bf := bf) (ra := ra) (mk := mk) (wd := wd) (iw := iw) (wr := wr) (kw := kw) (sr := sr) (vl := vl) (kn := kn) (sn := sn) (kp := kp) (ry := ry) (fe := fe) (mv := mv) (rc := rc) (md := md) (lo := lo) R v1 v2 v3
  exact hX _ (hY _ ⟨rfl, I2⟩)
theorem i_vc_acquire {k : Nat} {u : SX} {v : SY} (I : i_Rel k u v) (hk : k + 4 ≤ 2048) (v1 : Int32) (v2 : Int32) : wpX_acquire (fun r u' => wpY_acquire (fun r' v' => r' = r ∧ i_Rel (k + 4) u' v') v v1 v2) u v1 v2 := by
  obtain ⟨n, L, T, fr, lr, st, aw, ty, hd, ro, ln, sp, bf, ra, mk, wd, iw, wr, kw, sr, vl, kn, sn, kp, ry, fe, mv, rc, md, lo, rfl, rfl, R⟩ := I
  obtain ⟨r, u', v', I2, hX, hY⟩ := v_acquire (k := k + 4) (n := n) (fr := fr) (lr := lr) (st := st) (aw := aw) (ty := ty) (hd := hd) (ro := ro) (ln := ln) (sp := sp) (bf := bf) (ra := ra) (mk := mk) (wd := wd) (iw := iw) (wr := wr) (kw := kw) (sr := sr) (vl := vl) (kn := kn) (sn := sn) (kp := kp) (ry := ry) (fe := fe) (mv := mv) (rc := rc) (md := md) (lo := lo) R v1 v2
  exact hX _ (hY _ ⟨rfl, I2⟩)
theorem i_vc_release {k : Nat} {u : SX} {v : SY} (I : i_Rel k u v) (hk : k + 4 ≤ 2048) (v1 : Int32) (v2 : Int32) : wpX_release (fun r u' => wpY_release (fun r' v' => r' = r ∧ i_Rel (k + 4) u' v') v v1 v2) u v1 v2 := by
  obtain ⟨n, L, T, fr, lr, st, aw, ty, hd, ro, ln, sp, bf, ra, mk, wd, iw, wr, kw, sr, vl, kn, sn, kp, ry, fe, mv, rc, md, lo, rfl, rfl, R⟩ := I
  obtain ⟨r, u', v', I2, hX, hY⟩ := v_release (k := k + 4) (n := n) (fr := fr) (lr := lr) (st := st) (aw := aw) (ty := ty) (hd := hd) (ro := ro) (ln := ln) (sp := sp) (bf := bf) (ra := ra) (mk := mk) (wd := wd) (iw := iw) (wr := wr) (kw := kw) (sr := sr) (vl := vl) (kn := kn) (sn := sn) (kp := kp) (ry := ry) (fe := fe) (mv := mv) (rc := rc) (md := md) (lo := lo) R v1 v2
  exact hX _ (hY _ ⟨rfl, I2⟩)
theorem i_vc_rest {k : Nat} {u : SX} {v : SY} (I : i_Rel k u v) (hk : k + 4 ≤ 2048) (v1 : Int32) (v2 : Int32) : wpX_rest (fun r u' => wpY_rest (fun r' v' => r' = r ∧ i_Rel (k + 4) u' v') v v1 v2) u v1 v2 := by
  obtain ⟨n, L, T, fr, lr, st, aw, ty, hd, ro, ln, sp, bf, ra, mk, wd, iw, wr, kw, sr, vl, kn, sn, kp, ry, fe, mv, rc, md, lo, rfl, rfl, R⟩ := I
  obtain ⟨r, u', v', I2, hX, hY⟩ := v_rest (k := k + 4) (n := n) (fr := fr) (lr := lr) (st := st) (aw := aw) (ty := ty) (hd := hd) (ro := ro) (ln := ln) (sp := sp) (bf := bf) (ra := ra) (mk := mk) (wd := wd) (iw := iw) (wr := wr) (kw := kw) (sr := sr) (vl := vl) (kn := kn) (sn := sn) (kp := kp) (ry := ry) (fe := fe) (mv := mv) (rc := rc) (md := md) (lo := lo) R v1 v2
  exact hX _ (hY _ ⟨rfl, I2⟩)
theorem i_vc_wake {k : Nat} {u : SX} {v : SY} (I : i_Rel k u v) (hk : k + 4 ≤ 2048) (v1 : Int32) (v2 : Int32) (v3 : Int32) : wpX_wake (fun r u' => wpY_wake (fun r' v' => r' = r ∧ i_Rel (k + 4) u' v') v v1 v2 (lw_bz v3)) u v1 v2 (lw_bz v3) := by
  obtain ⟨n, L, T, fr, lr, st, aw, ty, hd, ro, ln, sp, bf, ra, mk, wd, iw, wr, kw, sr, vl, kn, sn, kp, ry, fe, mv, rc, md, lo, rfl, rfl, R⟩ := I
  obtain ⟨r, u', v', I2, hX, hY⟩ := v_wake (k := k + 4) (n := n) (fr := fr) (lr := lr) (st := st) (aw := aw) (ty := ty) (hd := hd) (ro := ro) (ln := ln) (sp := sp) (bf := bf) (ra := ra) (mk := mk) (wd := wd) (iw := iw) (wr := wr) (kw := kw) (sr := sr) (vl := vl) (kn := kn) (sn := sn) (kp := kp) (ry := ry) (fe := fe) (mv := mv) (rc := rc) (md := md) (lo := lo) R v1 v2 (lw_bz v3)
  exact hX _ (hY _ ⟨rfl, I2⟩)
theorem i_vc_arrive {k : Nat} {u : SX} {v : SY} (I : i_Rel k u v) (hk : k + 4 ≤ 2048) (v1 : Int32) : wpX_arrive (fun r u' => wpY_arrive (fun r' v' => r' = r ∧ i_Rel (k + 4) u' v') v v1) u v1 := by
  obtain ⟨n, L, T, fr, lr, st, aw, ty, hd, ro, ln, sp, bf, ra, mk, wd, iw, wr, kw, sr, vl, kn, sn, kp, ry, fe, mv, rc, md, lo, rfl, rfl, R⟩ := I
  obtain ⟨r, u', v', I2, hX, hY⟩ := v_arrive (k := k + 4) (n := n) (fr := fr) (lr := lr) (st := st) (aw := aw) (ty := ty) (hd := hd) (ro := ro) (ln := ln) (sp := sp) (bf := bf) (ra := ra) (mk := mk) (wd := wd) (iw := iw) (wr := wr) (kw := kw) (sr := sr) (vl := vl) (kn := kn) (sn := sn) (kp := kp) (ry := ry) (fe := fe) (mv := mv) (rc := rc) (md := md) (lo := lo) R v1
  exact hX _ (hY _ ⟨rfl, I2⟩)
theorem i_vc_refresh {k : Nat} {u : SX} {v : SY} (I : i_Rel k u v) (hk : k + 4 ≤ 2048) (v1 : Int32) : wpX_refresh (fun r u' => wpY_refresh (fun r' v' => r' = r ∧ i_Rel (k + 4) u' v') v v1) u v1 := by
  obtain ⟨n, L, T, fr, lr, st, aw, ty, hd, ro, ln, sp, bf, ra, mk, wd, iw, wr, kw, sr, vl, kn, sn, kp, ry, fe, mv, rc, md, lo, rfl, rfl, R⟩ := I
  obtain ⟨r, u', v', I2, hX, hY⟩ := v_refresh (k := k + 4) (n := n) (fr := fr) (lr := lr) (st := st) (aw := aw) (ty := ty) (hd := hd) (ro := ro) (ln := ln) (sp := sp) (bf := bf) (ra := ra) (mk := mk) (wd := wd) (iw := iw) (wr := wr) (kw := kw) (sr := sr) (vl := vl) (kn := kn) (sn := sn) (kp := kp) (ry := ry) (fe := fe) (mv := mv) (rc := rc) (md := md) (lo := lo) R v1
  exact hX _ (hY _ ⟨rfl, I2⟩)
theorem i_vc_tidy {k : Nat} {u : SX} {v : SY} (I : i_Rel k u v) (hk : k + 4 ≤ 2048) : wpX_tidy (fun r u' => wpY_tidy (fun r' v' => r' = r ∧ i_Rel (k + 4) u' v') v) u := by
  obtain ⟨n, L, T, fr, lr, st, aw, ty, hd, ro, ln, sp, bf, ra, mk, wd, iw, wr, kw, sr, vl, kn, sn, kp, ry, fe, mv, rc, md, lo, rfl, rfl, R⟩ := I
  obtain ⟨r, u', v', I2, hX, hY⟩ := v_tidy (k := k + 4) (n := n) (fr := fr) (lr := lr) (st := st) (aw := aw) (ty := ty) (hd := hd) (ro := ro) (ln := ln) (sp := sp) (bf := bf) (ra := ra) (mk := mk) (wd := wd) (iw := iw) (wr := wr) (kw := kw) (sr := sr) (vl := vl) (kn := kn) (sn := sn) (kp := kp) (ry := ry) (fe := fe) (mv := mv) (rc := rc) (md := md) (lo := lo) R 
  exact hX _ (hY _ ⟨rfl, I2⟩)
theorem i_vc_state {k : Nat} {u : SX} {v : SY} (I : i_Rel k u v) (hk : k + 4 ≤ 2048) (v1 : Int32) : wpX_state (fun r => wpY_state (fun r' => r' = r ∧ i_Rel (k + 4) u v) v v1) u v1 := by
  have I2 := i_up I
  obtain ⟨n, L, T, fr, lr, st, aw, ty, hd, ro, ln, sp, bf, ra, mk, wd, iw, wr, kw, sr, vl, kn, sn, kp, ry, fe, mv, rc, md, lo, rfl, rfl, R⟩ := I
  obtain ⟨r, hX, hY⟩ := v_state (n := n) (fr := fr) (lr := lr) (st := st) (aw := aw) (ty := ty) (hd := hd) (ro := ro) (ln := ln) (sp := sp) (bf := bf) (ra := ra) (mk := mk) (wd := wd) (iw := iw) (wr := wr) (kw := kw) (sr := sr) (vl := vl) (kn := kn) (sn := sn) (kp := kp) (ry := ry) (fe := fe) (mv := mv) (rc := rc) (md := md) (lo := lo) v1
  exact hX _ (hY _ ⟨rfl, I2⟩)
theorem i_vc_holder {k : Nat} {u : SX} {v : SY} (I : i_Rel k u v) (hk : k + 4 ≤ 2048) (v1 : Int32) : wpX_holder (fun r => wpY_holder (fun r' => r' = r ∧ i_Rel (k + 4) u v) v v1) u v1 := by
  have I2 := i_up I
  obtain ⟨n, L, T, fr, lr, st, aw, ty, hd, ro, ln, sp, bf, ra, mk, wd, iw, wr, kw, sr, vl, kn, sn, kp, ry, fe, mv, rc, md, lo, rfl, rfl, R⟩ := I
  obtain ⟨r, hX, hY⟩ := v_holder (n := n) (fr := fr) (lr := lr) (st := st) (aw := aw) (ty := ty) (hd := hd) (ro := ro) (ln := ln) (sp := sp) (bf := bf) (ra := ra) (mk := mk) (wd := wd) (iw := iw) (wr := wr) (kw := kw) (sr := sr) (vl := vl) (kn := kn) (sn := sn) (kp := kp) (ry := ry) (fe := fe) (mv := mv) (rc := rc) (md := md) (lo := lo) v1
  exact hX _ (hY _ ⟨rfl, I2⟩)
theorem i_vc_waits {k : Nat} {u : SX} {v : SY} (I : i_Rel k u v) (hk : k + 4 ≤ 2048) (v1 : Int32) (v2 : Int32) (v3 : Int32) : wpX_waits (fun r => wpY_waits (fun r' => r' = r ∧ i_Rel (k + 4) u v) v v1 (lw_bz v2) v3) u v1 (lw_bz v2) v3 := by
  have I2 := i_up I
  obtain ⟨n, L, T, fr, lr, st, aw, ty, hd, ro, ln, sp, bf, ra, mk, wd, iw, wr, kw, sr, vl, kn, sn, kp, ry, fe, mv, rc, md, lo, rfl, rfl, R⟩ := I
  obtain ⟨r, hX, hY⟩ := v_waits (n := n) (fr := fr) (lr := lr) (st := st) (aw := aw) (ty := ty) (hd := hd) (ro := ro) (ln := ln) (sp := sp) (bf := bf) (ra := ra) (mk := mk) (wd := wd) (iw := iw) (wr := wr) (kw := kw) (sr := sr) (vl := vl) (kn := kn) (sn := sn) (kp := kp) (ry := ry) (fe := fe) (mv := mv) (rc := rc) (md := md) (lo := lo) R v1 (lw_bz v2) v3
  exact hX _ (hY _ ⟨rfl, I2⟩)
theorem i_vc_ring {k : Nat} {u : SX} {v : SY} (I : i_Rel k u v) (hk : k + 4 ≤ 2048) (v1 : Int32) : wpX_ring (fun r => wpY_ring (fun r' => r' = r ∧ i_Rel (k + 4) u v) v v1) u v1 := by
  have I2 := i_up I
  obtain ⟨n, L, T, fr, lr, st, aw, ty, hd, ro, ln, sp, bf, ra, mk, wd, iw, wr, kw, sr, vl, kn, sn, kp, ry, fe, mv, rc, md, lo, rfl, rfl, R⟩ := I
  obtain ⟨r, hX, hY⟩ := v_ring (n := n) (fr := fr) (lr := lr) (st := st) (aw := aw) (ty := ty) (hd := hd) (ro := ro) (ln := ln) (sp := sp) (bf := bf) (ra := ra) (mk := mk) (wd := wd) (iw := iw) (wr := wr) (kw := kw) (sr := sr) (vl := vl) (kn := kn) (sn := sn) (kp := kp) (ry := ry) (fe := fe) (mv := mv) (rc := rc) (md := md) (lo := lo) R.2.2.1 v1
  exact hX _ (hY _ ⟨rfl, I2⟩)
theorem i_vc_has {k : Nat} {u : SX} {v : SY} (I : i_Rel k u v) (hk : k + 4 ≤ 2048) (v1 : Int32) (v2 : Int32) : wpX_has (fun r => wpY_has (fun r' => r' = r ∧ i_Rel (k + 4) u v) v v1 v2) u v1 v2 := by
  have I2 := i_up I
  obtain ⟨n, L, T, fr, lr, st, aw, ty, hd, ro, ln, sp, bf, ra, mk, wd, iw, wr, kw, sr, vl, kn, sn, kp, ry, fe, mv, rc, md, lo, rfl, rfl, R⟩ := I
  obtain ⟨r, hX, hY⟩ := v_has (n := n) (fr := fr) (lr := lr) (st := st) (aw := aw) (ty := ty) (hd := hd) (ro := ro) (ln := ln) (sp := sp) (bf := bf) (ra := ra) (mk := mk) (wd := wd) (iw := iw) (wr := wr) (kw := kw) (sr := sr) (vl := vl) (kn := kn) (sn := sn) (kp := kp) (ry := ry) (fe := fe) (mv := mv) (rc := rc) (md := md) (lo := lo) R.1.1 v1 v2
  exact hX _ (hY _ ⟨rfl, I2⟩)
theorem i_vc_stale {k : Nat} {u : SX} {v : SY} (I : i_Rel k u v) (hk : k + 4 ≤ 2048) (v1 : Int32) (v2 : Int32) : wpX_stale (fun r => wpY_stale (fun r' => r' = r ∧ i_Rel (k + 4) u v) v v1 v2) u v1 v2 := by
  have I2 := i_up I
  obtain ⟨n, L, T, fr, lr, st, aw, ty, hd, ro, ln, sp, bf, ra, mk, wd, iw, wr, kw, sr, vl, kn, sn, kp, ry, fe, mv, rc, md, lo, rfl, rfl, R⟩ := I
  obtain ⟨r, hX, hY⟩ := v_stale (n := n) (fr := fr) (lr := lr) (st := st) (aw := aw) (ty := ty) (hd := hd) (ro := ro) (ln := ln) (sp := sp) (bf := bf) (ra := ra) (mk := mk) (wd := wd) (iw := iw) (wr := wr) (kw := kw) (sr := sr) (vl := vl) (kn := kn) (sn := sn) (kp := kp) (ry := ry) (fe := fe) (mv := mv) (rc := rc) (md := md) (lo := lo) R v1 v2
  exact hX _ (hY _ ⟨rfl, I2⟩)
theorem i_vc_knows {k : Nat} {u : SX} {v : SY} (I : i_Rel k u v) (hk : k + 4 ≤ 2048) (v1 : Int32) (v2 : Int32) : wpX_knows (fun r => wpY_knows (fun r' => r' = r ∧ i_Rel (k + 4) u v) v v1 v2) u v1 v2 := by
  have I2 := i_up I
  obtain ⟨n, L, T, fr, lr, st, aw, ty, hd, ro, ln, sp, bf, ra, mk, wd, iw, wr, kw, sr, vl, kn, sn, kp, ry, fe, mv, rc, md, lo, rfl, rfl, R⟩ := I
  obtain ⟨r, hX, hY⟩ := v_knows (n := n) (fr := fr) (lr := lr) (st := st) (aw := aw) (ty := ty) (hd := hd) (ro := ro) (ln := ln) (sp := sp) (bf := bf) (ra := ra) (mk := mk) (wd := wd) (iw := iw) (wr := wr) (kw := kw) (sr := sr) (vl := vl) (kn := kn) (sn := sn) (kp := kp) (ry := ry) (fe := fe) (mv := mv) (rc := rc) (md := md) (lo := lo) R v1 v2
  exact hX _ (hY _ ⟨rfl, I2⟩)
theorem i_vc_keeps {k : Nat} {u : SX} {v : SY} (I : i_Rel k u v) (hk : k + 4 ≤ 2048) (v1 : Int32) (v2 : Int32) : wpX_keeps (fun r => wpY_keeps (fun r' => r' = r ∧ i_Rel (k + 4) u v) v v1 v2) u v1 v2 := by
  have I2 := i_up I
  obtain ⟨n, L, T, fr, lr, st, aw, ty, hd, ro, ln, sp, bf, ra, mk, wd, iw, wr, kw, sr, vl, kn, sn, kp, ry, fe, mv, rc, md, lo, rfl, rfl, R⟩ := I
  obtain ⟨r, hX, hY⟩ := v_keeps (n := n) (fr := fr) (lr := lr) (st := st) (aw := aw) (ty := ty) (hd := hd) (ro := ro) (ln := ln) (sp := sp) (bf := bf) (ra := ra) (mk := mk) (wd := wd) (iw := iw) (wr := wr) (kw := kw) (sr := sr) (vl := vl) (kn := kn) (sn := sn) (kp := kp) (ry := ry) (fe := fe) (mv := mv) (rc := rc) (md := md) (lo := lo) R v1 v2
  exact hX _ (hY _ ⟨rfl, I2⟩)
theorem i_vc_count {k : Nat} {u : SX} {v : SY} (I : i_Rel k u v) (hk : k + 4 ≤ 2048) (v1 : Int32) (v2 : Int32) : wpX_count (fun r => wpY_count (fun r' => r' = r ∧ i_Rel (k + 4) u v) v v1 v2) u v1 v2 := by
  have I2 := i_up I
  obtain ⟨n, L, T, fr, lr, st, aw, ty, hd, ro, ln, sp, bf, ra, mk, wd, iw, wr, kw, sr, vl, kn, sn, kp, ry, fe, mv, rc, md, lo, rfl, rfl, R⟩ := I
  obtain ⟨r, hX, hY⟩ := v_count (n := n) (fr := fr) (lr := lr) (st := st) (aw := aw) (ty := ty) (hd := hd) (ro := ro) (ln := ln) (sp := sp) (bf := bf) (ra := ra) (mk := mk) (wd := wd) (iw := iw) (wr := wr) (kw := kw) (sr := sr) (vl := vl) (kn := kn) (sn := sn) (kp := kp) (ry := ry) (fe := fe) (mv := mv) (rc := rc) (md := md) (lo := lo) R.2.2.2.2.2 v1 v2
  exact hX _ (hY _ ⟨rfl, I2⟩)
theorem i_vc_races {k : Nat} {u : SX} {v : SY} (I : i_Rel k u v) (hk : k + 4 ≤ 2048) (v1 : Int32) : wpX_races (fun r => wpY_races (fun r' => r' = r ∧ i_Rel (k + 4) u v) v v1) u v1 := by
  have I2 := i_up I
  obtain ⟨n, L, T, fr, lr, st, aw, ty, hd, ro, ln, sp, bf, ra, mk, wd, iw, wr, kw, sr, vl, kn, sn, kp, ry, fe, mv, rc, md, lo, rfl, rfl, R⟩ := I
  obtain ⟨r, hX, hY⟩ := v_races (n := n) (fr := fr) (lr := lr) (st := st) (aw := aw) (ty := ty) (hd := hd) (ro := ro) (ln := ln) (sp := sp) (bf := bf) (ra := ra) (mk := mk) (wd := wd) (iw := iw) (wr := wr) (kw := kw) (sr := sr) (vl := vl) (kn := kn) (sn := sn) (kp := kp) (ry := ry) (fe := fe) (mv := mv) (rc := rc) (md := md) (lo := lo) v1
  exact hX _ (hY _ ⟨rfl, I2⟩)
theorem i_vc_total {k : Nat} {u : SX} {v : SY} (I : i_Rel k u v) (hk : k + 4 ≤ 2048) (v1 : Int32) : wpX_total (fun r => wpY_total (fun r' => r' = r ∧ i_Rel (k + 4) u v) v v1) u v1 := by
  have I2 := i_up I
  obtain ⟨n, L, T, fr, lr, st, aw, ty, hd, ro, ln, sp, bf, ra, mk, wd, iw, wr, kw, sr, vl, kn, sn, kp, ry, fe, mv, rc, md, lo, rfl, rfl, R⟩ := I
  obtain ⟨r, hX, hY⟩ := v_total (n := n) (fr := fr) (lr := lr) (st := st) (aw := aw) (ty := ty) (hd := hd) (ro := ro) (ln := ln) (sp := sp) (bf := bf) (ra := ra) (mk := mk) (wd := wd) (iw := iw) (wr := wr) (kw := kw) (sr := sr) (vl := vl) (kn := kn) (sn := sn) (kp := kp) (ry := ry) (fe := fe) (mv := mv) (rc := rc) (md := md) (lo := lo) v1
  exact hX _ (hY _ ⟨rfl, I2⟩)

/-! the walks of locks and rows -/
section lk
variable {n : Nat} {fr lr : Int32} {st aw ty hd ro ln sp bf ra mk wd iw wr kw sr vl kn sn kp ry fe mv rc md lo : Nat → Int32}
variable {L : Nat → Nat} {T : Nat → Nat → Nat}
theorem x_learn_2 (hn : n ≤ 300) {q f : Nat} (hq : q < 32) (hf : f < 32) : ∀ (d i : Nat) (kw : Nat → Int32), i + d = n → ∃ kw' : Nat → Int32, (∀ j, (j < i ∨ n ≤ j) → kw' j = kw j) ∧ (∀ j, i ≤ j → j < n → kw' j = if bt (kw j) f = true then kw j ||| ((1 : Int32) <<< (nI q &&& 31)) else kw j) ∧ ∀ post : SX → Prop, post ((nI n), fr, st, aw, ty, hd, ro, ln, sp, bf, ra, mk, wd, iw, wr, kw', sr) → wX_learn_2 post (nI q) (nI f) (nI n) fr (d + 1) (nI i) st aw ty hd ro ln sp bf ra mk wd iw wr kw sr := by
  intro d
  induction d with
  | zero =>
    intro i kw hi
    have : i = n := by omega
    subst this
    exact ⟨kw, fun j _ => rfl, fun j h1 h2 => by omega, fun post h => br_t (nI_le (Nat.le_refl _) (by omega)) h⟩
  | succ d ih =>
    intro i kw hi
    cases e : bt (kw i) f
    · obtain ⟨kw', h1, h2, h3⟩ := ih (i + 1) kw (by omega)
      refine ⟨kw', fun j hj => h1 j (by omega), fun j hj hj2 => ?_, fun post h => ?_⟩
      · by_cases z : j = i
        · subst z
          rw [h1 j (by omega), e, if_neg (by decide)]
        · exact h2 j (by omega) hj2
      · refine br_f (nI_ge (by omega) (by omega)) ?_
        refine x_isKnown (by omega) hf ?_
        rw [e]
        exact br_t rfl (nm_r (nI_1 i) (h3 post h))
    · obtain ⟨kw', h1, h2, h3⟩ := ih (i + 1) (upd kw i (kw i ||| ((1 : Int32) <<< (nI q &&& 31)))) (by omega)
      refine ⟨kw', fun j hj => ?_, fun j hj hj2 => ?_, fun post h => ?_⟩
      · rw [h1 j (by omega), pk_un (by omega)]
      · by_cases z : j = i
        · subst z
          rw [h1 j (by omega), pk_us, e, if_pos rfl]
        · rw [h2 j (by omega) hj2, pk_un z]
      · refine br_f (nI_ge (by omega) (by omega)) ?_
        refine x_isKnown (by omega) hf ?_
        rw [e]
        refine br_f (by decide) ⟨vp_in_nI (by omega) (by decide), vp_in_nI (by omega) (by decide), ?_⟩
        rw [nI_clamp (by omega)]
        exact nm_e (nm_r (nI_1 i) (h3 post h))
theorem x_learn (hn : n ≤ 300) {q f : Nat} (hq : q < 32) (hf : f < 32) : ∃ kw' : Nat → Int32, (∀ j, n ≤ j → kw' j = kw j) ∧ (∀ j, j < n → kw' j = if bt (kw j) f = true then kw j ||| ((1 : Int32) <<< (nI q &&& 31)) else kw j) ∧ ∀ (fr : Int32) (st hd : Nat → Int32) (post : SX → Prop), post ((nI n), fr, st, aw, ty, hd, ro, ln, sp, bf, ra, mk, wd, iw, wr, kw', sr) → wpX_learn post ((nI n), fr, st, aw, ty, hd, ro, ln, sp, bf, ra, mk, wd, iw, wr, kw, sr) (nI q) (nI f) := by
  obtain ⟨kw', h1, h2, h3⟩ := x_learn_2 (fr := 0) (st := fun _ => 0) (hd := fun _ => 0) (aw := aw) (ty := ty) (ro := ro) (ln := ln) (sp := sp) (bf := bf) (ra := ra) (mk := mk) (wd := wd) (iw := iw) (wr := wr) (sr := sr) hn hq hf n 0 kw (by omega)
  refine ⟨kw', fun j hj => h1 j (by omega), fun j hj => h2 j (by omega) hj, ?_⟩
  intro fr st hd post h
  obtain ⟨kw2, g1, g2, g3⟩ := x_learn_2 (fr := fr) (st := st) (hd := hd) (aw := aw) (ty := ty) (ro := ro) (ln := ln) (sp := sp) (bf := bf) (ra := ra) (mk := mk) (wd := wd) (iw := iw) (wr := wr) (sr := sr) hn hq hf n 0 kw (by omega)
  have e : kw2 = kw' := by
    funext j
    by_cases z : j < n
    · rw [g2 j (by omega) z, h2 j (by omega) z]
    · rw [g1 j (by omega), h1 j (by omega)]
  rw [e] at g3
  exact ⟨n + 1, g3 post h⟩
theorem y_gets_16 (hn : n ≤ 300) {m l : Nat} (hm : m < 4) (hl : l < 4) : ∀ (d i : Nat) (kn : Nat → Int32), i + d = n → ∃ kn' : Nat → Int32, (∀ j, (∀ k, i ≤ k → k < n → ¬ j = 300 * m + k) → kn' j = kn j) ∧ (∀ j, i ≤ j → j < n → kn' (300 * m + j) = if kp (300 * l + j) = 0 then kn (300 * m + j) else 1) ∧ ∀ post : SY → Prop, post ((nI n), fr, lr, mk, wd, vl, iw, kn', sn, kp, bf, sp, st, aw, hd, ry, ln, fe, mv, rc, md, lo, ra) → wY_gets_16 post (nI m) (nI l) (nI n) fr lr (d + 1) (nI i) mk wd vl iw kn sn kp bf sp st aw hd ry ln fe mv rc md lo ra := by
  intro d
  induction d with
  | zero =>
    intro i kn hi
    have : i = n := by omega
    subst this
    exact ⟨kn, fun j _ => rfl, fun j h1 h2 => by omega, fun post h => br_t (nI_le (Nat.le_refl _) (by omega)) h⟩
  | succ d ih =>
    intro i kn hi
    by_cases e : kp (300 * l + i) = 0
    · obtain ⟨kn', h1, h2, h3⟩ := ih (i + 1) kn (by omega)
      refine ⟨kn', fun j hj => h1 j (fun k hk hk2 => hj k (by omega) hk2), fun j hj hj2 => ?_, fun post h => ?_⟩
      · by_cases z : j = i
        · subst z
          rw [h1 _ (fun k hk hk2 => by omega), if_pos e]
        · exact h2 j (by omega) hj2
      · refine br_f (nI_ge (by omega) (by omega)) ⟨ch_adI hl (by omega), ?_⟩
        rw [ch_adC hl (by omega)]
        exact br_t e (nm_r (nI_1 i) (h3 post h))
    · obtain ⟨kn', h1, h2, h3⟩ := ih (i + 1) (upd kn (300 * m + i) 1) (by omega)
      refine ⟨kn', fun j hj => ?_, fun j hj hj2 => ?_, fun post h => ?_⟩
      · rw [h1 j (fun k hk hk2 => hj k (by omega) hk2), pk_un (hj i (by omega) (by omega))]
      · by_cases z : j = i
        · subst z
          rw [h1 _ (fun k hk hk2 => by omega), pk_us, if_neg e]
        · rw [h2 j (by omega) hj2, pk_un (by omega)]
      · refine br_f (nI_ge (by omega) (by omega)) ⟨ch_adI hl (by omega), ?_⟩
        rw [ch_adC hl (by omega), ch_adC hm (by omega)]
        exact br_f e ⟨ch_adI hm (by omega), nm_e (nm_r (nI_1 i) (h3 post h))⟩
theorem v_gets (A : ch_A n mk wd iw wr vl) (K : ch_K n mk iw hd kw sr kn sn kp) {m l : Nat} (hm : m < 4) (hl : l < 4) : ∃ kw' kn' : Nat → Int32, ch_K n mk iw (upd hd l (nI m)) kw' sr kn' sn kp ∧ (∀ post : SX → Prop, post ((nI n), fr, upd st m 0, aw, ty, upd hd l (nI m), ro, ln, sp, bf, ra, mk, wd, iw, wr, kw', sr) → wpX_handOver post ((nI n), fr, st, aw, ty, hd, ro, ln, sp, bf, ra, mk, wd, iw, wr, kw, sr) (nI l) (nI m)) ∧ (∀ post : SY → Prop, post ((nI n), fr, lr, mk, wd, vl, iw, kn', sn, kp, bf, sp, upd st m 0, aw, upd hd l (nI m), ry, ln, fe, mv, rc, md, lo, ra) → wpY_gets post ((nI n), fr, lr, mk, wd, vl, iw, kn, sn, kp, bf, sp, st, aw, hd, ry, ln, fe, mv, rc, md, lo, ra) (nI m) (nI l)) := by
  obtain ⟨kw', h1, h2, h3⟩ := x_learn (n := n) (aw := aw) (ty := ty) (ro := ro) (ln := ln) (sp := sp) (bf := bf) (ra := ra) (mk := mk) (wd := wd) (iw := iw) (wr := wr) (sr := sr) (kw := kw) (q := m) (f := 4 + l) A.1 (by omega) (by omega)
  obtain ⟨kn', g1, g2, g3⟩ := y_gets_16 (n := n) (fr := fr) (lr := lr) (mk := mk) (wd := wd) (vl := vl) (iw := iw) (sn := sn) (kp := kp) (bf := bf) (sp := sp) (st := upd st m 0) (aw := aw) (hd := upd hd l (nI m)) (ry := ry) (ln := ln) (fe := fe) (mv := mv) (rc := rc) (md := md) (lo := lo) (ra := ra) A.1 hm hl n 0 kn (by omega)
  refine ⟨kw', kn', ?_, fun post h => ?_, fun post h => ?_⟩
  · exact ch_Kget K A.1 hl hm h2 (fun i hi => g2 i (by omega) hi) (fun j hj => g1 j (fun k _ hk => hj k hk)) (fun j hj => pk_un hj) pk_us
  · unfold wpX_handOver
    dsimp only
    rw [nI_clamp (n := l) (by omega), nI_clamp (n := m) (by omega), ch_4z]
    exact ⟨vp_in_nI hl (by decide), nm_e ⟨vp_in_nI hm (by decide), nm_e (h3 _ _ _ _ h)⟩⟩
  · unfold wpY_gets
    dsimp only
    rw [nI_clamp (n := l) (by omega), nI_clamp (n := m) (by omega)]
    exact ⟨vp_in_nI hl (by decide), nm_e ⟨vp_in_nI hm (by decide), nm_e ⟨n + 1, g3 post h⟩⟩⟩
theorem x_putLast {fk : Int32} {r m : Nat} (hr : r < 8) (hL : ln r = nI (L r)) (h4 : L r < 4) {post : SX → Prop} (h : post (fk, fr, st, aw, ty, hd, upd ro (4 * r + L r) (nI m), upd ln r (nI (L r + 1)), sp, bf, ra, mk, wd, iw, wr, kw, sr)) : wpX_putLast post (fk, fr, st, aw, ty, hd, ro, ln, sp, bf, ra, mk, wd, iw, wr, kw, sr) (nI r) (nI m) := by
  unfold wpX_putLast
  dsimp only
  rw [nI_clamp (n := r) (by omega), hL, ch_z4, nI_clamp (n := 4 * r + L r) (by omega), nI_1]
  have i8 : vp_in (nI r) 8 := vp_in_nI hr (by decide)
  exact ⟨i8, br_f (nI_ge (b := 4) h4 (by decide)) ⟨i8, vp_in_nI (by omega) (by decide), nm_e ⟨i8, i8, nm_e h⟩⟩⟩
theorem y_push {fk : Int32} {r m : Nat} (hr : r < 8) (hL : ln r = nI (L r)) (h4 : L r < 4) {post : SY → Prop} (h : post (fk, fr, lr, mk, wd, vl, iw, kn, sn, kp, bf, sp, st, aw, hd, upd ry (4 * r + L r) (nI m), upd ln r (nI (L r + 1)), fe, mv, rc, md, lo, ra)) : wpY_push post (fk, fr, lr, mk, wd, vl, iw, kn, sn, kp, bf, sp, st, aw, hd, ry, ln, fe, mv, rc, md, lo, ra) (nI r) (nI m) := by
  unfold wpY_push
  dsimp only
  rw [nI_clamp (n := r) (by omega), hL, ch_4x, nI_clamp (n := 4 * r + L r) (by omega), nI_1]
  have i8 : vp_in (nI r) 8 := vp_in_nI hr (by decide)
  exact ⟨i8, vp_in_nI (by omega) (by decide), nm_e ⟨i8, i8, nm_e h⟩⟩
theorem x_waitFor {fk : Int32} {l m : Nat} (hl : l < 4) (hm : m < 4) (hL : ln l = nI (L l)) (h4 : L l < 4) {post : SX → Prop} (h : post (fk, fr, upd st m 1, upd aw m (nI l), ty, hd, upd ro (4 * l + L l) (nI m), upd ln l (nI (L l + 1)), sp, bf, ra, mk, wd, iw, wr, kw, sr)) : wpX_waitFor post (fk, fr, st, aw, ty, hd, ro, ln, sp, bf, ra, mk, wd, iw, wr, kw, sr) (nI l) (nI m) := by
  unfold wpX_waitFor
  dsimp only
  rw [nI_clamp (n := m) (by omega)]
  exact ⟨vp_in_nI hm (by decide), nm_e ⟨vp_in_nI hm (by decide), nm_e (x_putLast (L := L) (by omega) hL h4 h)⟩⟩
theorem x_takeFirst_11 {fk : Int32} {r : Nat} {x : Int32} (hr : r < 8) : ∀ (d i : Nat) (ro : Nat → Int32), i + d = 3 → ∃ ro' : Nat → Int32, (∀ k, i ≤ k → k < 3 → ro' (4 * r + k) = ro (4 * r + (k + 1))) ∧ (∀ j, (j < 4 * r + i ∨ 4 * r + 3 ≤ j) → ro' j = ro j) ∧ ∀ post : Int32 → SX → Prop, post x (fk, fr, st, aw, ty, hd, ro', upd ln r (ln r - 1), sp, bf, ra, mk, wd, iw, wr, kw, sr) → wX_takeFirst_11 post (nI r) x fk fr (d + 1) (nI (i + 1)) st aw ty hd ro ln sp bf ra mk wd iw wr kw sr := by
  intro d
  have i8 : vp_in (nI r) 8 := vp_in_nI hr (by decide)
  induction d with
  | zero =>
    intro i ro hi
    have : i = 3 := by omega
    subst this
    refine ⟨ro, fun k h1 h2 => by omega, fun j _ => rfl, fun post h => br_t (nI_le (b := 4) (Nat.le_refl 4) (by decide)) ⟨i8, i8, ?_⟩⟩
    rw [nI_clamp (n := r) (by omega)]
    exact nm_e h
  | succ d ih =>
    intro i ro hi
    obtain ⟨ro', h1, h2, h3⟩ := ih (i + 1) (upd ro (4 * r + i) (ro (4 * r + (i + 1)))) (by omega)
    refine ⟨ro', fun k hk hk2 => ?_, fun j hj => ?_, fun post h => ?_⟩
    · by_cases z : k = i
      · subst z
        rw [h2 _ (by omega), pk_us]
      · rw [h1 k (by omega) hk2, pk_un (by omega)]
    · rw [h2 j (by omega), pk_un (by omega)]
    · refine br_f (nI_ge (b := 4) (by omega) (by decide)) ?_
      have e : nI r * 4 + nI (i + 1) - 1 = nI (4 * r + i) := by
        rw [ch_z4]
        exact nI_pred (4 * r + i)
      rw [e, ch_z4, nI_clamp (n := 4 * r + (i + 1)) (by omega), nI_clamp (n := 4 * r + i) (by omega)]
      exact ⟨vp_in_nI (by omega) (by decide), vp_in_nI (by omega) (by decide), nm_e (nm_r (nI_1 (i + 1)) (h3 post h))⟩
theorem x_takeFirst {fk : Int32} {r : Nat} (hr : r < 8) : ∃ ro' : Nat → Int32, (∀ k, k < 3 → ro' (4 * r + k) = ro (4 * r + (k + 1))) ∧ (∀ j, (j < 4 * r ∨ 4 * r + 3 ≤ j) → ro' j = ro j) ∧ ∀ post : Int32 → SX → Prop, post (ro (4 * r)) (fk, fr, st, aw, ty, hd, ro', upd ln r (ln r - 1), sp, bf, ra, mk, wd, iw, wr, kw, sr) → wpX_takeFirst post (fk, fr, st, aw, ty, hd, ro, ln, sp, bf, ra, mk, wd, iw, wr, kw, sr) (nI r) := by
  obtain ⟨ro', h1, h2, h3⟩ := x_takeFirst_11 (fk := fk) (fr := fr) (st := st) (aw := aw) (ty := ty) (hd := hd) (ln := ln) (sp := sp) (bf := bf) (ra := ra) (mk := mk) (wd := wd) (iw := iw) (wr := wr) (kw := kw) (sr := sr) (x := ro (4 * r)) hr 3 0 ro (by omega)
  refine ⟨ro', fun k hk => h1 k (by omega) hk, fun j hj => h2 j (by omega), fun post h => ?_⟩
  unfold wpX_takeFirst
  dsimp only
  have e : nI r * 4 = nI (4 * r) := by
    rw [show (4 : Int32) = nI 4 from rfl, pk_mul, Nat.mul_comm]
  rw [e, nI_clamp (n := 4 * r) (by omega)]
  exact ⟨vp_in_nI (by omega) (by decide), nm_e ⟨4, h3 post h⟩⟩
theorem y_shift_21 {fk : Int32} {r c : Nat} {x : Int32} (hr : r < 8) (hc : c ≤ 3) (hL : ln r = nI c) : ∀ (d i : Nat) (ry : Nat → Int32), i + d = c → ∃ ry' : Nat → Int32, (∀ k, i ≤ k → k < c → ry' (4 * r + k) = ry (4 * r + (k + 1))) ∧ (∀ j, (j < 4 * r + i ∨ 4 * r + c ≤ j) → ry' j = ry j) ∧ ∀ post : Int32 → SY → Prop, post x (fk, fr, lr, mk, wd, vl, iw, kn, sn, kp, bf, sp, st, aw, hd, ry', ln, fe, mv, rc, md, lo, ra) → wY_shift_21 post (nI r) x fk fr lr (d + 1) (nI i) mk wd vl iw kn sn kp bf sp st aw hd ry ln fe mv rc md lo ra := by
  intro d
  have i8 : vp_in (nI r) 8 := vp_in_nI hr (by decide)
  induction d with
  | zero =>
    intro i ry hi
    have : i = c := by omega
    subst this
    refine ⟨ry, fun k h1 h2 => by omega, fun j _ => rfl, fun post h => ⟨i8, ?_⟩⟩
    rw [nI_clamp (n := r) (by omega), hL]
    exact br_t (nI_le (Nat.le_refl _) (by omega)) h
  | succ d ih =>
    intro i ry hi
    obtain ⟨ry', h1, h2, h3⟩ := ih (i + 1) (upd ry (4 * r + i) (ry (4 * r + (i + 1)))) (by omega)
    refine ⟨ry', fun k hk hk2 => ?_, fun j hj => ?_, fun post h => ⟨i8, ?_⟩⟩
    · by_cases z : k = i
      · subst z
        rw [h2 _ (by omega), pk_us]
      · rw [h1 k (by omega) hk2, pk_un (by omega)]
    · rw [h2 j (by omega), pk_un (by omega)]
    · rw [nI_clamp (n := r) (by omega), hL]
      refine br_f (nI_ge (by omega) (by omega)) ?_
      rw [ch_4x, nI_1 (4 * r + i), nI_clamp (n := 4 * r + i + 1) (by omega), nI_clamp (n := 4 * r + i) (by omega)]
      exact ⟨vp_in_nI (by omega) (by decide), vp_in_nI (by omega) (by decide), nm_e (nm_r (nI_1 i) (h3 post h))⟩
theorem y_shift {fk : Int32} {r : Nat} (hr : r < 8) (hL : ln r = nI (L r)) (h0 : 0 < L r) (h4 : L r ≤ 4) : ∃ ry' : Nat → Int32, (∀ k, k + 1 < L r → ry' (4 * r + k) = ry (4 * r + (k + 1))) ∧ (∀ j, (j < 4 * r ∨ 4 * r + 4 ≤ j) → ry' j = ry j) ∧ ∀ post : Int32 → SY → Prop, post (ry (4 * r)) (fk, fr, lr, mk, wd, vl, iw, kn, sn, kp, bf, sp, st, aw, hd, ry', upd ln r (ln r - 1), fe, mv, rc, md, lo, ra) → wpY_shift post (fk, fr, lr, mk, wd, vl, iw, kn, sn, kp, bf, sp, st, aw, hd, ry, ln, fe, mv, rc, md, lo, ra) (nI r) := by
  have e0 : ln r - 1 = nI (L r - 1) := by
    rw [hL]
    obtain ⟨c, hc⟩ : ∃ c, L r = c + 1 := ⟨L r - 1, by omega⟩
    rw [hc]
    exact nI_pred c
  obtain ⟨ry', h1, h2, h3⟩ := y_shift_21 (fk := fk) (fr := fr) (lr := lr) (mk := mk) (wd := wd) (vl := vl) (iw := iw) (kn := kn) (sn := sn) (kp := kp) (bf := bf) (sp := sp) (st := st) (aw := aw) (hd := hd) (ln := upd ln r (ln r - 1)) (fe := fe) (mv := mv) (rc := rc) (md := md) (lo := lo) (ra := ra) (x := ry (4 * r)) (c := L r - 1) hr (by omega) (by rw [pk_us, e0]) (L r - 1) 0 ry (by omega)
  refine ⟨ry', fun k hk => h1 k (by omega) (by omega), fun j hj => h2 j (by omega), fun post h => ?_⟩
  unfold wpY_shift
  dsimp only
  have e : 4 * nI r = nI (4 * r) := by
    rw [show (4 : Int32) = nI 4 from rfl, pk_mul]
  have i8 : vp_in (nI r) 8 := vp_in_nI hr (by decide)
  rw [e, nI_clamp (n := 4 * r) (by omega), nI_clamp (n := r) (by omega)]
  exact ⟨vp_in_nI (by omega) (by decide), nm_e ⟨i8, i8, nm_e ⟨_, h3 post h⟩⟩⟩
end lk

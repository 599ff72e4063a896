/-! the relation, and the questions -/
def ch_R (n : Nat) (L : Nat → Nat) (T : Nat → Nat → Nat) (st aw ty hd ro ln mk wd iw wr kw sr vl kn sn kp ry fe mv rc md lo : Nat → Int32) : Prop :=
  ch_A n mk wd iw wr vl ∧ ch_K n mk iw hd kw sr kn sn kp ∧ ch_Q L T st aw hd ∧ ch_W L T ln ro ∧ ch_W L T ln ry ∧ ch_T ty fe mv rc md lo
/-- the relation at the head of a turn -/
def i_Rel (k : Nat) (u : SX) (v : SY) : Prop :=
  ∃ (n : Nat) (L : Nat → Nat) (T : Nat → Nat → Nat) (fr lr : Int32) (st aw ty hd ro ln sp bf ra mk wd iw wr kw sr vl kn sn kp ry fe mv rc md lo : Nat → Int32),
    u = ((nI n), fr, st, aw, ty, hd, ro, ln, sp, bf, ra, mk, wd, iw, wr, kw, sr) ∧ v = ((nI n), fr, lr, mk, wd, vl, iw, kn, sn, kp, bf, sp, st, aw, hd, ry, ln, fe, mv, rc, md, lo, ra) ∧ ch_R n L T st aw ty hd ro ln mk wd iw wr kw sr vl kn sn kp ry fe mv rc md lo
theorem i_up {k : Nat} {u : SX} {v : SY} (h : i_Rel k u v) : i_Rel (k + 4) u v := h
section q1
variable {n : Nat} {fr lr : Int32} {st aw ty hd ro ln sp bf ra mk wd iw wr kw sr vl kn sn kp ry fe mv rc md lo : Nat → Int32}
variable {L : Nat → Nat} {T : Nat → Nat → Nat}
theorem ch_mk {k : Nat} (fr lr : Int32) (sp bf ra : Nat → Int32) (h : ch_R n L T st aw ty hd ro ln mk wd iw wr kw sr vl kn sn kp ry fe mv rc md lo) : i_Rel k ((nI n), fr, st, aw, ty, hd, ro, ln, sp, bf, ra, mk, wd, iw, wr, kw, sr) ((nI n), fr, lr, mk, wd, vl, iw, kn, sn, kp, bf, sp, st, aw, hd, ry, ln, fe, mv, rc, md, lo, ra) :=
  ⟨n, L, T, fr, lr, st, aw, ty, hd, ro, ln, sp, bf, ra, mk, wd, iw, wr, kw, sr, vl, kn, sn, kp, ry, fe, mv, rc, md, lo, rfl, rfl, h⟩
theorem v_state (v1 : Int32) : ∃ r, (∀ post : Int32 → Prop, post r → wpX_state post ((nI n), fr, st, aw, ty, hd, ro, ln, sp, bf, ra, mk, wd, iw, wr, kw, sr) v1) ∧ (∀ post : Int32 → Prop, post r → wpY_state post ((nI n), fr, lr, mk, wd, vl, iw, kn, sn, kp, bf, sp, st, aw, hd, ry, ln, fe, mv, rc, md, lo, ra) v1) := by
  by_cases a : ch_rg 4 v1
  · obtain ⟨m, hm, rfl⟩ := a
    refine ⟨st m, fun post h => ?_, fun post h => ?_⟩
    · unfold wpX_state
      dsimp only
      refine x_isMachine (fun _ => ?_) (fun z => absurd ⟨m, hm, rfl⟩ z)
      rw [nI_clamp (by omega)]
      exact br_f (by decide) ⟨vp_in_nI hm (by decide), h⟩
    · unfold wpY_state
      dsimp only
      refine y_in (N := 4) rfl (by decide) (fun _ => ?_) (fun z => absurd ⟨m, hm, rfl⟩ z)
      rw [nI_clamp (by omega)]
      exact br_f (by decide) ⟨vp_in_nI hm (by decide), h⟩
  · refine ⟨-1, fun post h => ?_, fun post h => ?_⟩
    · unfold wpX_state
      dsimp only
      exact x_isMachine (fun z => absurd z a) (fun _ => br_t rfl h)
    · unfold wpY_state
      dsimp only
      exact y_in (N := 4) rfl (by decide) (fun z => absurd z a) (fun _ => br_t rfl h)
theorem v_holder (v1 : Int32) : ∃ r, (∀ post : Int32 → Prop, post r → wpX_holder post ((nI n), fr, st, aw, ty, hd, ro, ln, sp, bf, ra, mk, wd, iw, wr, kw, sr) v1) ∧ (∀ post : Int32 → Prop, post r → wpY_holder post ((nI n), fr, lr, mk, wd, vl, iw, kn, sn, kp, bf, sp, st, aw, hd, ry, ln, fe, mv, rc, md, lo, ra) v1) := by
  by_cases a : ch_rg 4 v1
  · obtain ⟨m, hm, rfl⟩ := a
    refine ⟨hd m, fun post h => ?_, fun post h => ?_⟩
    · unfold wpX_holder
      dsimp only
      refine x_isLock (fun _ => ?_) (fun z => absurd ⟨m, hm, rfl⟩ z)
      rw [nI_clamp (by omega)]
      refine br_f (by decide) ⟨vp_in_nI hm (by decide), br_c (fun e => ?_) (fun e => ⟨vp_in_nI hm (by decide), h⟩)⟩
      rw [e] at h
      exact h
    · unfold wpY_holder
      dsimp only
      refine y_in (N := 4) rfl (by decide) (fun _ => ?_) (fun z => absurd ⟨m, hm, rfl⟩ z)
      rw [nI_clamp (by omega)]
      exact br_f (by decide) ⟨vp_in_nI hm (by decide), h⟩
  · refine ⟨-1, fun post h => ?_, fun post h => ?_⟩
    · unfold wpX_holder
      dsimp only
      exact x_isLock (fun z => absurd z a) (fun _ => br_t rfl h)
    · unfold wpY_holder
      dsimp only
      exact y_in (N := 4) rfl (by decide) (fun z => absurd z a) (fun _ => br_t rfl h)
theorem v_races (v1 : Int32) : ∃ r, (∀ post : Int32 → Prop, post r → wpX_races post ((nI n), fr, st, aw, ty, hd, ro, ln, sp, bf, ra, mk, wd, iw, wr, kw, sr) v1) ∧ (∀ post : Int32 → Prop, post r → wpY_races post ((nI n), fr, lr, mk, wd, vl, iw, kn, sn, kp, bf, sp, st, aw, hd, ry, ln, fe, mv, rc, md, lo, ra) v1) := by
  by_cases a : ch_rg 64 v1
  · obtain ⟨m, hm, rfl⟩ := a
    refine ⟨ra m, fun post h => ?_, fun post h => ?_⟩
    · unfold wpX_races
      dsimp only
      refine x_isWord (fun _ => ?_) (fun z => absurd ⟨m, hm, rfl⟩ z)
      rw [nI_clamp (by omega)]
      exact br_f (by decide) ⟨vp_in_nI hm (by decide), h⟩
    · unfold wpY_races
      dsimp only
      refine y_in (N := 64) rfl (by decide) (fun _ => ?_) (fun z => absurd ⟨m, hm, rfl⟩ z)
      rw [nI_clamp (by omega)]
      exact br_f (by decide) ⟨vp_in_nI hm (by decide), h⟩
  · refine ⟨-1, fun post h => ?_, fun post h => ?_⟩
    · unfold wpX_races
      dsimp only
      exact x_isWord (fun z => absurd z a) (fun _ => br_t rfl h)
    · unfold wpY_races
      dsimp only
      exact y_in (N := 64) rfl (by decide) (fun z => absurd z a) (fun _ => br_t rfl h)
theorem v_mode {k : Nat} (R : ch_R n L T st aw ty hd ro ln mk wd iw wr kw sr vl kn sn kp ry fe mv rc md lo) (v1 w : Int32) : ∃ (r : Int32) (u' : SX) (v' : SY), i_Rel k u' v' ∧ (∀ post : Int32 → SX → Prop, post r u' → wpX_mode post ((nI n), fr, st, aw, ty, hd, ro, ln, sp, bf, ra, mk, wd, iw, wr, kw, sr) v1 w) ∧ (∀ post : Int32 → SY → Prop, post r v' → wpY_mode post ((nI n), fr, lr, mk, wd, vl, iw, kn, sn, kp, bf, sp, st, aw, hd, ry, ln, fe, mv, rc, md, lo, ra) v1 w) := by
  by_cases a : ch_rg 8 v1
  · obtain ⟨p, hp, rfl⟩ := a
    by_cases b : nI n ≤ 0
    · refine ⟨1, ((nI n), fr, st, aw, ty, hd, ro, ln, upd sp p (vp_nar .boolean w), bf, ra, mk, wd, iw, wr, kw, sr), ((nI n), fr, lr, mk, wd, vl, iw, kn, sn, kp, bf, upd sp p (vp_nar .boolean w), st, aw, hd, ry, ln, fe, mv, rc, md, lo, ra), ch_mk _ _ _ _ _ R, fun post h => ?_, fun post h => ?_⟩
      · unfold wpX_mode
        dsimp only
        refine x_isPage (fun _ => ?_) (fun z => absurd ⟨p, hp, rfl⟩ z)
        rw [nI_clamp (by omega)]
        exact br_f (by decide) (br_t b ⟨vp_in_nI hp (by decide), nm_e h⟩)
      · unfold wpY_mode
        dsimp only
        refine y_in (N := 8) rfl (by decide) (fun _ => ?_) (fun z => absurd ⟨p, hp, rfl⟩ z)
        rw [nI_clamp (by omega)]
        exact br_f (by decide) (br_t b ⟨vp_in_nI hp (by decide), nm_e h⟩)
    · refine ⟨0, ((nI n), fr, st, aw, ty, hd, ro, ln, sp, bf, ra, mk, wd, iw, wr, kw, sr), ((nI n), fr, lr, mk, wd, vl, iw, kn, sn, kp, bf, sp, st, aw, hd, ry, ln, fe, mv, rc, md, lo, ra), ch_mk _ _ _ _ _ R, fun post h => ?_, fun post h => ?_⟩
      · unfold wpX_mode
        dsimp only
        exact x_isPage (fun _ => br_f (by decide) (br_f b h)) (fun z => absurd ⟨p, hp, rfl⟩ z)
      · unfold wpY_mode
        dsimp only
        exact y_in (N := 8) rfl (by decide) (fun _ => br_f (by decide) (br_f b h)) (fun z => absurd ⟨p, hp, rfl⟩ z)
  · refine ⟨0, ((nI n), fr, st, aw, ty, hd, ro, ln, sp, bf, ra, mk, wd, iw, wr, kw, sr), ((nI n), fr, lr, mk, wd, vl, iw, kn, sn, kp, bf, sp, st, aw, hd, ry, ln, fe, mv, rc, md, lo, ra), ch_mk _ _ _ _ _ R, fun post h => ?_, fun post h => ?_⟩
    · unfold wpX_mode
      dsimp only
      exact x_isPage (fun z => absurd z a) (fun _ => br_t rfl h)
    · unfold wpY_mode
      dsimp only
      exact y_in (N := 8) rfl (by decide) (fun z => absurd z a) (fun _ => br_t rfl h)
theorem ch_4z (z : Nat) : (4 : Int32) + nI z = nI (4 + z) := nI_add 4 z
theorem ch_z4 (z x : Nat) : nI z * 4 + nI x = nI (4 * z + x) := by
  rw [show (4 : Int32) = nI 4 from rfl, pk_mul, nI_add, Nat.mul_comm]
theorem ch_4x (z x : Nat) : 4 * nI z + nI x = nI (4 * z + x) := by
  rw [show (4 : Int32) = nI 4 from rfl, pk_mul, nI_add]
theorem ch_z5 (z x : Nat) : nI z * 5 + nI x = nI (5 * z + x) := by
  rw [show (5 : Int32) = nI 5 from rfl, pk_mul, nI_add, Nat.mul_comm]
theorem v_waits_21 (hQ : ∀ r, r < 8 → L r ≤ 4) (hX : ch_W L T ln ro) (hY : ch_W L T ln ry) {z : Nat} (hz : z < 8) (v3 : Int32) : ∃ r, (∀ post : Int32 → Prop, post r → wX_waits_21 post v3 (nI z) (nI n) fr st aw ty hd ro ln sp bf ra mk wd iw wr kw sr) ∧ (∀ post : Int32 → Prop, post r → wY_waits_21 post v3 (nI z) (nI n) fr lr mk wd vl iw kn sn kp bf sp st aw hd ry ln fe mv rc md lo ra) := by
  have hL := hQ z hz
  have i8 : vp_in (nI z) 8 := vp_in_nI hz (by decide)
  by_cases m1 : v3 = -1
  · refine ⟨ln z, fun post h => br_t m1 ⟨i8, ?_⟩, fun post h => br_t m1 ⟨i8, ?_⟩⟩
    · rw [nI_clamp (by omega)]; exact h
    · rw [nI_clamp (by omega)]; exact h
  · by_cases a : ch_rg (L z) v3
    · obtain ⟨x, hx, rfl⟩ := a
      have hi : vp_in (nI (4 * z + x)) 32 := vp_in_nI (by omega) (by decide)
      refine ⟨nI (T z x), fun post h => br_f m1 (br_f (nI_pos (by omega)) ⟨i8, ?_⟩), fun post h => br_f m1 ⟨i8, ?_⟩⟩
      · rw [nI_clamp (by omega), hX.1 z hz, ch_z4, nI_clamp (by omega), hX.2 z x hz hx]
        exact br_t (nI_lt hx (by omega)) ⟨hi, h⟩
      · rw [nI_clamp (by omega), hY.1 z hz]
        refine y_in rfl (by omega) (fun _ => ?_) (fun q => absurd ⟨x, hx, rfl⟩ q)
        rw [ch_4x, nI_clamp (by omega), hY.2 z x hz hx]
        exact br_f (by decide) ⟨hi, h⟩
    · refine ⟨-1, fun post h => br_f m1 (br_c (fun _ => h) (fun q => ⟨i8, ?_⟩)), fun post h => br_f m1 ⟨i8, ?_⟩⟩
      · rw [nI_clamp (by omega), hX.1 z hz]
        refine br_f ?_ h
        intro q2
        rcases pk_ix v3 (n := L z) (by omega) with e | e | e
        · exact q e
        · exact Int32.not_lt.mpr e q2
        · exact a e
      · rw [nI_clamp (by omega), hY.1 z hz]
        exact y_in rfl (by omega) (fun q => absurd q a) (fun _ => br_t rfl h)
theorem v_waits (R : ch_R n L T st aw ty hd ro ln mk wd iw wr kw sr vl kn sn kp ry fe mv rc md lo) (v1 w v3 : Int32) : ∃ r, (∀ post : Int32 → Prop, post r → wpX_waits post ((nI n), fr, st, aw, ty, hd, ro, ln, sp, bf, ra, mk, wd, iw, wr, kw, sr) v1 w v3) ∧ (∀ post : Int32 → Prop, post r → wpY_waits post ((nI n), fr, lr, mk, wd, vl, iw, kn, sn, kp, bf, sp, st, aw, hd, ry, ln, fe, mv, rc, md, lo, ra) v1 w v3) := by
  obtain ⟨A, K, Q, WX, WY, TT⟩ := R
  by_cases a : ch_rg 4 v1
  · obtain ⟨l, hl, rfl⟩ := a
    by_cases b : w = 0
    · obtain ⟨r, hX, hY⟩ := v_waits_21 (n := n) (fr := fr) (lr := lr) (st := st) (aw := aw) (ty := ty) (hd := hd) (sp := sp) (bf := bf) (ra := ra) (mk := mk) (wd := wd) (iw := iw) (wr := wr) (kw := kw) (sr := sr) (vl := vl) (kn := kn) (sn := sn) (kp := kp) (fe := fe) (mv := mv) (rc := rc) (md := md) (lo := lo) Q.1 WX WY (z := l) (by omega) v3
      refine ⟨r, fun post h => ?_, fun post h => ?_⟩
      · unfold wpX_waits
        dsimp only
        exact x_isLock (fun _ => br_f (by decide) (br_t b (hX post h))) (fun z => absurd ⟨l, hl, rfl⟩ z)
      · unfold wpY_waits
        dsimp only
        exact y_in (N := 4) rfl (by decide) (fun _ => br_f (by decide) (br_t b (hY post h))) (fun z => absurd ⟨l, hl, rfl⟩ z)
    · obtain ⟨r, hX, hY⟩ := v_waits_21 (n := n) (fr := fr) (lr := lr) (st := st) (aw := aw) (ty := ty) (hd := hd) (sp := sp) (bf := bf) (ra := ra) (mk := mk) (wd := wd) (iw := iw) (wr := wr) (kw := kw) (sr := sr) (vl := vl) (kn := kn) (sn := sn) (kp := kp) (fe := fe) (mv := mv) (rc := rc) (md := md) (lo := lo) Q.1 WX WY (z := 4 + l) (by omega) v3
      refine ⟨r, fun post h => ?_, fun post h => ?_⟩
      · unfold wpX_waits
        dsimp only
        rw [ch_4z]
        exact x_isLock (fun _ => br_f (by decide) (br_f b (hX post h))) (fun z => absurd ⟨l, hl, rfl⟩ z)
      · unfold wpY_waits
        dsimp only
        rw [ch_4z]
        exact y_in (N := 4) rfl (by decide) (fun _ => br_f (by decide) (br_f b (hY post h))) (fun z => absurd ⟨l, hl, rfl⟩ z)
  · refine ⟨-1, fun post h => ?_, fun post h => ?_⟩
    · unfold wpX_waits
      dsimp only
      exact x_isLock (fun z => absurd z a) (fun _ => br_t rfl h)
    · unfold wpY_waits
      dsimp only
      exact y_in (N := 4) rfl (by decide) (fun z => absurd z a) (fun _ => br_t rfl h)
theorem ch_fxy (A : ch_A n mk wd iw wr vl) (K : ch_K n mk iw hd kw sr kn sn kp) {m i : Nat} (hm : m < 4) (hi : i < n) : ch_fy iw kn sn m i = ch_fx iw kw sr m i := by
  unfold ch_fy ch_fx
  rcases A.2.2.2.1 i hi with e | e
  · rw [e]; simp
  · rw [K.1 m i hm hi, K.2.2.1 m i hm hi e]
    cases bt (kw i) m <;> cases bt (sr i) m <;> simp [ch_b, e]
theorem v_stale (R : ch_R n L T st aw ty hd ro ln mk wd iw wr kw sr vl kn sn kp ry fe mv rc md lo) (v1 v2 : Int32) : ∃ r, (∀ post : Int32 → Prop, post r → wpX_stale post ((nI n), fr, st, aw, ty, hd, ro, ln, sp, bf, ra, mk, wd, iw, wr, kw, sr) v1 v2) ∧ (∀ post : Int32 → Prop, post r → wpY_stale post ((nI n), fr, lr, mk, wd, vl, iw, kn, sn, kp, bf, sp, st, aw, hd, ry, ln, fe, mv, rc, md, lo, ra) v1 v2) := by
  obtain ⟨A, K, Q, WX, WY, TT⟩ := R
  by_cases a : ch_rg 4 v1
  · by_cases b : ch_rg 8 v2
    · obtain ⟨m, hm, rfl⟩ := a
      obtain ⟨p, hp, rfl⟩ := b
      have e : ch_any (fun j => decide (wd j / 8 = nI p) && ch_fy iw kn sn m j) n = ch_any (fun j => decide (wd j / 8 = nI p) && ch_fx iw kw sr m j) n := ch_any_e (fun i hi => by rw [ch_fxy A K hm hi])
      refine ⟨ch_b (decide (sp p = 0) && ch_any (fun j => decide (wd j / 8 = nI p) && ch_fx iw kw sr m j) n), fun post h => ?_, fun post h => ?_⟩
      · unfold wpX_stale
        dsimp only
        refine x_isMachine (fun _ => ?_) (fun z => absurd ⟨m, hm, rfl⟩ z)
        refine br_f (by decide) ?_
        refine x_isPage (fun _ => ?_) (fun z => absurd ⟨p, hp, rfl⟩ z)
        refine br_f (by decide) ?_
        refine x_isStale A.1 hm hp ?_
        generalize (decide (sp p = 0) && ch_any (fun j => decide (wd j / 8 = nI p) && ch_fx iw kw sr m j) n) = g at h ⊢
        cases g
        · exact br_t rfl h
        · exact br_f (by decide) h
      · unfold wpY_stale
        dsimp only
        refine y_in (N := 4) rfl (by decide) (fun _ => ?_) (fun z => absurd ⟨m, hm, rfl⟩ z)
        refine br_f (by decide) ?_
        refine y_in (N := 8) rfl (by decide) (fun _ => ?_) (fun z => absurd ⟨p, hp, rfl⟩ z)
        refine br_f (by decide) ?_
        refine y_isStale A.1 hm hp ?_
        rw [e]
        generalize (decide (sp p = 0) && ch_any (fun j => decide (wd j / 8 = nI p) && ch_fx iw kw sr m j) n) = g at h ⊢
        cases g
        · exact br_t rfl h
        · exact br_f (by decide) h
    · refine ⟨-1, fun post h => ?_, fun post h => ?_⟩
      · unfold wpX_stale
        dsimp only
        refine x_isMachine (fun _ => br_f (by decide) ?_) (fun z => absurd a z)
        exact x_isPage (fun z => absurd z b) (fun _ => br_t rfl h)
      · unfold wpY_stale
        dsimp only
        refine y_in (N := 4) rfl (by decide) (fun _ => br_f (by decide) ?_) (fun z => absurd a z)
        exact y_in (N := 8) rfl (by decide) (fun z => absurd z b) (fun _ => br_t rfl h)
  · refine ⟨-1, fun post h => ?_, fun post h => ?_⟩
    · unfold wpX_stale
      dsimp only
      exact x_isMachine (fun z => absurd z a) (fun _ => br_t rfl h)
    · unfold wpY_stale
      dsimp only
      exact y_in (N := 4) rfl (by decide) (fun z => absurd z a) (fun _ => br_t rfl h)
theorem v_has (hn : n ≤ 300) (v1 v2 : Int32) : ∃ r, (∀ post : Int32 → Prop, post r → wpX_has post ((nI n), fr, st, aw, ty, hd, ro, ln, sp, bf, ra, mk, wd, iw, wr, kw, sr) v1 v2) ∧ (∀ post : Int32 → Prop, post r → wpY_has post ((nI n), fr, lr, mk, wd, vl, iw, kn, sn, kp, bf, sp, st, aw, hd, ry, ln, fe, mv, rc, md, lo, ra) v1 v2) := by
  by_cases a : ch_rg 4 v1
  · by_cases b : ch_rg 8 v2
    · obtain ⟨p, hp, rfl⟩ := b
      by_cases s : sp p = 0
      · refine ⟨3, fun post h => ?_, fun post h => ?_⟩
        · unfold wpX_has
          dsimp only
          refine x_isMachine (fun _ => br_f (by decide) ?_) (fun z => absurd a z)
          refine x_isPage (fun _ => br_f (by decide) ⟨vp_in_nI hp (by decide), ?_⟩) (fun z => absurd ⟨p, hp, rfl⟩ z)
          rw [nI_clamp (by omega)]
          exact br_t s h
        · unfold wpY_has
          dsimp only
          refine y_in (N := 4) rfl (by decide) (fun _ => br_f (by decide) ?_) (fun z => absurd a z)
          refine y_in (N := 8) rfl (by decide) (fun _ => br_f (by decide) ⟨vp_in_nI hp (by decide), ?_⟩) (fun z => absurd ⟨p, hp, rfl⟩ z)
          rw [nI_clamp (by omega)]
          exact br_t s h
      · refine ⟨ch_h2 mk wd iw v1 (nI p) n, fun post h => ?_, fun post h => ?_⟩
        · unfold wpX_has
          dsimp only
          refine x_isMachine (fun _ => br_f (by decide) ?_) (fun z => absurd a z)
          refine x_isPage (fun _ => br_f (by decide) ⟨vp_in_nI hp (by decide), ?_⟩) (fun z => absurd ⟨p, hp, rfl⟩ z)
          rw [nI_clamp (by omega)]
          refine br_f s ?_
          refine x_ownsPage hn ?_
          unfold ch_h2 at h
          cases e : ch_ow mk wd iw v1 (nI p) n
          · rw [e, if_neg (by decide)] at h
            refine br_t rfl ?_
            refine x_hasPage hn ?_
            cases e2 : ch_hv mk wd iw v1 (nI p) n
            · rw [e2] at h; exact br_t rfl h
            · rw [e2] at h; exact br_f (by decide) h
          · rw [e, if_pos rfl] at h
            exact br_f (by decide) h
        · unfold wpY_has
          dsimp only
          refine y_in (N := 4) rfl (by decide) (fun _ => br_f (by decide) ?_) (fun z => absurd a z)
          refine y_in (N := 8) rfl (by decide) (fun _ => br_f (by decide) ⟨vp_in_nI hp (by decide), ?_⟩) (fun z => absurd ⟨p, hp, rfl⟩ z)
          rw [nI_clamp (by omega)]
          exact br_f s (y_hasPage hn h)
    · refine ⟨-1, fun post h => ?_, fun post h => ?_⟩
      · unfold wpX_has
        dsimp only
        refine x_isMachine (fun _ => br_f (by decide) ?_) (fun z => absurd a z)
        exact x_isPage (fun z => absurd z b) (fun _ => br_t rfl h)
      · unfold wpY_has
        dsimp only
        refine y_in (N := 4) rfl (by decide) (fun _ => br_f (by decide) ?_) (fun z => absurd a z)
        exact y_in (N := 8) rfl (by decide) (fun z => absurd z b) (fun _ => br_t rfl h)
  · refine ⟨-1, fun post h => ?_, fun post h => ?_⟩
    · unfold wpX_has
      dsimp only
      exact x_isMachine (fun z => absurd z a) (fun _ => br_t rfl h)
    · unfold wpY_has
      dsimp only
      exact y_in (N := 4) rfl (by decide) (fun z => absurd z a) (fun _ => br_t rfl h)
end q1

/-! give back, acquire, release, rest -/
section gv
variable {n : Nat} {fr lr : Int32} {st aw ty hd ro ln sp bf ra mk wd iw wr kw sr vl kn sn kp ry fe mv rc md lo : Nat → Int32}
variable {L : Nat → Nat} {T : Nat → Nat → Nat}
theorem y_give_2 (hn : n ≤ 300) {m l : Nat} (hm : m < 4) (hl : l < 4) (hb : ∀ i, i < n → ∃ b, kn (300 * m + i) = ch_b b) : ∀ (d i : Nat) (kp : Nat → Int32), i + d = n → ∃ kp' : Nat → Int32, (∀ j, (∀ k, i ≤ k → k < n → ¬ j = 300 * l + k) → kp' j = kp j) ∧ (∀ j, i ≤ j → j < n → kp' (300 * l + j) = kn (300 * m + j)) ∧ ∀ post : SY → Prop, wY_give_2 post (nI m) (nI l) (nI n) fr lr 1 (nI n) mk wd vl iw kn sn kp' bf sp st aw hd ry ln fe mv rc md lo ra → wY_give_2 post (nI m) (nI l) (nI n) fr lr (d + 1) (nI i) mk wd vl iw kn sn kp bf sp st aw hd ry ln fe mv rc md lo ra := by
  intro d
  induction d with
  | zero =>
    intro i kp hi
    have : i = n := by omega
    subst this
    exact ⟨kp, fun j _ => rfl, fun j h1 h2 => by omega, fun post h => h⟩
  | succ d ih =>
    intro i kp hi
    obtain ⟨b, eb⟩ := hb i (by omega)
    obtain ⟨kp', h1, h2, h3⟩ := ih (i + 1) (upd kp (300 * l + i) (kn (300 * m + i))) (by omega)
    refine ⟨kp', fun j hj => ?_, fun j hj hj2 => ?_, fun post h => ?_⟩
    · rw [h1 j (fun k hk hk2 => hj k (by omega) hk2), pk_un (hj i (by omega) (by omega))]
    · by_cases z : j = i
      · subst z
        rw [h1 _ (fun k hk hk2 => by omega), pk_us]
      · rw [h2 j (by omega) hj2]
    · refine br_f (nI_ge (by omega) (by omega)) ⟨ch_adI hm (by omega), ch_adI hl (by omega), ?_⟩
      rw [ch_adC hl (by omega), ch_adC hm (by omega), eb, ch_vb, ← eb]
      exact nm_e (nm_r (nI_1 i) (h3 post h))
theorem v_give (A : ch_A n mk wd iw wr vl) (K : ch_K n mk iw hd kw sr kn sn kp) (Q : ch_Q L T st aw hd) (WX : ch_W L T ln ro) (WY : ch_W L T ln ry) {m l : Nat} (hm : m < 4) (hl : l < 4) (hs : st m = 0) (hh : hd l = nI m) :
    ∃ (L' : Nat → Nat) (T' : Nat → Nat → Nat) (st' hd' ln' ro' ry' kw' kn' kp' : Nat → Int32), ch_K n mk iw hd' kw' sr kn' sn kp' ∧ ch_Q L' T' st' aw hd' ∧ ch_W L' T' ln' ro' ∧ ch_W L' T' ln' ry' ∧ st' m = 0 ∧
      (∀ post : SX → Prop, post ((nI n), fr, st', aw, ty, hd', ro', ln', sp, bf, ra, mk, wd, iw, wr, kw', sr) → wpX_giveBack post ((nI n), fr, st, aw, ty, hd, ro, ln, sp, bf, ra, mk, wd, iw, wr, kw, sr) (nI m) (nI l)) ∧ (∀ post : SY → Prop, post ((nI n), fr, lr, mk, wd, vl, iw, kn', sn, kp', bf, sp, st', aw, hd', ry', ln', fe, mv, rc, md, lo, ra) → wpY_give post ((nI n), fr, lr, mk, wd, vl, iw, kn, sn, kp, bf, sp, st, aw, hd, ry, ln, fe, mv, rc, md, lo, ra) (nI m) (nI l)) := by
  obtain ⟨kw1, h1, h2, h3⟩ := x_learn (n := n) (aw := aw) (ty := ty) (ro := ro) (ln := ln) (sp := sp) (bf := bf) (ra := ra) (mk := mk) (wd := wd) (iw := iw) (wr := wr) (sr := sr) (kw := kw) (q := 4 + l) (f := m) A.1 (by omega) (by omega)
  obtain ⟨kp1, g1, g2, g3⟩ := y_give_2 (n := n) (fr := fr) (lr := lr) (mk := mk) (wd := wd) (vl := vl) (iw := iw) (kn := kn) (sn := sn) (bf := bf) (sp := sp) (st := st) (aw := aw) (hd := hd) (ry := ry) (ln := ln) (fe := fe) (mv := mv) (rc := rc) (md := md) (lo := lo) (ra := ra) A.1 hm hl (fun i hi => ⟨_, K.1 m i hm hi⟩) n 0 kp (by omega)
  have K1 : ch_K n mk iw (upd hd l (-1)) kw1 sr kn sn kp1 := ch_Kgive K A.1 hl hm hh h2 (fun i hi => g2 i (by omega) hi) (fun j hj => g1 j (fun k _ hk => hj k hk)) (fun j hj => pk_un hj) pk_us
  have i4 : vp_in (nI l) 4 := vp_in_nI hl (by decide)
  have i8 : vp_in (nI l) 8 := vp_in_nI (by omega) (by decide)
  have eL := WX.1 l (by omega)
  have L4 := Q.1 l (by omega)
  by_cases z : L l = 0
  · refine ⟨L, T, st, upd hd l (-1), ln, ro, ry, kw1, kn, kp1, K1, ch_hdn Q (fun j hj => pk_un hj) z pk_us, WX, WY, hs, fun post h => ?_, fun post h => ?_⟩
    · unfold wpX_giveBack
      dsimp only
      rw [ch_4z]
      refine h3 _ _ _ _ ?_
      dsimp only
      refine ⟨i4, ?_⟩
      rw [nI_clamp (n := l) (by omega), eL, z]
      exact nm_e ⟨i8, br_t (by decide) h⟩
    · refine ⟨n + 1, g3 post (br_t (nI_le (Nat.le_refl _) (by have := A.1; omega)) ⟨i4, ?_⟩)⟩
      rw [nI_clamp (n := l) (by omega), eL, z]
      exact nm_e ⟨i8, br_t rfl h⟩
  · have h0 : 0 < L l := by omega
    have e0 : ln l - 1 = nI (L l - 1) := by
      rw [eL]
      obtain ⟨c, hc⟩ : ∃ c, L l = c + 1 := ⟨L l - 1, by omega⟩
      rw [hc]
      exact nI_pred c
    have hx : T l 0 < 4 := (Q.2.1 l 0 (by omega) h0).1
    have hx1 : st (T l 0) = 1 := ((Q.2.1 l 0 (by omega) h0).2.1 hl).1
    obtain ⟨ro1, r1, r2, r3⟩ := x_takeFirst (fk := nI n) (fr := fr) (st := st) (aw := aw) (ty := ty) (hd := upd hd l (-1)) (ro := ro) (ln := ln) (sp := sp) (bf := bf) (ra := ra) (mk := mk) (wd := wd) (iw := iw) (wr := wr) (kw := kw1) (sr := sr) (r := l) (by omega)
    obtain ⟨ry1, s1, s2, s3⟩ := y_shift (fk := nI n) (L := L) (fr := fr) (lr := lr) (mk := mk) (wd := wd) (vl := vl) (iw := iw) (kn := kn) (sn := sn) (kp := kp1) (bf := bf) (sp := sp) (st := st) (aw := aw) (hd := upd hd l (-1)) (ry := ry) (ln := ln) (fe := fe) (mv := mv) (rc := rc) (md := md) (lo := lo) (ra := ra) (r := l) (by omega) eL h0 L4
    obtain ⟨kw2, kn2, K2, X2, Y2⟩ := v_gets (fr := fr) (lr := lr) (st := st) (aw := aw) (ty := ty) (ro := ro1) (ln := upd ln l (ln l - 1)) (sp := sp) (bf := bf) (ra := ra) (ry := ry1) (fe := fe) (mv := mv) (rc := rc) (md := md) (lo := lo) A K1 hx hl
    have eX : ro (4 * l) = nI (T l 0) := WX.2 l 0 (by omega) h0
    have eY : ry (4 * l) = nI (T l 0) := WY.2 l 0 (by omega) h0
    refine ⟨ch_oL L l, ch_oT T l, upd st (T l 0) 0, upd (upd hd l (-1)) l (nI (T l 0)), upd ln l (ln l - 1), ro1, ry1, kw2, kn2, kp1, K2, ?_, ?_, ?_, ?_, fun post h => ?_, fun post h => ?_⟩
    · refine ch_set (ch_Ppop (ch_hd (l := l) Q ?_ ⟨T l 0, hx, pk_us⟩) (by omega) h0) (fun j hj => pk_un hj) ?_
      · intro j hj
        rw [pk_un hj, pk_un hj]
      · rw [pk_us]
        decide
    · exact ch_Wpop WX (by omega) h0 Q.1 e0 (fun k hk => r1 k (by omega)) (fun j hj => r2 j (by omega))
    · exact ch_Wpop WY (by omega) h0 Q.1 e0 (fun k hk => s1 k hk) (fun j hj => s2 j hj)
    · by_cases q : m = T l 0
      · rw [q, pk_us]
      · rw [pk_un q]; exact hs
    · unfold wpX_giveBack
      dsimp only
      rw [ch_4z]
      refine h3 _ _ _ _ ?_
      dsimp only
      refine ⟨i4, ?_⟩
      rw [nI_clamp (n := l) (by omega)]
      refine nm_e ⟨i8, br_f ?_ ?_⟩
      · rw [eL]
        exact nI_nle h0 (by omega)
      · refine r3 _ ?_
        rw [eX]
        exact X2 _ h
    · refine ⟨n + 1, g3 post (br_t (nI_le (Nat.le_refl _) (by have := A.1; omega)) ⟨i4, ?_⟩)⟩
      rw [nI_clamp (n := l) (by omega)]
      refine nm_e ⟨i8, br_f ?_ ?_⟩
      · rw [eL]
        exact nI_ne0 h0 (by omega)
      · refine s3 _ ?_
        rw [eY]
        exact Y2 _ h
theorem v_release {k : Nat} (R : ch_R n L T st aw ty hd ro ln mk wd iw wr kw sr vl kn sn kp ry fe mv rc md lo) (v1 v2 : Int32) : ∃ (r : Int32) (u' : SX) (v' : SY), i_Rel k u' v' ∧ (∀ post : Int32 → SX → Prop, post r u' → wpX_release post ((nI n), fr, st, aw, ty, hd, ro, ln, sp, bf, ra, mk, wd, iw, wr, kw, sr) v1 v2) ∧ (∀ post : Int32 → SY → Prop, post r v' → wpY_release post ((nI n), fr, lr, mk, wd, vl, iw, kn, sn, kp, bf, sp, st, aw, hd, ry, ln, fe, mv, rc, md, lo, ra) v1 v2) := by
  by_cases a : ch_hol st hd v1 v2
  · have a2 := a
    obtain ⟨m, l, hm, hl, rfl, rfl, hs, hh⟩ := a2
    obtain ⟨A, K, Q, WX, WY, TT⟩ := R
    obtain ⟨L', T', st', hd', ln', ro', ry', kw', kn', kp', K', Q', WX', WY', hs', hX, hY⟩ := v_give (fr := fr) (lr := lr) (ty := ty) (sp := sp) (bf := bf) (ra := ra) (fe := fe) (mv := mv) (rc := rc) (md := md) (lo := lo) A K Q WX WY hm hl hs hh
    refine ⟨1, _, _, ch_mk fr lr sp bf ra ⟨A, K', Q', WX', WY', TT⟩, fun post h => ?_, fun post h => ?_⟩
    · unfold wpX_release
      dsimp only
      exact x_isRunningHolder (fun _ => br_f (by decide) (hX _ h)) (fun z => absurd a z)
    · unfold wpY_release
      dsimp only
      exact y_holds (fun _ => br_f (by decide) (hY _ h)) (fun z => absurd a z)
  · refine ⟨0, _, _, ch_mk fr lr sp bf ra R, fun post h => ?_, fun post h => ?_⟩
    · unfold wpX_release
      dsimp only
      exact x_isRunningHolder (fun z => absurd z a) (fun _ => br_t rfl h)
    · unfold wpY_release
      dsimp only
      exact y_holds (fun z => absurd z a) (fun _ => br_t rfl h)
theorem v_rest {k : Nat} (R : ch_R n L T st aw ty hd ro ln mk wd iw wr kw sr vl kn sn kp ry fe mv rc md lo) (v1 v2 : Int32) : ∃ (r : Int32) (u' : SX) (v' : SY), i_Rel k u' v' ∧ (∀ post : Int32 → SX → Prop, post r u' → wpX_rest post ((nI n), fr, st, aw, ty, hd, ro, ln, sp, bf, ra, mk, wd, iw, wr, kw, sr) v1 v2) ∧ (∀ post : Int32 → SY → Prop, post r v' → wpY_rest post ((nI n), fr, lr, mk, wd, vl, iw, kn, sn, kp, bf, sp, st, aw, hd, ry, ln, fe, mv, rc, md, lo, ra) v1 v2) := by
  by_cases a : ch_hol st hd v1 v2
  · have a2 := a
    obtain ⟨m, l, hm, hl, rfl, rfl, hs, hh⟩ := a2
    obtain ⟨A, K, Q, WX, WY, TT⟩ := R
    obtain ⟨L', T', st', hd', ln', ro', ry', kw', kn', kp', K', Q', WX', WY', hs', hX, hY⟩ := v_give (fr := fr) (lr := lr) (ty := ty) (sp := sp) (bf := bf) (ra := ra) (fe := fe) (mv := mv) (rc := rc) (md := md) (lo := lo) A K Q WX WY hm hl hs hh
    have P : ch_P L' T' st' aw hd' m := ch_Pof Q' hm (by rw [hs']; decide) (by rw [hs']; decide)
    have rm : L' (4 + l) < 4 := ch_room P (by omega)
    have Q2 : ch_Q (ch_pL L' (4 + l)) (ch_pT L' T' (4 + l) m) (upd st' m 3) aw hd' := ch_push P (by omega) (fun j hj => pk_un hj) (fun j hj => rfl) (fun z => absurd z (by omega)) (fun _ => pk_us)
    have WX2 := ch_Wpush (x := m) WX' (show 4 + l < 8 by omega) rm Q'.1 rfl rfl
    have WY2 := ch_Wpush (x := m) WY' (show 4 + l < 8 by omega) rm Q'.1 rfl rfl
    refine ⟨1, _, _, ch_mk fr lr sp bf ra ⟨A, K', Q2, WX2, WY2, TT⟩, fun post h => ?_, fun post h => ?_⟩
    · unfold wpX_rest
      dsimp only
      refine x_isRunningHolder (fun _ => br_f (by decide) (hX _ ?_)) (fun z => absurd a z)
      refine ⟨vp_in_nI hm (by decide), ?_⟩
      rw [nI_clamp (n := m) (by omega), ch_4z]
      exact nm_e (x_putLast (L := L') (by omega) (WX'.1 _ (by omega)) rm h)
    · unfold wpY_rest
      dsimp only
      refine y_holds (fun _ => br_f (by decide) (hY _ ?_)) (fun z => absurd a z)
      refine ⟨vp_in_nI hm (by decide), ?_⟩
      rw [nI_clamp (n := m) (by omega), ch_4z]
      exact nm_e (y_push (L := L') (by omega) (WY'.1 _ (by omega)) rm h)
  · refine ⟨0, _, _, ch_mk fr lr sp bf ra R, fun post h => ?_, fun post h => ?_⟩
    · unfold wpX_rest
      dsimp only
      exact x_isRunningHolder (fun z => absurd z a) (fun _ => br_t rfl h)
    · unfold wpY_rest
      dsimp only
      exact y_holds (fun z => absurd z a) (fun _ => br_t rfl h)
theorem v_acquire {k : Nat} (R : ch_R n L T st aw ty hd ro ln mk wd iw wr kw sr vl kn sn kp ry fe mv rc md lo) (v1 v2 : Int32) : ∃ (r : Int32) (u' : SX) (v' : SY), i_Rel k u' v' ∧ (∀ post : Int32 → SX → Prop, post r u' → wpX_acquire post ((nI n), fr, st, aw, ty, hd, ro, ln, sp, bf, ra, mk, wd, iw, wr, kw, sr) v1 v2) ∧ (∀ post : Int32 → SY → Prop, post r v' → wpY_acquire post ((nI n), fr, lr, mk, wd, vl, iw, kn, sn, kp, bf, sp, st, aw, hd, ry, ln, fe, mv, rc, md, lo, ra) v1 v2) := by
  by_cases a : ch_run st v1
  · by_cases b : ch_rg 4 v2
    · have a2 := a
      have b2 := b
      obtain ⟨m, hm, rfl, hs⟩ := a2
      obtain ⟨l, hl, rfl⟩ := b2
      have i4 : vp_in (nI l) 4 := vp_in_nI hl (by decide)
      by_cases c : hd l = nI m
      · refine ⟨-1, _, _, ch_mk fr lr sp bf ra R, fun post h => ?_, fun post h => ?_⟩
        · unfold wpX_acquire
          dsimp only
          refine x_isRunning (fun _ => br_f (by decide) ?_) (fun z => absurd a z)
          refine x_isLock (fun _ => br_f (by decide) ⟨i4, ?_⟩) (fun z => absurd b z)
          rw [nI_clamp (n := l) (by omega)]
          exact br_t c h
        · unfold wpY_acquire
          dsimp only
          refine y_runs (fun _ => br_f (by decide) ?_) (fun z => absurd a z)
          refine y_in (N := 4) rfl (by decide) (fun _ => br_f (by decide) ⟨i4, ?_⟩) (fun z => absurd b z)
          rw [nI_clamp (n := l) (by omega)]
          exact br_t c h
      · obtain ⟨A, K, Q, WX, WY, TT⟩ := R
        by_cases d : hd l = -1
        · obtain ⟨kw', kn', K', hX, hY⟩ := v_gets (fr := fr) (lr := lr) (st := st) (aw := aw) (ty := ty) (ro := ro) (ln := ln) (sp := sp) (bf := bf) (ra := ra) (ry := ry) (fe := fe) (mv := mv) (rc := rc) (md := md) (lo := lo) A K hm hl
          have Q2 : ch_Q L T (upd st m 0) aw (upd hd l (nI m)) := ch_set (ch_Pof (ch_hd (l := l) Q (fun j hj => pk_un hj) ⟨m, hm, pk_us⟩) hm (by rw [hs]; decide) (by rw [hs]; decide)) (fun j hj => pk_un hj) (by rw [pk_us]; decide)
          refine ⟨1, _, _, ch_mk fr lr sp bf ra ⟨A, K', Q2, WX, WY, TT⟩, fun post h => ?_, fun post h => ?_⟩
          · unfold wpX_acquire
            dsimp only
            refine x_isRunning (fun _ => br_f (by decide) ?_) (fun z => absurd a z)
            refine x_isLock (fun _ => br_f (by decide) ⟨i4, ?_⟩) (fun z => absurd b z)
            rw [nI_clamp (n := l) (by omega)]
            exact br_f c ⟨i4, br_t d (hX _ h)⟩
          · unfold wpY_acquire
            dsimp only
            refine y_runs (fun _ => br_f (by decide) ?_) (fun z => absurd a z)
            refine y_in (N := 4) rfl (by decide) (fun _ => br_f (by decide) ⟨i4, ?_⟩) (fun z => absurd b z)
            rw [nI_clamp (n := l) (by omega)]
            exact br_f c ⟨i4, br_f (by rw [d]; decide) (hY _ h)⟩
        · have P : ch_P L T st aw hd m := ch_Pof Q hm (by rw [hs]; decide) (by rw [hs]; decide)
          have rm : L l < 4 := ch_room P (by omega)
          have Q2 : ch_Q (ch_pL L l) (ch_pT L T l m) (upd st m 1) (upd aw m (nI l)) hd := ch_push P (by omega) (fun j hj => pk_un hj) (fun j hj => pk_un hj) (fun _ => ⟨pk_us, pk_us, d⟩) (fun z => absurd z (by omega))
          have WX2 := ch_Wpush (x := m) WX (show l < 8 by omega) rm Q.1 rfl rfl
          have WY2 := ch_Wpush (x := m) WY (show l < 8 by omega) rm Q.1 rfl rfl
          have d0 : 0 ≤ hd l := by
            rcases Q.2.2.2.2.2 l hl with e | ⟨m2, hm2, e⟩
            · exact absurd e d
            · rw [e]; exact nI_pos' (by omega)
          refine ⟨0, _, _, ch_mk fr lr sp bf ra ⟨A, K, Q2, WX2, WY2, TT⟩, fun post h => ?_, fun post h => ?_⟩
          · unfold wpX_acquire
            dsimp only
            refine x_isRunning (fun _ => br_f (by decide) ?_) (fun z => absurd a z)
            refine x_isLock (fun _ => br_f (by decide) ⟨i4, ?_⟩) (fun z => absurd b z)
            rw [nI_clamp (n := l) (by omega)]
            exact br_f c ⟨i4, br_f d (x_waitFor (L := L) hl hm (WX.1 l (by omega)) rm h)⟩
          · unfold wpY_acquire
            dsimp only
            refine y_runs (fun _ => br_f (by decide) ?_) (fun z => absurd a z)
            refine y_in (N := 4) rfl (by decide) (fun _ => br_f (by decide) ⟨i4, ?_⟩) (fun z => absurd b z)
            rw [nI_clamp (n := l) (by omega), nI_clamp (n := m) (by omega)]
            exact br_f c ⟨i4, br_t d0 ⟨vp_in_nI hm (by decide), nm_e ⟨vp_in_nI hm (by decide), nm_e (y_push (L := L) (by omega) (WY.1 l (by omega)) rm h)⟩⟩⟩
    · refine ⟨-1, _, _, ch_mk fr lr sp bf ra R, fun post h => ?_, fun post h => ?_⟩
      · unfold wpX_acquire
        dsimp only
        refine x_isRunning (fun _ => br_f (by decide) ?_) (fun z => absurd a z)
        exact x_isLock (fun z => absurd z b) (fun _ => br_t rfl h)
      · unfold wpY_acquire
        dsimp only
        refine y_runs (fun _ => br_f (by decide) ?_) (fun z => absurd a z)
        exact y_in (N := 4) rfl (by decide) (fun z => absurd z b) (fun _ => br_t rfl h)
  · refine ⟨-1, _, _, ch_mk fr lr sp bf ra R, fun post h => ?_, fun post h => ?_⟩
    · unfold wpX_acquire
      dsimp only
      exact x_isRunning (fun z => absurd z a) (fun _ => br_t rfl h)
    · unfold wpY_acquire
      dsimp only
      exact y_runs (fun z => absurd z a) (fun _ => br_t rfl h)
end gv

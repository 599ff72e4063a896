/-! wake, arrive, tidy -/
section wk
variable {n : Nat} {fr lr : Int32} {st aw ty hd ro ln sp bf ra mk wd iw wr kw sr vl kn sn kp ry fe mv rc md lo : Nat → Int32}
variable {L : Nat → Nat} {T : Nat → Nat → Nat}
theorem v_wake1 (Q : ch_Q L T st aw hd) (WX : ch_W L T ln ro) (WY : ch_W L T ln ry) {l : Nat} (hl : l < 4) (hh : ¬ hd l = -1) (h0 : 0 < L (4 + l)) :
    ∃ (L' : Nat → Nat) (T' : Nat → Nat → Nat) (st' aw' ln' ro' ry' : Nat → Int32), ch_Q L' T' st' aw' hd ∧ ch_W L' T' ln' ro' ∧ ch_W L' T' ln' ry' ∧ L' (4 + l) + 1 = L (4 + l) ∧
      (∀ (post : Int32 → SX → Prop) (d i c : Nat), i < c → c < 2 ^ 31 → wX_wake_41 post (nI l) (nI c) d (nI (i + 1)) (nI n) fr st' aw' ty hd ro' ln' sp bf ra mk wd iw wr kw sr → wX_wake_41 post (nI l) (nI c) (d + 1) (nI i) (nI n) fr st aw ty hd ro ln sp bf ra mk wd iw wr kw sr) ∧
      (∀ (post : Int32 → SY → Prop) (J : Int32 → Int32 → Int32 → Int32 → (Nat → Int32) → (Nat → Int32) → (Nat → Int32) → (Nat → Int32) → (Nat → Int32) → (Nat → Int32) → (Nat → Int32) → (Nat → Int32) → (Nat → Int32) → (Nat → Int32) → (Nat → Int32) → (Nat → Int32) → (Nat → Int32) → (Nat → Int32) → (Nat → Int32) → (Nat → Int32) → (Nat → Int32) → (Nat → Int32) → (Nat → Int32) → (Nat → Int32) → Prop) (w : Int32) (i : Nat), J (nI (i + 1)) (nI n) fr lr mk wd vl iw kn sn kp bf sp st' aw' hd ry' ln' fe mv rc md lo ra → wY_wake_34 post J (nI l) w (nI i) (nI n) fr lr mk wd vl iw kn sn kp bf sp st aw hd ry ln fe mv rc md lo ra) := by
  have h4 := Q.1 (4 + l) (by omega)
  have eL := WX.1 (4 + l) (by omega)
  have e0 : ln (4 + l) - 1 = nI (L (4 + l) - 1) := by
    rw [eL]
    obtain ⟨c, hc⟩ : ∃ c, L (4 + l) = c + 1 := ⟨L (4 + l) - 1, by omega⟩
    rw [hc]
    exact nI_pred c
  have P := ch_Ppop Q (show 4 + l < 8 by omega) h0
  have hx := P.1
  obtain ⟨ro1, r1, r2, r3⟩ := x_takeFirst (fk := nI n) (fr := fr) (st := st) (aw := aw) (ty := ty) (hd := hd) (ro := ro) (ln := ln) (sp := sp) (bf := bf) (ra := ra) (mk := mk) (wd := wd) (iw := iw) (wr := wr) (kw := kw) (sr := sr) (r := 4 + l) (by omega)
  obtain ⟨ry1, s1, s2, s3⟩ := y_shift (fk := nI n) (L := L) (fr := fr) (lr := lr) (mk := mk) (wd := wd) (vl := vl) (iw := iw) (kn := kn) (sn := sn) (kp := kp) (bf := bf) (sp := sp) (st := st) (aw := aw) (hd := hd) (ry := ry) (ln := ln) (fe := fe) (mv := mv) (rc := rc) (md := md) (lo := lo) (ra := ra) (r := 4 + l) (by omega) eL h0 h4
  have WX1 := ch_Wpop WX (show 4 + l < 8 by omega) h0 Q.1 e0 (fun k hk => r1 k (by omega)) (fun j hj => r2 j (by omega))
  have WY1 := ch_Wpop WY (show 4 + l < 8 by omega) h0 Q.1 e0 (fun k hk => s1 k hk) (fun j hj => s2 j hj)
  have eX : ro (4 * (4 + l)) = nI (T (4 + l) 0) := WX.2 (4 + l) 0 (by omega) h0
  have eY : ry (4 * (4 + l)) = nI (T (4 + l) 0) := WY.2 (4 + l) 0 (by omega) h0
  have rm : ch_oL L (4 + l) l < 4 := ch_room P (by omega)
  have Q2 := ch_push (st' := upd st (T (4 + l) 0) 1) (aw' := upd aw (T (4 + l) 0) (nI l)) (r := l) P (by omega) (fun j hj => pk_un hj) (fun j hj => pk_un hj) (fun _ => ⟨pk_us, pk_us, hh⟩) (fun z => absurd z (by omega))
  have WX2 := ch_Wpush (x := T (4 + l) 0) WX1 (show l < 8 by omega) rm P.2.2.1 rfl rfl
  have WY2 := ch_Wpush (x := T (4 + l) 0) WY1 (show l < 8 by omega) rm P.2.2.1 rfl rfl
  refine ⟨_, _, _, _, _, _, _, Q2, WX2, WY2, ?_, fun post d i c hi hc h => ?_, fun post J w i h => ?_⟩
  · unfold ch_pL ch_oL
    rw [if_neg (by omega), if_pos rfl]
    omega
  · refine br_f (nI_ge hi hc) ?_
    rw [ch_4z]
    refine r3 _ ?_
    dsimp only
    rw [eX]
    exact x_waitFor (L := ch_oL L (4 + l)) hl hx (WX1.1 l (by omega)) rm (nm_r (nI_1 i) h)
  · unfold wY_wake_34
    rw [ch_4z]
    refine s3 _ ?_
    dsimp only
    rw [eY, nI_clamp (n := T (4 + l) 0) (by omega)]
    exact ⟨vp_in_nI hx (by decide), nm_e ⟨vp_in_nI hx (by decide), nm_e (y_push (L := ch_oL L (4 + l)) (by omega) (WY1.1 l (by omega)) rm (nm_r (nI_1 i) h))⟩⟩
theorem v_wakeA {l : Nat} {w : Int32} (hl : l < 4) (hh : ¬ hd l = -1) (hw : ¬ w = 0) : ∀ (c i : Nat) (L : Nat → Nat) (T : Nat → Nat → Nat) (st aw ln ro ry : Nat → Int32), ch_Q L T st aw hd → ch_W L T ln ro → ch_W L T ln ry → L (4 + l) = c → i + c ≤ 8 → c ≤ 4 →
    ∃ (L' : Nat → Nat) (T' : Nat → Nat → Nat) (st' aw' ln' ro' ry' : Nat → Int32), ch_Q L' T' st' aw' hd ∧ ch_W L' T' ln' ro' ∧ ch_W L' T' ln' ry' ∧
      (∀ post : Int32 → SX → Prop, post (nI (i + c)) ((nI n), fr, st', aw', ty, hd, ro', ln', sp, bf, ra, mk, wd, iw, wr, kw, sr) → wX_wake_41 post (nI l) (nI (i + c)) (c + 1) (nI i) (nI n) fr st aw ty hd ro ln sp bf ra mk wd iw wr kw sr) ∧
      (∀ post : Int32 → SY → Prop, post (nI (i + c)) ((nI n), fr, lr, mk, wd, vl, iw, kn, sn, kp, bf, sp, st', aw', hd, ry', ln', fe, mv, rc, md, lo, ra) → wY_wake_14 post (nI l) w (c + 1) (nI i) (nI n) fr lr mk wd vl iw kn sn kp bf sp st aw hd ry ln fe mv rc md lo ra) := by
  have i8 : vp_in (4 + nI l) 8 := by
    rw [ch_4z]
    exact vp_in_nI (by omega) (by decide)
  intro c
  induction c with
  | zero =>
    intro i L T st aw ln ro ry Q WX WY hc hi _
    refine ⟨L, T, st, aw, ln, ro, ry, Q, WX, WY, fun post h => ?_, fun post h => ?_⟩
    · exact br_t (nI_le (Nat.le_refl _) (by omega)) h
    · refine ⟨i8, ?_⟩
      rw [ch_4z, nI_clamp (n := 4 + l) (by omega), WX.1 (4 + l) (by omega), hc]
      exact br_t (by decide) h
  | succ c ih =>
    intro i L T st aw ln ro ry Q WX WY hc hi hc4
    obtain ⟨L1, T1, st1, aw1, ln1, ro1, ry1, Q1, WX1, WY1, e1, hX, hY⟩ := v_wake1 (n := n) (fr := fr) (lr := lr) (ty := ty) (sp := sp) (bf := bf) (ra := ra) (mk := mk) (wd := wd) (iw := iw) (wr := wr) (kw := kw) (sr := sr) (vl := vl) (kn := kn) (sn := sn) (kp := kp) (fe := fe) (mv := mv) (rc := rc) (md := md) (lo := lo) Q WX WY hl hh (by omega)
    obtain ⟨L2, T2, st2, aw2, ln2, ro2, ry2, Q2, WX2, WY2, gX, gY⟩ := ih (i + 1) L1 T1 st1 aw1 ln1 ro1 ry1 Q1 WX1 WY1 (by omega) (by omega) (by omega)
    have ei : i + 1 + c = i + (c + 1) := by omega
    rw [ei] at gX gY
    refine ⟨L2, T2, st2, aw2, ln2, ro2, ry2, Q2, WX2, WY2, fun post h => ?_, fun post h => ?_⟩
    · exact hX post _ i _ (by omega) (by omega) (gX post h)
    · refine ⟨i8, ?_⟩
      rw [ch_4z, nI_clamp (n := 4 + l) (by omega), WX.1 (4 + l) (by omega), hc]
      exact br_f (nI_nle (by omega) (by omega)) (br_f hw (hY post _ w i (gY post h)))
theorem v_wake {k : Nat} (R : ch_R n L T st aw ty hd ro ln mk wd iw wr kw sr vl kn sn kp ry fe mv rc md lo) (v1 v2 w : Int32) : ∃ (r : Int32) (u' : SX) (v' : SY), i_Rel k u' v' ∧ (∀ post : Int32 → SX → Prop, post r u' → wpX_wake post ((nI n), fr, st, aw, ty, hd, ro, ln, sp, bf, ra, mk, wd, iw, wr, kw, sr) v1 v2 w) ∧ (∀ post : Int32 → SY → Prop, post r v' → wpY_wake post ((nI n), fr, lr, mk, wd, vl, iw, kn, sn, kp, bf, sp, st, aw, hd, ry, ln, fe, mv, rc, md, lo, ra) v1 v2 w) := by
  by_cases a : ch_hol st hd v1 v2
  · have a2 := a
    obtain ⟨m, l, hm, hl, rfl, rfl, hs, hh⟩ := a2
    obtain ⟨A, K, Q, WX, WY, TT⟩ := R
    have hh1 : ¬ hd l = -1 := by rw [hh]; exact ch_neg1 hm
    have i8 : vp_in (nI (4 + l)) 8 := vp_in_nI (by omega) (by decide)
    have eL := WX.1 (4 + l) (by omega)
    have h4 := Q.1 (4 + l) (by omega)
    by_cases b : w = 0
    · by_cases c : L (4 + l) = 0
      · refine ⟨0, _, _, ch_mk fr lr sp bf ra ⟨A, K, Q, WX, WY, TT⟩, fun post h => ?_, fun post h => ?_⟩
        · unfold wpX_wake
          dsimp only
          refine x_isRunningHolder (fun _ => br_f (by decide) ?_) (fun z => absurd a z)
          rw [ch_4z, nI_clamp (n := 4 + l) (by omega), eL, c]
          exact ⟨i8, nm_e (br_t b (br_t rfl ⟨1, br_t (by decide) h⟩))⟩
        · unfold wpY_wake
          dsimp only
          refine y_holds (fun _ => br_f (by decide) ⟨1, ?_⟩) (fun z => absurd a z)
          unfold wY_wake_14
          rw [ch_4z, nI_clamp (n := 4 + l) (by omega), eL, c]
          exact ⟨i8, br_t (by decide) h⟩
      · obtain ⟨L1, T1, st1, aw1, ln1, ro1, ry1, Q1, WX1, WY1, e1, hX, hY⟩ := v_wake1 (n := n) (fr := fr) (lr := lr) (ty := ty) (sp := sp) (bf := bf) (ra := ra) (mk := mk) (wd := wd) (iw := iw) (wr := wr) (kw := kw) (sr := sr) (vl := vl) (kn := kn) (sn := sn) (kp := kp) (fe := fe) (mv := mv) (rc := rc) (md := md) (lo := lo) Q WX WY hl hh1 (by omega)
        refine ⟨1, _, _, ch_mk fr lr sp bf ra ⟨A, K, Q1, WX1, WY1, TT⟩, fun post h => ?_, fun post h => ?_⟩
        · unfold wpX_wake
          dsimp only
          refine x_isRunningHolder (fun _ => br_f (by decide) ?_) (fun z => absurd a z)
          rw [ch_4z, nI_clamp (n := 4 + l) (by omega), eL]
          refine ⟨i8, nm_e (br_t b (br_f (nI_ne0 (by omega) (by omega)) ⟨2, ?_⟩))⟩
          exact hX post 1 0 1 (by omega) (by omega) (br_t (by decide) h)
        · unfold wpY_wake
          dsimp only
          refine y_holds (fun _ => br_f (by decide) ⟨2, ?_⟩) (fun z => absurd a z)
          unfold wY_wake_14
          rw [ch_4z, nI_clamp (n := 4 + l) (by omega), eL]
          refine ⟨i8, br_f (nI_nle (by omega) (by omega)) (br_t b (br_t rfl (hY post _ w 0 ?_)))⟩
          unfold wY_wake_14
          rw [ch_4z]
          exact ⟨i8, br_c (fun _ => h) (fun _ => br_t b (br_f (by decide) h))⟩
    · obtain ⟨L2, T2, st2, aw2, ln2, ro2, ry2, Q2, WX2, WY2, gX, gY⟩ := v_wakeA (n := n) (fr := fr) (lr := lr) (ty := ty) (sp := sp) (bf := bf) (ra := ra) (mk := mk) (wd := wd) (iw := iw) (wr := wr) (kw := kw) (sr := sr) (vl := vl) (kn := kn) (sn := sn) (kp := kp) (fe := fe) (mv := mv) (rc := rc) (md := md) (lo := lo) hl hh1 b (L (4 + l)) 0 L T st aw ln ro ry Q WX WY rfl (by omega) h4
      rw [Nat.zero_add] at gX gY
      refine ⟨nI (L (4 + l)), _, _, ch_mk fr lr sp bf ra ⟨A, K, Q2, WX2, WY2, TT⟩, fun post h => ?_, fun post h => ?_⟩
      · unfold wpX_wake
        dsimp only
        refine x_isRunningHolder (fun _ => br_f (by decide) ?_) (fun z => absurd a z)
        rw [ch_4z, nI_clamp (n := 4 + l) (by omega), eL]
        exact ⟨i8, nm_e (br_f b ⟨_, gX post h⟩)⟩
      · unfold wpY_wake
        dsimp only
        exact y_holds (fun _ => br_f (by decide) ⟨_, gY post h⟩) (fun z => absurd a z)
  · refine ⟨-1, _, _, ch_mk fr lr sp bf ra R, fun post h => ?_, fun post h => ?_⟩
    · unfold wpX_wake
      dsimp only
      exact x_isRunningHolder (fun z => absurd z a) (fun _ => br_t rfl h)
    · unfold wpY_wake
      dsimp only
      exact y_holds (fun z => absurd z a) (fun _ => br_t rfl h)
end wk

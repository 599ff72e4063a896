/-! Y's fetch; both together; refresh -/
section fy
variable {n : Nat} {fr lr : Int32} {mk wd vl iw kn sn kp bf sp st aw hd ry ln fe mv rc md lo ra : Nat → Int32}
theorem y_see_32 (hn : n ≤ 300) {post : SY → Prop} {J : Int32 → (Nat → Int32) → (Nat → Int32) → (Nat → Int32) → (Nat → Int32) → (Nat → Int32) → (Nat → Int32) → (Nat → Int32) → (Nat → Int32) → (Nat → Int32) → (Nat → Int32) → (Nat → Int32) → (Nat → Int32) → (Nat → Int32) → (Nat → Int32) → (Nat → Int32) → (Nat → Int32) → (Nat → Int32) → (Nat → Int32) → (Nat → Int32) → (Nat → Int32) → Prop} {m w : Nat} {x2 : Int32} (hm : m < 4) (P : Nat → Bool) (hP : ∀ j, P j = (decide (wd j = nI w) && ch_fy iw kn sn m j))
    (hf : ch_any P n = false → J (nI (w + 1)) mk wd vl iw kn (ch_sv P m sn n) kp bf sp st aw hd ry ln fe mv rc md lo ra) (ht : ch_any P n = true → J (nI (w + 1)) mk wd vl iw kn (ch_sv P m sn n) kp bf sp st aw hd ry ln fe (upd mv m (mv m + 1)) rc md lo ra) : ∀ d i, i + d = n → wY_fetch_32 post J (nI m) x2 (nI w) (nI n) fr lr (d + 1) (ch_b (ch_any P i)) (nI i) mk wd vl iw kn (ch_sv P m sn i) kp bf sp st aw hd ry ln fe mv rc md lo ra := by
  intro d
  induction d with
  | zero =>
    intro i hi
    have : i = n := by omega
    subst this
    refine br_t (nI_le (Nat.le_refl _) (by omega)) ?_
    cases e : ch_any P i
    · exact br_t rfl (nm_r (nI_1 w) (hf e))
    · refine br_f (by decide) ⟨vp_in_nI hm (by decide), vp_in_nI hm (by decide), ?_⟩
      rw [nI_clamp (by omega)]
      exact nm_e (nm_r (nI_1 w) (ht e))
  | succ d ih =>
    intro i hi
    have ih := ih (i + 1) (by omega)
    have i3 : vp_in (nI i) 300 := vp_in_nI (by omega) (by decide)
    have ef : ch_fy iw kn (ch_sv P m sn i) m i = ch_fy iw kn sn m i := by
      unfold ch_fy
      rw [ch_sv_at, if_neg (by omega)]
    have no : P i = false → wY_fetch_32 post J (nI m) x2 (nI w) (nI n) fr lr (d + 1) (ch_b (ch_any P i)) (nI (i + 1)) mk wd vl iw kn (ch_sv P m sn i) kp bf sp st aw hd ry ln fe mv rc md lo ra := by
      intro e
      rw [ch_sv_f e, show ch_any P (i + 1) = (ch_any P i || P i) from rfl, e, Bool.or_false] at ih
      exact ih
    refine br_f (nI_ge (by omega) (by omega)) ⟨i3, ?_⟩
    rw [nI_clamp (by omega)]
    refine br_c (fun a => ?_) (fun a => nm_r (nI_1 i) (no ?_))
    · refine y_fresh (by omega) (by omega) ?_
      rw [ef]
      cases e : ch_fy iw kn sn m i
      · refine br_t rfl (nm_r (nI_1 i) (no ?_))
        rw [hP, e, Bool.and_false]
      · have e2 : P i = true := by rw [hP, e, decide_eq_true a]; rfl
        refine br_f (by decide) ⟨ch_adI hm (by omega), ?_⟩
        rw [ch_adC hm (by omega), ch_vb1, ch_sv_t e2]
        rw [show ch_any P (i + 1) = (ch_any P i || P i) from rfl, e2, Bool.or_true] at ih
        exact nm_e (nm_r (nI_1 i) ih)
    · rw [hP, decide_eq_false a, Bool.false_and]
theorem y_fetch_15 (hn : n ≤ 300) {post : SY → Prop} {m p : Nat} (hm : m < 4) (hp8 : p < 8) (hp : post ((nI n), fr, lr, mk, wd, vl, iw, kn, ch_sv (ch_pt wd (ch_fy iw kn sn m) p 8) m sn n, kp, bf, sp, st, aw, hd, ry, ln, fe, ch_av mv m (ch_ct wd (ch_fy iw kn sn m) n p 8), rc, md, lo, ra)) : ∀ d t, t + d = 8 → wY_fetch_15 post (nI m) (nI p) (nI n) fr lr (d + 1) (nI (8 * p + t)) mk wd vl iw kn (ch_sv (ch_pt wd (ch_fy iw kn sn m) p t) m sn n) kp bf sp st aw hd ry ln fe (ch_av mv m (ch_ct wd (ch_fy iw kn sn m) n p t)) rc md lo ra := by
  have e8 : 8 * nI p + 8 = nI (8 * p + 8) := by
    rw [show (8 : Int32) = nI 8 from rfl, pk_mul, nI_add]
  intro d
  induction d with
  | zero =>
    intro t ht
    have : t = 8 := by omega
    subst this
    refine br_t ?_ hp
    rw [e8]
    exact nI_le (Nat.le_refl _) (by omega)
  | succ d ih =>
    intro t ht
    have ih := ih (t + 1) (by omega)
    have ep : ∀ j, j < n → ch_fy iw kn (ch_sv (ch_pt wd (ch_fy iw kn sn m) p t) m sn n) m j = ch_fy iw kn sn m j ∨ ¬ wd j = nI (8 * p + t) := by
      intro j hj
      by_cases z : wd j = nI (8 * p + t)
      · left
        unfold ch_fy
        rw [ch_sv_at, if_neg]
        intro q
        have e := ch_pt_no (F := ch_fy iw kn sn m) hp8 (show t < 8 by omega) z
        unfold ch_fy at e
        rw [e] at q
        exact absurd q.2 (by decide)
      · exact Or.inr z
    have ea : ch_any (fun j => decide (wd j = nI (8 * p + t)) && ch_fy iw kn (ch_sv (ch_pt wd (ch_fy iw kn sn m) p t) m sn n) m j) n = ch_any (fun j => decide (wd j = nI (8 * p + t)) && ch_fy iw kn sn m j) n := by
      refine ch_any_e (fun j hj => ?_)
      rcases ep j hj with e | e
      · rw [e]
      · rw [decide_eq_false e, Bool.false_and, Bool.false_and]
    have es : ch_sv (fun j => decide (wd j = nI (8 * p + t)) && ch_fy iw kn (ch_sv (ch_pt wd (ch_fy iw kn sn m) p t) m sn n) m j) m (ch_sv (ch_pt wd (ch_fy iw kn sn m) p t) m sn n) n = ch_sv (ch_pt wd (ch_fy iw kn sn m) p (t + 1)) m sn n := by
      refine ch_sv_x m n (fun j hj => ?_) (fun j hj => ?_)
      · rw [ch_sv_at, ch_sv_at, ch_sv_at]
        rcases ep j hj with e | e
        · rw [ch_pt_s]
          simp only [e, hj, true_and]
          cases ch_pt wd (ch_fy iw kn sn m) p t j <;> cases (decide (wd j = nI (8 * p + t)) && ch_fy iw kn sn m j) <;> simp
        · rw [ch_pt_s]
          simp only [e, hj, true_and, decide_false, Bool.false_and, Bool.or_false, Bool.false_eq_true, if_false]
      · rw [ch_sv_n _ _ _ _ _ hj, ch_sv_n _ _ _ _ _ hj, ch_sv_n _ _ _ _ _ hj]
    refine br_f ?_ ⟨n + 1, ?_⟩
    · rw [e8]
      exact nI_ge (by omega) (by omega)
    · have h := y_see_32 (n := n) (fr := fr) (lr := lr) (mk := mk) (wd := wd) (vl := vl) (iw := iw) (kn := kn) (sn := ch_sv (ch_pt wd (ch_fy iw kn sn m) p t) m sn n) (kp := kp) (bf := bf) (sp := sp) (st := st) (aw := aw) (hd := hd) (ry := ry) (ln := ln) (fe := fe) (mv := ch_av mv m (ch_ct wd (ch_fy iw kn sn m) n p t)) (rc := rc) (md := md) (lo := lo) (ra := ra) (post := post) (J := wY_fetch_15 post (nI m) (nI p) (nI n) fr lr (d + 1)) (x2 := nI p) (w := 8 * p + t) hn hm _ (fun j => rfl) (fun e => ?_) (fun e => ?_) n 0 (by omega)
      · rw [ch_sv_0] at h
        exact h
      · rw [es]
        rw [ea] at e
        unfold ch_ct at ih ⊢
        rw [ch_cnt, if_neg (by rw [e]; decide)] at ih
        exact ih
      · rw [es, ch_av_s]
        rw [ea] at e
        unfold ch_ct at ih ⊢
        rw [ch_cnt, if_pos e] at ih
        exact ih
theorem y_fetch (hn : n ≤ 300) {post : SY → Prop} {m p : Nat} (hm : m < 4) (hp8 : p < 8) (hp : post ((nI n), fr, lr, mk, wd, vl, iw, kn, ch_sv (ch_pt wd (ch_fy iw kn sn m) p 8) m sn n, kp, bf, sp, st, aw, hd, ry, ln, upd fe m (fe m + 1), ch_av mv m (ch_ct wd (ch_fy iw kn sn m) n p 8), rc, md, lo, ra)) : wpY_fetch post ((nI n), fr, lr, mk, wd, vl, iw, kn, sn, kp, bf, sp, st, aw, hd, ry, ln, fe, mv, rc, md, lo, ra) (nI m) (nI p) := by
  have h := y_fetch_15 hn hm hp8 hp 8 0 (by omega)
  have e0 : ch_sv (ch_pt wd (ch_fy iw kn sn m) p 0) m sn n = sn := by
    funext j
    exact if_neg (fun q => absurd q.2.2 (by rw [show ch_pt wd (ch_fy iw kn sn m) p 0 (j - 300 * m) = false from rfl]; decide))
  rw [e0, show ch_ct wd (ch_fy iw kn sn m) n p 0 = 0 from rfl, ch_av_0] at h
  have e1 : 8 * nI p = nI (8 * p) := by rw [show (8 : Int32) = nI 8 from rfl, pk_mul]
  have i4 : vp_in (nI m) 4 := vp_in_nI hm (by decide)
  unfold wpY_fetch
  dsimp only
  rw [nI_clamp (n := m) (by omega)]
  exact ⟨i4, i4, nm_e (nm_r e1 ⟨9, h⟩)⟩
end fy
section fb
variable {n : Nat} {fr lr : Int32} {st aw ty hd ro ln sp bf ra mk wd iw wr kw sr vl kn sn kp ry fe mv rc md lo : Nat → Int32}
variable {L : Nat → Nat} {T : Nat → Nat → Nat}
theorem v_fetch (A : ch_A n mk wd iw wr vl) (K : ch_K n mk iw hd kw sr kn sn kp) (TT : ch_T ty fe mv rc md lo) {m p : Nat} (hm : m < 4) (hp : p < 8) : ∃ ty' sr' sn' fe' mv' : Nat → Int32, ch_K n mk iw hd kw sr' kn sn' kp ∧ ch_T ty' fe' mv' rc md lo ∧ (∀ post : SX → Prop, post ((nI n), fr, st, aw, ty', hd, ro, ln, sp, bf, ra, mk, wd, iw, wr, kw, sr') → wpX_fetchLazy post ((nI n), fr, st, aw, ty, hd, ro, ln, sp, bf, ra, mk, wd, iw, wr, kw, sr) (nI m) (nI p)) ∧ (∀ post : SY → Prop, post ((nI n), fr, lr, mk, wd, vl, iw, kn, sn', kp, bf, sp, st, aw, hd, ry, ln, fe', mv', rc, md, lo, ra) → wpY_fetch post ((nI n), fr, lr, mk, wd, vl, iw, kn, sn, kp, bf, sp, st, aw, hd, ry, ln, fe, mv, rc, md, lo, ra) (nI m) (nI p)) := by
  have ef : ∀ j, j < n → ch_fy iw kn sn m j = ch_fx iw kw sr m j := fun j hj => ch_fxy A K hm hj
  have ec : ch_ct wd (ch_fy iw kn sn m) n p 8 = ch_ct wd (ch_fx iw kw sr m) n p 8 := by
    unfold ch_ct
    refine ch_cnt_e (fun s _ => ch_any_e (fun j hj => ?_))
    rw [ef j hj]
  have ep : ∀ j, j < n → ch_pt wd (ch_fy iw kn sn m) p 8 j = ch_pt wd (ch_fx iw kw sr m) p 8 j := by
    intro j hj
    unfold ch_pt
    rw [ef j hj]
  refine ⟨_, _, _, _, _, ?_, ?_, fun post h => x_fetchLazy A.1 hm hp h, fun post h => y_fetch A.1 hm hp h⟩
  · refine ch_Ksee (ch_pt wd (ch_fx iw kw sr m) p 8) K A.1 hm (fun i hi => ?_) (fun i hi => ?_) (fun j hj => ch_sv_n _ _ _ _ _ hj)
    · unfold ch_sw
      simp only [hi, true_and]
    · rw [ch_sv_at, ep i hi]
      simp only [hi, true_and]
  · refine ch_Tcf TT pk_us (fun j hj => pk_un hj) ?_ (fun j hj => if_neg hj)
    unfold ch_av
    rw [if_pos rfl, ec]
theorem v_ref (A : ch_A n mk wd iw wr vl) {m : Nat} (hm : m < 4) : ∀ (d p c : Nat) (ty sr sn fe mv : Nat → Int32), p + d = 8 → ch_K n mk iw hd kw sr kn sn kp → ch_T ty fe mv rc md lo → ∃ (r : Int32) (ty' sr' sn' fe' mv' : Nat → Int32), ch_K n mk iw hd kw sr' kn sn' kp ∧ ch_T ty' fe' mv' rc md lo ∧ (∀ post : Int32 → SX → Prop, post r ((nI n), fr, st, aw, ty', hd, ro, ln, sp, bf, ra, mk, wd, iw, wr, kw, sr') → wX_refresh_14 post (nI m) (d + 1) (nI c) (nI p) (nI n) fr st aw ty hd ro ln sp bf ra mk wd iw wr kw sr) ∧ (∀ post : Int32 → SY → Prop, post r ((nI n), fr, lr, mk, wd, vl, iw, kn, sn', kp, bf, sp, st, aw, hd, ry, ln, fe', mv', rc, md, lo, ra) → wY_refresh_14 post (nI m) (d + 1) (nI c) (nI p) (nI n) fr lr mk wd vl iw kn sn kp bf sp st aw hd ry ln fe mv rc md lo ra) := by
  intro d
  induction d with
  | zero =>
    intro p c ty sr sn fe mv hp K TT
    have : p = 8 := by omega
    subst this
    exact ⟨nI c, ty, sr, sn, fe, mv, K, TT, fun post h => br_t (nI_le (b := 8) (Nat.le_refl 8) (by decide)) h, fun post h => br_t (nI_le (b := 8) (Nat.le_refl 8) (by decide)) h⟩
  | succ d ih =>
    intro p c ty sr sn fe mv hp K TT
    have ea : ch_any (fun j => decide (wd j / 8 = nI p) && ch_fy iw kn sn m j) n = ch_any (fun j => decide (wd j / 8 = nI p) && ch_fx iw kw sr m j) n := ch_any_e (fun i hi => by rw [ch_fxy A K hm hi])
    have gt : ¬ (8 : Int32) ≤ nI p := nI_ge (b := 8) (by omega) (by decide)
    cases e : (decide (sp p = 0) && ch_any (fun j => decide (wd j / 8 = nI p) && ch_fx iw kw sr m j) n)
    · obtain ⟨r, ty', sr', sn', fe', mv', K', TT', hX, hY⟩ := ih (p + 1) c ty sr sn fe mv (by omega) K TT
      refine ⟨r, ty', sr', sn', fe', mv', K', TT', fun post h => br_f gt ?_, fun post h => br_f gt ?_⟩
      · refine x_isStale A.1 hm (by omega) ?_
        rw [e]
        exact br_t rfl (nm_r (nI_1 p) (hX post h))
      · refine y_isStale A.1 hm (by omega) ?_
        rw [ea, e]
        exact br_t rfl (nm_r (nI_1 p) (hY post h))
    · obtain ⟨ty1, sr1, sn1, fe1, mv1, K1, TT1, X1, Y1⟩ := v_fetch (fr := fr) (lr := lr) (st := st) (aw := aw) (ro := ro) (ln := ln) (sp := sp) (bf := bf) (ra := ra) (ry := ry) A K TT hm (p := p) (by omega)
      obtain ⟨r, ty', sr', sn', fe', mv', K', TT', hX, hY⟩ := ih (p + 1) (c + 1) ty1 sr1 sn1 fe1 mv1 (by omega) K1 TT1
      refine ⟨r, ty', sr', sn', fe', mv', K', TT', fun post h => br_f gt ?_, fun post h => br_f gt ?_⟩
      · refine x_isStale A.1 hm (by omega) ?_
        rw [e]
        exact br_f (by decide) (X1 _ (nm_r (nI_1 c) (nm_r (nI_1 p) (hX post h))))
      · refine y_isStale A.1 hm (by omega) ?_
        rw [ea, e]
        exact br_f (by decide) (Y1 _ (nm_r (nI_1 c) (nm_r (nI_1 p) (hY post h))))
theorem v_refresh {k : Nat} (R : ch_R n L T st aw ty hd ro ln mk wd iw wr kw sr vl kn sn kp ry fe mv rc md lo) (v1 : Int32) : ∃ (r : Int32) (u' : SX) (v' : SY), i_Rel k u' v' ∧ (∀ post : Int32 → SX → Prop, post r u' → wpX_refresh post ((nI n), fr, st, aw, ty, hd, ro, ln, sp, bf, ra, mk, wd, iw, wr, kw, sr) v1) ∧ (∀ post : Int32 → SY → Prop, post r v' → wpY_refresh post ((nI n), fr, lr, mk, wd, vl, iw, kn, sn, kp, bf, sp, st, aw, hd, ry, ln, fe, mv, rc, md, lo, ra) v1) := by
  by_cases a : ch_run st v1
  · have a2 := a
    obtain ⟨m, hm, rfl, hs⟩ := a2
    obtain ⟨A, K, Q, WX, WY, TT⟩ := R
    obtain ⟨r, ty', sr', sn', fe', mv', K', TT', hX, hY⟩ := v_ref (fr := fr) (lr := lr) (st := st) (aw := aw) (ro := ro) (ln := ln) (sp := sp) (bf := bf) (ra := ra) (ry := ry) A hm 8 0 0 ty sr sn fe mv (by omega) K TT
    refine ⟨r, _, _, ch_mk fr lr sp bf ra ⟨A, K', Q, WX, WY, TT'⟩, fun post h => ?_, fun post h => ?_⟩
    · unfold wpX_refresh
      dsimp only
      exact x_isRunning (fun _ => br_f (by decide) ⟨9, hX post h⟩) (fun z => absurd a z)
    · unfold wpY_refresh
      dsimp only
      exact y_runs (fun _ => br_f (by decide) ⟨9, hY post h⟩) (fun z => absurd a z)
  · refine ⟨-1, _, _, ch_mk fr lr sp bf ra R, fun post h => ?_, fun post h => ?_⟩
    · unfold wpX_refresh
      dsimp only
      exact x_isRunning (fun z => absurd z a) (fun _ => br_t rfl h)
    · unfold wpY_refresh
      dsimp only
      exact y_runs (fun z => absurd z a) (fun _ => br_t rfl h)
end fb

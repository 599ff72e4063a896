/-! more questions -/
section q2
variable {n : Nat} {fr lr : Int32} {st aw ty hd ro ln sp bf ra mk wd iw wr kw sr vl kn sn kp ry fe mv rc md lo : Nat → Int32}
variable {L : Nat → Nat} {T : Nat → Nat → Nat}
theorem v_knows (R : ch_R n L T st aw ty hd ro ln mk wd iw wr kw sr vl kn sn kp ry fe mv rc md lo) (v1 v2 : Int32) : ∃ r, (∀ post : Int32 → Prop, post r → wpX_knows post ((nI n), fr, st, aw, ty, hd, ro, ln, sp, bf, ra, mk, wd, iw, wr, kw, sr) v1 v2) ∧ (∀ post : Int32 → Prop, post r → wpY_knows post ((nI n), fr, lr, mk, wd, vl, iw, kn, sn, kp, bf, sp, st, aw, hd, ry, ln, fe, mv, rc, md, lo, ra) v1 v2) := by
  obtain ⟨A, K, Q, WX, WY, TT⟩ := R
  by_cases a : ch_rg 4 v1
  · by_cases b : ch_rg 4 v2
    · obtain ⟨m, hm, rfl⟩ := a
      have e : ch_cnt (fun j => decide (mk j = v2) && decide (¬ kn (300 * m + j) = 0)) n = ch_cnt (fun j => decide (mk j = v2) && bt (kw j) m) n := by
        refine ch_cnt_e (fun i hi => ?_)
        rw [K.1 m i hm hi]
        cases bt (kw i) m <;> simp [ch_b]
      refine ⟨nI (ch_cnt (fun j => decide (mk j = v2) && bt (kw j) m) n), fun post h => ?_, fun post h => ?_⟩
      · unfold wpX_knows
        dsimp only
        refine x_isMachine (fun _ => br_f (by decide) ?_) (fun z => absurd ⟨m, hm, rfl⟩ z)
        refine x_isMachine (fun _ => br_f (by decide) ?_) (fun z => absurd b z)
        exact x_knownOf A.1 (by omega) h
      · unfold wpY_knows
        dsimp only
        unfold wpY_counted__known
        dsimp only
        refine y_in (N := 4) rfl (by decide) (fun _ => br_f (by decide) ?_) (fun z => absurd ⟨m, hm, rfl⟩ z)
        refine y_in (N := 4) rfl (by decide) (fun _ => br_f (by decide) ?_) (fun z => absurd b z)
        refine ⟨n + 1, y_known_24 A.1 hm n 0 (by omega) ?_⟩
        rw [e]
        exact h
    · refine ⟨-1, fun post h => ?_, fun post h => ?_⟩
      · unfold wpX_knows
        dsimp only
        refine x_isMachine (fun _ => br_f (by decide) ?_) (fun z => absurd a z)
        exact x_isMachine (fun z => absurd z b) (fun _ => br_t rfl h)
      · unfold wpY_knows
        dsimp only
        unfold wpY_counted__known
        dsimp only
        refine y_in (N := 4) rfl (by decide) (fun _ => br_f (by decide) ?_) (fun z => absurd a z)
        exact y_in (N := 4) rfl (by decide) (fun z => absurd z b) (fun _ => br_t rfl h)
  · refine ⟨-1, fun post h => ?_, fun post h => ?_⟩
    · unfold wpX_knows
      dsimp only
      exact x_isMachine (fun z => absurd z a) (fun _ => br_t rfl h)
    · unfold wpY_knows
      dsimp only
      unfold wpY_counted__known
      dsimp only
      exact y_in (N := 4) rfl (by decide) (fun z => absurd z a) (fun _ => br_t rfl h)
theorem v_keeps (R : ch_R n L T st aw ty hd ro ln mk wd iw wr kw sr vl kn sn kp ry fe mv rc md lo) (v1 v2 : Int32) : ∃ r, (∀ post : Int32 → Prop, post r → wpX_keeps post ((nI n), fr, st, aw, ty, hd, ro, ln, sp, bf, ra, mk, wd, iw, wr, kw, sr) v1 v2) ∧ (∀ post : Int32 → Prop, post r → wpY_keeps post ((nI n), fr, lr, mk, wd, vl, iw, kn, sn, kp, bf, sp, st, aw, hd, ry, ln, fe, mv, rc, md, lo, ra) v1 v2) := by
  obtain ⟨A, K, Q, WX, WY, TT⟩ := R
  by_cases a : ch_rg 4 v1
  · by_cases b : ch_rg 4 v2
    · obtain ⟨m, hm, rfl⟩ := a
      have e : ch_cnt (fun j => decide (mk j = v2) && decide (¬ kp (300 * m + j) = 0)) n = ch_cnt (fun j => decide (mk j = v2) && bt (kw j) (4 + m)) n := by
        refine ch_cnt_e (fun i hi => ?_)
        rw [K.2.1 m i hm hi]
        cases bt (kw i) (4 + m) <;> simp [ch_b]
      refine ⟨nI (ch_cnt (fun j => decide (mk j = v2) && bt (kw j) (4 + m)) n), fun post h => ?_, fun post h => ?_⟩
      · unfold wpX_keeps
        dsimp only
        refine x_isLock (fun _ => br_f (by decide) ?_) (fun z => absurd ⟨m, hm, rfl⟩ z)
        refine x_isMachine (fun _ => br_f (by decide) ?_) (fun z => absurd b z)
        rw [ch_4z]
        exact x_knownOf A.1 (by omega) h
      · unfold wpY_keeps
        dsimp only
        unfold wpY_counted__keeps
        dsimp only
        refine y_in (N := 4) rfl (by decide) (fun _ => br_f (by decide) ?_) (fun z => absurd ⟨m, hm, rfl⟩ z)
        refine y_in (N := 4) rfl (by decide) (fun _ => br_f (by decide) ?_) (fun z => absurd b z)
        refine ⟨n + 1, y_keeps_24 A.1 hm n 0 (by omega) ?_⟩
        rw [e]
        exact h
    · refine ⟨-1, fun post h => ?_, fun post h => ?_⟩
      · unfold wpX_keeps
        dsimp only
        refine x_isLock (fun _ => br_f (by decide) ?_) (fun z => absurd a z)
        exact x_isMachine (fun z => absurd z b) (fun _ => br_t rfl h)
      · unfold wpY_keeps
        dsimp only
        unfold wpY_counted__keeps
        dsimp only
        refine y_in (N := 4) rfl (by decide) (fun _ => br_f (by decide) ?_) (fun z => absurd a z)
        exact y_in (N := 4) rfl (by decide) (fun z => absurd z b) (fun _ => br_t rfl h)
  · refine ⟨-1, fun post h => ?_, fun post h => ?_⟩
    · unfold wpX_keeps
      dsimp only
      exact x_isLock (fun z => absurd z a) (fun _ => br_t rfl h)
    · unfold wpY_keeps
      dsimp only
      unfold wpY_counted__keeps
      dsimp only
      exact y_in (N := 4) rfl (by decide) (fun z => absurd z a) (fun _ => br_t rfl h)
theorem v_count (TT : ch_T ty fe mv rc md lo) (v1 v2 : Int32) : ∃ r, (∀ post : Int32 → Prop, post r → wpX_count post ((nI n), fr, st, aw, ty, hd, ro, ln, sp, bf, ra, mk, wd, iw, wr, kw, sr) v1 v2) ∧ (∀ post : Int32 → Prop, post r → wpY_count post ((nI n), fr, lr, mk, wd, vl, iw, kn, sn, kp, bf, sp, st, aw, hd, ry, ln, fe, mv, rc, md, lo, ra) v1 v2) := by
  by_cases a : ch_rg 4 v1
  · by_cases b : ch_rg 5 v2
    · obtain ⟨m, hm, rfl⟩ := a
      obtain ⟨w, hw, rfl⟩ := b
      have t := TT m hm
      refine ⟨ty (5 * m + w), fun post h => ?_, fun post h => ?_⟩
      · unfold wpX_count
        dsimp only
        refine x_isMachine (fun _ => br_f (by decide) ?_) (fun z => absurd ⟨m, hm, rfl⟩ z)
        rw [ch_z5, nI_clamp (by omega)]
        exact br_f (nI_pos (by omega)) (br_t (nI_lt (b := 5) hw (by decide)) ⟨vp_in_nI (by omega) (by decide), h⟩)
      · unfold wpY_count
        dsimp only
        refine y_in (N := 4) rfl (by decide) (fun _ => br_f (by decide) ?_) (fun z => absurd ⟨m, hm, rfl⟩ z)
        refine y_in (N := 5) rfl (by decide) (fun _ => br_f (by decide) ?_) (fun z => absurd ⟨w, hw, rfl⟩ z)
        have i4 : vp_in (nI m) 4 := vp_in_nI hm (by decide)
        rw [nI_clamp (by omega)]
        obtain rfl | rfl | rfl | rfl | rfl : w = 0 ∨ w = 1 ∨ w = 2 ∨ w = 3 ∨ w = 4 := by omega
        · rw [show 5 * m + 0 = 5 * m from rfl, t.1] at h
          exact br_t rfl ⟨i4, h⟩
        · rw [t.2.1] at h
          exact br_f (by decide) (br_t rfl ⟨i4, h⟩)
        · rw [t.2.2.1] at h
          exact br_f (by decide) (br_f (by decide) (br_t rfl ⟨i4, h⟩))
        · rw [t.2.2.2.1] at h
          exact br_f (by decide) (br_f (by decide) (br_f (by decide) (br_t rfl ⟨i4, h⟩)))
        · rw [t.2.2.2.2] at h
          exact br_f (by decide) (br_f (by decide) (br_f (by decide) (br_f (by decide) ⟨i4, h⟩)))
    · refine ⟨-1, fun post h => ?_, fun post h => ?_⟩
      · unfold wpX_count
        dsimp only
        refine x_isMachine (fun _ => br_f (by decide) ?_) (fun z => absurd a z)
        refine br_c (fun _ => h) (fun q => br_f ?_ h)
        intro q2
        rcases pk_ix v2 (n := 5) (by decide) with e | e | e
        · exact q e
        · exact Int32.not_lt.mpr e q2
        · exact b e
      · unfold wpY_count
        dsimp only
        refine y_in (N := 4) rfl (by decide) (fun _ => br_f (by decide) ?_) (fun z => absurd a z)
        exact y_in (N := 5) rfl (by decide) (fun z => absurd z b) (fun _ => br_t rfl h)
  · refine ⟨-1, fun post h => ?_, fun post h => ?_⟩
    · unfold wpX_count
      dsimp only
      exact x_isMachine (fun z => absurd z a) (fun _ => br_t rfl h)
    · unfold wpY_count
      dsimp only
      exact y_in (N := 4) rfl (by decide) (fun z => absurd z a) (fun _ => br_t rfl h)
theorem x_machinesThat_4 {post : Int32 → Prop} {s : Int32} : ∀ d i, i + d = 4 → post (nI (ch_cnt (fun j => decide (st j = s)) 4)) → wX_machinesThat_4 post s (nI n) fr st aw ty hd ro ln sp bf ra mk wd iw wr kw sr (d + 1) (nI (ch_cnt (fun j => decide (st j = s)) i)) (nI i) := by
  intro d
  induction d with
  | zero =>
    intro i hi hp
    have : i = 4 := by omega
    subst this
    exact br_t (nI_le (b := 4) (Nat.le_refl 4) (by decide)) hp
  | succ d ih =>
    intro i hi hp
    have ih := ih (i + 1) (by omega) hp
    refine br_f (nI_ge (b := 4) (by omega) (by decide)) ⟨vp_in_nI (by omega) (by decide), ?_⟩
    rw [nI_clamp (by omega)]
    refine br_c (fun b => ?_) (fun b => ?_)
    · refine nm_r (nI_1 _) ?_
      refine nm_r (nI_1 i) ?_
      rw [ch_cnt, if_pos (decide_eq_true b)] at ih
      exact ih
    · refine nm_r (nI_1 i) ?_
      rw [ch_cnt, if_neg (by rw [decide_eq_false b]; decide)] at ih
      exact ih
theorem x_machinesThat {post : Int32 → Prop} {s : Int32} (h : post (nI (ch_cnt (fun j => decide (st j = s)) 4))) : wpX_machinesThat post ((nI n), fr, st, aw, ty, hd, ro, ln, sp, bf, ra, mk, wd, iw, wr, kw, sr) s :=
  ⟨5, x_machinesThat_4 4 0 (by omega) h⟩
theorem y_total_4 {post : Int32 → Prop} {w : Int32} (h : (w = 0 → post (nI n)) ∧ (¬ w = 0 → ((w = 1 → post fr) ∧ (¬ w = 1 → ((w = 2 → post (nI (ch_cnt (fun j => decide (st j = 0)) 4))) ∧ (¬ w = 2 → post (-1))))))) : ∀ d i, i + d = 4 → wY_total_4 post w (nI n) fr lr mk wd vl iw kn sn kp bf sp st aw hd ry ln fe mv rc md lo ra (d + 1) (nI (ch_cnt (fun j => decide (st j = 0)) i)) (nI i) := by
  intro d
  induction d with
  | zero =>
    intro i hi
    have : i = 4 := by omega
    subst this
    exact br_t (nI_le (b := 4) (Nat.le_refl 4) (by decide)) h
  | succ d ih =>
    intro i hi
    have ih := ih (i + 1) (by omega)
    refine br_f (nI_ge (b := 4) (by omega) (by decide)) ⟨vp_in_nI (by omega) (by decide), ?_⟩
    rw [nI_clamp (by omega)]
    refine br_c (fun b => ?_) (fun b => ?_)
    · refine nm_r (nI_1 _) ?_
      refine nm_r (nI_1 i) ?_
      rw [ch_cnt, if_pos (decide_eq_true b)] at ih
      exact ih
    · refine nm_r (nI_1 i) ?_
      rw [ch_cnt, if_neg (by rw [decide_eq_false b]; decide)] at ih
      exact ih
theorem v_total (v1 : Int32) : ∃ r, (∀ post : Int32 → Prop, post r → wpX_total post ((nI n), fr, st, aw, ty, hd, ro, ln, sp, bf, ra, mk, wd, iw, wr, kw, sr) v1) ∧ (∀ post : Int32 → Prop, post r → wpY_total post ((nI n), fr, lr, mk, wd, vl, iw, kn, sn, kp, bf, sp, st, aw, hd, ry, ln, fe, mv, rc, md, lo, ra) v1) := by
  by_cases a : v1 = 0
  · subst a
    exact ⟨nI n, fun post h => br_f (by decide) (br_f (by decide) (br_t rfl h)), fun post h => ⟨5, y_total_4 (br_t rfl h) 4 0 (by omega)⟩⟩
  · by_cases b : v1 = 1
    · subst b
      exact ⟨fr, fun post h => br_f (by decide) (br_f (by decide) (br_f a (br_t rfl h))), fun post h => ⟨5, y_total_4 (br_f a (br_t rfl h)) 4 0 (by omega)⟩⟩
    · by_cases c : v1 = 2
      · subst c
        exact ⟨_, fun post h => br_f (by decide) (br_f (by decide) (br_f a (br_f b (br_t rfl (x_machinesThat h))))), fun post h => ⟨5, y_total_4 (br_f a (br_f b (br_t rfl h))) 4 0 (by omega)⟩⟩
      · refine ⟨-1, fun post h => ?_, fun post h => ⟨5, y_total_4 (br_f a (br_f b (br_f c h))) 4 0 (by omega)⟩⟩
        refine br_c (fun _ => h) (fun q => br_t ?_ h)
        rcases pk_ix v1 (n := 3) (by decide) with e | e | ⟨j, hj, e⟩
        · exact absurd e q
        · exact Int32.lt_of_lt_of_le (by decide) e
        · exfalso
          obtain rfl | rfl | rfl : j = 0 ∨ j = 1 ∨ j = 2 := by omega
          · exact a e
          · exact b e
          · exact c e
theorem ch_ringN (f : Nat → Nat) (a b c d e : Nat) (ha : a < 4) (hb : b < 4) (hc : c < 4) (hd : d < 4) (he : e < 4) (fb : f b = c) (fc : f c = d) (fd : f d = e) (b1 : ¬ b = a) (c1 : ¬ c = a) (d1 : ¬ d = a) (e1 : ¬ e = a) : ¬ f e = a := by
  have q : b = c ∨ b = d ∨ b = e ∨ c = d ∨ c = e ∨ d = e := by omega
  rcases q with q | q | q | q | q | q
  · have h1 : d = c := by rw [← fc, ← q, fb]; exact q.symm ▸ rfl
    have h2 : e = d := by rw [← fd, h1, fc]; exact h1
    rw [h2, fd]; exact e1
  · have h1 : e = c := by rw [← fd, ← q, fb]
    rw [h1, fc]; exact d1
  · rw [← q, fb]; exact c1
  · have h1 : e = d := by rw [← fd, ← q, fc]; exact q.symm
    rw [h1, fd]; exact e1
  · rw [← q, fc]; exact d1
  · rw [← q, fd]; exact e1
end q2

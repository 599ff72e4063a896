/-! arrive, tidy -/
theorem ch_cnt_all {P : Nat → Bool} {n : Nat} (h : ∀ i, i < n → P i = true) : ch_cnt P n = n := by
  induction n with
  | zero => rfl
  | succ n ih => rw [ch_cnt, if_pos (h n (by omega)), ih (fun i hi => h i (by omega))]
theorem ch_cnt_lt {P : Nat → Bool} {n i : Nat} (hi : i < n) (h : P i = false) : ch_cnt P n < n := by
  induction n with
  | zero => omega
  | succ n ih =>
    have hle := ch_cnt_le P n
    rw [ch_cnt]
    by_cases e : i = n
    · rw [← e, if_neg (by rw [h]; decide), e]; omega
    · have := ih (by omega)
      split <;> omega
/-- what tidy makes of the words -/
def ch_bf (wd iw wr bf : Nat → Int32) : Nat → Nat → Int32
  | 0 => bf
  | n + 1 => if iw n = 0 then ch_bf wd iw wr bf n else upd (ch_bf wd iw wr bf n) (wd n).toNatClampNeg (wr n)
theorem ch_bf_e {wd iw wr vl bf : Nat → Int32} : ∀ n, (∀ i, i < n → ¬ iw i = 0 → wr i = vl i) → ch_bf wd iw wr bf n = ch_bf wd iw vl bf n := by
  intro n
  induction n with
  | zero => intro _; rfl
  | succ n ih =>
    intro h
    rw [ch_bf, ch_bf, ih (fun i hi => h i (by omega))]
    by_cases e : iw n = 0
    · rw [if_pos e, if_pos e]
    · rw [if_neg e, if_neg e, h n (by omega) e]
section ar
variable {n : Nat} {fr lr : Int32} {st aw ty hd ro ln sp bf ra mk wd iw wr kw sr vl kn sn kp ry fe mv rc md lo : Nat → Int32}
variable {L : Nat → Nat} {T : Nat → Nat → Nat}
theorem x_open_22 (hn : n ≤ 300) {post : SX → Prop} {kw' : Nat → Int32} : ∀ (d i : Nat) (kw : Nat → Int32), i + d = n → (∀ j, kw' j = if i ≤ j ∧ j < n then kw j ||| 15 else kw j) → post ((nI n), fr + 1, st, aw, ty, hd, ro, ln, sp, bf, ra, mk, wd, iw, wr, kw', sr) → wX_openBarrier_22 post (nI n) fr (d + 1) (nI i) st aw ty hd ro ln sp bf ra mk wd iw wr kw sr := by
  intro d
  induction d with
  | zero =>
    intro i kw hi hk hp
    have : i = n := by omega
    subst this
    have e : kw' = kw := by
      funext j
      rw [hk j, if_neg (by omega)]
    rw [e] at hp
    exact br_t (nI_le (Nat.le_refl _) (by omega)) (nm_e hp)
  | succ d ih =>
    intro i kw hi hk hp
    refine br_f (nI_ge (by omega) (by omega)) ⟨vp_in_nI (by omega) (by decide), vp_in_nI (by omega) (by decide), ?_⟩
    rw [nI_clamp (by omega)]
    refine nm_e (nm_r (nI_1 i) (ih (i + 1) _ (by omega) ?_ hp))
    intro j
    rw [hk j]
    by_cases z : j = i
    · subst z
      rw [if_pos (by omega), if_neg (by omega), pk_us]
    · rw [pk_un z]
      by_cases y : i ≤ j ∧ j < n
      · rw [if_pos y, if_pos (by omega)]
      · rw [if_neg y, if_neg (by omega)]
theorem x_open_2 {post : SX → Prop} {st' : Nat → Int32} (hp : ∃ n22, wX_openBarrier_22 post (nI n) fr n22 0 st' aw ty hd ro ln sp bf ra mk wd iw wr kw sr) : ∀ (d i : Nat) (st : Nat → Int32), i + d = 4 → (∀ j, st' j = if i ≤ j ∧ j < 4 then 0 else st j) → wX_openBarrier_2 post (nI n) fr (d + 1) (nI i) st aw ty hd ro ln sp bf ra mk wd iw wr kw sr := by
  intro d
  induction d with
  | zero =>
    intro i st hi hk
    have : i = 4 := by omega
    subst this
    have e : st' = st := by
      funext j
      rw [hk j, if_neg (by omega)]
    rw [e] at hp
    exact br_t (nI_le (b := 4) (Nat.le_refl 4) (by decide)) hp
  | succ d ih =>
    intro i st hi hk
    refine br_f (nI_ge (b := 4) (by omega) (by decide)) ⟨vp_in_nI (by omega) (by decide), ?_⟩
    rw [nI_clamp (by omega)]
    refine nm_e (nm_r (nI_1 i) (ih (i + 1) _ (by omega) ?_))
    intro j
    rw [hk j]
    by_cases z : j = i
    · subst z
      rw [if_pos (by omega), if_neg (by omega), pk_us]
    · rw [pk_un z]
      by_cases y : i ≤ j ∧ j < 4
      · rw [if_pos y, if_pos (by omega)]
      · rw [if_neg y, if_neg (by omega)]
theorem y_arr_143 {post : Int32 → SY → Prop} {st' : Nat → Int32} (hp : post 1 ((nI n), fr + 1, lr, mk, wd, vl, iw, kn, sn, kp, bf, sp, st', aw, hd, ry, ln, fe, mv, rc, md, lo, ra)) : ∀ (d i : Nat) (st : Nat → Int32), i + d = 4 → (∀ j, st' j = if i ≤ j ∧ j < 4 then 0 else st j) → wY_arrive_143 post (nI n) fr lr (d + 1) (nI i) mk wd vl iw kn sn kp bf sp st aw hd ry ln fe mv rc md lo ra := by
  intro d
  induction d with
  | zero =>
    intro i st hi hk
    have : i = 4 := by omega
    subst this
    have e : st' = st := by
      funext j
      rw [hk j, if_neg (by omega)]
    rw [e] at hp
    exact br_t (nI_le (b := 4) (Nat.le_refl 4) (by decide)) (nm_e hp)
  | succ d ih =>
    intro i st hi hk
    refine br_f (nI_ge (b := 4) (by omega) (by decide)) ⟨vp_in_nI (by omega) (by decide), ?_⟩
    rw [nI_clamp (by omega)]
    refine nm_e (nm_r (nI_1 i) (ih (i + 1) _ (by omega) ?_))
    intro j
    rw [hk j]
    by_cases z : j = i
    · subst z
      rw [if_pos (by omega), if_neg (by omega), pk_us]
    · rw [pk_un z]
      by_cases y : i ≤ j ∧ j < 4
      · rw [if_pos y, if_pos (by omega)]
      · rw [if_neg y, if_neg (by omega)]
theorem y_arr_109 {i : Nat} (hi : i < 300) : ∀ (d q : Nat) (kn : Nat → Int32), q + d = 4 → ∃ kn' : Nat → Int32, (∀ k, q ≤ k → k < 4 → kn' (300 * k + i) = 1) ∧ (∀ j, (∀ k, q ≤ k → k < 4 → ¬ j = 300 * k + i) → kn' j = kn j) ∧ ∀ (post : Int32 → SY → Prop) (J : Int32 → (Nat → Int32) → (Nat → Int32) → (Nat → Int32) → (Nat → Int32) → (Nat → Int32) → (Nat → Int32) → (Nat → Int32) → (Nat → Int32) → (Nat → Int32) → (Nat → Int32) → (Nat → Int32) → (Nat → Int32) → (Nat → Int32) → (Nat → Int32) → (Nat → Int32) → (Nat → Int32) → (Nat → Int32) → (Nat → Int32) → (Nat → Int32) → (Nat → Int32) → Prop), J (nI (i + 1)) mk wd vl iw kn' sn kp bf sp st aw hd ry ln fe mv rc md lo ra → wY_arrive_109 post J (nI i) 1 (nI n) fr lr (d + 1) (nI q) mk wd vl iw kn sn kp bf sp st aw hd ry ln fe mv rc md lo ra := by
  intro d
  induction d with
  | zero =>
    intro q kn hq
    have : q = 4 := by omega
    subst this
    exact ⟨kn, fun k h1 h2 => by omega, fun j _ => rfl, fun post J h => br_t (nI_le (b := 4) (Nat.le_refl 4) (by decide)) (nm_r (nI_1 i) h)⟩
  | succ d ih =>
    intro q kn hq
    obtain ⟨kn', h1, h2, h3⟩ := ih (q + 1) (upd kn (300 * q + i) 1) (by omega)
    refine ⟨kn', fun k hk hk2 => ?_, fun j hj => ?_, fun post J h => ?_⟩
    · by_cases z : k = q
      · subst z
        rw [h2 _ (fun k2 _ _ => by omega), pk_us]
      · exact h1 k (by omega) hk2
    · rw [h2 j (fun k2 hk hk2 => hj k2 (by omega) hk2), pk_un (hj q (by omega) (by omega))]
    · refine br_f (nI_ge (b := 4) (by omega) (by decide)) ⟨ch_adI (by omega) hi, ?_⟩
      rw [ch_adC (by omega) hi]
      exact nm_e (nm_r (nI_1 q) (h3 post J h))
theorem y_arr_44 (hn : n ≤ 300) : ∀ (d i : Nat) (kn : Nat → Int32), i + d = n → (∀ i2, i ≤ i2 → i2 < n → ∃ q, q < 4 ∧ ¬ kn (300 * q + i2) = 0) → ∃ kn' : Nat → Int32, (∀ q i2, q < 4 → i ≤ i2 → i2 < n → kn' (300 * q + i2) = 1) ∧ (∀ j, (∀ q i2, q < 4 → i ≤ i2 → i2 < n → ¬ j = 300 * q + i2) → kn' j = kn j) ∧ ∀ post : Int32 → SY → Prop, wY_arrive_44 post (nI n) fr lr 1 (nI n) mk wd vl iw kn' sn kp bf sp st aw hd ry ln fe mv rc md lo ra → wY_arrive_44 post (nI n) fr lr (d + 1) (nI i) mk wd vl iw kn sn kp bf sp st aw hd ry ln fe mv rc md lo ra := by
  intro d
  induction d with
  | zero =>
    intro i kn hi _
    have : i = n := by omega
    subst this
    exact ⟨kn, fun q i2 _ h1 h2 => by omega, fun j _ => rfl, fun post h => h⟩
  | succ d ih =>
    intro i kn hi hk
    obtain ⟨kn1, h1, h2, h3⟩ := y_arr_109 (n := n) (fr := fr) (lr := lr) (mk := mk) (wd := wd) (vl := vl) (iw := iw) (sn := sn) (kp := kp) (bf := bf) (sp := sp) (st := st) (aw := aw) (hd := hd) (ry := ry) (ln := ln) (fe := fe) (mv := mv) (rc := rc) (md := md) (lo := lo) (ra := ra) (i := i) (by omega) 4 0 kn (by omega)
    obtain ⟨kn', g1, g2, g3⟩ := ih (i + 1) kn1 (by omega) (by
      intro i2 a b
      obtain ⟨q, hq, e⟩ := hk i2 (by omega) b
      refine ⟨q, hq, ?_⟩
      rw [h2 _ (fun k _ _ => by omega)]
      exact e)
    refine ⟨kn', fun q i2 hq ha hb => ?_, fun j hj => ?_, fun post h => ?_⟩
    · by_cases z : i2 = i
      · subst z
        rw [g2 _ (fun q2 i3 _ _ _ => by omega), h1 q (by omega) hq]
      · exact g1 q i2 hq (by omega) hb
    · rw [g2 j (fun q i2 hq ha hb => hj q i2 hq (by omega) hb), h2 j (fun k _ hk => hj k i hk (by omega) (by omega))]
    · have go := h3 post (wY_arrive_44 post (nI n) fr lr (d + 1)) (g3 post h)
      have a0 : vp_in (nI i) 1200 := vp_in_nI (by omega) (by decide)
      have a3 : (300 : Int32) + nI i = nI (300 + i) := nI_add 300 i
      have a6 : (600 : Int32) + nI i = nI (600 + i) := nI_add 600 i
      have a9 : (900 : Int32) + nI i = nI (900 + i) := nI_add 900 i
      refine br_f (nI_ge (by omega) (by omega)) ⟨a0, ?_⟩
      rw [a3, a6, a9, nI_clamp (n := i) (by omega), nI_clamp (n := 300 + i) (by omega), nI_clamp (n := 600 + i) (by omega), nI_clamp (n := 900 + i) (by omega)]
      refine br_c (fun e0 => ⟨vp_in_nI (by omega) (by decide), br_c (fun e1 => ⟨vp_in_nI (by omega) (by decide), br_c (fun e2 => ⟨vp_in_nI (by omega) (by decide), br_f ?_ ⟨5, go⟩⟩) (fun _ => ⟨5, go⟩)⟩) (fun _ => ⟨5, go⟩)⟩) (fun _ => ⟨5, go⟩)
      intro e3
      obtain ⟨q, hq, e⟩ := hk i (by omega) (by omega)
      obtain rfl | rfl | rfl | rfl : q = 0 ∨ q = 1 ∨ q = 2 ∨ q = 3 := by omega
      · exact e (by rw [show 300 * 0 + i = i by omega]; exact e0)
      · exact e e1
      · exact e e2
      · exact e e3
theorem y_arr_19 {post : Int32 → SY → Prop} : ∀ (d i : Nat), i + d = 4 → ((∀ j, i ≤ j → j < 4 → st j = 2) → ∃ n44, wY_arrive_44 post (nI n) fr lr n44 0 mk wd vl iw kn sn kp bf sp st aw hd ry ln fe mv rc md lo ra) → ((∃ j, i ≤ j ∧ j < 4 ∧ ¬ st j = 2) → post 0 ((nI n), fr, lr, mk, wd, vl, iw, kn, sn, kp, bf, sp, st, aw, hd, ry, ln, fe, mv, rc, md, lo, ra)) → wY_arrive_19 post (nI n) fr lr mk wd vl iw kn sn kp bf sp st aw hd ry ln fe mv rc md lo ra (d + 1) (nI i) := by
  intro d
  induction d with
  | zero =>
    intro i hi h1 h2
    have : i = 4 := by omega
    subst this
    exact br_t (nI_le (b := 4) (Nat.le_refl 4) (by decide)) (h1 (fun j a b => by omega))
  | succ d ih =>
    intro i hi h1 h2
    refine br_f (nI_ge (b := 4) (by omega) (by decide)) ⟨vp_in_nI (by omega) (by decide), ?_⟩
    rw [nI_clamp (by omega)]
    refine br_c (fun e => nm_r (nI_1 i) (ih (i + 1) (by omega) (fun h => h1 ?_) (fun h => h2 ?_))) (fun e => h2 ⟨i, by omega, by omega, e⟩)
    · intro j a b
      by_cases z : j = i
      · rw [z]; exact e
      · exact h j (by omega) b
    · obtain ⟨j, a, b, c⟩ := h
      exact ⟨j, by omega, b, c⟩
theorem v_arrive {k : Nat} (R : ch_R n L T st aw ty hd ro ln mk wd iw wr kw sr vl kn sn kp ry fe mv rc md lo) (v1 : Int32) : ∃ (r : Int32) (u' : SX) (v' : SY), i_Rel k u' v' ∧ (∀ post : Int32 → SX → Prop, post r u' → wpX_arrive post ((nI n), fr, st, aw, ty, hd, ro, ln, sp, bf, ra, mk, wd, iw, wr, kw, sr) v1) ∧ (∀ post : Int32 → SY → Prop, post r v' → wpY_arrive post ((nI n), fr, lr, mk, wd, vl, iw, kn, sn, kp, bf, sp, st, aw, hd, ry, ln, fe, mv, rc, md, lo, ra) v1) := by
  by_cases a : ch_run st v1
  · have a2 := a
    obtain ⟨m, hm, rfl, hs⟩ := a2
    obtain ⟨A, K, Q, WX, WY, TT⟩ := R
    have i4 : vp_in (nI m) 4 := vp_in_nI hm (by decide)
    have Q1 : ch_Q L T (upd st m 2) aw hd := ch_set (ch_Pof Q hm (by rw [hs]; decide) (by rw [hs]; decide)) (fun j hj => pk_un hj) (by rw [pk_us]; decide)
    by_cases b : ∀ j, j < 4 → upd st m 2 j = 2
    · have hown : ∀ i2, 0 ≤ i2 → i2 < n → ∃ q, q < 4 ∧ ¬ kn (300 * q + i2) = 0 := by
        intro i2 _ h2
        obtain ⟨q, hq, e⟩ := A.2.1 i2 h2
        refine ⟨q, hq, ?_⟩
        rw [K.1 q i2 hq h2, K.2.2.2.1 q i2 hq h2 e]
        decide
      obtain ⟨kn', g1, g2, g3⟩ := y_arr_44 (n := n) (fr := fr) (lr := lr) (mk := mk) (wd := wd) (vl := vl) (iw := iw) (sn := sn) (kp := kp) (bf := bf) (sp := sp) (st := upd st m 2) (aw := aw) (hd := hd) (ry := ry) (ln := ln) (fe := fe) (mv := mv) (rc := rc) (md := md) (lo := lo) (ra := ra) A.1 n 0 kn (by omega) hown
      have K1 : ch_K n mk iw hd (fun j => if 0 ≤ j ∧ j < n then kw j ||| 15 else kw j) sr kn' sn kp := ch_Kopen K (fun i hi => if_pos ⟨Nat.zero_le i, hi⟩) (fun q i hq hi => g1 q i hq (Nat.zero_le i) hi)
      have Q2 : ch_Q L T (fun j => if 0 ≤ j ∧ j < 4 then 0 else upd st m 2 j) aw hd := ch_open Q1 b (fun j hj => by
        show ¬ (if 0 ≤ j ∧ j < 4 then (0 : Int32) else upd st m 2 j) = 1
        rw [if_pos ⟨Nat.zero_le j, hj⟩]
        decide)
      refine ⟨1, _, _, ch_mk (fr + 1) lr sp bf ra ⟨A, K1, Q2, WX, WY, TT⟩, fun post h => ?_, fun post h => ?_⟩
      · unfold wpX_arrive
        dsimp only
        refine x_isRunning (fun _ => br_f (by decide) ⟨i4, ?_⟩) (fun z => absurd a z)
        rw [nI_clamp (by omega)]
        refine nm_e (x_machinesThat ?_)
        rw [ch_cnt_all (fun j hj => decide_eq_true (b j hj))]
        refine br_t (by decide) ?_
        exact ⟨5, x_open_2 ⟨n + 1, x_open_22 A.1 n 0 kw (by omega) (fun j => rfl) h⟩ 4 0 _ (by omega) (fun j => rfl)⟩
      · unfold wpY_arrive
        dsimp only
        refine y_runs (fun _ => br_f (by decide) ⟨i4, ?_⟩) (fun z => absurd a z)
        rw [nI_clamp (by omega)]
        refine nm_e ⟨5, y_arr_19 4 0 (by omega) (fun _ => ⟨n + 1, g3 post ?_⟩) (fun z => ?_)⟩
        · refine br_t (nI_le (Nat.le_refl _) (by have := A.1; omega)) ⟨5, ?_⟩
          exact y_arr_143 h 4 0 _ (by omega) (fun j => rfl)
        · obtain ⟨j, _, h1, h2⟩ := z
          exact absurd (b j h1) h2
    · have b2 : ∃ j, 0 ≤ j ∧ j < 4 ∧ ¬ upd st m 2 j = 2 := by
        apply Classical.byContradiction
        intro z
        exact b (fun j hj => Classical.byContradiction (fun y => z ⟨j, Nat.zero_le j, hj, y⟩))
      refine ⟨0, _, _, ch_mk fr lr sp bf ra ⟨A, K, Q1, WX, WY, TT⟩, fun post h => ?_, fun post h => ?_⟩
      · unfold wpX_arrive
        dsimp only
        refine x_isRunning (fun _ => br_f (by decide) ⟨i4, ?_⟩) (fun z => absurd a z)
        rw [nI_clamp (by omega)]
        refine nm_e (x_machinesThat ?_)
        obtain ⟨j, _, h1, h2⟩ := b2
        refine br_f ?_ h
        exact nI_ge (b := 4) (ch_cnt_lt h1 (decide_eq_false h2)) (by decide)
      · unfold wpY_arrive
        dsimp only
        refine y_runs (fun _ => br_f (by decide) ⟨i4, ?_⟩) (fun z => absurd a z)
        rw [nI_clamp (by omega)]
        refine nm_e ⟨5, y_arr_19 4 0 (by omega) (fun z => ?_) (fun _ => h)⟩
        exact absurd (fun j hj => z j (Nat.zero_le j) hj) b
  · refine ⟨-1, _, _, ch_mk fr lr sp bf ra R, fun post h => ?_, fun post h => ?_⟩
    · unfold wpX_arrive
      dsimp only
      exact x_isRunning (fun z => absurd z a) (fun _ => br_t rfl h)
    · unfold wpY_arrive
      dsimp only
      exact y_runs (fun z => absurd z a) (fun _ => br_t rfl h)
theorem x_tidy_34 (hn : n ≤ 300) (hw : ∀ i, i < n → ∃ w, w < 64 ∧ wd i = nI w) {post : Int32 → SX → Prop} (hp : post (nI n) (0, fr, st, aw, ty, hd, ro, ln, sp, ch_bf wd iw wr bf n, ra, mk, wd, iw, wr, kw, sr)) : ∀ (d i : Nat), i + d = n → wX_tidy_34 post (nI n) fr (d + 1) (nI i) st aw ty hd ro ln sp (ch_bf wd iw wr bf i) ra mk wd iw wr kw sr := by
  intro d
  induction d with
  | zero =>
    intro i hi
    have : i = n := by omega
    subst this
    exact br_t (nI_le (Nat.le_refl _) (by omega)) hp
  | succ d ih =>
    intro i hi
    have ih := ih (i + 1) (by omega)
    have i3 : vp_in (nI i) 300 := vp_in_nI (by omega) (by decide)
    refine br_f (nI_ge (by omega) (by omega)) ⟨i3, ?_⟩
    rw [nI_clamp (by omega)]
    rw [ch_bf] at ih
    obtain ⟨w, hw1, ew⟩ := hw i (by omega)
    refine br_c (fun e => nm_r (nI_1 i) ?_) (fun e => ⟨i3, i3, ?_, nm_e (nm_r (nI_1 i) ?_)⟩)
    · rw [if_pos e] at ih
      exact ih
    · rw [ew]
      exact vp_in_nI hw1 (by decide)
    · rw [if_neg e] at ih
      exact ih
theorem y_tidy_48 (hn : n ≤ 300) (hw : ∀ i, i < n → ∃ w, w < 64 ∧ wd i = nI w) {post : Int32 → SY → Prop} (hp : post (nI n) (0, fr, lr, mk, wd, vl, iw, kn, sn, kp, ch_bf wd iw vl bf n, sp, st, aw, hd, ry, ln, fe, mv, rc, md, lo, ra)) : ∀ (d i : Nat), i + d = n → wY_tidy_48 post (nI n) fr lr (d + 1) (nI i) mk wd vl iw kn sn kp (ch_bf wd iw vl bf i) sp st aw hd ry ln fe mv rc md lo ra := by
  intro d
  induction d with
  | zero =>
    intro i hi
    have : i = n := by omega
    subst this
    exact br_t (nI_le (Nat.le_refl _) (by omega)) hp
  | succ d ih =>
    intro i hi
    have ih := ih (i + 1) (by omega)
    have i3 : vp_in (nI i) 300 := vp_in_nI (by omega) (by decide)
    refine br_f (nI_ge (by omega) (by omega)) ⟨i3, ?_⟩
    rw [nI_clamp (by omega)]
    rw [ch_bf] at ih
    obtain ⟨w, hw1, ew⟩ := hw i (by omega)
    refine br_c (fun e => nm_r (nI_1 i) ?_) (fun e => ⟨i3, i3, ?_, nm_e (nm_r (nI_1 i) ?_)⟩)
    · rw [if_pos e] at ih
      exact ih
    · rw [ew]
      exact vp_in_nI hw1 (by decide)
    · rw [if_neg e] at ih
      exact ih
theorem x_tidy_2 (hn : n ≤ 300) {post : Int32 → SX → Prop} : ∀ (d i : Nat), i + d = n → ((∀ j, i ≤ j → j < n → (kw j &&& 15) = 15) → ∃ n34, wX_tidy_34 post (nI n) fr n34 0 st aw ty hd ro ln sp bf ra mk wd iw wr kw sr) → ((∃ j, i ≤ j ∧ j < n ∧ ¬ (kw j &&& 15) = 15) → post (-1) ((nI n), fr, st, aw, ty, hd, ro, ln, sp, bf, ra, mk, wd, iw, wr, kw, sr)) → wX_tidy_2 post (nI n) fr st aw ty hd ro ln sp bf ra mk wd iw wr kw sr (d + 1) (nI i) := by
  intro d
  induction d with
  | zero =>
    intro i hi h1 h2
    have : i = n := by omega
    subst this
    exact br_t (nI_le (Nat.le_refl _) (by omega)) (h1 (fun j a b => by omega))
  | succ d ih =>
    intro i hi h1 h2
    refine br_f (nI_ge (by omega) (by omega)) ⟨vp_in_nI (by omega) (by decide), ?_⟩
    rw [nI_clamp (by omega)]
    refine br_c (fun e => nm_r (nI_1 i) (ih (i + 1) (by omega) (fun h => h1 ?_) (fun h => h2 ?_))) (fun e => h2 ⟨i, by omega, by omega, e⟩)
    · intro j a b
      by_cases z : j = i
      · rw [z]; exact e
      · exact h j (by omega) b
    · obtain ⟨j, a, b, c⟩ := h
      exact ⟨j, by omega, b, c⟩
theorem y_tidy_9 (hn : n ≤ 300) {post : Int32 → SY → Prop} {J : Int32 → Prop} {q : Nat} (hq : q < 4) : ∀ (d i : Nat), i + d = n → ((∀ j, i ≤ j → j < n → ¬ kn (300 * q + j) = 0) → J (nI (q + 1))) → ((∃ j, i ≤ j ∧ j < n ∧ kn (300 * q + j) = 0) → post (-1) ((nI n), fr, lr, mk, wd, vl, iw, kn, sn, kp, bf, sp, st, aw, hd, ry, ln, fe, mv, rc, md, lo, ra)) → wY_tidy_9 post J (nI q) (nI n) fr lr mk wd vl iw kn sn kp bf sp st aw hd ry ln fe mv rc md lo ra (d + 1) (nI i) := by
  intro d
  induction d with
  | zero =>
    intro i hi h1 h2
    have : i = n := by omega
    subst this
    exact br_t (nI_le (Nat.le_refl _) (by omega)) (nm_r (nI_1 q) (h1 (fun j a b => by omega)))
  | succ d ih =>
    intro i hi h1 h2
    refine br_f (nI_ge (by omega) (by omega)) ⟨ch_adI hq (by omega), ?_⟩
    rw [ch_adC hq (by omega)]
    refine br_c (fun e => h2 ⟨i, by omega, by omega, e⟩) (fun e => nm_r (nI_1 i) (ih (i + 1) (by omega) (fun h => h1 ?_) (fun h => h2 ?_)))
    · intro j a b
      by_cases z : j = i
      · rw [z]; exact e
      · exact h j (by omega) b
    · obtain ⟨j, a, b, c⟩ := h
      exact ⟨j, by omega, b, c⟩
theorem y_tidy_2 (hn : n ≤ 300) {post : Int32 → SY → Prop} : ∀ (d q : Nat), q + d = 4 → ((∀ k j, q ≤ k → k < 4 → j < n → ¬ kn (300 * k + j) = 0) → ∃ n48, wY_tidy_48 post (nI n) fr lr n48 0 mk wd vl iw kn sn kp bf sp st aw hd ry ln fe mv rc md lo ra) → ((∃ k j, q ≤ k ∧ k < 4 ∧ j < n ∧ kn (300 * k + j) = 0) → post (-1) ((nI n), fr, lr, mk, wd, vl, iw, kn, sn, kp, bf, sp, st, aw, hd, ry, ln, fe, mv, rc, md, lo, ra)) → wY_tidy_2 post (nI n) fr lr mk wd vl iw kn sn kp bf sp st aw hd ry ln fe mv rc md lo ra (d + 1) (nI q) := by
  intro d
  induction d with
  | zero =>
    intro q hq h1 h2
    have : q = 4 := by omega
    subst this
    exact br_t (nI_le (b := 4) (Nat.le_refl 4) (by decide)) (h1 (fun k j a b => by omega))
  | succ d ih =>
    intro q hq h1 h2
    refine br_f (nI_ge (b := 4) (by omega) (by decide)) ⟨n + 1, ?_⟩
    refine y_tidy_9 hn (by omega) n 0 (by omega) (fun g => ih (q + 1) (by omega) (fun h => h1 ?_) (fun h => h2 ?_)) (fun g => h2 ?_)
    · intro k j a b c
      by_cases z : k = q
      · rw [z]; exact g j (Nat.zero_le j) c
      · exact h k j (by omega) b c
    · obtain ⟨k, j, a, b, c, e⟩ := h
      exact ⟨k, j, by omega, b, c, e⟩
    · obtain ⟨j, a, b, c⟩ := g
      exact ⟨q, j, by omega, by omega, b, c⟩
theorem v_tidy {k : Nat} (R : ch_R n L T st aw ty hd ro ln mk wd iw wr kw sr vl kn sn kp ry fe mv rc md lo) : ∃ (r : Int32) (u' : SX) (v' : SY), i_Rel k u' v' ∧ (∀ post : Int32 → SX → Prop, post r u' → wpX_tidy post ((nI n), fr, st, aw, ty, hd, ro, ln, sp, bf, ra, mk, wd, iw, wr, kw, sr)) ∧ (∀ post : Int32 → SY → Prop, post r v' → wpY_tidy post ((nI n), fr, lr, mk, wd, vl, iw, kn, sn, kp, bf, sp, st, aw, hd, ry, ln, fe, mv, rc, md, lo, ra)) := by
  have R2 := R
  obtain ⟨A, K, Q, WX, WY, TT⟩ := R2
  have ek : ∀ q j, q < 4 → j < n → (kn (300 * q + j) = 0 ↔ ¬ bt (kw j) q = true) := by
    intro q j hq hj
    rw [K.1 q j hq hj, ch_b_0]
    cases bt (kw j) q <;> simp
  by_cases b : ∀ j, j < n → (kw j &&& 15) = 15
  · have e := ch_bf_e (wd := wd) (iw := iw) (wr := wr) (vl := vl) (bf := bf) n (by
      intro i hi h
      refine A.2.2.2.2 i hi ?_
      rcases A.2.2.2.1 i hi with z | z
      · exact absurd z h
      · exact z)
    have A0 : ch_A 0 mk wd iw wr vl := ⟨by omega, fun i h => absurd h (Nat.not_lt_zero i), fun i h => absurd h (Nat.not_lt_zero i), fun i h => absurd h (Nat.not_lt_zero i), fun i h => absurd h (Nat.not_lt_zero i)⟩
    refine ⟨nI n, _, _, ch_mk fr lr sp (ch_bf wd iw wr bf n) ra ⟨A0, ch_K0 (knw := kw) (sr := sr) (kn := kn) (sn := sn) (kp := kp), Q, WX, WY, TT⟩, fun post h => ?_, fun post h => ?_⟩
    · refine ⟨n + 1, x_tidy_2 A.1 n 0 (by omega) (fun _ => ⟨n + 1, x_tidy_34 A.1 A.2.2.1 h n 0 (by omega)⟩) (fun z => ?_)⟩
      obtain ⟨j, _, h1, h2⟩ := z
      exact absurd (b j h1) h2
    · rw [e] at h
      refine ⟨5, y_tidy_2 A.1 4 0 (by omega) (fun _ => ⟨n + 1, y_tidy_48 A.1 A.2.2.1 h n 0 (by omega)⟩) (fun z => ?_)⟩
      obtain ⟨q, j, _, h1, h2, h3⟩ := z
      exact absurd ((ch_and15 _).mp (b j h2) q h1) ((ek q j h1 h2).mp h3)
  · refine ⟨-1, _, _, ch_mk fr lr sp bf ra R, fun post h => ?_, fun post h => ?_⟩
    · exact ⟨n + 1, x_tidy_2 A.1 n 0 (by omega) (fun z => absurd (fun j hj => z j (Nat.zero_le j) hj) b) (fun _ => h)⟩
    · refine ⟨5, y_tidy_2 A.1 4 0 (by omega) (fun z => ?_) (fun _ => h)⟩
      refine absurd (fun j hj => (ch_and15 _).mpr (fun q hq => ?_)) b
      exact Classical.byContradiction (fun y => z q j (Nat.zero_le q) hq hj ((ek q j hq hj).mpr y))
end ar

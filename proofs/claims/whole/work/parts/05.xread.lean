/-! X's reading methods, each against its pure value, for every post -/
def ch_rg (N : Nat) (v : Int32) : Prop := ∃ j, j < N ∧ v = nI j
def ch_run (st : Nat → Int32) (v : Int32) : Prop := ∃ m, m < 4 ∧ v = nI m ∧ st m = 0
def ch_hol (st hd : Nat → Int32) (v l : Int32) : Prop := ∃ m j, m < 4 ∧ j < 4 ∧ v = nI m ∧ l = nI j ∧ st m = 0 ∧ hd j = nI m
theorem ch_is {N : Nat} {M v : Int32} {A B : Prop} (hM : M = nI N) (hN : N < 2 ^ 31) (t : ch_rg N v → B) (f : ¬ ch_rg N v → A) : (v < 0 → A) ∧ (¬ v < 0 → ((M ≤ v → A) ∧ (¬ M ≤ v → B))) := by
  subst hM
  refine br_c (fun h => f ?_) (fun h => br_c (fun h2 => f ?_) (fun h2 => t ?_))
  · rintro ⟨j, hj, rfl⟩
    exact nI_pos (by omega) h
  · rintro ⟨j, hj, rfl⟩
    exact nI_ge hj hN h2
  · rcases pk_ix v hN with a | a | a
    · exact absurd a h
    · exact absurd a h2
    · exact a
theorem ch_nb (b : Bool) : narrow .boolean (.int (ch_b b)) = .int (ch_b b) := by cases b <;> rfl
theorem ch_fb (b : Bool) : fits .boolean (.int (ch_b b)) = true := by cases b <;> rfl
theorem ch_vb (b : Bool) : vp_nar .boolean (ch_b b) = ch_b b := by cases b <;> rfl
theorem ch_vb0 : vp_nar .boolean 0 = 0 := rfl
theorem ch_vb1 : vp_nar .boolean 1 = 1 := rfl
section xr
variable {n : Nat} {fr : Int32} {st aw ty hd ro ln sp bf ra mk wd iw wr kw sr : Nat → Int32}
theorem x_isMachine {post : Int32 → Prop} {u : SX} {v : Int32} (t : ch_rg 4 v → post 1) (f : ¬ ch_rg 4 v → post 0) : wpX_isMachine post u v := by
  obtain ⟨fk, fr, st, aw, ty, hd, ro, ln, sp, bf, ra, mk, wd, iw, wr, kw, sr⟩ := u
  exact ch_is (N := 4) rfl (by decide) t f
theorem x_isLock {post : Int32 → Prop} {u : SX} {v : Int32} (t : ch_rg 4 v → post 1) (f : ¬ ch_rg 4 v → post 0) : wpX_isLock post u v := by
  obtain ⟨fk, fr, st, aw, ty, hd, ro, ln, sp, bf, ra, mk, wd, iw, wr, kw, sr⟩ := u
  exact ch_is (N := 4) rfl (by decide) t f
theorem x_isPage {post : Int32 → Prop} {u : SX} {v : Int32} (t : ch_rg 8 v → post 1) (f : ¬ ch_rg 8 v → post 0) : wpX_isPage post u v := by
  obtain ⟨fk, fr, st, aw, ty, hd, ro, ln, sp, bf, ra, mk, wd, iw, wr, kw, sr⟩ := u
  exact ch_is (N := 8) rfl (by decide) t f
theorem x_isWord {post : Int32 → Prop} {u : SX} {v : Int32} (t : ch_rg 64 v → post 1) (f : ¬ ch_rg 64 v → post 0) : wpX_isWord post u v := by
  obtain ⟨fk, fr, st, aw, ty, hd, ro, ln, sp, bf, ra, mk, wd, iw, wr, kw, sr⟩ := u
  exact ch_is (N := 64) rfl (by decide) t f
theorem x_isRunning {fk : Int32} {post : Int32 → Prop} {v : Int32} (t : ch_run st v → post 1) (f : ¬ ch_run st v → post 0) : wpX_isRunning post (fk, fr, st, aw, ty, hd, ro, ln, sp, bf, ra, mk, wd, iw, wr, kw, sr) v := by
  unfold wpX_isRunning
  dsimp only
  refine x_isMachine (fun h => ?_) (fun h => ?_)
  · obtain ⟨m, hm, rfl⟩ := h
    refine br_f (by decide) ⟨vp_in_nI hm (by decide), ?_⟩
    rw [nI_clamp (by omega)]
    refine br_c (fun hs => t ⟨m, hm, rfl, hs⟩) (fun hs => f ?_)
    rintro ⟨k, hk, e, h2⟩
    have := (nI_eq (by omega) (by omega)).mp e
    subst this
    exact hs h2
  · refine br_t rfl (f ?_)
    rintro ⟨k, hk, e, h2⟩
    exact h ⟨k, hk, e⟩
theorem x_mayAccess {fk : Int32} {post : Int32 → Prop} {v w : Int32} (t : ch_run st v → ch_rg 64 w → post 1) (f : ¬ (ch_run st v ∧ ch_rg 64 w) → post 0) : wpX_mayAccess post (fk, fr, st, aw, ty, hd, ro, ln, sp, bf, ra, mk, wd, iw, wr, kw, sr) v w := by
  unfold wpX_mayAccess
  dsimp only
  refine x_isRunning (fun h => ?_) (fun h => ?_)
  · refine br_f (by decide) ?_
    refine x_isWord (fun h2 => ?_) (fun h2 => ?_)
    · exact br_f (by decide) (t h h2)
    · exact br_t rfl (f (fun z => h2 z.2))
  · exact br_t rfl (f (fun z => h z.1))
theorem x_isRunningHolder {fk : Int32} {post : Int32 → Prop} {v l : Int32} (t : ch_hol st hd v l → post 1) (f : ¬ ch_hol st hd v l → post 0) : wpX_isRunningHolder post (fk, fr, st, aw, ty, hd, ro, ln, sp, bf, ra, mk, wd, iw, wr, kw, sr) v l := by
  unfold wpX_isRunningHolder
  dsimp only
  refine x_isRunning (fun h => ?_) (fun h => ?_)
  · refine br_f (by decide) ?_
    refine x_isLock (fun h2 => ?_) (fun h2 => ?_)
    · obtain ⟨j, hj, rfl⟩ := h2
      obtain ⟨m, hm, rfl, hs⟩ := h
      refine br_f (by decide) ⟨vp_in_nI hj (by decide), ?_⟩
      rw [nI_clamp (by omega)]
      refine br_c (fun e => t ⟨m, j, hm, hj, rfl, rfl, hs, e⟩) (fun e => f ?_)
      rintro ⟨m2, j2, hm2, hj2, e1, e2, _, e3⟩
      have := (nI_eq (by omega) (by omega)).mp e2
      subst this
      exact e (e3.trans e1.symm)
    · refine br_t rfl (f ?_)
      rintro ⟨m2, j2, hm2, hj2, e1, e2, _, e3⟩
      exact h2 ⟨j2, hj2, e2⟩
  · refine br_t rfl (f ?_)
    rintro ⟨m2, j2, hm2, hj2, e1, e2, e4, e3⟩
    exact h ⟨m2, hm2, e1, e4⟩
theorem x_isOnPage {fk : Int32} {post : Int32 → Prop} {i : Nat} {p : Int32} (hi : i < 300) (t : wd i / 8 = p → post 1) (f : ¬ wd i / 8 = p → post 0) : wpX_isOnPage post (fk, fr, st, aw, ty, hd, ro, ln, sp, bf, ra, mk, wd, iw, wr, kw, sr) (nI i) p := by
  unfold wpX_isOnPage
  dsimp only
  rw [nI_clamp (by omega)]
  exact ⟨vp_in_nI hi (by decide), by decide, br_c t f⟩
theorem x_isKnown {fk : Int32} {post : Int32 → Prop} {i q : Nat} (hi : i < 300) (hq : q < 32) (h : post (ch_b (bt (kw i) q))) : wpX_isKnown post (fk, fr, st, aw, ty, hd, ro, ln, sp, bf, ra, mk, wd, iw, wr, kw, sr) (nI i) (nI q) := by
  unfold wpX_isKnown
  dsimp only
  rw [nI_clamp (by omega)]
  refine ⟨vp_in_nI hi (by decide), br_c (fun z => ?_) (fun z => ?_)⟩
  · rw [ch_bit _ q hq] at z
    rw [z] at h
    exact h
  · rw [ch_bit _ q hq] at z
    rw [ch_nf z] at h
    exact h
theorem x_isSeen {fk : Int32} {post : Int32 → Prop} {i q : Nat} (hi : i < 300) (hq : q < 32) (h : post (ch_b (bt (sr i) q))) : wpX_isSeen post (fk, fr, st, aw, ty, hd, ro, ln, sp, bf, ra, mk, wd, iw, wr, kw, sr) (nI i) (nI q) := by
  unfold wpX_isSeen
  dsimp only
  rw [nI_clamp (by omega)]
  refine ⟨vp_in_nI hi (by decide), br_c (fun z => ?_) (fun z => ?_)⟩
  · rw [ch_bit _ q hq] at z
    rw [z] at h
    exact h
  · rw [ch_bit _ q hq] at z
    rw [ch_nf z] at h
    exact h
end xr
/-- a write that m knows and has not seen -/
def ch_fx (iw kw sr : Nat → Int32) (m i : Nat) : Bool := decide (¬ iw i = 0) && (bt (kw i) m && !(bt (sr i) m))
section xs
variable {n : Nat} {fr : Int32} {st aw ty hd ro ln sp bf ra mk wd iw wr kw sr : Nat → Int32}
theorem x_fresh {fk : Int32} {post : Int32 → Prop} {i m : Nat} (hi : i < 300) (hm : m < 32) (h : post (ch_b (ch_fx iw kw sr m i))) : wpX_isKnownUnseenWrite post (fk, fr, st, aw, ty, hd, ro, ln, sp, bf, ra, mk, wd, iw, wr, kw, sr) (nI i) (nI m) := by
  unfold wpX_isKnownUnseenWrite
  dsimp only
  rw [nI_clamp (by omega)]
  refine ⟨vp_in_nI hi (by decide), vp_in_nI hi (by decide), nm_e ⟨vp_in_nI hi (by decide), br_c (fun z => ?_) (fun z => br_c (fun y => ?_) (fun y => ?_))⟩⟩
  · have e : ch_fx iw kw sr m i = false := by unfold ch_fx; rw [decide_eq_false (fun q => q z), Bool.false_and]
    rw [e] at h
    exact h
  · rw [ch_news _ _ m hm] at y
    have e : ch_fx iw kw sr m i = false := by unfold ch_fx; rw [y, Bool.and_false]
    rw [e] at h
    exact h
  · rw [ch_news _ _ m hm] at y
    have e : ch_fx iw kw sr m i = true := by unfold ch_fx; rw [ch_nf y, decide_eq_true z]; rfl
    rw [e] at h
    exact h
theorem x_hasPage_5 (hn : n ≤ 300) {post : Int32 → Prop} {m p : Int32} : ∀ d i, i + d = n → post (ch_b (ch_hv mk wd iw m p n)) → wX_hasPage_5 post m p (nI n) fr st aw ty hd ro ln sp bf ra mk wd iw wr kw sr (d + 1) (ch_b (ch_hv mk wd iw m p i)) (nI i) := by
  intro d
  induction d with
  | zero =>
    intro i hi hp
    have : i = n := by omega
    subst this
    exact br_t (nI_le (Nat.le_refl _) (by omega)) ⟨ch_nb _, hp⟩
  | succ d ih =>
    intro i hi hp
    have ih := ih (i + 1) (by omega) hp
    refine br_f (nI_ge (by omega) (by omega)) ?_
    refine x_isOnPage (by omega) (fun a => ?_) (fun a => ?_)
    · refine br_f (by decide) ⟨vp_in_nI (by omega) (by decide), ?_⟩
      rw [nI_clamp (by omega)]
      refine br_c (fun b => ?_) (fun b => ⟨vp_in_nI (by omega) (by decide), br_c (fun c => ?_) (fun c => ?_)⟩)
      · refine nm_r (nI_1 i) ?_
        have e : ch_hv mk wd iw m p (i + 1) = true := by unfold ch_hv; rw [if_pos a, if_pos b]
        rw [e] at ih
        exact ih
      · refine nm_r (nI_1 i) ?_
        have e : ch_hv mk wd iw m p (i + 1) = ch_hv mk wd iw m p i := by rw [ch_hv, if_pos a, if_neg b, if_pos c]
        rw [e] at ih
        exact ih
      · refine nm_r (nI_1 i) ?_
        have e : ch_hv mk wd iw m p (i + 1) = false := by unfold ch_hv; rw [if_pos a, if_neg b, if_neg c]
        rw [e] at ih
        exact ih
    · refine br_t rfl ?_
      refine nm_r (nI_1 i) ?_
      have e : ch_hv mk wd iw m p (i + 1) = ch_hv mk wd iw m p i := by rw [ch_hv, if_neg a]
      rw [e] at ih
      exact ih
theorem x_hasPage (hn : n ≤ 300) {post : Int32 → Prop} {m p : Int32} (h : post (ch_b (ch_hv mk wd iw m p n))) : wpX_hasPage post ((nI n), fr, st, aw, ty, hd, ro, ln, sp, bf, ra, mk, wd, iw, wr, kw, sr) m p :=
  ⟨n + 1, x_hasPage_5 hn n 0 (by omega) h⟩
theorem x_ownsPage_5 (hn : n ≤ 300) {post : Int32 → Prop} {m p : Int32} : ∀ d i, i + d = n → post (ch_b (ch_ow mk wd iw m p n)) → wX_ownsPage_5 post m p (nI n) fr st aw ty hd ro ln sp bf ra mk wd iw wr kw sr (d + 1) (ch_b (ch_ow mk wd iw m p i)) (nI i) := by
  intro d
  induction d with
  | zero =>
    intro i hi hp
    have : i = n := by omega
    subst this
    exact br_t (nI_le (Nat.le_refl _) (by omega)) ⟨ch_nb _, hp⟩
  | succ d ih =>
    intro i hi hp
    have ih := ih (i + 1) (by omega) hp
    refine br_f (nI_ge (by omega) (by omega)) ?_
    refine x_isOnPage (by omega) (fun a => ?_) (fun a => ?_)
    · refine br_f (by decide) ⟨vp_in_nI (by omega) (by decide), ?_⟩
      rw [nI_clamp (by omega)]
      refine br_c (fun b => ⟨vp_in_nI (by omega) (by decide), br_c (fun c => ?_) (fun c => ?_)⟩) (fun b => ?_)
      · refine nm_r (nI_1 i) ?_
        have e : ch_ow mk wd iw m p (i + 1) = ch_ow mk wd iw m p i := by rw [ch_ow, if_pos a, if_pos b, if_pos c]
        rw [e] at ih
        exact ih
      · refine nm_r (nI_1 i) ?_
        have e : ch_ow mk wd iw m p (i + 1) = true := by unfold ch_ow; rw [if_pos a, if_pos b, if_neg c]
        rw [e] at ih
        exact ih
      · refine nm_r (nI_1 i) ?_
        have e : ch_ow mk wd iw m p (i + 1) = false := by unfold ch_ow; rw [if_pos a, if_neg b]
        rw [e] at ih
        exact ih
    · refine br_t rfl ?_
      refine nm_r (nI_1 i) ?_
      have e : ch_ow mk wd iw m p (i + 1) = ch_ow mk wd iw m p i := by rw [ch_ow, if_neg a]
      rw [e] at ih
      exact ih
theorem x_ownsPage (hn : n ≤ 300) {post : Int32 → Prop} {m p : Int32} (h : post (ch_b (ch_ow mk wd iw m p n))) : wpX_ownsPage post ((nI n), fr, st, aw, ty, hd, ro, ln, sp, bf, ra, mk, wd, iw, wr, kw, sr) m p :=
  ⟨n + 1, x_ownsPage_5 hn n 0 (by omega) h⟩
theorem x_isStale_13 (hn : n ≤ 300) {post : Int32 → Prop} {m : Nat} {p : Int32} (hm : m < 4) : ∀ d i, i + d = n → (∀ j, j < i → (decide (wd j / 8 = p) && ch_fx iw kw sr m j) = false) → post (ch_b (ch_any (fun j => decide (wd j / 8 = p) && ch_fx iw kw sr m j) n)) → wX_isStale_13 post (nI m) p (nI n) fr st aw ty hd ro ln sp bf ra mk wd iw wr kw sr (d + 1) (nI i) := by
  intro d
  induction d with
  | zero =>
    intro i hi hj hp
    have : i = n := by omega
    subst this
    refine br_t (nI_le (Nat.le_refl _) (by omega)) ?_
    rw [ch_any_f hj] at hp
    exact hp
  | succ d ih =>
    intro i hi hj hp
    have next : (decide (wd i / 8 = p) && ch_fx iw kw sr m i) = false → wX_isStale_13 post (nI m) p (nI n) fr st aw ty hd ro ln sp bf ra mk wd iw wr kw sr (d + 1) (nI (i + 1)) := by
      intro e
      refine ih (i + 1) (by omega) ?_ hp
      intro j h
      by_cases q : j = i
      · rw [q]; exact e
      · exact hj j (by omega)
    refine br_f (nI_ge (by omega) (by omega)) ?_
    refine x_isOnPage (by omega) (fun a => ?_) (fun a => ?_)
    · refine br_f (by decide) ?_
      refine x_fresh (by omega) (by omega) ?_
      cases e : ch_fx iw kw sr m i
      · refine br_t rfl ?_
        refine nm_r (nI_1 i) (next ?_)
        rw [e, Bool.and_false]
      · refine br_f (by decide) ?_
        rw [ch_any_t (i := i) (by omega) (by rw [e, decide_eq_true a]; rfl)] at hp
        exact hp
    · refine br_t rfl ?_
      refine nm_r (nI_1 i) (next ?_)
      rw [decide_eq_false a, Bool.false_and]
theorem x_isStale (hn : n ≤ 300) {post : Int32 → Prop} {m p : Nat} (hm : m < 4) (hp : p < 8) (h : post (ch_b (decide (sp p = 0) && ch_any (fun j => decide (wd j / 8 = nI p) && ch_fx iw kw sr m j) n))) : wpX_isStale post ((nI n), fr, st, aw, ty, hd, ro, ln, sp, bf, ra, mk, wd, iw, wr, kw, sr) (nI m) (nI p) := by
  unfold wpX_isStale
  dsimp only
  rw [nI_clamp (by omega)]
  refine ⟨vp_in_nI hp (by decide), br_c (fun z => ?_) (fun z => ?_)⟩
  · refine ⟨n + 1, x_isStale_13 hn hm n 0 (by omega) (fun j h => absurd h (Nat.not_lt_zero j)) ?_⟩
    rw [decide_eq_true z, Bool.true_and] at h
    exact h
  · rw [decide_eq_false z, Bool.false_and] at h
    exact h
theorem x_knownOf_5 (hn : n ≤ 300) {post : Int32 → Prop} {q : Nat} {o : Int32} (hq : q < 32) : ∀ d i, i + d = n → post (nI (ch_cnt (fun j => decide (mk j = o) && bt (kw j) q) n)) → wX_knownOf_5 post (nI q) o (nI n) fr st aw ty hd ro ln sp bf ra mk wd iw wr kw sr (d + 1) (nI (ch_cnt (fun j => decide (mk j = o) && bt (kw j) q) i)) (nI i) := by
  intro d
  induction d with
  | zero =>
    intro i hi hp
    have : i = n := by omega
    subst this
    exact br_t (nI_le (Nat.le_refl _) (by omega)) hp
  | succ d ih =>
    intro i hi hp
    have ih := ih (i + 1) (by omega) hp
    refine br_f (nI_ge (by omega) (by omega)) ⟨vp_in_nI (by omega) (by decide), ?_⟩
    rw [nI_clamp (by omega)]
    refine br_c (fun b => ?_) (fun b => ?_)
    · refine x_isKnown (by omega) hq ?_
      cases e : bt (kw i) q
      · refine br_t rfl ?_
        refine nm_r (nI_1 i) ?_
        rw [ch_cnt, if_neg (by rw [e, Bool.and_false]; decide)] at ih
        exact ih
      · refine br_f (by decide) ?_
        refine nm_r (nI_1 _) ?_
        refine nm_r (nI_1 i) ?_
        rw [ch_cnt, if_pos (by rw [e, decide_eq_true b]; rfl)] at ih
        exact ih
    · refine nm_r (nI_1 i) ?_
      rw [ch_cnt, if_neg (by rw [decide_eq_false b, Bool.false_and]; decide)] at ih
      exact ih
theorem x_knownOf (hn : n ≤ 300) {post : Int32 → Prop} {q : Nat} {o : Int32} (hq : q < 32) (h : post (nI (ch_cnt (fun j => decide (mk j = o) && bt (kw j) q) n))) : wpX_knownOf post ((nI n), fr, st, aw, ty, hd, ro, ln, sp, bf, ra, mk, wd, iw, wr, kw, sr) (nI q) o :=
  ⟨n + 1, x_knownOf_5 hn hq n 0 (by omega) h⟩
end xs

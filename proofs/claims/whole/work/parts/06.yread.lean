/-! Y's reading methods, each against its pure value, for every post -/
def ch_fy (iw kn sn : Nat → Int32) (m i : Nat) : Bool := decide (¬ iw i = 0) && (decide (¬ kn (300 * m + i) = 0) && decide (sn (300 * m + i) = 0))
theorem ch_ad (m i : Nat) : 300 * nI m + nI i = nI (300 * m + i) := by
  rw [show (300 : Int32) = nI 300 from rfl, pk_mul, nI_add]
theorem ch_adI {m i : Nat} (hm : m < 4) (hi : i < 300) : vp_in (300 * nI m + nI i) 1200 := by
  rw [ch_ad]
  exact vp_in_nI (by omega) (by decide)
theorem ch_adC {m i : Nat} (hm : m < 4) (hi : i < 300) : (300 * nI m + nI i).toNatClampNeg = 300 * m + i := by
  rw [ch_ad]
  exact nI_clamp (by omega)
section yr
variable {n : Nat} {fr lr : Int32} {mk wd vl iw kn sn kp bf sp st aw hd ry ln fe mv rc md lo ra : Nat → Int32}
theorem y_in {N : Nat} {M v : Int32} {post : Int32 → Prop} (hM : M = nI N) (hN : N < 2 ^ 31) (t : ch_rg N v → post 1) (f : ¬ ch_rg N v → post 0) : wpY_in post v M := ch_is hM hN t f
theorem y_runs {fk : Int32} {post : Int32 → Prop} {v : Int32} (t : ch_run st v → post 1) (f : ¬ ch_run st v → post 0) : wpY_runs post (fk, fr, lr, mk, wd, vl, iw, kn, sn, kp, bf, sp, st, aw, hd, ry, ln, fe, mv, rc, md, lo, ra) v := by
  unfold wpY_runs
  dsimp only
  refine y_in (N := 4) rfl (by decide) (fun h => ?_) (fun h => ?_)
  · obtain ⟨m, hm, rfl⟩ := h
    refine br_f (by decide) ⟨vp_in_nI hm (by decide), ?_⟩
    rw [nI_clamp (by omega)]
    refine br_c (fun hs => t ⟨m, hm, rfl, hs⟩) (fun hs => f ?_)
    rintro ⟨k, hk, e, h2⟩
    have := (nI_eq (by omega) (by omega)).mp e
    subst this
    exact hs h2
  · refine br_t rfl (f ?_)
    rintro ⟨k, hk, e, h2⟩
    exact h ⟨k, hk, e⟩
theorem y_holds {fk : Int32} {post : Int32 → Prop} {v l : Int32} (t : ch_hol st hd v l → post 1) (f : ¬ ch_hol st hd v l → post 0) : wpY_holds post (fk, fr, lr, mk, wd, vl, iw, kn, sn, kp, bf, sp, st, aw, hd, ry, ln, fe, mv, rc, md, lo, ra) v l := by
  unfold wpY_holds
  dsimp only
  refine y_runs (fun h => ?_) (fun h => ?_)
  · refine br_f (by decide) ?_
    refine y_in (N := 4) rfl (by decide) (fun h2 => ?_) (fun h2 => ?_)
    · obtain ⟨j, hj, rfl⟩ := h2
      obtain ⟨m, hm, rfl, hs⟩ := h
      refine br_f (by decide) ⟨vp_in_nI hj (by decide), ?_⟩
      rw [nI_clamp (by omega)]
      refine br_c (fun e => t ⟨m, j, hm, hj, rfl, rfl, hs, e⟩) (fun e => f ?_)
      rintro ⟨m2, j2, hm2, hj2, e1, e2, _, e3⟩
      have := (nI_eq (by omega) (by omega)).mp e2
      subst this
      exact e (e3.trans e1.symm)
    · refine br_t rfl (f ?_)
      rintro ⟨m2, j2, hm2, hj2, e1, e2, _, e3⟩
      exact h2 ⟨j2, hj2, e2⟩
  · refine br_t rfl (f ?_)
    rintro ⟨m2, j2, hm2, hj2, e1, e2, e4, e3⟩
    exact h ⟨m2, hm2, e1, e4⟩
theorem y_fresh {fk : Int32} {post : Int32 → Prop} {i m : Nat} (hi : i < 300) (hm : m < 4) (h : post (ch_b (ch_fy iw kn sn m i))) : wpY_fresh post (fk, fr, lr, mk, wd, vl, iw, kn, sn, kp, bf, sp, st, aw, hd, ry, ln, fe, mv, rc, md, lo, ra) (nI m) (nI i) := by
  unfold wpY_fresh
  dsimp only
  rw [nI_clamp (by omega), ch_adC hm hi]
  have ad := ch_adI hm hi
  refine ⟨vp_in_nI hi (by decide), br_c (fun z => ?_) (fun z => ⟨ad, br_c (fun y => ?_) (fun y => ⟨ad, br_c (fun x => ?_) (fun x => ?_)⟩)⟩)⟩
  · have e : ch_fy iw kn sn m i = false := by unfold ch_fy; rw [decide_eq_false (fun q => q z), Bool.false_and]
    rw [e] at h
    exact h
  · have e : ch_fy iw kn sn m i = false := by unfold ch_fy; rw [decide_eq_false (p := ¬ kn (300 * m + i) = 0) (fun q => q y), Bool.false_and, Bool.and_false]
    rw [e] at h
    exact h
  · have e : ch_fy iw kn sn m i = true := by unfold ch_fy; rw [decide_eq_true z, decide_eq_true y, decide_eq_true x]; rfl
    rw [e] at h
    exact h
  · have e : ch_fy iw kn sn m i = false := by unfold ch_fy; rw [decide_eq_false x, Bool.and_false, Bool.and_false]
    rw [e] at h
    exact h
theorem y_isStale_2 (hn : n ≤ 300) {post : Int32 → Prop} {m p : Nat} (hm : m < 4) (hp8 : p < 8) : ∀ d i, i + d = n → (∀ j, j < i → (decide (wd j / 8 = nI p) && ch_fy iw kn sn m j) = false) → post (ch_b (decide (sp p = 0) && ch_any (fun j => decide (wd j / 8 = nI p) && ch_fy iw kn sn m j) n)) → wY_isStale_2 post (nI m) (nI p) (nI n) fr lr mk wd vl iw kn sn kp bf sp st aw hd ry ln fe mv rc md lo ra (d + 1) (nI i) := by
  intro d
  induction d with
  | zero =>
    intro i hi hj hp
    have : i = n := by omega
    subst this
    refine br_t (nI_le (Nat.le_refl _) (by omega)) ?_
    rw [ch_any_f hj, Bool.and_false] at hp
    exact hp
  | succ d ih =>
    intro i hi hj hp
    have next : (decide (wd i / 8 = nI p) && ch_fy iw kn sn m i) = false → wY_isStale_2 post (nI m) (nI p) (nI n) fr lr mk wd vl iw kn sn kp bf sp st aw hd ry ln fe mv rc md lo ra (d + 1) (nI (i + 1)) := by
      intro e
      refine ih (i + 1) (by omega) ?_ hp
      intro j h
      by_cases q : j = i
      · rw [q]; exact e
      · exact hj j (by omega)
    refine br_f (nI_ge (by omega) (by omega)) ⟨vp_in_nI hp8 (by decide), ?_⟩
    rw [nI_clamp (n := p) (by omega), nI_clamp (n := i) (by omega)]
    refine br_c (fun s => ⟨vp_in_nI (by omega) (by decide), by decide, br_c (fun a => ?_) (fun a => ?_)⟩) (fun s => ?_)
    · refine y_fresh (by omega) hm ?_
      cases e : ch_fy iw kn sn m i
      · refine br_t rfl ?_
        refine nm_r (nI_1 i) (next ?_)
        rw [e, Bool.and_false]
      · refine br_f (by decide) ?_
        rw [decide_eq_true s, ch_any_t (i := i) (by omega) (by rw [e, decide_eq_true a]; rfl)] at hp
        exact hp
    · refine nm_r (nI_1 i) (next ?_)
      rw [decide_eq_false a, Bool.false_and]
    · rw [decide_eq_false s, Bool.false_and] at hp
      exact hp
theorem y_isStale (hn : n ≤ 300) {post : Int32 → Prop} {m p : Nat} (hm : m < 4) (hp : p < 8) (h : post (ch_b (decide (sp p = 0) && ch_any (fun j => decide (wd j / 8 = nI p) && ch_fy iw kn sn m j) n))) : wpY_isStale post ((nI n), fr, lr, mk, wd, vl, iw, kn, sn, kp, bf, sp, st, aw, hd, ry, ln, fe, mv, rc, md, lo, ra) (nI m) (nI p) :=
  ⟨n + 1, y_isStale_2 hn hm hp n 0 (by omega) (fun j h => absurd h (Nat.not_lt_zero j)) h⟩
end yr
/-- what Y's hasPage answers -/
def ch_h2 (mk wd iw : Nat → Int32) (m p : Int32) (n : Nat) : Int32 := if ch_ow mk wd iw m p n = true then 2 else ch_b (ch_hv mk wd iw m p n)
section yh
variable {n : Nat} {fr lr : Int32} {mk wd vl iw kn sn kp bf sp st aw hd ry ln fe mv rc md lo ra : Nat → Int32}
theorem y_hasPage_86 {post : Int32 → Prop} {J : Int32 → Int32 → Int32 → Int32 → Int32 → Prop} {m p : Int32} {x3 x4 x5 x6 : Int32} {i : Nat} (hi : i < 300)
    (h : J x3 x4 x5 (if mk i = m then x6 else if iw i = 0 then x6 else nI i) (nI (i + 1))) : wY_hasPage_86 post J m p x3 x4 x5 x6 (nI i) (nI n) fr lr mk wd vl iw kn sn kp bf sp st aw hd ry ln fe mv rc md lo ra := by
  unfold wY_hasPage_86
  rw [nI_clamp (by omega)]
  refine ⟨vp_in_nI hi (by decide), br_c (fun a => ?_) (fun a => ⟨vp_in_nI hi (by decide), br_c (fun b => ?_) (fun b => ?_)⟩)⟩
  · rw [if_pos a] at h
    exact nm_r (nI_1 i) h
  · rw [if_neg a, if_pos b] at h
    exact nm_r (nI_1 i) h
  · rw [if_neg a, if_neg b] at h
    exact nm_r (nI_1 i) h
theorem y_hasPage_61 {post : Int32 → Prop} {J : Int32 → Int32 → Int32 → Int32 → Int32 → Prop} {m p : Int32} {x3 x4 x5 x6 : Int32} {i : Nat} (hi : i < 300)
    (h : J x3 (if mk i = m then (if iw i = 0 then x4 else nI i) else x4) x5 (if mk i = m then x6 else if iw i = 0 then x6 else nI i) (nI (i + 1))) : wY_hasPage_61 post J m p x3 x4 x5 x6 (nI i) (nI n) fr lr mk wd vl iw kn sn kp bf sp st aw hd ry ln fe mv rc md lo ra := by
  unfold wY_hasPage_61
  rw [nI_clamp (by omega)]
  refine ⟨vp_in_nI hi (by decide), br_c (fun a => ⟨vp_in_nI hi (by decide), br_c (fun b => ?_) (fun b => ?_)⟩) (fun a => ?_)⟩
  · rw [if_pos a, if_pos b] at h
    exact y_hasPage_86 hi h
  · rw [if_pos a, if_neg b] at h
    exact y_hasPage_86 hi h
  · rw [if_neg a] at h
    exact y_hasPage_86 hi h
theorem y_hasPage_14 (hn : n ≤ 300) {post : Int32 → Prop} {m p : Int32} : ∀ d i, i + d = n → post (ch_h2 mk wd iw m p n) → wY_hasPage_14 post m p (nI n) fr lr mk wd vl iw kn sn kp bf sp st aw hd ry ln fe mv rc md lo ra (d + 1) (ch_la (fun i => decide (wd i / 8 = p) && decide (mk i = m)) i) (ch_la (fun i => decide (wd i / 8 = p) && (decide (mk i = m) && decide (¬ iw i = 0))) i) (ch_la (fun i => decide (wd i / 8 = p) && decide (¬ mk i = m)) i) (ch_la (fun i => decide (wd i / 8 = p) && (decide (¬ mk i = m) && decide (¬ iw i = 0))) i) (nI i) := by
  intro d
  induction d with
  | zero =>
    intro i hi hp
    have : i = n := by omega
    subst this
    refine br_t (nI_le (Nat.le_refl _) (by omega)) ?_
    have ow := ch_ow_iff mk wd iw m p i (by omega)
    have hv := ch_hv_iff mk wd iw m p i (by omega)
    have no : ¬ ch_ow mk wd iw m p i = true → wY_hasPage_131 post (ch_la (fun i => decide (wd i / 8 = p) && decide (mk i = m)) i) (ch_la (fun i => decide (wd i / 8 = p) && (decide (¬ mk i = m) && decide (¬ iw i = 0))) i) (nI i) fr lr mk wd vl iw kn sn kp bf sp st aw hd ry ln fe mv rc md lo ra := by
      intro z
      unfold ch_h2 at hp
      rw [if_neg z] at hp
      refine br_c (fun a => ?_) (fun a => br_c (fun b => ?_) (fun b => ?_))
      · have e : ch_hv mk wd iw m p i = false := ch_nt (fun q => Int32.not_lt.mpr (hv.mp q).1 a)
        rw [e] at hp
        exact hp
      · have e : ch_hv mk wd iw m p i = false := ch_nt (fun q => Int32.not_lt.mpr b (hv.mp q).2)
        rw [e] at hp
        exact hp
      · have e : ch_hv mk wd iw m p i = true := hv.mpr ⟨Int32.not_lt.mp a, Int32.not_le.mp b⟩
        rw [e] at hp
        exact hp
    refine br_c (fun a => no ?_) (fun a => br_c (fun b => no ?_) (fun b => ?_))
    · exact fun q => Int32.not_lt.mpr (ow.mp q).1 a
    · exact fun q => Int32.not_lt.mpr b (ow.mp q).2
    · have e : ch_ow mk wd iw m p i = true := ow.mpr ⟨Int32.not_lt.mp a, Int32.not_le.mp b⟩
      unfold ch_h2 at hp
      rw [if_pos e] at hp
      exact hp
  | succ d ih =>
    intro i hi hp
    have ih := ih (i + 1) (by omega) hp
    refine br_f (nI_ge (by omega) (by omega)) ⟨vp_in_nI (by omega) (by decide), by decide, ?_⟩
    rw [nI_clamp (by omega)]
    refine br_c (fun a => ⟨vp_in_nI (by omega) (by decide), br_c (fun b => ?_) (fun b => ?_)⟩) (fun a => ?_)
    · refine y_hasPage_61 (by omega) ?_
      simp only [ch_la, a, b, decide_true, Bool.true_and, if_true, not_true, decide_false, Bool.false_and, Bool.false_eq_true, if_false] at ih ⊢
      by_cases c : iw i = 0
      · simp only [c, not_true, decide_false, Bool.false_eq_true, if_false, if_true] at ih ⊢
        exact ih
      · simp only [c, not_false_iff, decide_true, if_true, if_false] at ih ⊢
        exact ih
    · refine y_hasPage_61 (by omega) ?_
      simp only [ch_la, a, b, decide_true, Bool.true_and, if_true, not_false_iff, decide_false, Bool.false_and, Bool.false_eq_true, if_false] at ih ⊢
      by_cases c : iw i = 0
      · simp only [c, not_true, decide_false, Bool.false_eq_true, if_false, if_true] at ih ⊢
        exact ih
      · simp only [c, not_false_iff, decide_true, if_true, if_false] at ih ⊢
        exact ih
    · refine nm_r (nI_1 i) ?_
      simp only [ch_la, a, decide_false, Bool.false_and, Bool.false_eq_true, if_false] at ih
      exact ih
theorem y_hasPage (hn : n ≤ 300) {post : Int32 → Prop} {m p : Int32} (h : post (ch_h2 mk wd iw m p n)) : wpY_hasPage post ((nI n), fr, lr, mk, wd, vl, iw, kn, sn, kp, bf, sp, st, aw, hd, ry, ln, fe, mv, rc, md, lo, ra) m p :=
  ⟨n + 1, y_hasPage_14 hn n 0 (by omega) h⟩
theorem y_known_24 (hn : n ≤ 300) {post : Int32 → Prop} {q : Nat} {o : Int32} (hq : q < 4) : ∀ d i, i + d = n → post (nI (ch_cnt (fun j => decide (mk j = o) && decide (¬ kn (300 * q + j) = 0)) n)) → wY_counted__known_24 post (nI q) o (nI n) fr lr mk wd vl iw kn sn kp bf sp st aw hd ry ln fe mv rc md lo ra (d + 1) (nI (ch_cnt (fun j => decide (mk j = o) && decide (¬ kn (300 * q + j) = 0)) i)) (nI i) := by
  intro d
  induction d with
  | zero =>
    intro i hi hp
    have : i = n := by omega
    subst this
    exact br_t (nI_le (Nat.le_refl _) (by omega)) hp
  | succ d ih =>
    intro i hi hp
    have ih := ih (i + 1) (by omega) hp
    refine br_f (nI_ge (by omega) (by omega)) ⟨vp_in_nI (by omega) (by decide), ?_⟩
    rw [nI_clamp (by omega), ch_adC hq (by omega)]
    refine br_c (fun b => ⟨ch_adI hq (by omega), br_c (fun e => ?_) (fun e => ?_)⟩) (fun b => ?_)
    · refine nm_r (nI_1 i) ?_
      rw [ch_cnt, if_neg (by rw [decide_eq_false (p := ¬ kn (300 * q + i) = 0) (fun z => z e), Bool.and_false]; decide)] at ih
      exact ih
    · refine nm_r (nI_1 _) ?_
      refine nm_r (nI_1 i) ?_
      rw [ch_cnt, if_pos (by rw [decide_eq_true e, decide_eq_true b]; rfl)] at ih
      exact ih
    · refine nm_r (nI_1 i) ?_
      rw [ch_cnt, if_neg (by rw [decide_eq_false b, Bool.false_and]; decide)] at ih
      exact ih
theorem y_keeps_24 (hn : n ≤ 300) {post : Int32 → Prop} {q : Nat} {o : Int32} (hq : q < 4) : ∀ d i, i + d = n → post (nI (ch_cnt (fun j => decide (mk j = o) && decide (¬ kp (300 * q + j) = 0)) n)) → wY_counted__keeps_24 post (nI q) o (nI n) fr lr mk wd vl iw kn sn kp bf sp st aw hd ry ln fe mv rc md lo ra (d + 1) (nI (ch_cnt (fun j => decide (mk j = o) && decide (¬ kp (300 * q + j) = 0)) i)) (nI i) := by
  intro d
  induction d with
  | zero =>
    intro i hi hp
    have : i = n := by omega
    subst this
    exact br_t (nI_le (Nat.le_refl _) (by omega)) hp
  | succ d ih =>
    intro i hi hp
    have ih := ih (i + 1) (by omega) hp
    refine br_f (nI_ge (by omega) (by omega)) ⟨vp_in_nI (by omega) (by decide), ?_⟩
    rw [nI_clamp (by omega), ch_adC hq (by omega)]
    refine br_c (fun b => ⟨ch_adI hq (by omega), br_c (fun e => ?_) (fun e => ?_)⟩) (fun b => ?_)
    · refine nm_r (nI_1 i) ?_
      rw [ch_cnt, if_neg (by rw [decide_eq_false (p := ¬ kp (300 * q + i) = 0) (fun z => z e), Bool.and_false]; decide)] at ih
      exact ih
    · refine nm_r (nI_1 _) ?_
      refine nm_r (nI_1 i) ?_
      rw [ch_cnt, if_pos (by rw [decide_eq_true e, decide_eq_true b]; rfl)] at ih
      exact ih
    · refine nm_r (nI_1 i) ?_
      rw [ch_cnt, if_neg (by rw [decide_eq_false b, Bool.false_and]; decide)] at ih
      exact ih
end yh

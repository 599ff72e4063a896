/-! fetch and refresh -/
def ch_sw (P : Nat → Bool) (m : Nat) (sr : Nat → Int32) (i : Nat) : Nat → Int32 := fun j => if j < i ∧ P j = true then sr j ||| ((1 : Int32) <<< (nI m &&& 31)) else sr j
def ch_sv (P : Nat → Bool) (m : Nat) (sn : Nat → Int32) (i : Nat) : Nat → Int32 := fun j => if 300 * m ≤ j ∧ j - 300 * m < i ∧ P (j - 300 * m) = true then 1 else sn j
def ch_av (mv : Nat → Int32) (m c : Nat) : Nat → Int32 := fun j => if j = m then mv m + nI c else mv j
def ch_cf (ty : Nat → Int32) (m : Nat) (c : Int32) : Nat → Int32 := upd (upd ty (5 * m) (ty (5 * m) + 1)) (5 * m + 1) (upd ty (5 * m) (ty (5 * m) + 1) (5 * m + 1) + c)
theorem ch_sw_0 (P : Nat → Bool) (m : Nat) (sr : Nat → Int32) : ch_sw P m sr 0 = sr := by
  funext j
  exact if_neg (fun z => absurd z.1 (Nat.not_lt_zero j))
theorem ch_sw_f {P : Nat → Bool} {m : Nat} {sr : Nat → Int32} {i : Nat} (h : P i = false) : ch_sw P m sr (i + 1) = ch_sw P m sr i := by
  funext j
  unfold ch_sw
  by_cases z : j = i
  · subst z
    rw [if_neg (by rw [h]; simp), if_neg (by rw [h]; simp)]
  · by_cases y : j < i ∧ P j = true
    · rw [if_pos y, if_pos ⟨by omega, y.2⟩]
    · rw [if_neg y, if_neg (fun q => y ⟨by omega, q.2⟩)]
theorem ch_sw_t {P : Nat → Bool} {m : Nat} {sr : Nat → Int32} {i : Nat} (h : P i = true) : upd (ch_sw P m sr i) i (ch_sw P m sr i i ||| ((1 : Int32) <<< (nI m &&& 31))) = ch_sw P m sr (i + 1) := by
  funext j
  by_cases z : j = i
  · subst z
    rw [pk_us]
    unfold ch_sw
    rw [if_neg (by omega), if_pos ⟨by omega, h⟩]
  · rw [pk_un z]
    unfold ch_sw
    by_cases y : j < i ∧ P j = true
    · rw [if_pos y, if_pos ⟨by omega, y.2⟩]
    · rw [if_neg y, if_neg (fun q => y ⟨by omega, q.2⟩)]
theorem ch_sw_i (P : Nat → Bool) (m : Nat) (sr : Nat → Int32) (i : Nat) : ch_sw P m sr i i = sr i := if_neg (fun z => absurd z.1 (Nat.lt_irrefl i))
theorem ch_sv_0 (P : Nat → Bool) (m : Nat) (sn : Nat → Int32) : ch_sv P m sn 0 = sn := by
  funext j
  exact if_neg (fun z => absurd z.2.1 (Nat.not_lt_zero _))
theorem ch_sv_at (P : Nat → Bool) (m : Nat) (sn : Nat → Int32) (n i : Nat) : ch_sv P m sn n (300 * m + i) = if i < n ∧ P i = true then 1 else sn (300 * m + i) := by
  unfold ch_sv
  rw [show 300 * m + i - 300 * m = i by omega]
  by_cases y : i < n ∧ P i = true
  · rw [if_pos y, if_pos ⟨by omega, y⟩]
  · rw [if_neg y, if_neg (fun q => y q.2)]
theorem ch_sv_n (P : Nat → Bool) (m : Nat) (sn : Nat → Int32) (n j : Nat) (h : ∀ i, i < n → ¬ j = 300 * m + i) : ch_sv P m sn n j = sn j := by
  unfold ch_sv
  refine if_neg ?_
  rintro ⟨a, b, _⟩
  exact h _ b (by omega)
theorem ch_sv_x {f g : Nat → Int32} (m n : Nat) (h1 : ∀ i, i < n → f (300 * m + i) = g (300 * m + i)) (h2 : ∀ j, (∀ i, i < n → ¬ j = 300 * m + i) → f j = g j) : f = g := by
  funext j
  by_cases z : ∃ i, i < n ∧ j = 300 * m + i
  · obtain ⟨i, hi, e⟩ := z
    rw [e]
    exact h1 i hi
  · exact h2 j (fun i hi e => z ⟨i, hi, e⟩)
theorem ch_sv_f {P : Nat → Bool} {m : Nat} {sn : Nat → Int32} {i : Nat} (h : P i = false) : ch_sv P m sn (i + 1) = ch_sv P m sn i := by
  refine ch_sv_x m (i + 1) (fun j hj => ?_) (fun j hj => ?_)
  · rw [ch_sv_at, ch_sv_at]
    by_cases z : j = i
    · subst z
      rw [if_neg (by rw [h]; simp), if_neg (by rw [h]; simp)]
    · by_cases y : j < i ∧ P j = true
      · rw [if_pos y, if_pos ⟨by omega, y.2⟩]
      · rw [if_neg y, if_neg (fun q => y ⟨by omega, q.2⟩)]
  · rw [ch_sv_n _ _ _ _ _ hj, ch_sv_n _ _ _ _ _ (fun k hk => hj k (by omega))]
theorem ch_sv_t {P : Nat → Bool} {m : Nat} {sn : Nat → Int32} {i : Nat} (h : P i = true) : upd (ch_sv P m sn i) (300 * m + i) 1 = ch_sv P m sn (i + 1) := by
  refine ch_sv_x m (i + 1) (fun j hj => ?_) (fun j hj => ?_)
  · by_cases z : j = i
    · subst z
      rw [pk_us, ch_sv_at, if_pos ⟨by omega, h⟩]
    · rw [pk_un (by omega), ch_sv_at, ch_sv_at]
      by_cases y : j < i ∧ P j = true
      · rw [if_pos y, if_pos ⟨by omega, y.2⟩]
      · rw [if_neg y, if_neg (fun q => y ⟨by omega, q.2⟩)]
  · rw [pk_un (hj i (by omega)), ch_sv_n _ _ _ _ _ hj, ch_sv_n _ _ _ _ _ (fun k hk => hj k (by omega))]
theorem ch_av_0 (mv : Nat → Int32) (m : Nat) : ch_av mv m 0 = mv := by
  funext j
  unfold ch_av
  by_cases z : j = m
  · rw [if_pos z, z, nI_0, Int32.add_zero]
  · rw [if_neg z]
theorem ch_av_s (mv : Nat → Int32) (m c : Nat) : upd (ch_av mv m c) m (ch_av mv m c m + 1) = ch_av mv m (c + 1) := by
  funext j
  by_cases z : j = m
  · subst z
    rw [pk_us]
    unfold ch_av
    rw [if_pos rfl, if_pos rfl, Int32.add_assoc, nI_1]
  · rw [pk_un z]
    unfold ch_av
    rw [if_neg z, if_neg z]
theorem ch_Tcf {ty fe mv rc md lo fe' mv' : Nat → Int32} {m : Nat} {c : Int32} (TT : ch_T ty fe mv rc md lo) (e1 : fe' m = fe m + 1) (e2 : ∀ j, ¬ j = m → fe' j = fe j) (e3 : mv' m = mv m + c) (e4 : ∀ j, ¬ j = m → mv' j = mv j) : ch_T (ch_cf ty m c) fe' mv' rc md lo := by
  intro k hk
  obtain ⟨t0, t1, t2, t3, t4⟩ := TT k hk
  unfold ch_cf
  by_cases z : k = m
  · subst z
    refine ⟨?_, ?_, ?_, ?_, ?_⟩
    · rw [pk_un (by omega), pk_us, t0, e1]
    · rw [pk_us, pk_un (by omega), t1, e3]
    · rw [pk_un (by omega), pk_un (by omega), t2]
    · rw [pk_un (by omega), pk_un (by omega), t3]
    · rw [pk_un (by omega), pk_un (by omega), t4]
  · refine ⟨?_, ?_, ?_, ?_, ?_⟩
    · rw [pk_un (by omega), pk_un (by omega), t0, e2 k z]
    · rw [pk_un (by omega), pk_un (by omega), t1, e4 k z]
    · rw [pk_un (by omega), pk_un (by omega), t2]
    · rw [pk_un (by omega), pk_un (by omega), t3]
    · rw [pk_un (by omega), pk_un (by omega), t4]
/-- the access j is of one of the first t words of page p, and F -/
def ch_pt (wd : Nat → Int32) (F : Nat → Bool) (p t j : Nat) : Bool := ch_any (fun s => decide (wd j = nI (8 * p + s))) t && F j
/-- how many of the first t words of page p have one -/
def ch_ct (wd : Nat → Int32) (F : Nat → Bool) (n p t : Nat) : Nat := ch_cnt (fun s => ch_any (fun j => decide (wd j = nI (8 * p + s)) && F j) n) t
theorem ch_pt_no {wd : Nat → Int32} {F : Nat → Bool} {p t j : Nat} (hp : p < 8) (ht : t < 8) (h : wd j = nI (8 * p + t)) : ch_pt wd F p t j = false := by
  unfold ch_pt
  rw [ch_any_f, Bool.false_and]
  intro s hs
  refine decide_eq_false ?_
  rw [h]
  intro e
  have := (nI_eq (by omega) (by omega)).mp e
  omega
theorem ch_pt_s {wd : Nat → Int32} {F : Nat → Bool} {p t j : Nat} : ch_pt wd F p (t + 1) j = (ch_pt wd F p t j || (decide (wd j = nI (8 * p + t)) && F j)) := by
  show ((ch_any (fun s => decide (wd j = nI (8 * p + s))) t || decide (wd j = nI (8 * p + t))) && F j) = ((ch_any (fun s => decide (wd j = nI (8 * p + s))) t && F j) || (decide (wd j = nI (8 * p + t)) && F j))
  rw [Bool.and_or_distrib_right]
section fx
variable {n : Nat} {fr : Int32} {st aw ty hd ro ln sp bf ra mk wd iw wr kw sr : Nat → Int32}
theorem x_see_5 (hn : n ≤ 300) {post : Int32 → SX → Prop} {m : Nat} {w : Int32} (hm : m < 4) (P : Nat → Bool) (hP : ∀ j, P j = (decide (wd j = w) && ch_fx iw kw sr m j)) (hp : post (ch_b (ch_any P n)) ((nI n), fr, st, aw, ty, hd, ro, ln, sp, bf, ra, mk, wd, iw, wr, kw, ch_sw P m sr n)) : ∀ d i, i + d = n → wX_seeWord_5 post (nI m) w (nI n) fr (d + 1) (ch_b (ch_any P i)) (nI i) st aw ty hd ro ln sp bf ra mk wd iw wr kw (ch_sw P m sr i) := by
  intro d
  induction d with
  | zero =>
    intro i hi
    have : i = n := by omega
    subst this
    exact br_t (nI_le (Nat.le_refl _) (by omega)) ⟨ch_nb _, hp⟩
  | succ d ih =>
    intro i hi
    have ih := ih (i + 1) (by omega)
    have i3 : vp_in (nI i) 300 := vp_in_nI (by omega) (by decide)
    have ef : ch_fx iw kw (ch_sw P m sr i) m i = ch_fx iw kw sr m i := by
      unfold ch_fx
      rw [ch_sw_i]
    have no : P i = false → wX_seeWord_5 post (nI m) w (nI n) fr (d + 1) (ch_b (ch_any P i)) (nI (i + 1)) st aw ty hd ro ln sp bf ra mk wd iw wr kw (ch_sw P m sr i) := by
      intro e
      rw [ch_sw_f e, show ch_any P (i + 1) = (ch_any P i || P i) from rfl, e, Bool.or_false] at ih
      exact ih
    refine br_f (nI_ge (by omega) (by omega)) ⟨i3, ?_⟩
    rw [nI_clamp (by omega)]
    refine br_c (fun a => ?_) (fun a => nm_r (nI_1 i) (no ?_))
    · refine x_fresh (by omega) (by omega) ?_
      rw [ef]
      cases e : ch_fx iw kw sr m i
      · refine br_t rfl (nm_r (nI_1 i) (no ?_))
        rw [hP, e, Bool.and_false]
      · have e2 : P i = true := by rw [hP, e, decide_eq_true a]; rfl
        refine br_f (by decide) ⟨i3, i3, ?_⟩
        rw [ch_sw_t e2]
        rw [show ch_any P (i + 1) = (ch_any P i || P i) from rfl, e2, Bool.or_true] at ih
        exact nm_e (nm_r (nI_1 i) ih)
    · rw [hP, decide_eq_false a, Bool.false_and]
theorem x_seeWord (hn : n ≤ 300) {post : Int32 → SX → Prop} {m : Nat} {w : Int32} (hm : m < 4) (P : Nat → Bool) (hP : ∀ j, P j = (decide (wd j = w) && ch_fx iw kw sr m j)) (hp : post (ch_b (ch_any P n)) ((nI n), fr, st, aw, ty, hd, ro, ln, sp, bf, ra, mk, wd, iw, wr, kw, ch_sw P m sr n)) : wpX_seeWord post ((nI n), fr, st, aw, ty, hd, ro, ln, sp, bf, ra, mk, wd, iw, wr, kw, sr) (nI m) w := by
  have h := x_see_5 hn hm P hP hp n 0 (by omega)
  rw [ch_sw_0] at h
  exact ⟨n + 1, h⟩
theorem x_countFetch {fk : Int32} {post : SX → Prop} {m : Nat} {c : Int32} (hm : m < 4) (hp : post (fk, fr, st, aw, ch_cf ty m c, hd, ro, ln, sp, bf, ra, mk, wd, iw, wr, kw, sr)) : wpX_countFetch post (fk, fr, st, aw, ty, hd, ro, ln, sp, bf, ra, mk, wd, iw, wr, kw, sr) (nI m) c := by
  unfold wpX_countFetch
  dsimp only
  have e0 : nI m * 5 + 0 = nI (5 * m) := ch_z5 m 0
  have e1 : nI m * 5 + 1 = nI (5 * m + 1) := ch_z5 m 1
  rw [e0, e1, nI_clamp (n := 5 * m) (by omega), nI_clamp (n := 5 * m + 1) (by omega)]
  have a0 : vp_in (nI (5 * m)) 20 := vp_in_nI (by omega) (by decide)
  have a1 : vp_in (nI (5 * m + 1)) 20 := vp_in_nI (by omega) (by decide)
  exact ⟨a0, a0, nm_e ⟨a1, a1, nm_e hp⟩⟩
theorem x_fetch_11 (hn : n ≤ 300) {post : SX → Prop} {m p : Nat} (hm : m < 4) (hp8 : p < 8) (hp : post ((nI n), fr, st, aw, ch_cf ty m (nI (ch_ct wd (ch_fx iw kw sr m) n p 8)), hd, ro, ln, sp, bf, ra, mk, wd, iw, wr, kw, ch_sw (ch_pt wd (ch_fx iw kw sr m) p 8) m sr n)) : ∀ d t, t + d = 8 → wX_fetchLazy_11 post (nI m) (nI (8 * p)) (d + 1) (nI (ch_ct wd (ch_fx iw kw sr m) n p t)) (nI (8 * p + t)) (nI n) fr st aw ty hd ro ln sp bf ra mk wd iw wr kw (ch_sw (ch_pt wd (ch_fx iw kw sr m) p t) m sr n) := by
  have e8 : nI (8 * p) + 8 = nI (8 * p + 8) := nI_add (8 * p) 8
  intro d
  induction d with
  | zero =>
    intro t ht
    have : t = 8 := by omega
    subst this
    refine br_t ?_ (x_countFetch hm hp)
    rw [e8]
    exact nI_le (Nat.le_refl _) (by omega)
  | succ d ih =>
    intro t ht
    have ih := ih (t + 1) (by omega)
    have ep : ∀ j, (decide (wd j = nI (8 * p + t)) && ch_fx iw kw sr m j) = (decide (wd j = nI (8 * p + t)) && ch_fx iw kw (ch_sw (ch_pt wd (ch_fx iw kw sr m) p t) m sr n) m j) := by
      intro j
      by_cases z : wd j = nI (8 * p + t)
      · have e : ch_sw (ch_pt wd (ch_fx iw kw sr m) p t) m sr n j = sr j := by
          unfold ch_sw
          rw [if_neg (fun q => by rw [ch_pt_no hp8 (by omega) z] at q; exact absurd q.2 (by decide))]
        unfold ch_fx at e ⊢
        rw [e]
      · rw [decide_eq_false z, Bool.false_and, Bool.false_and]
    have es : ch_sw (fun j => decide (wd j = nI (8 * p + t)) && ch_fx iw kw sr m j) m (ch_sw (ch_pt wd (ch_fx iw kw sr m) p t) m sr n) n = ch_sw (ch_pt wd (ch_fx iw kw sr m) p (t + 1)) m sr n := by
      funext j
      by_cases z : j < n
      · by_cases y : wd j = nI (8 * p + t)
        · have e : ch_pt wd (ch_fx iw kw sr m) p t j = false := ch_pt_no hp8 (by omega) y
          have e2 : ch_pt wd (ch_fx iw kw sr m) p (t + 1) j = ch_fx iw kw sr m j := by rw [ch_pt_s, e, decide_eq_true y, Bool.false_or, Bool.true_and]
          unfold ch_sw
          dsimp only
          simp only [e, e2, y, decide_true, Bool.true_and, Bool.false_eq_true, and_false, if_false]
        · have e2 : ch_pt wd (ch_fx iw kw sr m) p (t + 1) j = ch_pt wd (ch_fx iw kw sr m) p t j := by rw [ch_pt_s, decide_eq_false y, Bool.false_and, Bool.or_false]
          unfold ch_sw
          dsimp only
          simp only [e2, y, decide_false, Bool.false_and, Bool.false_eq_true, and_false, if_false]
      · unfold ch_sw
        simp only [z, false_and, if_false]
    refine br_f ?_ ?_
    · rw [e8]
      exact nI_ge (by omega) (by omega)
    · refine x_seeWord hn hm _ ep ?_
      rw [es]
      cases e : ch_any (fun j => decide (wd j = nI (8 * p + t)) && ch_fx iw kw sr m j) n
      · refine br_t rfl (nm_r (nI_1 (8 * p + t)) ?_)
        unfold ch_ct at ih
        rw [ch_cnt, if_neg (by rw [e]; decide)] at ih
        exact ih
      · refine br_f (by decide) (nm_r (nI_1 _) (nm_r (nI_1 (8 * p + t)) ?_))
        unfold ch_ct at ih
        rw [ch_cnt, if_pos e] at ih
        exact ih
theorem x_fetchLazy (hn : n ≤ 300) {post : SX → Prop} {m p : Nat} (hm : m < 4) (hp8 : p < 8) (hp : post ((nI n), fr, st, aw, ch_cf ty m (nI (ch_ct wd (ch_fx iw kw sr m) n p 8)), hd, ro, ln, sp, bf, ra, mk, wd, iw, wr, kw, ch_sw (ch_pt wd (ch_fx iw kw sr m) p 8) m sr n)) : wpX_fetchLazy post ((nI n), fr, st, aw, ty, hd, ro, ln, sp, bf, ra, mk, wd, iw, wr, kw, sr) (nI m) (nI p) := by
  have h := x_fetch_11 hn hm hp8 hp 8 0 (by omega)
  have e0 : ch_sw (ch_pt wd (ch_fx iw kw sr m) p 0) m sr n = sr := by
    funext j
    exact if_neg (fun q => absurd q.2 (by rw [show ch_pt wd (ch_fx iw kw sr m) p 0 j = false from rfl]; decide))
  rw [e0] at h
  have e1 : nI p * 8 = nI (8 * p) := by rw [show (8 : Int32) = nI 8 from rfl, pk_mul, Nat.mul_comm]
  exact nm_r e1 ⟨9, h⟩
end fx

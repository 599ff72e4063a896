/-! an access: X's side -/
/-- an access that j would race with -/
def ch_rx (wd iw kw : Nat → Int32) (m w : Nat) (g : Bool) (j : Nat) : Bool := decide (wd j = nI w) && ((g || decide (¬ iw j = 0)) && !(bt (kw j) m))
/-- a write that gives the value -/
def ch_px (wd iw sr sp : Nat → Int32) (m w p : Nat) (j : Nat) : Bool := decide (¬ iw j = 0) && (decide (wd j = nI w) && (decide (¬ sp p = 0) || bt (sr j) m))
def ch_kt (ty : Nat → Int32) (m : Nat) (b : Bool) : Nat → Int32 := match b with
  | true => upd (upd ty (5 * m + 2) (ty (5 * m + 2) + 1)) (5 * m + 3) (upd ty (5 * m + 2) (ty (5 * m + 2) + 1) (5 * m + 3) + 1)
  | false => upd ty (5 * m + 3) (ty (5 * m + 3) + 1)
def ch_up (a : Nat → Int32) (w : Nat) (b : Bool) : Nat → Int32 := match b with
  | true => upd a w (a w + 1)
  | false => a
theorem ch_Tkt {ty fe mv rc md lo : Nat → Int32} {m : Nat} (b : Bool) (TT : ch_T ty fe mv rc md lo) : ch_T (ch_kt ty m b) fe mv (ch_up rc m b) (upd md m (md m + 1)) lo := by
  intro k hk
  obtain ⟨t0, t1, t2, t3, t4⟩ := TT k hk
  cases b
  · show upd ty (5 * m + 3) (ty (5 * m + 3) + 1) (5 * k) = _ ∧ upd ty (5 * m + 3) (ty (5 * m + 3) + 1) (5 * k + 1) = _ ∧ upd ty (5 * m + 3) (ty (5 * m + 3) + 1) (5 * k + 2) = rc k ∧ upd ty (5 * m + 3) (ty (5 * m + 3) + 1) (5 * k + 3) = _ ∧ upd ty (5 * m + 3) (ty (5 * m + 3) + 1) (5 * k + 4) = _
    rw [pk_un (by omega), pk_un (by omega), pk_un (by omega), pk_un (j := 5 * k + 4) (by omega)]
    refine ⟨t0, t1, t2, ?_, t4⟩
    by_cases z : k = m
    · subst z
      rw [pk_us, pk_us, t3]
    · rw [pk_un (by omega), pk_un z, t3]
  · show upd (upd ty (5 * m + 2) (ty (5 * m + 2) + 1)) (5 * m + 3) (upd ty (5 * m + 2) (ty (5 * m + 2) + 1) (5 * m + 3) + 1) (5 * k) = _ ∧ upd (upd ty (5 * m + 2) (ty (5 * m + 2) + 1)) (5 * m + 3) (upd ty (5 * m + 2) (ty (5 * m + 2) + 1) (5 * m + 3) + 1) (5 * k + 1) = _ ∧ upd (upd ty (5 * m + 2) (ty (5 * m + 2) + 1)) (5 * m + 3) (upd ty (5 * m + 2) (ty (5 * m + 2) + 1) (5 * m + 3) + 1) (5 * k + 2) = upd rc m (rc m + 1) k ∧ upd (upd ty (5 * m + 2) (ty (5 * m + 2) + 1)) (5 * m + 3) (upd ty (5 * m + 2) (ty (5 * m + 2) + 1) (5 * m + 3) + 1) (5 * k + 3) = _ ∧ upd (upd ty (5 * m + 2) (ty (5 * m + 2) + 1)) (5 * m + 3) (upd ty (5 * m + 2) (ty (5 * m + 2) + 1) (5 * m + 3) + 1) (5 * k + 4) = _
    refine ⟨?_, ?_, ?_, ?_, ?_⟩
    · rw [pk_un (by omega), pk_un (by omega), t0]
    · rw [pk_un (by omega), pk_un (by omega), t1]
    · rw [pk_un (by omega)]
      by_cases z : k = m
      · subst z
        rw [pk_us, pk_us, t2]
      · rw [pk_un (by omega), pk_un z, t2]
    · by_cases z : k = m
      · subst z
        rw [pk_us, pk_us, pk_un (by omega), t3]
      · rw [pk_un (by omega), pk_un (by omega), pk_un z, t3]
    · rw [pk_un (by omega), pk_un (by omega), t4]
section ax
variable {n : Nat} {fr : Int32} {st aw ty hd ro ln sp bf ra mk wd iw wr kw sr : Nat → Int32}
theorem x_rac_37 {fk : Int32} {post : Int32 → Prop} {J : Int32 → Prop} {m i : Nat} {x2 x3 : Int32} (hi : i < 300) (hm : m < 4) (t : bt (kw i) m = false → post 1) (f : bt (kw i) m = true → J (nI (i + 1))) : wX_isRacing_37 post J (nI m) x2 x3 (nI i) fk fr st aw ty hd ro ln sp bf ra mk wd iw wr kw sr := by
  unfold wX_isRacing_37
  refine x_isKnown hi (by omega) ?_
  cases e : bt (kw i) m
  · exact br_t rfl (t e)
  · exact br_f (by decide) (nm_r (nI_1 i) (f e))
theorem x_rac_3 (hn : n ≤ 300) {post : Int32 → Prop} {m w : Nat} (g : Bool) (hm : m < 4) : ∀ d i, i + d = n → (∀ j, j < i → ch_rx wd iw kw m w g j = false) → post (ch_b (ch_any (ch_rx wd iw kw m w g) n)) → wX_isRacing_3 post (nI m) (nI w) (ch_b g) (nI n) fr st aw ty hd ro ln sp bf ra mk wd iw wr kw sr (d + 1) (nI i) := by
  intro d
  induction d with
  | zero =>
    intro i hi hj hp
    have : i = n := by omega
    subst this
    refine br_t (nI_le (Nat.le_refl _) (by omega)) ?_
    rw [ch_any_f hj] at hp
    exact hp
  | succ d ih =>
    intro i hi hj hp
    have next : ch_rx wd iw kw m w g i = false → wX_isRacing_3 post (nI m) (nI w) (ch_b g) (nI n) fr st aw ty hd ro ln sp bf ra mk wd iw wr kw sr (d + 1) (nI (i + 1)) := by
      intro e
      refine ih (i + 1) (by omega) ?_ hp
      intro j h
      by_cases q : j = i
      · rw [q]; exact e
      · exact hj j (by omega)
    have i3 : vp_in (nI i) 300 := vp_in_nI (by omega) (by decide)
    have go : wd i = nI w → (g || decide (¬ iw i = 0)) = true → wX_isRacing_37 post (wX_isRacing_3 post (nI m) (nI w) (ch_b g) (nI n) fr st aw ty hd ro ln sp bf ra mk wd iw wr kw sr (d + 1)) (nI m) (nI w) (ch_b g) (nI i) (nI n) fr st aw ty hd ro ln sp bf ra mk wd iw wr kw sr := by
      intro a c
      refine x_rac_37 (by omega) hm (fun e => ?_) (fun e => next ?_)
      · rw [ch_any_t (i := i) (by omega) (by unfold ch_rx; rw [decide_eq_true a, c, e]; rfl)] at hp
        exact hp
      · unfold ch_rx
        rw [e]
        simp
    refine br_f (nI_ge (by omega) (by omega)) ⟨i3, ?_⟩
    rw [nI_clamp (by omega)]
    refine br_c (fun a => ?_) (fun a => nm_r (nI_1 i) (next ?_))
    · cases g
      · refine br_t rfl ⟨i3, br_c (fun c => nm_r (nI_1 i) (next ?_)) (fun c => go a ?_)⟩
        · unfold ch_rx
          rw [c]
          simp
        · rw [decide_eq_true c]
          rfl
      · exact br_f (by decide) (go a rfl)
    · unfold ch_rx
      rw [decide_eq_false a, Bool.false_and]
theorem x_isRacing (hn : n ≤ 300) {post : Int32 → Prop} {m w : Nat} (g : Bool) (hm : m < 4) (hp : post (ch_b (ch_any (ch_rx wd iw kw m w g) n))) : wpX_isRacing post ((nI n), fr, st, aw, ty, hd, ro, ln, sp, bf, ra, mk, wd, iw, wr, kw, sr) (nI m) (nI w) (ch_b g) :=
  ⟨n + 1, x_rac_3 hn g hm n 0 (by omega) (fun j h => absurd h (Nat.not_lt_zero j)) hp⟩
theorem x_val_21 (hn : n ≤ 300) {post : Int32 → Prop} {m w p : Nat} {v0 : Int32} (hm : m < 4) (hp : post (ch_lv (ch_px wd iw sr sp m w p) wr v0 n)) : ∀ d i, i + d = n → wX_valueAt_21 post (nI m) (nI w) (sp p) (nI n) fr st aw ty hd ro ln sp bf ra mk wd iw wr kw sr (d + 1) (ch_lv (ch_px wd iw sr sp m w p) wr v0 i) (nI i) := by
  intro d
  induction d with
  | zero =>
    intro i hi
    have : i = n := by omega
    subst this
    exact br_t (nI_le (Nat.le_refl _) (by omega)) hp
  | succ d ih =>
    intro i hi
    have ih := ih (i + 1) (by omega)
    rw [ch_lv] at ih
    have i3 : vp_in (nI i) 300 := vp_in_nI (by omega) (by decide)
    have no : ch_px wd iw sr sp m w p i = false → wX_valueAt_21 post (nI m) (nI w) (sp p) (nI n) fr st aw ty hd ro ln sp bf ra mk wd iw wr kw sr (d + 1) (ch_lv (ch_px wd iw sr sp m w p) wr v0 i) (nI (i + 1)) := by
      intro e
      rw [if_neg (by rw [e]; decide)] at ih
      exact ih
    have yes : ch_px wd iw sr sp m w p i = true → wX_valueAt_21 post (nI m) (nI w) (sp p) (nI n) fr st aw ty hd ro ln sp bf ra mk wd iw wr kw sr (d + 1) (wr i) (nI (i + 1)) := by
      intro e
      rw [if_pos e] at ih
      exact ih
    refine br_f (nI_ge (by omega) (by omega)) ⟨i3, ?_⟩
    rw [nI_clamp (by omega)]
    refine br_c (fun a => nm_r (nI_1 i) (no ?_)) (fun a => ⟨i3, br_c (fun b => br_c (fun c => ?_) (fun c => ⟨i3, nm_e (nm_r (nI_1 i) (yes ?_))⟩)) (fun b => nm_r (nI_1 i) (no ?_))⟩)
    · unfold ch_px
      rw [a]
      simp
    · refine x_isSeen (by omega) (by omega) ?_
      cases e : bt (sr i) m
      · refine br_t rfl (nm_r (nI_1 i) (no ?_))
        unfold ch_px
        rw [e, c]
        simp
      · refine br_f (by decide) ⟨i3, nm_e (nm_r (nI_1 i) (yes ?_))⟩
        unfold ch_px
        rw [e, decide_eq_true a, decide_eq_true b]
        simp
    · unfold ch_px
      rw [decide_eq_true a, decide_eq_true b, decide_eq_true c]
      rfl
    · unfold ch_px
      rw [decide_eq_false b]
      simp
theorem ch_w8 {w : Nat} (hw : w < 64) : nI w / 8 = nI (w / 8) := by
  rw [show (8 : Int32) = nI 8 from rfl]
  exact pk_div (by omega) (by decide) (by decide)
theorem x_valueAt (hn : n ≤ 300) {post : Int32 → Prop} {m w : Nat} (hm : m < 4) (hw : w < 64) (hp : post (ch_lv (ch_px wd iw sr sp m w (w / 8)) wr (bf w) n)) : wpX_valueAt post ((nI n), fr, st, aw, ty, hd, ro, ln, sp, bf, ra, mk, wd, iw, wr, kw, sr) (nI m) (nI w) := by
  unfold wpX_valueAt
  dsimp only
  rw [ch_w8 hw, nI_clamp (n := w / 8) (by omega), nI_clamp (n := w) (by omega)]
  exact ⟨by decide, vp_in_nI (by omega) (by decide), nm_e ⟨vp_in_nI hw (by decide), nm_e ⟨n + 1, x_val_21 hn hm hp n 0 (by omega)⟩⟩⟩
theorem x_keep_38 (hn : n < 300) {post : Int32 → SX → Prop} {m w : Nat} {v : Int32} {g b : Bool} (hm : m < 4) (hp : post (ch_b b) (nI (n + 1), fr, st, aw, upd ty (5 * m + 3) (ty (5 * m + 3) + 1), hd, ro, ln, sp, bf, ra, upd mk n (nI m), upd wd n (nI w), upd iw n (ch_b g), upd wr n v, upd kw n ((1 : Int32) <<< (nI m &&& 31)), upd sr n ((1 : Int32) <<< (nI m &&& 31)))) : wX_keepAccess_38 post (nI m) (nI w) (ch_b g) v (ch_b b) (nI n) fr st aw ty hd ro ln sp bf ra mk wd iw wr kw sr := by
  unfold wX_keepAccess_38
  have e3 : nI m * 5 + 3 = nI (5 * m + 3) := ch_z5 m 3
  have i3 : vp_in (nI n) 300 := vp_in_nI hn (by decide)
  have a3 : vp_in (nI (5 * m + 3)) 20 := vp_in_nI (by omega) (by decide)
  rw [e3, nI_clamp (n := 5 * m + 3) (by omega), nI_clamp (n := n) (by omega), ch_vb, nI_1 n]
  exact ⟨a3, a3, nm_e ⟨i3, nm_e ⟨i3, nm_e ⟨i3, nm_e ⟨i3, nm_e ⟨i3, nm_e ⟨i3, nm_e (nm_e ⟨ch_nb b, hp⟩)⟩⟩⟩⟩⟩⟩⟩
theorem x_keepAccess (hn : n < 300) {post : Int32 → SX → Prop} {m w : Nat} {v : Int32} {g b : Bool} (hm : m < 4) (hw : w < 64) (hb : ch_any (ch_rx wd iw kw m w g) n = b) (hp : post (ch_b b) (nI (n + 1), fr, st, aw, ch_kt ty m b, hd, ro, ln, sp, bf, ch_up ra w b, upd mk n (nI m), upd wd n (nI w), upd iw n (ch_b g), upd wr n v, upd kw n ((1 : Int32) <<< (nI m &&& 31)), upd sr n ((1 : Int32) <<< (nI m &&& 31)))) : wpX_keepAccess post ((nI n), fr, st, aw, ty, hd, ro, ln, sp, bf, ra, mk, wd, iw, wr, kw, sr) (nI m) (nI w) (ch_b g) v := by
  unfold wpX_keepAccess
  dsimp only
  refine x_isRacing (by omega) g hm ?_
  rw [hb]
  cases b
  · exact br_t rfl (x_keep_38 (b := false) hn hm hp)
  · have e2 : nI m * 5 + 2 = nI (5 * m + 2) := ch_z5 m 2
    have a2 : vp_in (nI (5 * m + 2)) 20 := vp_in_nI (by omega) (by decide)
    have a6 : vp_in (nI w) 64 := vp_in_nI hw (by decide)
    rw [e2, nI_clamp (n := 5 * m + 2) (by omega), nI_clamp (n := w) (by omega)]
    exact br_f (by decide) ⟨a2, a2, nm_e ⟨a6, a6, nm_e (x_keep_38 (b := true) hn hm hp)⟩⟩
theorem x_take_12 (hn : n ≤ 300) {m p : Nat} (hm : m < 4) : ∀ (d i : Nat) (ty : Nat → Int32), i + d = 4 → ∃ ty' : Nat → Int32, (∀ k, i ≤ k → k < 4 → ty' (5 * k + 4) = if ¬ k = m ∧ ch_hv mk wd iw (nI k) (nI p) n = true then ty (5 * k + 4) + 1 else ty (5 * k + 4)) ∧ (∀ j, (∀ k, i ≤ k → k < 4 → ¬ j = 5 * k + 4) → ty' j = ty j) ∧ ∀ post : SX → Prop, post ((nI n), fr, st, aw, ty', hd, ro, ln, sp, bf, ra, mk, wd, iw, wr, kw, sr) → wX_takeFromOthers_12 post (nI m) (nI p) (nI n) fr (d + 1) (nI i) st aw ty hd ro ln sp bf ra mk wd iw wr kw sr := by
  intro d
  induction d with
  | zero =>
    intro i ty hi
    have : i = 4 := by omega
    subst this
    exact ⟨ty, fun k h1 h2 => by omega, fun j _ => rfl, fun post h => br_t (nI_le (b := 4) (Nat.le_refl 4) (by decide)) h⟩
  | succ d ih =>
    intro i ty hi
    have gt : ¬ (4 : Int32) ≤ nI i := nI_ge (b := 4) (by omega) (by decide)
    by_cases q : ¬ i = m ∧ ch_hv mk wd iw (nI i) (nI p) n = true
    · obtain ⟨ty', h1, h2, h3⟩ := ih (i + 1) (upd ty (5 * i + 4) (ty (5 * i + 4) + 1)) (by omega)
      refine ⟨ty', fun k hk hk2 => ?_, fun j hj => ?_, fun post h => ?_⟩
      · by_cases z : k = i
        · subst z
          rw [h2 _ (fun k2 _ _ => by omega), pk_us, if_pos q]
        · rw [h1 k (by omega) hk2, pk_un (by omega)]
      · rw [h2 j (fun k hk hk2 => hj k (by omega) hk2), pk_un (hj i (by omega) (by omega))]
      · have e4 : nI i * 5 + 4 = nI (5 * i + 4) := ch_z5 i 4
        have a4 : vp_in (nI (5 * i + 4)) 20 := vp_in_nI (by omega) (by decide)
        have ne : ¬ nI i = nI m := fun e => q.1 ((nI_eq (by omega) (by omega)).mp e)
        refine br_f gt (br_f ne (x_hasPage hn ?_))
        rw [q.2, e4, nI_clamp (n := 5 * i + 4) (by omega)]
        exact br_f (by decide) ⟨a4, a4, nm_e (nm_r (nI_1 i) (h3 post h))⟩
    · obtain ⟨ty', h1, h2, h3⟩ := ih (i + 1) ty (by omega)
      refine ⟨ty', fun k hk hk2 => ?_, fun j hj => ?_, fun post h => ?_⟩
      · by_cases z : k = i
        · subst z
          rw [h2 _ (fun k2 _ _ => by omega), if_neg q]
        · exact h1 k (by omega) hk2
      · exact h2 j (fun k hk hk2 => hj k (by omega) hk2)
      · refine br_f gt (br_c (fun _ => nm_r (nI_1 i) (h3 post h)) (fun ne => x_hasPage hn ?_))
        have e : ch_hv mk wd iw (nI i) (nI p) n = false := ch_nt (fun z => q ⟨fun e => ne (by rw [e]), z⟩)
        rw [e]
        exact br_t rfl (nm_r (nI_1 i) (h3 post h))
end ax

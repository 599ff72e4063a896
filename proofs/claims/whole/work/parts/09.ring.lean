/-! ring: X goes four steps, Y five -/
def ch_nx (aw hd : Nat → Int32) (m : Nat) : Nat := (hd (aw m).toNatClampNeg).toNatClampNeg
def ch_rv (st : Nat → Int32) (nx : Nat → Nat) (a : Nat) : Nat → Nat → Int32
  | 0, _ => 0
  | k + 1, m => if st m = 1 then (if nx m = a then 1 else ch_rv st nx a k (nx m)) else 0
section rg
variable {n : Nat} {fr lr : Int32} {st aw ty hd ro ln sp bf ra mk wd iw wr kw sr vl kn sn kp ry fe mv rc md lo : Nat → Int32}
variable {L : Nat → Nat} {T : Nat → Nat → Nat}
theorem ch_step (Q : ch_Q L T st aw hd) {m : Nat} (hm : m < 4) (hs : st m = 1) : ∃ l, l < 4 ∧ aw m = nI l ∧ hd l = nI (ch_nx aw hd m) ∧ ch_nx aw hd m < 4 := by
  obtain ⟨_, b, _, d, e, f⟩ := Q
  obtain ⟨l, k, hl, hk, et⟩ := d m hm hs
  have h1 := ((b l k (by omega) hk).2.1 hl).2
  rw [et] at h1
  rcases f l hl with h2 | ⟨m2, hm2, h2⟩
  · exact absurd h2 (e l hl (by omega))
  · have h3 : ch_nx aw hd m = m2 := by
      unfold ch_nx
      rw [h1, nI_clamp (by omega), h2, nI_clamp (by omega)]
    exact ⟨l, hl, h1, by rw [h3]; exact h2, by rw [h3]; exact hm2⟩
theorem x_ring_14 (Q : ch_Q L T st aw hd) {post : Int32 → Prop} {a : Nat} (ha : a < 4) : ∀ d k m, k + d = 4 → m < 4 → post (ch_rv st (ch_nx aw hd) a d m) → wX_ring_14 post (nI a) (nI n) fr st aw ty hd ro ln sp bf ra mk wd iw wr kw sr (d + 1) (nI m) (nI k) := by
  intro d
  induction d with
  | zero =>
    intro k m hk hm hp
    have : k = 4 := by omega
    subst this
    exact br_t (nI_le (b := 4) (Nat.le_refl 4) (by decide)) hp
  | succ d ih =>
    intro k m hk hm hp
    refine br_f (nI_ge (b := 4) (by omega) (by decide)) (br_f (ch_neg1 hm) ⟨vp_in_nI hm (by decide), ?_⟩)
    rw [nI_clamp (n := m) (by omega)]
    unfold ch_rv at hp
    refine br_c (fun s => ?_) (fun s => ?_)
    · obtain ⟨l, hl, e1, e2, e3⟩ := ch_step Q hm s
      rw [if_pos s] at hp
      rw [e1, nI_clamp (n := l) (by omega)]
      refine ⟨vp_in_nI hm (by decide), vp_in_nI hl (by decide), nm_r e2 (br_c (fun q => ?_) (fun q => ?_))⟩
      · have := (nI_eq (by omega) (by omega)).mp q
        rw [if_pos this] at hp
        exact hp
      · have q2 : ¬ ch_nx aw hd m = a := fun z => q (by rw [z])
        rw [if_neg q2] at hp
        exact nm_r (nI_1 k) (ih (k + 1) _ (by omega) e3 hp)
    · rw [if_neg s] at hp
      exact hp
theorem y_ring_14 (Q : ch_Q L T st aw hd) {post : Int32 → Prop} {a : Nat} (ha : a < 4) : ∀ d k m, k + d = 5 → m < 4 → post (ch_rv st (ch_nx aw hd) a d m) → wY_ring_14 post (nI a) (nI n) fr lr mk wd vl iw kn sn kp bf sp st aw hd ry ln fe mv rc md lo ra (d + 1) (nI m) (nI k) := by
  intro d
  induction d with
  | zero =>
    intro k m hk hm hp
    have : k = 5 := by omega
    subst this
    exact br_t (nI_le (b := 5) (Nat.le_refl 5) (by decide)) hp
  | succ d ih =>
    intro k m hk hm hp
    refine br_f (nI_ge (b := 5) (by omega) (by decide)) ⟨vp_in_nI hm (by decide), ?_⟩
    rw [nI_clamp (n := m) (by omega)]
    unfold ch_rv at hp
    refine br_c (fun s => ?_) (fun s => ?_)
    · obtain ⟨l, hl, e1, e2, e3⟩ := ch_step Q hm s
      rw [if_pos s] at hp
      rw [e1, nI_clamp (n := l) (by omega)]
      refine ⟨vp_in_nI hm (by decide), vp_in_nI hl (by decide), nm_r e2 (br_c (fun q => ?_) (fun q => ?_))⟩
      · have := (nI_eq (by omega) (by omega)).mp q
        rw [if_pos this] at hp
        exact hp
      · have q2 : ¬ ch_nx aw hd m = a := fun z => q (by rw [z])
        rw [if_neg q2] at hp
        exact nm_r (nI_1 k) (ih (k + 1) _ (by omega) e3 hp)
    · rw [if_neg s] at hp
      exact hp
theorem ch_rv54 (nx : Nat → Nat) (a : Nat) (ha : a < 4) (hs : ∀ m, m < 4 → st m = 1 → nx m < 4) : ch_rv st nx a 5 a = ch_rv st nx a 4 a := by
  show (if st a = 1 then (if nx a = a then 1 else ch_rv st nx a 4 (nx a)) else 0) = (if st a = 1 then (if nx a = a then 1 else ch_rv st nx a 3 (nx a)) else 0)
  by_cases s0 : st a = 1
  · rw [if_pos s0, if_pos s0]
    have h1 := hs a ha s0
    generalize eb : nx a = b at h1 ⊢
    by_cases q1 : b = a
    · rw [if_pos q1, if_pos q1]
    · rw [if_neg q1, if_neg q1]
      show (if st b = 1 then (if nx b = a then 1 else ch_rv st nx a 3 (nx b)) else 0) = (if st b = 1 then (if nx b = a then 1 else ch_rv st nx a 2 (nx b)) else 0)
      by_cases s1 : st b = 1
      · rw [if_pos s1, if_pos s1]
        have h2 := hs b h1 s1
        generalize ec : nx b = c at h2 ⊢
        by_cases q2 : c = a
        · rw [if_pos q2, if_pos q2]
        · rw [if_neg q2, if_neg q2]
          show (if st c = 1 then (if nx c = a then 1 else ch_rv st nx a 2 (nx c)) else 0) = (if st c = 1 then (if nx c = a then 1 else ch_rv st nx a 1 (nx c)) else 0)
          by_cases s2 : st c = 1
          · rw [if_pos s2, if_pos s2]
            have h3 := hs c h2 s2
            generalize ed : nx c = d at h3 ⊢
            by_cases q3 : d = a
            · rw [if_pos q3, if_pos q3]
            · rw [if_neg q3, if_neg q3]
              show (if st d = 1 then (if nx d = a then 1 else ch_rv st nx a 1 (nx d)) else 0) = (if st d = 1 then (if nx d = a then 1 else 0) else 0)
              by_cases s3 : st d = 1
              · rw [if_pos s3, if_pos s3]
                have h4 := hs d h3 s3
                generalize ee : nx d = e at h4 ⊢
                by_cases q4 : e = a
                · rw [if_pos q4, if_pos q4]
                · rw [if_neg q4, if_neg q4]
                  show (if st e = 1 then (if nx e = a then 1 else 0) else 0) = (0 : Int32)
                  rw [if_neg (ch_ringN nx a b c d e ha h1 h2 h3 h4 ec ed ee q1 q2 q3 q4)]
                  by_cases s4 : st e = 1
                  · rw [if_pos s4]
                  · rw [if_neg s4]
              · rw [if_neg s3, if_neg s3]
          · rw [if_neg s2, if_neg s2]
      · rw [if_neg s1, if_neg s1]
  · rw [if_neg s0, if_neg s0]
theorem v_ring (Q : ch_Q L T st aw hd) (v1 : Int32) : ∃ r, (∀ post : Int32 → Prop, post r → wpX_ring post ((nI n), fr, st, aw, ty, hd, ro, ln, sp, bf, ra, mk, wd, iw, wr, kw, sr) v1) ∧ (∀ post : Int32 → Prop, post r → wpY_ring post ((nI n), fr, lr, mk, wd, vl, iw, kn, sn, kp, bf, sp, st, aw, hd, ry, ln, fe, mv, rc, md, lo, ra) v1) := by
  by_cases a : ch_rg 4 v1
  · obtain ⟨m, hm, rfl⟩ := a
    refine ⟨ch_rv st (ch_nx aw hd) m 4 m, fun post h => ?_, fun post h => ?_⟩
    · unfold wpX_ring
      dsimp only
      refine x_isMachine (fun _ => br_f (by decide) ?_) (fun z => absurd ⟨m, hm, rfl⟩ z)
      exact ⟨5, x_ring_14 Q hm 4 0 m (by omega) hm h⟩
    · unfold wpY_ring
      dsimp only
      refine y_in (N := 4) rfl (by decide) (fun _ => br_f (by decide) ?_) (fun z => absurd ⟨m, hm, rfl⟩ z)
      refine ⟨6, y_ring_14 Q hm 5 0 m (by omega) hm ?_⟩
      rw [ch_rv54 _ m hm (fun m2 h2 s2 => by obtain ⟨l, _, _, _, h⟩ := ch_step Q h2 s2; exact h)]
      exact h
  · refine ⟨-1, fun post h => ?_, fun post h => ?_⟩
    · unfold wpX_ring
      dsimp only
      exact x_isMachine (fun z => absurd z a) (fun _ => br_t rfl h)
    · unfold wpY_ring
      dsimp only
      exact y_in (N := 4) rfl (by decide) (fun z => absurd z a) (fun _ => br_t rfl h)
end rg

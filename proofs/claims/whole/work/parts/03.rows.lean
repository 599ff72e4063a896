/-! the rows of the locks, pure: L r is how many stand in row r, T r k who is the k-th -/
def ch_Q (L : Nat → Nat) (T : Nat → Nat → Nat) (st aw hd : Nat → Int32) : Prop :=
  (∀ r, r < 8 → L r ≤ 4) ∧
  (∀ r k, r < 8 → k < L r → T r k < 4 ∧ (r < 4 → st (T r k) = 1 ∧ aw (T r k) = nI r) ∧ (4 ≤ r → st (T r k) = 3)) ∧
  (∀ r k s j, r < 8 → k < L r → s < 8 → j < L s → T r k = T s j → r = s ∧ k = j) ∧
  (∀ m, m < 4 → st m = 1 → ∃ l k, l < 4 ∧ k < L l ∧ T l k = m) ∧
  (∀ l, l < 4 → 0 < L l → ¬ hd l = -1) ∧
  (∀ l, l < 4 → hd l = -1 ∨ ∃ m, m < 4 ∧ hd l = nI m)
/-- the same with x between two rows -/
def ch_P (L : Nat → Nat) (T : Nat → Nat → Nat) (st aw hd : Nat → Int32) (x : Nat) : Prop :=
  x < 4 ∧
  (∀ r k, r < 8 → k < L r → ¬ T r k = x) ∧
  (∀ r, r < 8 → L r ≤ 4) ∧
  (∀ r k, r < 8 → k < L r → T r k < 4 ∧ (r < 4 → st (T r k) = 1 ∧ aw (T r k) = nI r) ∧ (4 ≤ r → st (T r k) = 3)) ∧
  (∀ r k s j, r < 8 → k < L r → s < 8 → j < L s → T r k = T s j → r = s ∧ k = j) ∧
  (∀ m, m < 4 → ¬ m = x → st m = 1 → ∃ l k, l < 4 ∧ k < L l ∧ T l k = m) ∧
  (∀ l, l < 4 → 0 < L l → ¬ hd l = -1) ∧
  (∀ l, l < 4 → hd l = -1 ∨ ∃ m, m < 4 ∧ hd l = nI m)
def ch_pL (L : Nat → Nat) (r : Nat) : Nat → Nat := fun s => if s = r then L s + 1 else L s
def ch_pT (L : Nat → Nat) (T : Nat → Nat → Nat) (r m : Nat) : Nat → Nat → Nat := fun s k => if s = r ∧ k = L r then m else T s k
def ch_oL (L : Nat → Nat) (r : Nat) : Nat → Nat := fun s => if s = r then L s - 1 else L s
def ch_oT (T : Nat → Nat → Nat) (r : Nat) : Nat → Nat → Nat := fun s k => if s = r then T s (k + 1) else T s k
theorem ch_neg1 {m : Nat} (h : m < 4) : ¬ nI m = -1 := by
  have h2 := nI_pos (n := m) (by omega)
  intro e
  rw [e] at h2
  exact h2 (by decide)
theorem ch_Pof {L : Nat → Nat} {T : Nat → Nat → Nat} {st aw hd : Nat → Int32} {x : Nat} (h : ch_Q L T st aw hd) (hx : x < 4) (h1 : ¬ st x = 1) (h3 : ¬ st x = 3) : ch_P L T st aw hd x := by
  obtain ⟨a, b, c, d, e, f⟩ := h
  refine ⟨hx, ?_, a, b, c, fun m hm _ hs => d m hm hs, e, f⟩
  intro r k hr hk et
  have hb := b r k hr hk
  rw [et] at hb
  by_cases h4 : r < 4
  · exact h1 (hb.2.1 h4).1
  · exact h3 (hb.2.2 (by omega))
theorem ch_Ppop {L : Nat → Nat} {T : Nat → Nat → Nat} {st aw hd : Nat → Int32} {r : Nat} (h : ch_Q L T st aw hd) (hr : r < 8) (h0 : 0 < L r) : ch_P (ch_oL L r) (ch_oT T r) st aw hd (T r 0) := by
  obtain ⟨a, b, c, d, e, f⟩ := h
  have hL : ∀ s k, k < ch_oL L r s → (s = r ∧ k + 1 < L r ∧ ch_oT T r s k = T r (k + 1)) ∨ (¬ s = r ∧ k < L s ∧ ch_oT T r s k = T s k) := by
    intro s k hk
    unfold ch_oL at hk
    unfold ch_oT
    by_cases es : s = r
    · rw [if_pos es] at hk
      rw [if_pos es, es]
      rw [es] at hk
      exact Or.inl ⟨rfl, by omega, rfl⟩
    · rw [if_neg es] at hk
      rw [if_neg es]
      exact Or.inr ⟨es, hk, rfl⟩
  refine ⟨(b r 0 hr h0).1, ?_, ?_, ?_, ?_, ?_, ?_, f⟩
  · intro s k hs hk et
    rcases hL s k hk with ⟨_, hk2, e2⟩ | ⟨es, hk2, e2⟩
    · rw [e2] at et
      have := (c r (k + 1) r 0 hr hk2 hr h0 et).2
      omega
    · rw [e2] at et
      exact es (c s k r 0 hs hk2 hr h0 et).1
  · intro s hs
    unfold ch_oL
    have := a s hs
    split <;> omega
  · intro s k hs hk
    rcases hL s k hk with ⟨es, hk2, e2⟩ | ⟨es, hk2, e2⟩
    · rw [e2, es]; exact b r (k + 1) hr hk2
    · rw [e2]; exact b s k hs hk2
  · intro s k t j hs hk ht hj et
    rcases hL s k hk with ⟨es, hk2, e2⟩ | ⟨es, hk2, e2⟩ <;> rcases hL t j hj with ⟨eu, hj2, e3⟩ | ⟨eu, hj2, e3⟩ <;> rw [e2, e3] at et
    · have := c r (k + 1) r (j + 1) hr hk2 hr hj2 et
      exact ⟨es.trans eu.symm, by omega⟩
    · exact absurd (c r (k + 1) t j hr hk2 ht hj2 et).1.symm eu
    · exact absurd (c s k r (j + 1) hs hk2 hr hj2 et).1 es
    · exact c s k t j hs hk2 ht hj2 et
  · intro m hm hx hs
    obtain ⟨l, k, hl, hk, et⟩ := d m hm hs
    by_cases el : l = r
    · subst el
      have hk0 : ¬ k = 0 := by
        intro e0
        rw [e0] at et
        exact hx et.symm
      obtain ⟨k2, rfl⟩ : ∃ k2, k = k2 + 1 := ⟨k - 1, by omega⟩
      refine ⟨l, k2, hl, ?_, ?_⟩
      · unfold ch_oL; rw [if_pos rfl]; omega
      · unfold ch_oT; rw [if_pos rfl]; exact et
    · refine ⟨l, k, hl, ?_, ?_⟩
      · unfold ch_oL; rw [if_neg el]; exact hk
      · unfold ch_oT; rw [if_neg el]; exact et
  · intro l hl h2
    apply e l hl
    unfold ch_oL at h2
    by_cases el : l = r
    · rw [if_pos el] at h2; omega
    · rw [if_neg el] at h2; exact h2
theorem ch_pig (a b c d x : Nat) (ha : a < 4) (hb : b < 4) (hc : c < 4) (hd : d < 4) (hx : x < 4) (h1 : ¬ a = x) (h2 : ¬ b = x) (h3 : ¬ c = x) (h4 : ¬ d = x) (h5 : ¬ a = b) (h6 : ¬ a = c) (h7 : ¬ a = d) (h8 : ¬ b = c) (h9 : ¬ b = d) (h10 : ¬ c = d) : False := by
  omega
theorem ch_room {L : Nat → Nat} {T : Nat → Nat → Nat} {st aw hd : Nat → Int32} {x r : Nat} (h : ch_P L T st aw hd x) (hr : r < 8) : L r < 4 := by
  obtain ⟨hx, hn, a, b, c, _⟩ := h
  have h4 := a r hr
  by_cases e : L r = 4
  · exfalso
    have i0 : 0 < L r := by omega
    have i1 : 1 < L r := by omega
    have i2 : 2 < L r := by omega
    have i3 : 3 < L r := by omega
    refine ch_pig (T r 0) (T r 1) (T r 2) (T r 3) x (b r 0 hr i0).1 (b r 1 hr i1).1 (b r 2 hr i2).1 (b r 3 hr i3).1 hx (hn r 0 hr i0) (hn r 1 hr i1) (hn r 2 hr i2) (hn r 3 hr i3) ?_ ?_ ?_ ?_ ?_ ?_
    · intro z; exact absurd (c r 0 r 1 hr i0 hr i1 z).2 (by decide)
    · intro z; exact absurd (c r 0 r 2 hr i0 hr i2 z).2 (by decide)
    · intro z; exact absurd (c r 0 r 3 hr i0 hr i3 z).2 (by decide)
    · intro z; exact absurd (c r 1 r 2 hr i1 hr i2 z).2 (by decide)
    · intro z; exact absurd (c r 1 r 3 hr i1 hr i3 z).2 (by decide)
    · intro z; exact absurd (c r 2 r 3 hr i2 hr i3 z).2 (by decide)
  · omega
theorem ch_pLc {L : Nat → Nat} {T : Nat → Nat → Nat} {r x s k : Nat} (hk : k < ch_pL L r s) : (s = r ∧ k = L r ∧ ch_pT L T r x s k = x) ∨ (k < L s ∧ ch_pT L T r x s k = T s k) := by
  unfold ch_pL at hk
  unfold ch_pT
  by_cases es : s = r
  · rw [if_pos es] at hk
    by_cases ek : k = L r
    · rw [if_pos ⟨es, ek⟩]; exact Or.inl ⟨es, ek, rfl⟩
    · rw [if_neg (fun z => ek z.2)]
      rw [es] at hk ⊢
      exact Or.inr ⟨by omega, rfl⟩
  · rw [if_neg es] at hk
    rw [if_neg (fun z => es z.1)]
    exact Or.inr ⟨hk, rfl⟩
/-- x goes to the end of a row; what the row asks of its state and of what it waits for is given -/
theorem ch_push {L : Nat → Nat} {T : Nat → Nat → Nat} {st aw hd st' aw' : Nat → Int32} {x r : Nat} (h : ch_P L T st aw hd x) (hr : r < 8) (es : ∀ m, ¬ m = x → st' m = st m) (ea : ∀ m, ¬ m = x → aw' m = aw m) (hw : r < 4 → st' x = 1 ∧ aw' x = nI r ∧ ¬ hd r = -1) (hz : 4 ≤ r → st' x = 3) : ch_Q (ch_pL L r) (ch_pT L T r x) st' aw' hd := by
  have hroom := ch_room h hr
  obtain ⟨hx, hn, a, b, c, d, e, f⟩ := h
  refine ⟨?_, ?_, ?_, ?_, ?_, f⟩
  · intro s hs
    unfold ch_pL
    have := a s hs
    by_cases q : s = r
    · rw [if_pos q, q]; omega
    · rw [if_neg q]; exact this
  · intro s k hs hk
    rcases ch_pLc (T := T) (x := x) hk with ⟨e1, e2, e3⟩ | ⟨e2, e3⟩
    · rw [e3, e1]
      exact ⟨hx, fun q => ⟨(hw q).1, (hw q).2.1⟩, hz⟩
    · rw [e3, es _ (hn s k hs e2), ea _ (hn s k hs e2)]
      exact b s k hs e2
  · intro s k t j hs hk ht hj et
    rcases ch_pLc (T := T) (x := x) hk with ⟨e1, e2, e3⟩ | ⟨e2, e3⟩ <;> rcases ch_pLc (T := T) (x := x) hj with ⟨f1, f2, f3⟩ | ⟨f2, f3⟩ <;> rw [e3, f3] at et
    · exact ⟨e1.trans f1.symm, e2.trans f2.symm⟩
    · exact absurd et.symm (hn t j ht f2)
    · exact absurd et (hn s k hs e2)
    · exact c s k t j hs e2 ht f2 et
  · intro m hm h1
    by_cases q : m = x
    · by_cases r4 : r < 4
      · refine ⟨r, L r, r4, ?_, ?_⟩
        · unfold ch_pL; rw [if_pos rfl]; omega
        · unfold ch_pT; rw [if_pos ⟨rfl, rfl⟩]; exact q.symm
      · exfalso
        rw [q, hz (by omega)] at h1
        exact absurd h1 (by decide)
    · rw [es m q] at h1
      obtain ⟨l, k, hl, hk, et⟩ := d m hm q h1
      refine ⟨l, k, hl, ?_, ?_⟩
      · unfold ch_pL; split <;> omega
      · unfold ch_pT
        rw [if_neg]
        · exact et
        · rintro ⟨g1, g2⟩
          rw [g1] at hk
          omega
  · intro l hl h0
    by_cases q : l = r
    · rw [q]; rw [q] at hl; exact (hw hl).2.2
    · unfold ch_pL at h0
      rw [if_neg q] at h0
      exact e l hl h0
/-- x is in no row and runs, or is at the barrier -/
theorem ch_set {L : Nat → Nat} {T : Nat → Nat → Nat} {st aw hd st' : Nat → Int32} {x : Nat} (h : ch_P L T st aw hd x) (es : ∀ m, ¬ m = x → st' m = st m) (h1 : ¬ st' x = 1) : ch_Q L T st' aw hd := by
  obtain ⟨hx, hn, a, b, c, d, e, f⟩ := h
  refine ⟨a, ?_, c, ?_, e, f⟩
  · intro r k hr hk
    rw [es _ (hn r k hr hk)]
    exact b r k hr hk
  · intro m hm h2
    by_cases q : m = x
    · rw [q] at h2; exact absurd h2 h1
    · rw [es m q] at h2; exact d m hm q h2
theorem ch_hd {L : Nat → Nat} {T : Nat → Nat → Nat} {st aw hd hd' : Nat → Int32} {l : Nat} (h : ch_Q L T st aw hd) (eh : ∀ j, ¬ j = l → hd' j = hd j) (hl : ∃ m, m < 4 ∧ hd' l = nI m) : ch_Q L T st aw hd' := by
  obtain ⟨a, b, c, d, e, f⟩ := h
  obtain ⟨m, hm, em⟩ := hl
  refine ⟨a, b, c, d, ?_, ?_⟩
  · intro j hj h0
    by_cases q : j = l
    · rw [q, em]; exact ch_neg1 hm
    · rw [eh j q]; exact e j hj h0
  · intro j hj
    by_cases q : j = l
    · rw [q]; exact Or.inr ⟨m, hm, em⟩
    · rw [eh j q]; exact f j hj
theorem ch_hdn {L : Nat → Nat} {T : Nat → Nat → Nat} {st aw hd hd' : Nat → Int32} {l : Nat} (h : ch_Q L T st aw hd) (eh : ∀ j, ¬ j = l → hd' j = hd j) (h0 : L l = 0) (hl : hd' l = -1) : ch_Q L T st aw hd' := by
  obtain ⟨a, b, c, d, e, f⟩ := h
  refine ⟨a, b, c, d, ?_, ?_⟩
  · intro j hj h1
    by_cases q : j = l
    · rw [q] at h1; omega
    · rw [eh j q]; exact e j hj h1
  · intro j hj
    by_cases q : j = l
    · rw [q]; exact Or.inl hl
    · rw [eh j q]; exact f j hj
theorem ch_open {L : Nat → Nat} {T : Nat → Nat → Nat} {st aw hd st' : Nat → Int32} (h : ch_Q L T st aw hd) (h2 : ∀ m, m < 4 → st m = 2) (h3 : ∀ m, m < 4 → ¬ st' m = 1) : ch_Q L T st' aw hd := by
  obtain ⟨a, b, c, d, e, f⟩ := h
  refine ⟨a, ?_, c, ?_, e, f⟩
  · intro r k hr hk
    exfalso
    have hb := b r k hr hk
    have h4 := h2 _ hb.1
    by_cases q : r < 4
    · rw [(hb.2.1 q).1] at h4; exact absurd h4 (by decide)
    · rw [hb.2.2 (by omega)] at h4; exact absurd h4 (by decide)
  · intro m hm h1
    exact absurd h1 (h3 m hm)
/-- the arrays hold the rows -/
def ch_W (L : Nat → Nat) (T : Nat → Nat → Nat) (ln ro : Nat → Int32) : Prop :=
  (∀ r, r < 8 → ln r = nI (L r)) ∧ (∀ r k, r < 8 → k < L r → ro (4 * r + k) = nI (T r k))
theorem ch_Wpush {L : Nat → Nat} {T : Nat → Nat → Nat} {ln ro : Nat → Int32} {r x : Nat} {y z : Int32} (h : ch_W L T ln ro) (hr : r < 8) (h4 : L r < 4) (ha : ∀ s, s < 8 → L s ≤ 4) (hy : y = nI (L r + 1)) (hz : z = nI x) : ch_W (ch_pL L r) (ch_pT L T r x) (upd ln r y) (upd ro (4 * r + L r) z) := by
  obtain ⟨a, b⟩ := h
  refine ⟨?_, ?_⟩
  · intro s hs
    unfold ch_pL
    by_cases q : s = r
    · rw [if_pos q, q, pk_us, hy]
    · rw [if_neg q, pk_un q, a s hs]
  · intro s k hs hk
    rcases ch_pLc (T := T) (x := x) hk with ⟨e1, e2, e3⟩ | ⟨e2, e3⟩
    · rw [e3, e1, e2, pk_us, hz]
    · have hs4 := ha s hs
      rw [e3, pk_un ?_, b s k hs e2]
      intro e
      have : s = r := by omega
      subst this
      omega
theorem ch_Wpop {L : Nat → Nat} {T : Nat → Nat → Nat} {ln ro ro' : Nat → Int32} {r : Nat} {y : Int32} (h : ch_W L T ln ro) (hr : r < 8) (h0 : 0 < L r) (ha : ∀ s, s < 8 → L s ≤ 4) (hy : y = nI (L r - 1)) (h1 : ∀ k, k + 1 < L r → ro' (4 * r + k) = ro (4 * r + (k + 1))) (h2 : ∀ j, j < 4 * r ∨ 4 * r + 4 ≤ j → ro' j = ro j) : ch_W (ch_oL L r) (ch_oT T r) (upd ln r y) ro' := by
  obtain ⟨a, b⟩ := h
  refine ⟨?_, ?_⟩
  · intro s hs
    unfold ch_oL
    by_cases q : s = r
    · rw [if_pos q, q, pk_us, hy]
    · rw [if_neg q, pk_un q, a s hs]
  · intro s k hs hk
    unfold ch_oL at hk
    unfold ch_oT
    have hs4 := ha s hs
    by_cases q : s = r
    · rw [if_pos q] at hk
      rw [if_pos q, q, h1 k (by rw [q] at hk; omega)]
      exact b r (k + 1) hr (by rw [q] at hk; omega)
    · rw [if_neg q] at hk
      rw [if_neg q, h2 _ (by omega)]
      exact b s k hs hk

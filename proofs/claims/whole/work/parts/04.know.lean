/-! who knows and who has seen: X's bits against Y's three tables -/
def ch_K (n : Nat) (mk iw hd knw sr kn sn kp : Nat → Int32) : Prop :=
  (∀ q i, q < 4 → i < n → kn (300 * q + i) = ch_b (bt (knw i) q)) ∧
  (∀ q i, q < 4 → i < n → kp (300 * q + i) = ch_b (bt (knw i) (4 + q))) ∧
  (∀ q i, q < 4 → i < n → iw i = 1 → sn (300 * q + i) = ch_b (bt (sr i) q)) ∧
  (∀ m i, m < 4 → i < n → mk i = nI m → bt (knw i) m = true) ∧
  (∀ l m i, l < 4 → m < 4 → hd l = nI m → i < n → bt (knw i) (4 + l) = true → bt (knw i) m = true)
theorem ch_adr {n m q i j : Nat} (hn : n ≤ 300) (hi : i < n) (hj : j < n) (h : ¬ q = m) : ¬ 300 * q + i = 300 * m + j := by omega
theorem ch_Kget {n l m : Nat} {mk iw hd knw sr kn sn kp hd' knw' kn' : Nat → Int32} (h : ch_K n mk iw hd knw sr kn sn kp) (hn : n ≤ 300) (hl : l < 4) (hm : m < 4)
    (e1 : ∀ i, i < n → knw' i = if bt (knw i) (4 + l) = true then knw i ||| ((1 : Int32) <<< (nI m &&& 31)) else knw i)
    (e2 : ∀ i, i < n → kn' (300 * m + i) = if kp (300 * l + i) = 0 then kn (300 * m + i) else 1)
    (e3 : ∀ j, (∀ i, i < n → ¬ j = 300 * m + i) → kn' j = kn j)
    (e4 : ∀ j, ¬ j = l → hd' j = hd j) (e5 : hd' l = nI m) : ch_K n mk iw hd' knw' sr kn' sn kp := by
  obtain ⟨a, b, c, d, e⟩ := h
  have hb : ∀ i q, i < n → q < 32 → bt (knw' i) q = (bt (knw i) q || (decide (q = m) && bt (knw i) (4 + l))) := by
    intro i q hi hq
    rw [e1 i hi]
    by_cases z : bt (knw i) (4 + l) = true
    · rw [if_pos z, ch_orb _ (by omega) hq, z, Bool.and_true]
    · rw [if_neg z, ch_nt z, Bool.and_false, Bool.or_false]
  refine ⟨?_, ?_, c, ?_, ?_⟩
  · intro q i hq hi
    rw [hb i q hi (by omega)]
    by_cases z : q = m
    · subst z
      rw [e2 i hi, b l i hl hi, a q i hq hi]
      cases bt (knw i) (4 + l) <;> cases bt (knw i) q <;> simp [ch_b]
    · rw [e3 _ (fun j hj => ch_adr hn hi hj z), a q i hq hi, decide_eq_false z, Bool.false_and, Bool.or_false]
  · intro q i hq hi
    rw [hb i (4 + q) hi (by omega), b q i hq hi, decide_eq_false (show ¬ 4 + q = m by omega), Bool.false_and, Bool.or_false]
  · intro k i hk hi hmk
    rw [hb i k hi (by omega), d k i hk hi hmk, Bool.true_or]
  · intro l2 m2 i hl2 hm2 hh hi hbit
    rw [hb i (4 + l2) hi (by omega), decide_eq_false (show ¬ 4 + l2 = m by omega), Bool.false_and, Bool.or_false] at hbit
    rw [hb i m2 hi (by omega)]
    by_cases z : l2 = l
    · subst z
      rw [e5] at hh
      have : m = m2 := (nI_eq (by omega) (by omega)).mp hh
      subst this
      rw [hbit, decide_eq_true rfl]
      simp
    · rw [e4 l2 z] at hh
      rw [e l2 m2 i hl2 hm2 hh hi hbit, Bool.true_or]
theorem ch_Kgive {n l m : Nat} {mk iw hd knw sr kn sn kp hd' knw' kp' : Nat → Int32} (h : ch_K n mk iw hd knw sr kn sn kp) (hn : n ≤ 300) (hl : l < 4) (hm : m < 4) (hh : hd l = nI m)
    (e1 : ∀ i, i < n → knw' i = if bt (knw i) m = true then knw i ||| ((1 : Int32) <<< (nI (4 + l) &&& 31)) else knw i)
    (e2 : ∀ i, i < n → kp' (300 * l + i) = kn (300 * m + i))
    (e3 : ∀ j, (∀ i, i < n → ¬ j = 300 * l + i) → kp' j = kp j)
    (e4 : ∀ j, ¬ j = l → hd' j = hd j) (e5 : hd' l = -1) : ch_K n mk iw hd' knw' sr kn sn kp' := by
  obtain ⟨a, b, c, d, e⟩ := h
  have hb : ∀ i q, i < n → q < 32 → bt (knw' i) q = (bt (knw i) q || (decide (q = 4 + l) && bt (knw i) m)) := by
    intro i q hi hq
    rw [e1 i hi]
    by_cases z : bt (knw i) m = true
    · rw [if_pos z, ch_orb _ (by omega) hq, z, Bool.and_true]
    · rw [if_neg z, ch_nt z, Bool.and_false, Bool.or_false]
  refine ⟨?_, ?_, c, ?_, ?_⟩
  · intro q i hq hi
    rw [hb i q hi (by omega), a q i hq hi, decide_eq_false (show ¬ q = 4 + l by omega), Bool.false_and, Bool.or_false]
  · intro q i hq hi
    rw [hb i (4 + q) hi (by omega)]
    by_cases z : q = l
    · subst z
      rw [e2 i hi, a m i hm hi, decide_eq_true rfl, Bool.true_and]
      have he := e q m i hq hm hh hi
      cases h1 : bt (knw i) (4 + q)
      · rw [Bool.false_or]
      · rw [he h1, Bool.true_or]
    · rw [e3 _ (fun j hj => ch_adr hn hi hj z), b q i hq hi, decide_eq_false (show ¬ 4 + q = 4 + l by omega), Bool.false_and, Bool.or_false]
  · intro k i hk hi hmk
    rw [hb i k hi (by omega), d k i hk hi hmk, Bool.true_or]
  · intro l2 m2 i hl2 hm2 h2 hi hbit
    have z : ¬ l2 = l := by
      intro z
      rw [z, e5] at h2
      exact ch_neg1 hm2 h2.symm
    rw [hb i (4 + l2) hi (by omega), decide_eq_false (show ¬ 4 + l2 = 4 + l by omega), Bool.false_and, Bool.or_false] at hbit
    rw [e4 l2 z] at h2
    rw [hb i m2 hi (by omega), e l2 m2 i hl2 hm2 h2 hi hbit, Bool.true_or]
theorem ch_Ksee {n m : Nat} {mk iw hd knw sr kn sn kp sr' sn' : Nat → Int32} (D : Nat → Bool) (h : ch_K n mk iw hd knw sr kn sn kp) (hn : n ≤ 300) (hm : m < 4)
    (e1 : ∀ i, i < n → sr' i = if D i = true then sr i ||| ((1 : Int32) <<< (nI m &&& 31)) else sr i)
    (e2 : ∀ i, i < n → sn' (300 * m + i) = if D i = true then 1 else sn (300 * m + i))
    (e3 : ∀ j, (∀ i, i < n → ¬ j = 300 * m + i) → sn' j = sn j) : ch_K n mk iw hd knw sr' kn sn' kp := by
  obtain ⟨a, b, c, d, e⟩ := h
  refine ⟨a, b, ?_, d, e⟩
  intro q i hq hi hw
  rw [e1 i hi]
  by_cases z : q = m
  · subst z
    rw [e2 i hi, c q i hq hi hw]
    by_cases y : D i = true
    · rw [if_pos y, if_pos y, ch_orb _ (by omega) (by omega), decide_eq_true rfl, Bool.or_true]
      rfl
    · rw [if_neg y, if_neg y]
  · rw [e3 _ (fun j hj => ch_adr hn hi hj z), c q i hq hi hw]
    by_cases y : D i = true
    · rw [if_pos y, ch_orb _ (by omega) (by omega), decide_eq_false z, Bool.or_false]
    · rw [if_neg y]
theorem ch_Kopen {n : Nat} {mk iw hd knw sr kn sn kp knw' kn' : Nat → Int32} (h : ch_K n mk iw hd knw sr kn sn kp)
    (e1 : ∀ i, i < n → knw' i = knw i ||| 15)
    (e2 : ∀ q i, q < 4 → i < n → kn' (300 * q + i) = 1) : ch_K n mk iw hd knw' sr kn' sn kp := by
  obtain ⟨a, b, c, d, e⟩ := h
  have t : ∀ q i, q < 4 → i < n → bt (knw' i) q = true := by
    intro q i hq hi
    rw [e1 i hi, ch_or15 _ (by omega), decide_eq_true hq, Bool.or_true]
  refine ⟨?_, ?_, c, ?_, ?_⟩
  · intro q i hq hi
    rw [e2 q i hq hi, t q i hq hi]
    rfl
  · intro q i hq hi
    rw [e1 i hi, ch_or15 _ (by omega), decide_eq_false (show ¬ 4 + q < 4 by omega), Bool.or_false]
    exact b q i hq hi
  · exact fun m i hm hi _ => t m i hm hi
  · exact fun l m i _ hm _ hi _ => t m i hm hi
theorem ch_Knew {n m : Nat} {mk iw hd knw sr kn sn kp kn' sn' kp' : Nat → Int32} {y z : Int32} (h : ch_K n mk iw hd knw sr kn sn kp) (hn : n < 300) (hm : m < 4) (hz : z = (1 : Int32) <<< (nI m &&& 31))
    (e1 : ∀ q, q < 4 → kn' (300 * q + n) = if q = m then 1 else 0)
    (e2 : ∀ j, (∀ q, q < 4 → ¬ j = 300 * q + n) → kn' j = kn j)
    (e3 : y = 1 → ∀ q, q < 4 → sn' (300 * q + n) = if q = m then 1 else 0)
    (e4 : ∀ j, (∀ q, q < 4 → ¬ j = 300 * q + n) → sn' j = sn j)
    (e5 : ∀ q, q < 4 → kp' (300 * q + n) = 0)
    (e6 : ∀ j, (∀ q, q < 4 → ¬ j = 300 * q + n) → kp' j = kp j) : ch_K (n + 1) (upd mk n (nI m)) (upd iw n y) hd (upd knw n z) (upd sr n z) kn' sn' kp' := by
  obtain ⟨a, b, c, d, e⟩ := h
  have ad : ∀ q i, i < n → ∀ k, k < 4 → ¬ 300 * q + i = 300 * k + n := by
    intro q i hi k _
    omega
  refine ⟨?_, ?_, ?_, ?_, ?_⟩
  · intro q i hq hi
    by_cases t : i = n
    · subst t
      rw [e1 q hq, pk_us, hz, ch_one m (by omega) q (by omega)]
      by_cases w : q = m
      · rw [if_pos w, decide_eq_true w]; rfl
      · rw [if_neg w, decide_eq_false w]; rfl
    · rw [e2 _ (ad q i (by omega)), pk_un t, a q i hq (by omega)]
  · intro q i hq hi
    by_cases t : i = n
    · subst t
      rw [e5 q hq, pk_us, hz, ch_one m (by omega) (4 + q) (by omega), decide_eq_false (show ¬ 4 + q = m by omega)]
      rfl
    · rw [e6 _ (ad q i (by omega)), pk_un t, b q i hq (by omega)]
  · intro q i hq hi hw
    by_cases t : i = n
    · subst t
      rw [pk_us] at hw
      rw [e3 hw q hq, pk_us, hz, ch_one m (by omega) q (by omega)]
      by_cases w : q = m
      · rw [if_pos w, decide_eq_true w]; rfl
      · rw [if_neg w, decide_eq_false w]; rfl
    · rw [pk_un t] at hw
      rw [e4 _ (ad q i (by omega)), pk_un t, c q i hq (by omega) hw]
  · intro k i hk hi hmk
    by_cases t : i = n
    · subst t
      rw [pk_us] at hmk
      have : m = k := (nI_eq (by omega) (by omega)).mp hmk
      subst this
      rw [pk_us, hz, ch_one m (by omega) m (by omega), decide_eq_true rfl]
    · rw [pk_un t] at hmk
      rw [pk_un t]
      exact d k i hk (by omega) hmk
  · intro l k i hl hk hh hi hbit
    by_cases t : i = n
    · subst t
      rw [pk_us, hz, ch_one m (by omega) (4 + l) (by omega), decide_eq_false (show ¬ 4 + l = m by omega)] at hbit
      cases hbit
    · rw [pk_un t] at hbit
      rw [pk_un t]
      exact e l k i hl hk hh (by omega) hbit
theorem ch_K0 {mk iw hd knw sr kn sn kp : Nat → Int32} : ch_K 0 mk iw hd knw sr kn sn kp :=
  ⟨fun _ i _ h => absurd h (Nat.not_lt_zero i), fun _ i _ h => absurd h (Nat.not_lt_zero i), fun _ i _ h => absurd h (Nat.not_lt_zero i), fun _ i _ h => absurd h (Nat.not_lt_zero i), fun _ _ i _ _ _ h => absurd h (Nat.not_lt_zero i)⟩
/-- the kept accesses -/
def ch_A (n : Nat) (mk wd iw wr vl : Nat → Int32) : Prop :=
  n ≤ 300 ∧ (∀ i, i < n → ∃ m, m < 4 ∧ mk i = nI m) ∧ (∀ i, i < n → ∃ w, w < 64 ∧ wd i = nI w) ∧ (∀ i, i < n → iw i = 0 ∨ iw i = 1) ∧ (∀ i, i < n → iw i = 1 → wr i = vl i)
theorem ch_Anew {n m w : Nat} {mk wd iw wr vl : Nat → Int32} {y v v2 : Int32} (h : ch_A n mk wd iw wr vl) (hn : n < 300) (hm : m < 4) (hw : w < 64) (hy : y = 0 ∨ y = 1) (hv : y = 1 → v = v2) : ch_A (n + 1) (upd mk n (nI m)) (upd wd n (nI w)) (upd iw n y) (upd wr n v) (upd vl n v2) := by
  obtain ⟨_, b, c, d, e⟩ := h
  refine ⟨by omega, ?_, ?_, ?_, ?_⟩
  · intro i hi
    by_cases t : i = n
    · subst t; rw [pk_us]; exact ⟨m, hm, rfl⟩
    · rw [pk_un t]; exact b i (by omega)
  · intro i hi
    by_cases t : i = n
    · subst t; rw [pk_us]; exact ⟨w, hw, rfl⟩
    · rw [pk_un t]; exact c i (by omega)
  · intro i hi
    by_cases t : i = n
    · subst t; rw [pk_us]; exact hy
    · rw [pk_un t]; exact d i (by omega)
  · intro i hi
    by_cases t : i = n
    · subst t; rw [pk_us, pk_us, pk_us]; exact hv
    · rw [pk_un t, pk_un t, pk_un t]; exact e i (by omega)
/-- the tallies -/
def ch_T (ty fe mv rc md lo : Nat → Int32) : Prop :=
  ∀ m, m < 4 → ty (5 * m) = fe m ∧ ty (5 * m + 1) = mv m ∧ ty (5 * m + 2) = rc m ∧ ty (5 * m + 3) = md m ∧ ty (5 * m + 4) = lo m

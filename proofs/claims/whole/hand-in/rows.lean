section
/-! rows pasted from kit/rows -/
theorem pk_us {f : Nat → Int32} {k : Nat} {x : Int32} : upd f k x k = x := if_pos rfl
theorem pk_un {f : Nat → Int32} {k j : Nat} {x : Int32} (h : j ≠ k) : upd f k x j = f j := if_neg h
theorem pk_sub {a b : Nat} (h : b ≤ a) : nI a - nI b = nI (a - b) := by
  obtain ⟨c, rfl⟩ : ∃ c, a = c + b := ⟨a - b, by omega⟩
  rw [← nI_add, Int32.add_sub_cancel, Nat.add_sub_cancel]
theorem pk_m1 (n : Nat) : nI (n + 1) + (-1) = nI n := by
  rw [← nI_1, Int32.add_assoc, show (1 : Int32) + (-1) = 0 from rfl, Int32.add_zero]
theorem pk_mul (a b : Nat) : nI a * nI b = nI (a * b) := (Int32.ofNat_mul a b).symm
theorem pk_div {a d : Nat} (ha : a < 2 ^ 31) (h0 : 0 < d) (hd : d < 2 ^ 31) : nI a / nI d = nI (a / d) := by
  apply Int32.toInt_inj.mp
  rw [lg_idiv_nonneg (by rw [nI_toInt ha]; omega) (by rw [nI_toInt hd]; omega), nI_toInt ha, nI_toInt hd, nI_toInt (Nat.lt_of_le_of_lt (Nat.div_le_self a d) ha)]
  first | rfl | exact (Int.natCast_ediv _ _).symm
theorem pk_ix (x : Int32) {n : Nat} (hn : n < 2 ^ 31) : x < 0 ∨ nI n ≤ x ∨ ∃ j : Nat, j < n ∧ x = nI j := by
  by_cases h : x < 0
  · exact Or.inl h
  · obtain ⟨j, hj, rfl⟩ := nI_of h
    by_cases h2 : j < n
    · exact Or.inr (Or.inr ⟨j, h2, rfl⟩)
    · exact Or.inr (Or.inl (nI_le (by omega) hj))
theorem pk_le {x y : Int32} {A B : Prop} (a b : Nat) (f : a ≤ b → A) (g : b < a → B) (hx : x = nI a := by rfl) (hy : y = nI b := by rfl) (ha : a < 2 ^ 31 := by omega) (hb : b < 2 ^ 31 := by omega) : (x ≤ y → A) ∧ (¬ x ≤ y → B) := by
  subst hx hy
  rw [nI_leI ha hb]
  exact ⟨f, fun z => g (by omega)⟩
theorem pk_lt {x y : Int32} {A B : Prop} (a b : Nat) (f : a < b → A) (g : b ≤ a → B) (hx : x = nI a := by rfl) (hy : y = nI b := by rfl) (ha : a < 2 ^ 31 := by omega) (hb : b < 2 ^ 31 := by omega) : (x < y → A) ∧ (¬ x < y → B) := by
  subst hx hy
  rw [nI_ltI ha hb]
  exact ⟨f, fun z => g (by omega)⟩
theorem pk_eq {x y : Int32} {A B : Prop} (a b : Nat) (f : a = b → A) (g : a ≠ b → B) (hx : x = nI a := by rfl) (hy : y = nI b := by rfl) (ha : a < 2 ^ 31 := by omega) (hb : b < 2 ^ 31 := by omega) : (x = y → A) ∧ (¬ x = y → B) := by
  subst hx hy
  rw [nI_eq ha hb]
  exact ⟨f, g⟩
theorem pk_in {x : Int32} (n N : Nat) (h : n < N) (hx : x = nI n := by rfl) (hN : N < 2 ^ 31 := by omega) : vp_in x N := by
  subst hx
  exact vp_in_nI h hN
theorem pk_cl {x : Int32} (n : Nat) (hx : x = nI n := by rfl) (h : n < 2 ^ 31 := by omega) : x.toNatClampNeg = n := by
  subst hx
  exact nI_clamp h
theorem pk_tn {n : Nat} (h : n < 2 ^ 32) : (nI n).toBitVec.toNat = n := Nat.mod_eq_of_lt h
def bt (x : Int32) (i : Nat) : Bool := x.toBitVec.getLsbD i
theorem b_ext {x y : Int32} (h : ∀ i, i < 32 → bt x i = bt y i) : x = y := Int32.toBitVec_inj.mp (BitVec.eq_of_getLsbD_eq (fun i hi => h i hi))
theorem b_or (x y : Int32) (i : Nat) : bt (x ||| y) i = (bt x i || bt y i) := by unfold bt; rw [Int32.toBitVec_or, BitVec.getLsbD_or]
theorem b_and (x y : Int32) (i : Nat) : bt (x &&& y) i = (bt x i && bt y i) := by unfold bt; rw [Int32.toBitVec_and, BitVec.getLsbD_and]
theorem b_xor (x y : Int32) (i : Nat) : bt (x ^^^ y) i = (bt x i ^^ bt y i) := by unfold bt; rw [Int32.toBitVec_xor, BitVec.getLsbD_xor]
theorem b_big {x : Int32} {i : Nat} (h : 32 ≤ i) : bt x i = false := BitVec.getLsbD_of_ge _ _ h
theorem b_m1 : ∀ i, i < 32 → bt (-1) i = true := by decide +kernel
theorem b_0 (i : Nat) : bt 0 i = false := BitVec.getLsbD_zero
theorem s_l : ∀ n, n < 32 → ((nI n &&& 31).toBitVec.smod 32).toNat = n := by decide +kernel
theorem b_shl (n : Nat) (hn : n < 32) (x : Int32) {i : Nat} (hi : i < 32) : bt (x <<< (nI n &&& 31)) i = (decide (n ≤ i) && bt x (i - n)) := by
  unfold bt
  rw [Int32.toBitVec_shiftLeft]
  show (x.toBitVec <<< ((nI n &&& 31).toBitVec.smod 32).toNat).getLsbD i = _
  rw [s_l n hn, BitVec.getLsbD_shiftLeft]
  rcases Nat.lt_or_ge i n with h | h
  · simp [h, Nat.not_le.mpr h]
  · simp [hi, h, Nat.not_lt.mpr h]
theorem b_sshr (n : Nat) (hn : n < 32) (x : Int32) {i : Nat} (hi : i < 32) : bt (x >>> (nI n &&& 31)) i = if n + i < 32 then bt x (n + i) else bt x 31 := by
  unfold bt
  rw [Int32.toBitVec_shiftRight]
  show (x.toBitVec.sshiftRight ((nI n &&& 31).toBitVec.smod 32).toNat).getLsbD i = _
  rw [s_l n hn, BitVec.getLsbD_sshiftRight, BitVec.msb_eq_getLsbD_last]
  simp [hi]
end
section
/-! bits, scans and last places, pure -/
def ch_b (b : Bool) : Int32 := match b with
  | true => 1
  | false => 0
theorem ch_b_0 {b : Bool} : ch_b b = 0 ↔ b = false := by cases b <;> decide
theorem ch_b_1 {b : Bool} : ch_b b = 1 ↔ b = true := by cases b <;> decide
theorem ch_b_n {b : Bool} : ¬ ch_b b = 0 ↔ b = true := by cases b <;> decide
theorem ch_nf {x : Bool} (h : ¬ x = false) : x = true := by cases x <;> simp_all
theorem ch_nt {x : Bool} (h : ¬ x = true) : x = false := by cases x <;> simp_all
theorem ch_bt1 : ∀ i, i < 32 → bt 1 i = decide (i = 0) := by decide +kernel
theorem ch_bit (x : Int32) (q : Nat) (hq : q < 32) : ((x >>> (nI q &&& 31)) &&& 1) = 0 ↔ bt x q = false := by
  constructor
  · intro h
    have h2 : bt ((x >>> (nI q &&& 31)) &&& 1) 0 = bt 0 0 := by rw [h]
    rw [b_and, b_sshr q hq x (by decide), b_0, ch_bt1 0 (by decide), if_pos (by omega)] at h2
    simpa using h2
  · intro h
    apply b_ext
    intro i hi
    rw [b_and, b_0, b_sshr q hq x hi, ch_bt1 i hi]
    by_cases h0 : i = 0
    · subst h0
      rw [if_pos (by omega)]
      simp [h]
    · simp [h0]
theorem ch_one : ∀ m, m < 32 → ∀ i, i < 32 → bt ((1 : Int32) <<< (nI m &&& 31)) i = decide (i = m) := by decide +kernel
theorem ch_orb (x : Int32) {m q : Nat} (hm : m < 32) (hq : q < 32) : bt (x ||| ((1 : Int32) <<< (nI m &&& 31))) q = (bt x q || decide (q = m)) := by
  rw [b_or, ch_one m hm q hq]
theorem ch_bt15 : ∀ i, i < 32 → bt 15 i = decide (i < 4) := by decide +kernel
theorem ch_or15 (x : Int32) {q : Nat} (hq : q < 32) : bt (x ||| 15) q = (bt x q || decide (q < 4)) := by
  rw [b_or, ch_bt15 q hq]
theorem ch_and15 (x : Int32) : (x &&& 15) = 15 ↔ ∀ q, q < 4 → bt x q = true := by
  constructor
  · intro h q hq
    have h2 : bt (x &&& 15) q = bt 15 q := by rw [h]
    rw [b_and, ch_bt15 q (by omega)] at h2
    simpa [hq] using h2
  · intro h
    apply b_ext
    intro i hi
    rw [b_and, ch_bt15 i hi]
    by_cases h4 : i < 4
    · simp [h i h4, h4]
    · simp [h4]
theorem ch_news (k s : Int32) (q : Nat) (hq : q < 32) : (((k &&& (s ^^^ (-1))) >>> (nI q &&& 31)) &&& 1) = 0 ↔ (bt k q && !(bt s q)) = false := by
  rw [ch_bit _ q hq, b_and, b_xor, b_m1 q hq]
  simp
/-- the last place below n at which P holds, or -1 -/
def ch_la (P : Nat → Bool) : Nat → Int32
  | 0 => -1
  | n + 1 => if P n = true then nI n else ch_la P n
theorem ch_la_lt (P : Nat → Bool) : ∀ n, n < 2 ^ 31 → ch_la P n < nI n := by
  intro n
  induction n with
  | zero => intro _; show (-1 : Int32) < nI 0; decide
  | succ n ih =>
    intro h
    have h1 : nI n < nI (n + 1) := nI_lt (by omega) h
    show (if P n = true then nI n else ch_la P n) < nI (n + 1)
    by_cases p : P n = true
    · rw [if_pos p]; exact h1
    · rw [if_neg p]; exact Int32.lt_trans (ih (by omega)) h1
theorem ch_la_c (P : Nat → Bool) : ∀ n, (ch_la P n = -1 ∧ ∀ i, i < n → P i = false) ∨ ∃ i, i < n ∧ P i = true ∧ ch_la P n = nI i := by
  intro n
  induction n with
  | zero => exact Or.inl ⟨rfl, fun i h => absurd h (Nat.not_lt_zero i)⟩
  | succ n ih =>
    show ((if P n = true then nI n else ch_la P n) = -1 ∧ _) ∨ ∃ i, i < n + 1 ∧ P i = true ∧ (if P n = true then nI n else ch_la P n) = nI i
    by_cases p : P n = true
    · exact Or.inr ⟨n, by omega, p, if_pos p⟩
    · rw [if_neg p]
      rcases ih with ⟨a, b⟩ | ⟨i, hi, pi, e⟩
      · refine Or.inl ⟨a, fun i hi => ?_⟩
        by_cases e : i = n
        · rw [e]; exact ch_nt p
        · exact b i (by omega)
      · exact Or.inr ⟨i, by omega, pi, e⟩
/-- the value at the last place below n at which P holds, or d -/
def ch_lv (P : Nat → Bool) (f : Nat → Int32) (d : Int32) : Nat → Int32
  | 0 => d
  | n + 1 => if P n = true then f n else ch_lv P f d n
theorem ch_lv_c (P : Nat → Bool) (f : Nat → Int32) (d : Int32) : ∀ n, (ch_la P n = -1 ∧ ch_lv P f d n = d) ∨ ∃ i, i < n ∧ P i = true ∧ ch_la P n = nI i ∧ ch_lv P f d n = f i := by
  intro n
  induction n with
  | zero => exact Or.inl ⟨rfl, rfl⟩
  | succ n ih =>
    show ((if P n = true then nI n else ch_la P n) = -1 ∧ (if P n = true then f n else ch_lv P f d n) = d) ∨ ∃ i, i < n + 1 ∧ P i = true ∧ (if P n = true then nI n else ch_la P n) = nI i ∧ (if P n = true then f n else ch_lv P f d n) = f i
    by_cases p : P n = true
    · exact Or.inr ⟨n, by omega, p, if_pos p, if_pos p⟩
    · rw [if_neg p, if_neg p]
      rcases ih with h | ⟨i, hi, h⟩
      · exact Or.inl h
      · exact Or.inr ⟨i, by omega, h⟩
theorem ch_lv_e {P Q : Nat → Bool} {f g : Nat → Int32} (d : Int32) : ∀ n, (∀ i, i < n → P i = Q i) → (∀ i, i < n → P i = true → f i = g i) → ch_lv P f d n = ch_lv Q g d n := by
  intro n
  induction n with
  | zero => intro _ _; rfl
  | succ n ih =>
    intro h1 h2
    show (if P n = true then f n else ch_lv P f d n) = (if Q n = true then g n else ch_lv Q g d n)
    rw [← h1 n (by omega), ih (fun i hi => h1 i (by omega)) (fun i hi => h2 i (by omega))]
    by_cases p : P n = true
    · rw [if_pos p, if_pos p, h2 n (by omega) p]
    · rw [if_neg p, if_neg p]
theorem ch_la_e {P Q : Nat → Bool} : ∀ n, (∀ i, i < n → P i = Q i) → ch_la P n = ch_la Q n := by
  intro n
  induction n with
  | zero => intro _; rfl
  | succ n ih =>
    intro h1
    show (if P n = true then nI n else ch_la P n) = (if Q n = true then nI n else ch_la Q n)
    rw [← h1 n (by omega), ih (fun i hi => h1 i (by omega))]
/-- is there one below n -/
def ch_any (P : Nat → Bool) : Nat → Bool
  | 0 => false
  | n + 1 => ch_any P n || P n
theorem ch_any_t {P : Nat → Bool} {n i : Nat} (hi : i < n) (h : P i = true) : ch_any P n = true := by
  induction n with
  | zero => omega
  | succ n ih =>
    show (ch_any P n || P n) = true
    by_cases e : i = n
    · rw [← e, h, Bool.or_true]
    · rw [ih (by omega), Bool.true_or]
theorem ch_any_f {P : Nat → Bool} {n : Nat} (h : ∀ i, i < n → P i = false) : ch_any P n = false := by
  induction n with
  | zero => rfl
  | succ n ih =>
    show (ch_any P n || P n) = false
    rw [ih (fun i hi => h i (by omega)), h n (by omega)]
    rfl
theorem ch_any_c (P : Nat → Bool) (n : Nat) : (ch_any P n = true ∧ ∃ i, i < n ∧ P i = true) ∨ (ch_any P n = false ∧ ∀ i, i < n → P i = false) := by
  by_cases h : ∃ i, i < n ∧ P i = true
  · obtain ⟨i, hi, p⟩ := h
    exact Or.inl ⟨ch_any_t hi p, i, hi, p⟩
  · have h2 : ∀ i, i < n → P i = false := fun i hi => ch_nt (fun p => h ⟨i, hi, p⟩)
    exact Or.inr ⟨ch_any_f h2, h2⟩
theorem ch_any_e {P Q : Nat → Bool} {n : Nat} (h : ∀ i, i < n → P i = Q i) : ch_any P n = ch_any Q n := by
  induction n with
  | zero => rfl
  | succ n ih =>
    show (ch_any P n || P n) = (ch_any Q n || Q n)
    rw [ih (fun i hi => h i (by omega)), h n (by omega)]
/-- how many below n -/
def ch_cnt (P : Nat → Bool) : Nat → Nat
  | 0 => 0
  | n + 1 => if P n = true then ch_cnt P n + 1 else ch_cnt P n
theorem ch_cnt_le (P : Nat → Bool) : ∀ n, ch_cnt P n ≤ n := by
  intro n
  induction n with
  | zero => exact Nat.le_refl 0
  | succ n ih =>
    show (if P n = true then ch_cnt P n + 1 else ch_cnt P n) ≤ n + 1
    split <;> omega
theorem ch_cnt_e {P Q : Nat → Bool} {n : Nat} (h : ∀ i, i < n → P i = Q i) : ch_cnt P n = ch_cnt Q n := by
  induction n with
  | zero => rfl
  | succ n ih =>
    show (if P n = true then ch_cnt P n + 1 else ch_cnt P n) = (if Q n = true then ch_cnt Q n + 1 else ch_cnt Q n)
    rw [ih (fun i hi => h i (by omega)), h n (by omega)]
/-- has and owns -/
def ch_hv (mk wd iw : Nat → Int32) (m p : Int32) : Nat → Bool
  | 0 => false
  | n + 1 => if wd n / 8 = p then (if mk n = m then true else if iw n = 0 then ch_hv mk wd iw m p n else false) else ch_hv mk wd iw m p n
def ch_ow (mk wd iw : Nat → Int32) (m p : Int32) : Nat → Bool
  | 0 => false
  | n + 1 => if wd n / 8 = p then (if mk n = m then (if iw n = 0 then ch_ow mk wd iw m p n else true) else false) else ch_ow mk wd iw m p n
theorem ch_ow_hv (mk wd iw : Nat → Int32) (m p : Int32) : ∀ n, ch_ow mk wd iw m p n = true → ch_hv mk wd iw m p n = true := by
  intro n
  induction n with
  | zero => intro h; exact h
  | succ n ih =>
    unfold ch_ow ch_hv
    by_cases a : wd n / 8 = p
    · rw [if_pos a, if_pos a]
      by_cases b : mk n = m
      · rw [if_pos b, if_pos b]; exact fun _ => rfl
      · rw [if_neg b, if_neg b]; intro h; cases h
    · rw [if_neg a, if_neg a]; exact ih
theorem ch_ow_no (mk wd iw : Nat → Int32) (m k p : Int32) (hk : ¬ k = m) : ∀ n, ch_ow mk wd iw m p n = true → ch_hv mk wd iw k p n = false := by
  intro n
  induction n with
  | zero => intro _; rfl
  | succ n ih =>
    unfold ch_ow ch_hv
    by_cases a : wd n / 8 = p
    · rw [if_pos a, if_pos a]
      by_cases b : mk n = m
      · have c : ¬ mk n = k := fun e => hk (e.symm.trans b)
        rw [if_pos b, if_neg c]
        by_cases d : iw n = 0
        · rw [if_pos d, if_pos d]; exact ih
        · rw [if_neg d, if_neg d]; exact fun _ => rfl
      · rw [if_neg b]; intro h; cases h
    · rw [if_neg a, if_neg a]; exact ih
theorem ch_hv_iff (mk wd iw : Nat → Int32) (m p : Int32) : ∀ n, n < 2 ^ 31 → (ch_hv mk wd iw m p n = true ↔ (0 ≤ ch_la (fun i => decide (wd i / 8 = p) && decide (mk i = m)) n ∧ ch_la (fun i => decide (wd i / 8 = p) && (decide (¬ mk i = m) && decide (¬ iw i = 0))) n < ch_la (fun i => decide (wd i / 8 = p) && decide (mk i = m)) n)) := by
  intro n
  induction n with
  | zero =>
    intro _
    constructor
    · intro h; cases h
    · rintro ⟨h, _⟩; exact absurd (show (0 : Int32) ≤ -1 from h) (by decide)
  | succ n ih =>
    intro hn
    have l1 := ch_la_lt (fun i => decide (wd i / 8 = p) && decide (mk i = m)) n (by omega)
    have l2 := ch_la_lt (fun i => decide (wd i / 8 = p) && (decide (¬ mk i = m) && decide (¬ iw i = 0))) n (by omega)
    have ih := ih (by omega)
    unfold ch_hv ch_la
    by_cases a : wd n / 8 = p
    · by_cases b : mk n = m
      · simp only [a, b, if_true, decide_true, Bool.and_true, not_true, decide_false, Bool.false_and, Bool.and_false, Bool.false_eq_true, if_false, true_iff]
        exact ⟨nI_pos' (by omega), l2⟩
      · by_cases d : iw n = 0
        · simp only [a, b, d, if_true, decide_true, Bool.and_true, not_true, decide_false, Bool.false_and, Bool.and_false, Bool.false_eq_true, if_false]
          exact ih
        · simp only [a, b, d, if_true, decide_true, Bool.and_true, not_false_iff, decide_false, Bool.false_and, Bool.and_false, Bool.false_eq_true, if_false, false_iff]
          rintro ⟨_, h⟩
          exact Int32.lt_irrefl (Int32.lt_trans h l1)
    · simp only [a, if_false, decide_false, Bool.false_and, Bool.false_eq_true]
      exact ih
theorem ch_ow_iff (mk wd iw : Nat → Int32) (m p : Int32) : ∀ n, n < 2 ^ 31 → (ch_ow mk wd iw m p n = true ↔ (0 ≤ ch_la (fun i => decide (wd i / 8 = p) && (decide (mk i = m) && decide (¬ iw i = 0))) n ∧ ch_la (fun i => decide (wd i / 8 = p) && decide (¬ mk i = m)) n < ch_la (fun i => decide (wd i / 8 = p) && (decide (mk i = m) && decide (¬ iw i = 0))) n)) := by
  intro n
  induction n with
  | zero =>
    intro _
    constructor
    · intro h; cases h
    · rintro ⟨h, _⟩; exact absurd (show (0 : Int32) ≤ -1 from h) (by decide)
  | succ n ih =>
    intro hn
    have l1 := ch_la_lt (fun i => decide (wd i / 8 = p) && (decide (mk i = m) && decide (¬ iw i = 0))) n (by omega)
    have l2 := ch_la_lt (fun i => decide (wd i / 8 = p) && decide (¬ mk i = m)) n (by omega)
    have ih := ih (by omega)
    unfold ch_ow ch_la
    by_cases a : wd n / 8 = p
    · by_cases b : mk n = m
      · by_cases d : iw n = 0
        · simp only [a, b, d, if_true, decide_true, Bool.and_true, not_true, decide_false, Bool.false_and, Bool.and_false, Bool.false_eq_true, if_false]
          exact ih
        · simp only [a, b, d, if_true, decide_true, Bool.and_true, not_true, not_false_iff, decide_false, Bool.false_and, Bool.and_false, Bool.false_eq_true, if_false, true_iff]
          exact ⟨nI_pos' (by omega), l2⟩
      · simp only [a, b, if_true, decide_true, Bool.and_true, not_false_iff, decide_false, Bool.false_and, Bool.and_false, Bool.false_eq_true, if_false, false_iff]
        rintro ⟨_, h⟩
        exact Int32.lt_irrefl (Int32.lt_trans h l1)
    · simp only [a, if_false, decide_false, Bool.false_and, Bool.false_eq_true]
      exact ih
end
section
/-! the rows of the locks, pure: L r is how many stand in row r, T r k who is the k-th -/
def ch_Q (L : Nat → Nat) (T : Nat → Nat → Nat) (st aw hd : Nat → Int32) : Prop :=
  (∀ r, r < 8 → L r ≤ 4) ∧
  (∀ r k, r < 8 → k < L r → T r k < 4 ∧ (r < 4 → st (T r k) = 1 ∧ aw (T r k) = nI r) ∧ (4 ≤ r → st (T r k) = 3)) ∧
  (∀ r k s j, r < 8 → k < L r → s < 8 → j < L s → T r k = T s j → r = s ∧ k = j) ∧
  (∀ m, m < 4 → st m = 1 → ∃ l k, l < 4 ∧ k < L l ∧ T l k = m) ∧
  (∀ l, l < 4 → 0 < L l → ¬ hd l = -1) ∧
  (∀ l, l < 4 → hd l = -1 ∨ ∃ m, m < 4 ∧ hd l = nI m)
/-- the same with x between two rows -/
def ch_P (L : Nat → Nat) (T : Nat → Nat → Nat) (st aw hd : Nat → Int32) (x : Nat) : Prop :=
  x < 4 ∧
  (∀ r k, r < 8 → k < L r → ¬ T r k = x) ∧
  (∀ r, r < 8 → L r ≤ 4) ∧
  (∀ r k, r < 8 → k < L r → T r k < 4 ∧ (r < 4 → st (T r k) = 1 ∧ aw (T r k) = nI r) ∧ (4 ≤ r → st (T r k) = 3)) ∧
  (∀ r k s j, r < 8 → k < L r → s < 8 → j < L s → T r k = T s j → r = s ∧ k = j) ∧
  (∀ m, m < 4 → ¬ m = x → st m = 1 → ∃ l k, l < 4 ∧ k < L l ∧ T l k = m) ∧
  (∀ l, l < 4 → 0 < L l → ¬ hd l = -1) ∧
  (∀ l, l < 4 → hd l = -1 ∨ ∃ m, m < 4 ∧ hd l = nI m)
def ch_pL (L : Nat → Nat) (r : Nat) : Nat → Nat := fun s => if s = r then L s + 1 else L s
def ch_pT (L : Nat → Nat) (T : Nat → Nat → Nat) (r m : Nat) : Nat → Nat → Nat := fun s k => if s = r ∧ k = L r then m else T s k
def ch_oL (L : Nat → Nat) (r : Nat) : Nat → Nat := fun s => if s = r then L s - 1 else L s
def ch_oT (T : Nat → Nat → Nat) (r : Nat) : Nat → Nat → Nat := fun s k => if s = r then T s (k + 1) else T s k
theorem ch_neg1 {m : Nat} (h : m < 4) : ¬ nI m = -1 := by
  have h2 := nI_pos (n := m) (by omega)
  intro e
  rw [e] at h2
  exact h2 (by decide)
theorem ch_Pof {L : Nat → Nat} {T : Nat → Nat → Nat} {st aw hd : Nat → Int32} {x : Nat} (h : ch_Q L T st aw hd) (hx : x < 4) (h1 : ¬ st x = 1) (h3 : ¬ st x = 3) : ch_P L T st aw hd x := by
  obtain ⟨a, b, c, d, e, f⟩ := h
  refine ⟨hx, ?_, a, b, c, fun m hm _ hs => d m hm hs, e, f⟩
  intro r k hr hk et
  have hb := b r k hr hk
  rw [et] at hb
  by_cases h4 : r < 4
  · exact h1 (hb.2.1 h4).1
  · exact h3 (hb.2.2 (by omega))
theorem ch_Ppop {L : Nat → Nat} {T : Nat → Nat → Nat} {st aw hd : Nat → Int32} {r : Nat} (h : ch_Q L T st aw hd) (hr : r < 8) (h0 : 0 < L r) : ch_P (ch_oL L r) (ch_oT T r) st aw hd (T r 0) := by
  obtain ⟨a, b, c, d, e, f⟩ := h
  have hL : ∀ s k, k < ch_oL L r s → (s = r ∧ k + 1 < L r ∧ ch_oT T r s k = T r (k + 1)) ∨ (¬ s = r ∧ k < L s ∧ ch_oT T r s k = T s k) := by
    intro s k hk
    unfold ch_oL at hk
    unfold ch_oT
    by_cases es : s = r
    · rw [if_pos es] at hk
      rw [if_pos es, es]
      rw [es] at hk
      exact Or.inl ⟨rfl, by omega, rfl⟩
    · rw [if_neg es] at hk
      rw [if_neg es]
      exact Or.inr ⟨es, hk, rfl⟩
  refine ⟨(b r 0 hr h0).1, ?_, ?_, ?_, ?_, ?_, ?_, f⟩
  · intro s k hs hk et
    rcases hL s k hk with ⟨_, hk2, e2⟩ | ⟨es, hk2, e2⟩
    · rw [e2] at et
      have := (c r (k + 1) r 0 hr hk2 hr h0 et).2
      omega
    · rw [e2] at et
      exact es (c s k r 0 hs hk2 hr h0 et).1
  · intro s hs
    unfold ch_oL
    have := a s hs
    split <;> omega
  · intro s k hs hk
    rcases hL s k hk with ⟨es, hk2, e2⟩ | ⟨es, hk2, e2⟩
    · rw [e2, es]; exact b r (k + 1) hr hk2
    · rw [e2]; exact b s k hs hk2
  · intro s k t j hs hk ht hj et
    rcases hL s k hk with ⟨es, hk2, e2⟩ | ⟨es, hk2, e2⟩ <;> rcases hL t j hj with ⟨eu, hj2, e3⟩ | ⟨eu, hj2, e3⟩ <;> rw [e2, e3] at et
    · have := c r (k + 1) r (j + 1) hr hk2 hr hj2 et
      exact ⟨es.trans eu.symm, by omega⟩
    · exact absurd (c r (k + 1) t j hr hk2 ht hj2 et).1.symm eu
    · exact absurd (c s k r (j + 1) hs hk2 hr hj2 et).1 es
    · exact c s k t j hs hk2 ht hj2 et
  · intro m hm hx hs
    obtain ⟨l, k, hl, hk, et⟩ := d m hm hs
    by_cases el : l = r
    · subst el
      have hk0 : ¬ k = 0 := by
        intro e0
        rw [e0] at et
        exact hx et.symm
      obtain ⟨k2, rfl⟩ : ∃ k2, k = k2 + 1 := ⟨k - 1, by omega⟩
      refine ⟨l, k2, hl, ?_, ?_⟩
      · unfold ch_oL; rw [if_pos rfl]; omega
      · unfold ch_oT; rw [if_pos rfl]; exact et
    · refine ⟨l, k, hl, ?_, ?_⟩
      · unfold ch_oL; rw [if_neg el]; exact hk
      · unfold ch_oT; rw [if_neg el]; exact et
  · intro l hl h2
    apply e l hl
    unfold ch_oL at h2
    by_cases el : l = r
    · rw [if_pos el] at h2; omega
    · rw [if_neg el] at h2; exact h2
theorem ch_pig (a b c d x : Nat) (ha : a < 4) (hb : b < 4) (hc : c < 4) (hd : d < 4) (hx : x < 4) (h1 : ¬ a = x) (h2 : ¬ b = x) (h3 : ¬ c = x) (h4 : ¬ d = x) (h5 : ¬ a = b) (h6 : ¬ a = c) (h7 : ¬ a = d) (h8 : ¬ b = c) (h9 : ¬ b = d) (h10 : ¬ c = d) : False := by
  omega
theorem ch_room {L : Nat → Nat} {T : Nat → Nat → Nat} {st aw hd : Nat → Int32} {x r : Nat} (h : ch_P L T st aw hd x) (hr : r < 8) : L r < 4 := by
  obtain ⟨hx, hn, a, b, c, _⟩ := h
  have h4 := a r hr
  by_cases e : L r = 4
  · exfalso
    have i0 : 0 < L r := by omega
    have i1 : 1 < L r := by omega
    have i2 : 2 < L r := by omega
    have i3 : 3 < L r := by omega
    refine ch_pig (T r 0) (T r 1) (T r 2) (T r 3) x (b r 0 hr i0).1 (b r 1 hr i1).1 (b r 2 hr i2).1 (b r 3 hr i3).1 hx (hn r 0 hr i0) (hn r 1 hr i1) (hn r 2 hr i2) (hn r 3 hr i3) ?_ ?_ ?_ ?_ ?_ ?_
    · intro z; exact absurd (c r 0 r 1 hr i0 hr i1 z).2 (by decide)
    · intro z; exact absurd (c r 0 r 2 hr i0 hr i2 z).2 (by decide)
    · intro z; exact absurd (c r 0 r 3 hr i0 hr i3 z).2 (by decide)
    · intro z; exact absurd (c r 1 r 2 hr i1 hr i2 z).2 (by decide)
    · intro z; exact absurd (c r 1 r 3 hr i1 hr i3 z).2 (by decide)
    · intro z; exact absurd (c r 2 r 3 hr i2 hr i3 z).2 (by decide)
  · omega
theorem ch_pLc {L : Nat → Nat} {T : Nat → Nat → Nat} {r x s k : Nat} (hk : k < ch_pL L r s) : (s = r ∧ k = L r ∧ ch_pT L T r x s k = x) ∨ (k < L s ∧ ch_pT L T r x s k = T s k) := by
  unfold ch_pL at hk
  unfold ch_pT
  by_cases es : s = r
  · rw [if_pos es] at hk
    by_cases ek : k = L r
    · rw [if_pos ⟨es, ek⟩]; exact Or.inl ⟨es, ek, rfl⟩
    · rw [if_neg (fun z => ek z.2)]
      rw [es] at hk ⊢
      exact Or.inr ⟨by omega, rfl⟩
  · rw [if_neg es] at hk
    rw [if_neg (fun z => es z.1)]
    exact Or.inr ⟨hk, rfl⟩
/-- x goes to the end of a row; what the row asks of its state and of what it waits for is given -/
theorem ch_push {L : Nat → Nat} {T : Nat → Nat → Nat} {st aw hd st' aw' : Nat → Int32} {x r : Nat} (h : ch_P L T st aw hd x) (hr : r < 8) (es : ∀ m, ¬ m = x → st' m = st m) (ea : ∀ m, ¬ m = x → aw' m = aw m) (hw : r < 4 → st' x = 1 ∧ aw' x = nI r ∧ ¬ hd r = -1) (hz : 4 ≤ r → st' x = 3) : ch_Q (ch_pL L r) (ch_pT L T r x) st' aw' hd := by
  have hroom := ch_room h hr
  obtain ⟨hx, hn, a, b, c, d, e, f⟩ := h
  refine ⟨?_, ?_, ?_, ?_, ?_, f⟩
  · intro s hs
    unfold ch_pL
    have := a s hs
    by_cases q : s = r
    · rw [if_pos q, q]; omega
    · rw [if_neg q]; exact this
  · intro s k hs hk
    rcases ch_pLc (T := T) (x := x) hk with ⟨e1, e2, e3⟩ | ⟨e2, e3⟩
    · rw [e3, e1]
      exact ⟨hx, fun q => ⟨(hw q).1, (hw q).2.1⟩, hz⟩
    · rw [e3, es _ (hn s k hs e2), ea _ (hn s k hs e2)]
      exact b s k hs e2
  · intro s k t j hs hk ht hj et
    rcases ch_pLc (T := T) (x := x) hk with ⟨e1, e2, e3⟩ | ⟨e2, e3⟩ <;> rcases ch_pLc (T := T) (x := x) hj with ⟨f1, f2, f3⟩ | ⟨f2, f3⟩ <;> rw [e3, f3] at et
    · exact ⟨e1.trans f1.symm, e2.trans f2.symm⟩
    · exact absurd et.symm (hn t j ht f2)
    · exact absurd et (hn s k hs e2)
    · exact c s k t j hs e2 ht f2 et
  · intro m hm h1
    by_cases q : m = x
    · by_cases r4 : r < 4
      · refine ⟨r, L r, r4, ?_, ?_⟩
        · unfold ch_pL; rw [if_pos rfl]; omega
        · unfold ch_pT; rw [if_pos ⟨rfl, rfl⟩]; exact q.symm
      · exfalso
        rw [q, hz (by omega)] at h1
        exact absurd h1 (by decide)
    · rw [es m q] at h1
      obtain ⟨l, k, hl, hk, et⟩ := d m hm q h1
      refine ⟨l, k, hl, ?_, ?_⟩
      · unfold ch_pL; split <;> omega
      · unfold ch_pT
        rw [if_neg]
        · exact et
        · rintro ⟨g1, g2⟩
          rw [g1] at hk
          omega
  · intro l hl h0
    by_cases q : l = r
    · rw [q]; rw [q] at hl; exact (hw hl).2.2
    · unfold ch_pL at h0
      rw [if_neg q] at h0
      exact e l hl h0
/-- x is in no row and runs, or is at the barrier -/
theorem ch_set {L : Nat → Nat} {T : Nat → Nat → Nat} {st aw hd st' : Nat → Int32} {x : Nat} (h : ch_P L T st aw hd x) (es : ∀ m, ¬ m = x → st' m = st m) (h1 : ¬ st' x = 1) : ch_Q L T st' aw hd := by
  obtain ⟨hx, hn, a, b, c, d, e, f⟩ := h
  refine ⟨a, ?_, c, ?_, e, f⟩
  · intro r k hr hk
    rw [es _ (hn r k hr hk)]
    exact b r k hr hk
  · intro m hm h2
    by_cases q : m = x
    · rw [q] at h2; exact absurd h2 h1
    · rw [es m q] at h2; exact d m hm q h2
theorem ch_hd {L : Nat → Nat} {T : Nat → Nat → Nat} {st aw hd hd' : Nat → Int32} {l : Nat} (h : ch_Q L T st aw hd) (eh : ∀ j, ¬ j = l → hd' j = hd j) (hl : ∃ m, m < 4 ∧ hd' l = nI m) : ch_Q L T st aw hd' := by
  obtain ⟨a, b, c, d, e, f⟩ := h
  obtain ⟨m, hm, em⟩ := hl
  refine ⟨a, b, c, d, ?_, ?_⟩
  · intro j hj h0
    by_cases q : j = l
    · rw [q, em]; exact ch_neg1 hm
    · rw [eh j q]; exact e j hj h0
  · intro j hj
    by_cases q : j = l
    · rw [q]; exact Or.inr ⟨m, hm, em⟩
    · rw [eh j q]; exact f j hj
theorem ch_hdn {L : Nat → Nat} {T : Nat → Nat → Nat} {st aw hd hd' : Nat → Int32} {l : Nat} (h : ch_Q L T st aw hd) (eh : ∀ j, ¬ j = l → hd' j = hd j) (h0 : L l = 0) (hl : hd' l = -1) : ch_Q L T st aw hd' := by
  obtain ⟨a, b, c, d, e, f⟩ := h
  refine ⟨a, b, c, d, ?_, ?_⟩
  · intro j hj h1
    by_cases q : j = l
    · rw [q] at h1; omega
    · rw [eh j q]; exact e j hj h1
  · intro j hj
    by_cases q : j = l
    · rw [q]; exact Or.inl hl
    · rw [eh j q]; exact f j hj
theorem ch_open {L : Nat → Nat} {T : Nat → Nat → Nat} {st aw hd st' : Nat → Int32} (h : ch_Q L T st aw hd) (h2 : ∀ m, m < 4 → st m = 2) (h3 : ∀ m, m < 4 → ¬ st' m = 1) : ch_Q L T st' aw hd := by
  obtain ⟨a, b, c, d, e, f⟩ := h
  refine ⟨a, ?_, c, ?_, e, f⟩
  · intro r k hr hk
    exfalso
    have hb := b r k hr hk
    have h4 := h2 _ hb.1
    by_cases q : r < 4
    · rw [(hb.2.1 q).1] at h4; exact absurd h4 (by decide)
    · rw [hb.2.2 (by omega)] at h4; exact absurd h4 (by decide)
  · intro m hm h1
    exact absurd h1 (h3 m hm)
/-- the arrays hold the rows -/
def ch_W (L : Nat → Nat) (T : Nat → Nat → Nat) (ln ro : Nat → Int32) : Prop :=
  (∀ r, r < 8 → ln r = nI (L r)) ∧ (∀ r k, r < 8 → k < L r → ro (4 * r + k) = nI (T r k))
theorem ch_Wpush {L : Nat → Nat} {T : Nat → Nat → Nat} {ln ro : Nat → Int32} {r x : Nat} {y z : Int32} (h : ch_W L T ln ro) (hr : r < 8) (h4 : L r < 4) (ha : ∀ s, s < 8 → L s ≤ 4) (hy : y = nI (L r + 1)) (hz : z = nI x) : ch_W (ch_pL L r) (ch_pT L T r x) (upd ln r y) (upd ro (4 * r + L r) z) := by
  obtain ⟨a, b⟩ := h
  refine ⟨?_, ?_⟩
  · intro s hs
    unfold ch_pL
    by_cases q : s = r
    · rw [if_pos q, q, pk_us, hy]
    · rw [if_neg q, pk_un q, a s hs]
  · intro s k hs hk
    rcases ch_pLc (T := T) (x := x) hk with ⟨e1, e2, e3⟩ | ⟨e2, e3⟩
    · rw [e3, e1, e2, pk_us, hz]
    · have hs4 := ha s hs
      rw [e3, pk_un ?_, b s k hs e2]
      intro e
      have : s = r := by omega
      subst this
      omega
theorem ch_Wpop {L : Nat → Nat} {T : Nat → Nat → Nat} {ln ro ro' : Nat → Int32} {r : Nat} {y : Int32} (h : ch_W L T ln ro) (hr : r < 8) (h0 : 0 < L r) (ha : ∀ s, s < 8 → L s ≤ 4) (hy : y = nI (L r - 1)) (h1 : ∀ k, k + 1 < L r → ro' (4 * r + k) = ro (4 * r + (k + 1))) (h2 : ∀ j, j < 4 * r ∨ 4 * r + 4 ≤ j → ro' j = ro j) : ch_W (ch_oL L r) (ch_oT T r) (upd ln r y) ro' := by
  obtain ⟨a, b⟩ := h
  refine ⟨?_, ?_⟩
  · intro s hs
    unfold ch_oL
    by_cases q : s = r
    · rw [if_pos q, q, pk_us, hy]
    · rw [if_neg q, pk_un q, a s hs]
  · intro s k hs hk
    unfold ch_oL at hk
    unfold ch_oT
    have hs4 := ha s hs
    by_cases q : s = r
    · rw [if_pos q] at hk
      rw [if_pos q, q, h1 k (by rw [q] at hk; omega)]
      exact b r (k + 1) hr (by rw [q] at hk; omega)
    · rw [if_neg q] at hk
      rw [if_neg q, h2 _ (by omega)]
      exact b s k hs hk
end
section
/-! who knows and who has seen: X's bits against Y's three tables -/
def ch_K (n : Nat) (mk iw hd knw sr kn sn kp : Nat → Int32) : Prop :=
  (∀ q i, q < 4 → i < n → kn (300 * q + i) = ch_b (bt (knw i) q)) ∧
  (∀ q i, q < 4 → i < n → kp (300 * q + i) = ch_b (bt (knw i) (4 + q))) ∧
  (∀ q i, q < 4 → i < n → iw i = 1 → sn (300 * q + i) = ch_b (bt (sr i) q)) ∧
  (∀ m i, m < 4 → i < n → mk i = nI m → bt (knw i) m = true) ∧
  (∀ l m i, l < 4 → m < 4 → hd l = nI m → i < n → bt (knw i) (4 + l) = true → bt (knw i) m = true)
theorem ch_adr {n m q i j : Nat} (hn : n ≤ 300) (hi : i < n) (hj : j < n) (h : ¬ q = m) : ¬ 300 * q + i = 300 * m + j := by omega
theorem ch_Kget {n l m : Nat} {mk iw hd knw sr kn sn kp hd' knw' kn' : Nat → Int32} (h : ch_K n mk iw hd knw sr kn sn kp) (hn : n ≤ 300) (hl : l < 4) (hm : m < 4)
    (e1 : ∀ i, i < n → knw' i = if bt (knw i) (4 + l) = true then knw i ||| ((1 : Int32) <<< (nI m &&& 31)) else knw i)
    (e2 : ∀ i, i < n → kn' (300 * m + i) = if kp (300 * l + i) = 0 then kn (300 * m + i) else 1)
    (e3 : ∀ j, (∀ i, i < n → ¬ j = 300 * m + i) → kn' j = kn j)
    (e4 : ∀ j, ¬ j = l → hd' j = hd j) (e5 : hd' l = nI m) : ch_K n mk iw hd' knw' sr kn' sn kp := by
  obtain ⟨a, b, c, d, e⟩ := h
  have hb : ∀ i q, i < n → q < 32 → bt (knw' i) q = (bt (knw i) q || (decide (q = m) && bt (knw i) (4 + l))) := by
    intro i q hi hq
    rw [e1 i hi]
    by_cases z : bt (knw i) (4 + l) = true
    · rw [if_pos z, ch_orb _ (by omega) hq, z, Bool.and_true]
    · rw [if_neg z, ch_nt z, Bool.and_false, Bool.or_false]
  refine ⟨?_, ?_, c, ?_, ?_⟩
  · intro q i hq hi
    rw [hb i q hi (by omega)]
    by_cases z : q = m
    · subst z
      rw [e2 i hi, b l i hl hi, a q i hq hi]
      cases bt (knw i) (4 + l) <;> cases bt (knw i) q <;> simp [ch_b]
    · rw [e3 _ (fun j hj => ch_adr hn hi hj z), a q i hq hi, decide_eq_false z, Bool.false_and, Bool.or_false]
  · intro q i hq hi
    rw [hb i (4 + q) hi (by omega), b q i hq hi, decide_eq_false (show ¬ 4 + q = m by omega), Bool.false_and, Bool.or_false]
  · intro k i hk hi hmk
    rw [hb i k hi (by omega), d k i hk hi hmk, Bool.true_or]
  · intro l2 m2 i hl2 hm2 hh hi hbit
    rw [hb i (4 + l2) hi (by omega), decide_eq_false (show ¬ 4 + l2 = m by omega), Bool.false_and, Bool.or_false] at hbit
    rw [hb i m2 hi (by omega)]
    by_cases z : l2 = l
    · subst z
      rw [e5] at hh
      have : m = m2 := (nI_eq (by omega) (by omega)).mp hh
      subst this
      rw [hbit, decide_eq_true rfl]
      simp
    · rw [e4 l2 z] at hh
      rw [e l2 m2 i hl2 hm2 hh hi hbit, Bool.true_or]
theorem ch_Kgive {n l m : Nat} {mk iw hd knw sr kn sn kp hd' knw' kp' : Nat → Int32} (h : ch_K n mk iw hd knw sr kn sn kp) (hn : n ≤ 300) (hl : l < 4) (hm : m < 4) (hh : hd l = nI m)
    (e1 : ∀ i, i < n → knw' i = if bt (knw i) m = true then knw i ||| ((1 : Int32) <<< (nI (4 + l) &&& 31)) else knw i)
    (e2 : ∀ i, i < n → kp' (300 * l + i) = kn (300 * m + i))
    (e3 : ∀ j, (∀ i, i < n → ¬ j = 300 * l + i) → kp' j = kp j)
    (e4 : ∀ j, ¬ j = l → hd' j = hd j) (e5 : hd' l = -1) : ch_K n mk iw hd' knw' sr kn sn kp' := by
  obtain ⟨a, b, c, d, e⟩ := h
  have hb : ∀ i q, i < n → q < 32 → bt (knw' i) q = (bt (knw i) q || (decide (q = 4 + l) && bt (knw i) m)) := by
    intro i q hi hq
    rw [e1 i hi]
    by_cases z : bt (knw i) m = true
    · rw [if_pos z, ch_orb _ (by omega) hq, z, Bool.and_true]
    · rw [if_neg z, ch_nt z, Bool.and_false, Bool.or_false]
  refine ⟨?_, ?_, c, ?_, ?_⟩
  · intro q i hq hi
    rw [hb i q hi (by omega), a q i hq hi, decide_eq_false (show ¬ q = 4 + l by omega), Bool.false_and, Bool.or_false]
  · intro q i hq hi
    rw [hb i (4 + q) hi (by omega)]
    by_cases z : q = l
    · subst z
      rw [e2 i hi, a m i hm hi, decide_eq_true rfl, Bool.true_and]
      have he := e q m i hq hm hh hi
      cases h1 : bt (knw i) (4 + q)
      · rw [Bool.false_or]
      · rw [he h1, Bool.true_or]
    · rw [e3 _ (fun j hj => ch_adr hn hi hj z), b q i hq hi, decide_eq_false (show ¬ 4 + q = 4 + l by omega), Bool.false_and, Bool.or_false]
  · intro k i hk hi hmk
    rw [hb i k hi (by omega), d k i hk hi hmk, Bool.true_or]
  · intro l2 m2 i hl2 hm2 h2 hi hbit
    have z : ¬ l2 = l := by
      intro z
      rw [z, e5] at h2
      exact ch_neg1 hm2 h2.symm
    rw [hb i (4 + l2) hi (by omega), decide_eq_false (show ¬ 4 + l2 = 4 + l by omega), Bool.false_and, Bool.or_false] at hbit
    rw [e4 l2 z] at h2
    rw [hb i m2 hi (by omega), e l2 m2 i hl2 hm2 h2 hi hbit, Bool.true_or]
theorem ch_Ksee {n m : Nat} {mk iw hd knw sr kn sn kp sr' sn' : Nat → Int32} (D : Nat → Bool) (h : ch_K n mk iw hd knw sr kn sn kp) (hn : n ≤ 300) (hm : m < 4)
    (e1 : ∀ i, i < n → sr' i = if D i = true then sr i ||| ((1 : Int32) <<< (nI m &&& 31)) else sr i)
    (e2 : ∀ i, i < n → sn' (300 * m + i) = if D i = true then 1 else sn (300 * m + i))
    (e3 : ∀ j, (∀ i, i < n → ¬ j = 300 * m + i) → sn' j = sn j) : ch_K n mk iw hd knw sr' kn sn' kp := by
  obtain ⟨a, b, c, d, e⟩ := h
  refine ⟨a, b, ?_, d, e⟩
  intro q i hq hi hw
  rw [e1 i hi]
  by_cases z : q = m
  · subst z
    rw [e2 i hi, c q i hq hi hw]
    by_cases y : D i = true
    · rw [if_pos y, if_pos y, ch_orb _ (by omega) (by omega), decide_eq_true rfl, Bool.or_true]
      rfl
    · rw [if_neg y, if_neg y]
  · rw [e3 _ (fun j hj => ch_adr hn hi hj z), c q i hq hi hw]
    by_cases y : D i = true
    · rw [if_pos y, ch_orb _ (by omega) (by omega), decide_eq_false z, Bool.or_false]
    · rw [if_neg y]
theorem ch_Kopen {n : Nat} {mk iw hd knw sr kn sn kp knw' kn' : Nat → Int32} (h : ch_K n mk iw hd knw sr kn sn kp)
    (e1 : ∀ i, i < n → knw' i = knw i ||| 15)
    (e2 : ∀ q i, q < 4 → i < n → kn' (300 * q + i) = 1) : ch_K n mk iw hd knw' sr kn' sn kp := by
  obtain ⟨a, b, c, d, e⟩ := h
  have t : ∀ q i, q < 4 → i < n → bt (knw' i) q = true := by
    intro q i hq hi
    rw [e1 i hi, ch_or15 _ (by omega), decide_eq_true hq, Bool.or_true]
  refine ⟨?_, ?_, c, ?_, ?_⟩
  · intro q i hq hi
    rw [e2 q i hq hi, t q i hq hi]
    rfl
  · intro q i hq hi
    rw [e1 i hi, ch_or15 _ (by omega), decide_eq_false (show ¬ 4 + q < 4 by omega), Bool.or_false]
    exact b q i hq hi
  · exact fun m i hm hi _ => t m i hm hi
  · exact fun l m i _ hm _ hi _ => t m i hm hi
theorem ch_Knew {n m : Nat} {mk iw hd knw sr kn sn kp kn' sn' kp' : Nat → Int32} {y z : Int32} (h : ch_K n mk iw hd knw sr kn sn kp) (hn : n < 300) (hm : m < 4) (hz : z = (1 : Int32) <<< (nI m &&& 31))
    (e1 : ∀ q, q < 4 → kn' (300 * q + n) = if q = m then 1 else 0)
    (e2 : ∀ j, (∀ q, q < 4 → ¬ j = 300 * q + n) → kn' j = kn j)
    (e3 : y = 1 → ∀ q, q < 4 → sn' (300 * q + n) = if q = m then 1 else 0)
    (e4 : ∀ j, (∀ q, q < 4 → ¬ j = 300 * q + n) → sn' j = sn j)
    (e5 : ∀ q, q < 4 → kp' (300 * q + n) = 0)
    (e6 : ∀ j, (∀ q, q < 4 → ¬ j = 300 * q + n) → kp' j = kp j) : ch_K (n + 1) (upd mk n (nI m)) (upd iw n y) hd (upd knw n z) (upd sr n z) kn' sn' kp' := by
  obtain ⟨a, b, c, d, e⟩ := h
  have ad : ∀ q i, i < n → ∀ k, k < 4 → ¬ 300 * q + i = 300 * k + n := by
    intro q i hi k _
    omega
  refine ⟨?_, ?_, ?_, ?_, ?_⟩
  · intro q i hq hi
    by_cases t : i = n
    · subst t
      rw [e1 q hq, pk_us, hz, ch_one m (by omega) q (by omega)]
      by_cases w : q = m
      · rw [if_pos w, decide_eq_true w]; rfl
      · rw [if_neg w, decide_eq_false w]; rfl
    · rw [e2 _ (ad q i (by omega)), pk_un t, a q i hq (by omega)]
  · intro q i hq hi
    by_cases t : i = n
    · subst t
      rw [e5 q hq, pk_us, hz, ch_one m (by omega) (4 + q) (by omega), decide_eq_false (show ¬ 4 + q = m by omega)]
      rfl
    · rw [e6 _ (ad q i (by omega)), pk_un t, b q i hq (by omega)]
  · intro q i hq hi hw
    by_cases t : i = n
    · subst t
      rw [pk_us] at hw
      rw [e3 hw q hq, pk_us, hz, ch_one m (by omega) q (by omega)]
      by_cases w : q = m
      · rw [if_pos w, decide_eq_true w]; rfl
      · rw [if_neg w, decide_eq_false w]; rfl
    · rw [pk_un t] at hw
      rw [e4 _ (ad q i (by omega)), pk_un t, c q i hq (by omega) hw]
  · intro k i hk hi hmk
    by_cases t : i = n
    · subst t
      rw [pk_us] at hmk
      have : m = k := (nI_eq (by omega) (by omega)).mp hmk
      subst this
      rw [pk_us, hz, ch_one m (by omega) m (by omega), decide_eq_true rfl]
    · rw [pk_un t] at hmk
      rw [pk_un t]
      exact d k i hk (by omega) hmk
  · intro l k i hl hk hh hi hbit
    by_cases t : i = n
    · subst t
      rw [pk_us, hz, ch_one m (by omega) (4 + l) (by omega), decide_eq_false (show ¬ 4 + l = m by omega)] at hbit
      cases hbit
    · rw [pk_un t] at hbit
      rw [pk_un t]
      exact e l k i hl hk hh (by omega) hbit
theorem ch_K0 {mk iw hd knw sr kn sn kp : Nat → Int32} : ch_K 0 mk iw hd knw sr kn sn kp :=
  ⟨fun _ i _ h => absurd h (Nat.not_lt_zero i), fun _ i _ h => absurd h (Nat.not_lt_zero i), fun _ i _ h => absurd h (Nat.not_lt_zero i), fun _ i _ h => absurd h (Nat.not_lt_zero i), fun _ _ i _ _ _ h => absurd h (Nat.not_lt_zero i)⟩
/-- the kept accesses -/
def ch_A (n : Nat) (mk wd iw wr vl : Nat → Int32) : Prop :=
  n ≤ 300 ∧ (∀ i, i < n → ∃ m, m < 4 ∧ mk i = nI m) ∧ (∀ i, i < n → ∃ w, w < 64 ∧ wd i = nI w) ∧ (∀ i, i < n → iw i = 0 ∨ iw i = 1) ∧ (∀ i, i < n → iw i = 1 → wr i = vl i)
theorem ch_Anew {n m w : Nat} {mk wd iw wr vl : Nat → Int32} {y v v2 : Int32} (h : ch_A n mk wd iw wr vl) (hn : n < 300) (hm : m < 4) (hw : w < 64) (hy : y = 0 ∨ y = 1) (hv : y = 1 → v = v2) : ch_A (n + 1) (upd mk n (nI m)) (upd wd n (nI w)) (upd iw n y) (upd wr n v) (upd vl n v2) := by
  obtain ⟨_, b, c, d, e⟩ := h
  refine ⟨by omega, ?_, ?_, ?_, ?_⟩
  · intro i hi
    by_cases t : i = n
    · subst t; rw [pk_us]; exact ⟨m, hm, rfl⟩
    · rw [pk_un t]; exact b i (by omega)
  · intro i hi
    by_cases t : i = n
    · subst t; rw [pk_us]; exact ⟨w, hw, rfl⟩
    · rw [pk_un t]; exact c i (by omega)
  · intro i hi
    by_cases t : i = n
    · subst t; rw [pk_us]; exact hy
    · rw [pk_un t]; exact d i (by omega)
  · intro i hi
    by_cases t : i = n
    · subst t; rw [pk_us, pk_us, pk_us]; exact hv
    · rw [pk_un t, pk_un t, pk_un t]; exact e i (by omega)
/-- the tallies -/
def ch_T (ty fe mv rc md lo : Nat → Int32) : Prop :=
  ∀ m, m < 4 → ty (5 * m) = fe m ∧ ty (5 * m + 1) = mv m ∧ ty (5 * m + 2) = rc m ∧ ty (5 * m + 3) = md m ∧ ty (5 * m + 4) = lo m
end
section
/-! X's reading methods, each against its pure value, for every post -/
def ch_rg (N : Nat) (v : Int32) : Prop := ∃ j, j < N ∧ v = nI j
def ch_run (st : Nat → Int32) (v : Int32) : Prop := ∃ m, m < 4 ∧ v = nI m ∧ st m = 0
def ch_hol (st hd : Nat → Int32) (v l : Int32) : Prop := ∃ m j, m < 4 ∧ j < 4 ∧ v = nI m ∧ l = nI j ∧ st m = 0 ∧ hd j = nI m
theorem ch_is {N : Nat} {M v : Int32} {A B : Prop} (hM : M = nI N) (hN : N < 2 ^ 31) (t : ch_rg N v → B) (f : ¬ ch_rg N v → A) : (v < 0 → A) ∧ (¬ v < 0 → ((M ≤ v → A) ∧ (¬ M ≤ v → B))) := by
  subst hM
  refine br_c (fun h => f ?_) (fun h => br_c (fun h2 => f ?_) (fun h2 => t ?_))
  · rintro ⟨j, hj, rfl⟩
    exact nI_pos (by omega) h
  · rintro ⟨j, hj, rfl⟩
    exact nI_ge hj hN h2
  · rcases pk_ix v hN with a | a | a
    · exact absurd a h
    · exact absurd a h2
    · exact a
theorem ch_nb (b : Bool) : narrow .boolean (.int (ch_b b)) = .int (ch_b b) := by cases b <;> rfl
theorem ch_fb (b : Bool) : fits .boolean (.int (ch_b b)) = true := by cases b <;> rfl
theorem ch_vb (b : Bool) : vp_nar .boolean (ch_b b) = ch_b b := by cases b <;> rfl
theorem ch_vb0 : vp_nar .boolean 0 = 0 := rfl
theorem ch_vb1 : vp_nar .boolean 1 = 1 := rfl
section xr
variable {n : Nat} {fr : Int32} {st aw ty hd ro ln sp bf ra mk wd iw wr kw sr : Nat → Int32}
theorem x_isMachine {post : Int32 → Prop} {u : SX} {v : Int32} (t : ch_rg 4 v → post 1) (f : ¬ ch_rg 4 v → post 0) : wpX_isMachine post u v := by
  obtain ⟨fk, fr, st, aw, ty, hd, ro, ln, sp, bf, ra, mk, wd, iw, wr, kw, sr⟩ := u
  exact ch_is (N := 4) rfl (by decide) t f
theorem x_isLock {post : Int32 → Prop} {u : SX} {v : Int32} (t : ch_rg 4 v → post 1) (f : ¬ ch_rg 4 v → post 0) : wpX_isLock post u v := by
  obtain ⟨fk, fr, st, aw, ty, hd, ro, ln, sp, bf, ra, mk, wd, iw, wr, kw, sr⟩ := u
  exact ch_is (N := 4) rfl (by decide) t f
theorem x_isPage {post : Int32 → Prop} {u : SX} {v : Int32} (t : ch_rg 8 v → post 1) (f : ¬ ch_rg 8 v → post 0) : wpX_isPage post u v := by
  obtain ⟨fk, fr, st, aw, ty, hd, ro, ln, sp, bf, ra, mk, wd, iw, wr, kw, sr⟩ := u
  exact ch_is (N := 8) rfl (by decide) t f
theorem x_isWord {post : Int32 → Prop} {u : SX} {v : Int32} (t : ch_rg 64 v → post 1) (f : ¬ ch_rg 64 v → post 0) : wpX_isWord post u v := by
  obtain ⟨fk, fr, st, aw, ty, hd, ro, ln, sp, bf, ra, mk, wd, iw, wr, kw, sr⟩ := u
  exact ch_is (N := 64) rfl (by decide) t f
theorem x_isRunning {fk : Int32} {post : Int32 → Prop} {v : Int32} (t : ch_run st v → post 1) (f : ¬ ch_run st v → post 0) : wpX_isRunning post (fk, fr, st, aw, ty, hd, ro, ln, sp, bf, ra, mk, wd, iw, wr, kw, sr) v := by
  unfold wpX_isRunning
  dsimp only
  refine x_isMachine (fun h => ?_) (fun h => ?_)
  · obtain ⟨m, hm, rfl⟩ := h
    refine br_f (by decide) ⟨vp_in_nI hm (by decide), ?_⟩
    rw [nI_clamp (by omega)]
    refine br_c (fun hs => t ⟨m, hm, rfl, hs⟩) (fun hs => f ?_)
    rintro ⟨k, hk, e, h2⟩
    have := (nI_eq (by omega) (by omega)).mp e
    subst this
    exact hs h2
  · refine br_t rfl (f ?_)
    rintro ⟨k, hk, e, h2⟩
    exact h ⟨k, hk, e⟩
theorem x_mayAccess {fk : Int32} {post : Int32 → Prop} {v w : Int32} (t : ch_run st v → ch_rg 64 w → post 1) (f : ¬ (ch_run st v ∧ ch_rg 64 w) → post 0) : wpX_mayAccess post (fk, fr, st, aw, ty, hd, ro, ln, sp, bf, ra, mk, wd, iw, wr, kw, sr) v w := by
  unfold wpX_mayAccess
  dsimp only
  refine x_isRunning (fun h => ?_) (fun h => ?_)
  · refine br_f (by decide) ?_
    refine x_isWord (fun h2 => ?_) (fun h2 => ?_)
    · exact br_f (by decide) (t h h2)
    · exact br_t rfl (f (fun z => h2 z.2))
  · exact br_t rfl (f (fun z => h z.1))
theorem x_isRunningHolder {fk : Int32} {post : Int32 → Prop} {v l : Int32} (t : ch_hol st hd v l → post 1) (f : ¬ ch_hol st hd v l → post 0) : wpX_isRunningHolder post (fk, fr, st, aw, ty, hd, ro, ln, sp, bf, ra, mk, wd, iw, wr, kw, sr) v l := by
  unfold wpX_isRunningHolder
  dsimp only
  refine x_isRunning (fun h => ?_) (fun h => ?_)
  · refine br_f (by decide) ?_
    refine x_isLock (fun h2 => ?_) (fun h2 => ?_)
    · obtain ⟨j, hj, rfl⟩ := h2
      obtain ⟨m, hm, rfl, hs⟩ := h
      refine br_f (by decide) ⟨vp_in_nI hj (by decide), ?_⟩
      rw [nI_clamp (by omega)]
      refine br_c (fun e => t ⟨m, j, hm, hj, rfl, rfl, hs, e⟩) (fun e => f ?_)
      rintro ⟨m2, j2, hm2, hj2, e1, e2, _, e3⟩
      have := (nI_eq (by omega) (by omega)).mp e2
      subst this
      exact e (e3.trans e1.symm)
    · refine br_t rfl (f ?_)
      rintro ⟨m2, j2, hm2, hj2, e1, e2, _, e3⟩
      exact h2 ⟨j2, hj2, e2⟩
  · refine br_t rfl (f ?_)
    rintro ⟨m2, j2, hm2, hj2, e1, e2, e4, e3⟩
    exact h ⟨m2, hm2, e1, e4⟩
theorem x_isOnPage {fk : Int32} {post : Int32 → Prop} {i : Nat} {p : Int32} (hi : i < 300) (t : wd i / 8 = p → post 1) (f : ¬ wd i / 8 = p → post 0) : wpX_isOnPage post (fk, fr, st, aw, ty, hd, ro, ln, sp, bf, ra, mk, wd, iw, wr, kw, sr) (nI i) p := by
  unfold wpX_isOnPage
  dsimp only
  rw [nI_clamp (by omega)]
  exact ⟨vp_in_nI hi (by decide), by decide, br_c t f⟩
theorem x_isKnown {fk : Int32} {post : Int32 → Prop} {i q : Nat} (hi : i < 300) (hq : q < 32) (h : post (ch_b (bt (kw i) q))) : wpX_isKnown post (fk, fr, st, aw, ty, hd, ro, ln, sp, bf, ra, mk, wd, iw, wr, kw, sr) (nI i) (nI q) := by
  unfold wpX_isKnown
  dsimp only
  rw [nI_clamp (by omega)]
  refine ⟨vp_in_nI hi (by decide), br_c (fun z => ?_) (fun z => ?_)⟩
  · rw [ch_bit _ q hq] at z
    rw [z] at h
    exact h
  · rw [ch_bit _ q hq] at z
    rw [ch_nf z] at h
    exact h
theorem x_isSeen {fk : Int32} {post : Int32 → Prop} {i q : Nat} (hi : i < 300) (hq : q < 32) (h : post (ch_b (bt (sr i) q))) : wpX_isSeen post (fk, fr, st, aw, ty, hd, ro, ln, sp, bf, ra, mk, wd, iw, wr, kw, sr) (nI i) (nI q) := by
  unfold wpX_isSeen
  dsimp only
  rw [nI_clamp (by omega)]
  refine ⟨vp_in_nI hi (by decide), br_c (fun z => ?_) (fun z => ?_)⟩
  · rw [ch_bit _ q hq] at z
    rw [z] at h
    exact h
  · rw [ch_bit _ q hq] at z
    rw [ch_nf z] at h
    exact h
end xr
/-- a write that m knows and has not seen -/
def ch_fx (iw kw sr : Nat → Int32) (m i : Nat) : Bool := decide (¬ iw i = 0) && (bt (kw i) m && !(bt (sr i) m))
section xs
variable {n : Nat} {fr : Int32} {st aw ty hd ro ln sp bf ra mk wd iw wr kw sr : Nat → Int32}
theorem x_fresh {fk : Int32} {post : Int32 → Prop} {i m : Nat} (hi : i < 300) (hm : m < 32) (h : post (ch_b (ch_fx iw kw sr m i))) : wpX_isKnownUnseenWrite post (fk, fr, st, aw, ty, hd, ro, ln, sp, bf, ra, mk, wd, iw, wr, kw, sr) (nI i) (nI m) := by
  unfold wpX_isKnownUnseenWrite
  dsimp only
  rw [nI_clamp (by omega)]
  refine ⟨vp_in_nI hi (by decide), vp_in_nI hi (by decide), nm_e ⟨vp_in_nI hi (by decide), br_c (fun z => ?_) (fun z => br_c (fun y => ?_) (fun y => ?_))⟩⟩
  · have e : ch_fx iw kw sr m i = false := by unfold ch_fx; rw [decide_eq_false (fun q => q z), Bool.false_and]
    rw [e] at h
    exact h
  · rw [ch_news _ _ m hm] at y
    have e : ch_fx iw kw sr m i = false := by unfold ch_fx; rw [y, Bool.and_false]
    rw [e] at h
    exact h
  · rw [ch_news _ _ m hm] at y
    have e : ch_fx iw kw sr m i = true := by unfold ch_fx; rw [ch_nf y, decide_eq_true z]; rfl
    rw [e] at h
    exact h
theorem x_hasPage_5 (hn : n ≤ 300) {post : Int32 → Prop} {m p : Int32} : ∀ d i, i + d = n → post (ch_b (ch_hv mk wd iw m p n)) → wX_hasPage_5 post m p (nI n) fr st aw ty hd ro ln sp bf ra mk wd iw wr kw sr (d + 1) (ch_b (ch_hv mk wd iw m p i)) (nI i) := by
  intro d
  induction d with
  | zero =>
    intro i hi hp
    have : i = n := by omega
    subst this
    exact br_t (nI_le (Nat.le_refl _) (by omega)) ⟨ch_nb _, hp⟩
  | succ d ih =>
    intro i hi hp
    have ih := ih (i + 1) (by omega) hp
    refine br_f (nI_ge (by omega) (by omega)) ?_
    refine x_isOnPage (by omega) (fun a => ?_) (fun a => ?_)
    · refine br_f (by decide) ⟨vp_in_nI (by omega) (by decide), ?_⟩
      rw [nI_clamp (by omega)]
      refine br_c (fun b => ?_) (fun b => ⟨vp_in_nI (by omega) (by decide), br_c (fun c => ?_) (fun c => ?_)⟩)
      · refine nm_r (nI_1 i) ?_
        have e : ch_hv mk wd iw m p (i + 1) = true := by unfold ch_hv; rw [if_pos a, if_pos b]
        rw [e] at ih
        exact ih
      · refine nm_r (nI_1 i) ?_
        have e : ch_hv mk wd iw m p (i + 1) = ch_hv mk wd iw m p i := by rw [ch_hv, if_pos a, if_neg b, if_pos c]
        rw [e] at ih
        exact ih
      · refine nm_r (nI_1 i) ?_
        have e : ch_hv mk wd iw m p (i + 1) = false := by unfold ch_hv; rw [if_pos a, if_neg b, if_neg c]
        rw [e] at ih
        exact ih
    · refine br_t rfl ?_
      refine nm_r (nI_1 i) ?_
      have e : ch_hv mk wd iw m p (i + 1) = ch_hv mk wd iw m p i := by rw [ch_hv, if_neg a]
      rw [e] at ih
      exact ih
theorem x_hasPage (hn : n ≤ 300) {post : Int32 → Prop} {m p : Int32} (h : post (ch_b (ch_hv mk wd iw m p n))) : wpX_hasPage post ((nI n), fr, st, aw, ty, hd, ro, ln, sp, bf, ra, mk, wd, iw, wr, kw, sr) m p :=
  ⟨n + 1, x_hasPage_5 hn n 0 (by omega) h⟩
theorem x_ownsPage_5 (hn : n ≤ 300) {post : Int32 → Prop} {m p : Int32} : ∀ d i, i + d = n → post (ch_b (ch_ow mk wd iw m p n)) → wX_ownsPage_5 post m p (nI n) fr st aw ty hd ro ln sp bf ra mk wd iw wr kw sr (d + 1) (ch_b (ch_ow mk wd iw m p i)) (nI i) := by
  intro d
  induction d with
  | zero =>
    intro i hi hp
    have : i = n := by omega
    subst this
    exact br_t (nI_le (Nat.le_refl _) (by omega)) ⟨ch_nb _, hp⟩
  | succ d ih =>
    intro i hi hp
    have ih := ih (i + 1) (by omega) hp
    refine br_f (nI_ge (by omega) (by omega)) ?_
    refine x_isOnPage (by omega) (fun a => ?_) (fun a => ?_)
    · refine br_f (by decide) ⟨vp_in_nI (by omega) (by decide), ?_⟩
      rw [nI_clamp (by omega)]
      refine br_c (fun b => ⟨vp_in_nI (by omega) (by decide), br_c (fun c => ?_) (fun c => ?_)⟩) (fun b => ?_)
      · refine nm_r (nI_1 i) ?_
        have e : ch_ow mk wd iw m p (i + 1) = ch_ow mk wd iw m p i := by rw [ch_ow, if_pos a, if_pos b, if_pos c]
        rw [e] at ih
        exact ih
      · refine nm_r (nI_1 i) ?_
        have e : ch_ow mk wd iw m p (i + 1) = true := by unfold ch_ow; rw [if_pos a, if_pos b, if_neg c]
        rw [e] at ih
        exact ih
      · refine nm_r (nI_1 i) ?_
        have e : ch_ow mk wd iw m p (i + 1) = false := by unfold ch_ow; rw [if_pos a, if_neg b]
        rw [e] at ih
        exact ih
    · refine br_t rfl ?_
      refine nm_r (nI_1 i) ?_
      have e : ch_ow mk wd iw m p (i + 1) = ch_ow mk wd iw m p i := by rw [ch_ow, if_neg a]
      rw [e] at ih
      exact ih
theorem x_ownsPage (hn : n ≤ 300) {post : Int32 → Prop} {m p : Int32} (h : post (ch_b (ch_ow mk wd iw m p n))) : wpX_ownsPage post ((nI n), fr, st, aw, ty, hd, ro, ln, sp, bf, ra, mk, wd, iw, wr, kw, sr) m p :=
  ⟨n + 1, x_ownsPage_5 hn n 0 (by omega) h⟩
theorem x_isStale_13 (hn : n ≤ 300) {post : Int32 → Prop} {m : Nat} {p : Int32} (hm : m < 4) : ∀ d i, i + d = n → (∀ j, j < i → (decide (wd j / 8 = p) && ch_fx iw kw sr m j) = false) → post (ch_b (ch_any (fun j => decide (wd j / 8 = p) && ch_fx iw kw sr m j) n)) → wX_isStale_13 post (nI m) p (nI n) fr st aw ty hd ro ln sp bf ra mk wd iw wr kw sr (d + 1) (nI i) := by
  intro d
  induction d with
  | zero =>
    intro i hi hj hp
    have : i = n := by omega
    subst this
    refine br_t (nI_le (Nat.le_refl _) (by omega)) ?_
    rw [ch_any_f hj] at hp
    exact hp
  | succ d ih =>
    intro i hi hj hp
    have next : (decide (wd i / 8 = p) && ch_fx iw kw sr m i) = false → wX_isStale_13 post (nI m) p (nI n) fr st aw ty hd ro ln sp bf ra mk wd iw wr kw sr (d + 1) (nI (i + 1)) := by
      intro e
      refine ih (i + 1) (by omega) ?_ hp
      intro j h
      by_cases q : j = i
      · rw [q]; exact e
      · exact hj j (by omega)
    refine br_f (nI_ge (by omega) (by omega)) ?_
    refine x_isOnPage (by omega) (fun a => ?_) (fun a => ?_)
    · refine br_f (by decide) ?_
      refine x_fresh (by omega) (by omega) ?_
      cases e : ch_fx iw kw sr m i
      · refine br_t rfl ?_
        refine nm_r (nI_1 i) (next ?_)
        rw [e, Bool.and_false]
      · refine br_f (by decide) ?_
        rw [ch_any_t (i := i) (by omega) (by rw [e, decide_eq_true a]; rfl)] at hp
        exact hp
    · refine br_t rfl ?_
      refine nm_r (nI_1 i) (next ?_)
      rw [decide_eq_false a, Bool.false_and]
theorem x_isStale (hn : n ≤ 300) {post : Int32 → Prop} {m p : Nat} (hm : m < 4) (hp : p < 8) (h : post (ch_b (decide (sp p = 0) && ch_any (fun j => decide (wd j / 8 = nI p) && ch_fx iw kw sr m j) n))) : wpX_isStale post ((nI n), fr, st, aw, ty, hd, ro, ln, sp, bf, ra, mk, wd, iw, wr, kw, sr) (nI m) (nI p) := by
  unfold wpX_isStale
  dsimp only
  rw [nI_clamp (by omega)]
  refine ⟨vp_in_nI hp (by decide), br_c (fun z => ?_) (fun z => ?_)⟩
  · refine ⟨n + 1, x_isStale_13 hn hm n 0 (by omega) (fun j h => absurd h (Nat.not_lt_zero j)) ?_⟩
    rw [decide_eq_true z, Bool.true_and] at h
    exact h
  · rw [decide_eq_false z, Bool.false_and] at h
    exact h
theorem x_knownOf_5 (hn : n ≤ 300) {post : Int32 → Prop} {q : Nat} {o : Int32} (hq : q < 32) : ∀ d i, i + d = n → post (nI (ch_cnt (fun j => decide (mk j = o) && bt (kw j) q) n)) → wX_knownOf_5 post (nI q) o (nI n) fr st aw ty hd ro ln sp bf ra mk wd iw wr kw sr (d + 1) (nI (ch_cnt (fun j => decide (mk j = o) && bt (kw j) q) i)) (nI i) := by
  intro d
  induction d with
  | zero =>
    intro i hi hp
    have : i = n := by omega
    subst this
    exact br_t (nI_le (Nat.le_refl _) (by omega)) hp
  | succ d ih =>
    intro i hi hp
    have ih := ih (i + 1) (by omega) hp
    refine br_f (nI_ge (by omega) (by omega)) ⟨vp_in_nI (by omega) (by decide), ?_⟩
    rw [nI_clamp (by omega)]
    refine br_c (fun b => ?_) (fun b => ?_)
    · refine x_isKnown (by omega) hq ?_
      cases e : bt (kw i) q
      · refine br_t rfl ?_
        refine nm_r (nI_1 i) ?_
        rw [ch_cnt, if_neg (by rw [e, Bool.and_false]; decide)] at ih
        exact ih
      · refine br_f (by decide) ?_
        refine nm_r (nI_1 _) ?_
        refine nm_r (nI_1 i) ?_
        rw [ch_cnt, if_pos (by rw [e, decide_eq_true b]; rfl)] at ih
        exact ih
    · refine nm_r (nI_1 i) ?_
      rw [ch_cnt, if_neg (by rw [decide_eq_false b, Bool.false_and]; decide)] at ih
      exact ih
theorem x_knownOf (hn : n ≤ 300) {post : Int32 → Prop} {q : Nat} {o : Int32} (hq : q < 32) (h : post (nI (ch_cnt (fun j => decide (mk j = o) && bt (kw j) q) n))) : wpX_knownOf post ((nI n), fr, st, aw, ty, hd, ro, ln, sp, bf, ra, mk, wd, iw, wr, kw, sr) (nI q) o :=
  ⟨n + 1, x_knownOf_5 hn hq n 0 (by omega) h⟩
end xs
end
section
/-! Y's reading methods, each against its pure value, for every post -/
def ch_fy (iw kn sn : Nat → Int32) (m i : Nat) : Bool := decide (¬ iw i = 0) && (decide (¬ kn (300 * m + i) = 0) && decide (sn (300 * m + i) = 0))
theorem ch_ad (m i : Nat) : 300 * nI m + nI i = nI (300 * m + i) := by
  rw [show (300 : Int32) = nI 300 from rfl, pk_mul, nI_add]
theorem ch_adI {m i : Nat} (hm : m < 4) (hi : i < 300) : vp_in (300 * nI m + nI i) 1200 := by
  rw [ch_ad]
  exact vp_in_nI (by omega) (by decide)
theorem ch_adC {m i : Nat} (hm : m < 4) (hi : i < 300) : (300 * nI m + nI i).toNatClampNeg = 300 * m + i := by
  rw [ch_ad]
  exact nI_clamp (by omega)
section yr
variable {n : Nat} {fr lr : Int32} {mk wd vl iw kn sn kp bf sp st aw hd ry ln fe mv rc md lo ra : Nat → Int32}
theorem y_in {N : Nat} {M v : Int32} {post : Int32 → Prop} (hM : M = nI N) (hN : N < 2 ^ 31) (t : ch_rg N v → post 1) (f : ¬ ch_rg N v → post 0) : wpY_in post v M := ch_is hM hN t f
theorem y_runs {fk : Int32} {post : Int32 → Prop} {v : Int32} (t : ch_run st v → post 1) (f : ¬ ch_run st v → post 0) : wpY_runs post (fk, fr, lr, mk, wd, vl, iw, kn, sn, kp, bf, sp, st, aw, hd, ry, ln, fe, mv, rc, md, lo, ra) v := by
  unfold wpY_runs
  dsimp only
  refine y_in (N := 4) rfl (by decide) (fun h => ?_) (fun h => ?_)
  · obtain ⟨m, hm, rfl⟩ := h
    refine br_f (by decide) ⟨vp_in_nI hm (by decide), ?_⟩
    rw [nI_clamp (by omega)]
    refine br_c (fun hs => t ⟨m, hm, rfl, hs⟩) (fun hs => f ?_)
    rintro ⟨k, hk, e, h2⟩
    have := (nI_eq (by omega) (by omega)).mp e
    subst this
    exact hs h2
  · refine br_t rfl (f ?_)
    rintro ⟨k, hk, e, h2⟩
    exact h ⟨k, hk, e⟩
theorem y_holds {fk : Int32} {post : Int32 → Prop} {v l : Int32} (t : ch_hol st hd v l → post 1) (f : ¬ ch_hol st hd v l → post 0) : wpY_holds post (fk, fr, lr, mk, wd, vl, iw, kn, sn, kp, bf, sp, st, aw, hd, ry, ln, fe, mv, rc, md, lo, ra) v l := by
  unfold wpY_holds
  dsimp only
  refine y_runs (fun h => ?_) (fun h => ?_)
  · refine br_f (by decide) ?_
    refine y_in (N := 4) rfl (by decide) (fun h2 => ?_) (fun h2 => ?_)
    · obtain ⟨j, hj, rfl⟩ := h2
      obtain ⟨m, hm, rfl, hs⟩ := h
      refine br_f (by decide) ⟨vp_in_nI hj (by decide), ?_⟩
      rw [nI_clamp (by omega)]
      refine br_c (fun e => t ⟨m, j, hm, hj, rfl, rfl, hs, e⟩) (fun e => f ?_)
      rintro ⟨m2, j2, hm2, hj2, e1, e2, _, e3⟩
      have := (nI_eq (by omega) (by omega)).mp e2
      subst this
      exact e (e3.trans e1.symm)
    · refine br_t rfl (f ?_)
      rintro ⟨m2, j2, hm2, hj2, e1, e2, _, e3⟩
      exact h2 ⟨j2, hj2, e2⟩
  · refine br_t rfl (f ?_)
    rintro ⟨m2, j2, hm2, hj2, e1, e2, e4, e3⟩
    exact h ⟨m2, hm2, e1, e4⟩
theorem y_fresh {fk : Int32} {post : Int32 → Prop} {i m : Nat} (hi : i < 300) (hm : m < 4) (h : post (ch_b (ch_fy iw kn sn m i))) : wpY_fresh post (fk, fr, lr, mk, wd, vl, iw, kn, sn, kp, bf, sp, st, aw, hd, ry, ln, fe, mv, rc, md, lo, ra) (nI m) (nI i) := by
  unfold wpY_fresh
  dsimp only
  rw [nI_clamp (by omega), ch_adC hm hi]
  have ad := ch_adI hm hi
  refine ⟨vp_in_nI hi (by decide), br_c (fun z => ?_) (fun z => ⟨ad, br_c (fun y => ?_) (fun y => ⟨ad, br_c (fun x => ?_) (fun x => ?_)⟩)⟩)⟩
  · have e : ch_fy iw kn sn m i = false := by unfold ch_fy; rw [decide_eq_false (fun q => q z), Bool.false_and]
    rw [e] at h
    exact h
  · have e : ch_fy iw kn sn m i = false := by unfold ch_fy; rw [decide_eq_false (p := ¬ kn (300 * m + i) = 0) (fun q => q y), Bool.false_and, Bool.and_false]
    rw [e] at h
    exact h
  · have e : ch_fy iw kn sn m i = true := by unfold ch_fy; rw [decide_eq_true z, decide_eq_true y, decide_eq_true x]; rfl
    rw [e] at h
    exact h
  · have e : ch_fy iw kn sn m i = false := by unfold ch_fy; rw [decide_eq_false x, Bool.and_false, Bool.and_false]
    rw [e] at h
    exact h
theorem y_isStale_2 (hn : n ≤ 300) {post : Int32 → Prop} {m p : Nat} (hm : m < 4) (hp8 : p < 8) : ∀ d i, i + d = n → (∀ j, j < i → (decide (wd j / 8 = nI p) && ch_fy iw kn sn m j) = false) → post (ch_b (decide (sp p = 0) && ch_any (fun j => decide (wd j / 8 = nI p) && ch_fy iw kn sn m j) n)) → wY_isStale_2 post (nI m) (nI p) (nI n) fr lr mk wd vl iw kn sn kp bf sp st aw hd ry ln fe mv rc md lo ra (d + 1) (nI i) := by
  intro d
  induction d with
  | zero =>
    intro i hi hj hp
    have : i = n := by omega
    subst this
    refine br_t (nI_le (Nat.le_refl _) (by omega)) ?_
    rw [ch_any_f hj, Bool.and_false] at hp
    exact hp
  | succ d ih =>
    intro i hi hj hp
    have next : (decide (wd i / 8 = nI p) && ch_fy iw kn sn m i) = false → wY_isStale_2 post (nI m) (nI p) (nI n) fr lr mk wd vl iw kn sn kp bf sp st aw hd ry ln fe mv rc md lo ra (d + 1) (nI (i + 1)) := by
      intro e
      refine ih (i + 1) (by omega) ?_ hp
      intro j h
      by_cases q : j = i
      · rw [q]; exact e
      · exact hj j (by omega)
    refine br_f (nI_ge (by omega) (by omega)) ⟨vp_in_nI hp8 (by decide), ?_⟩
    rw [nI_clamp (n := p) (by omega), nI_clamp (n := i) (by omega)]
    refine br_c (fun s => ⟨vp_in_nI (by omega) (by decide), by decide, br_c (fun a => ?_) (fun a => ?_)⟩) (fun s => ?_)
    · refine y_fresh (by omega) hm ?_
      cases e : ch_fy iw kn sn m i
      · refine br_t rfl ?_
        refine nm_r (nI_1 i) (next ?_)
        rw [e, Bool.and_false]
      · refine br_f (by decide) ?_
        rw [decide_eq_true s, ch_any_t (i := i) (by omega) (by rw [e, decide_eq_true a]; rfl)] at hp
        exact hp
    · refine nm_r (nI_1 i) (next ?_)
      rw [decide_eq_false a, Bool.false_and]
    · rw [decide_eq_false s, Bool.false_and] at hp
      exact hp
theorem y_isStale (hn : n ≤ 300) {post : Int32 → Prop} {m p : Nat} (hm : m < 4) (hp : p < 8) (h : post (ch_b (decide (sp p = 0) && ch_any (fun j => decide (wd j / 8 = nI p) && ch_fy iw kn sn m j) n))) : wpY_isStale post ((nI n), fr, lr, mk, wd, vl, iw, kn, sn, kp, bf, sp, st, aw, hd, ry, ln, fe, mv, rc, md, lo, ra) (nI m) (nI p) :=
  ⟨n + 1, y_isStale_2 hn hm hp n 0 (by omega) (fun j h => absurd h (Nat.not_lt_zero j)) h⟩
end yr
/-- what Y's hasPage answers -/
def ch_h2 (mk wd iw : Nat → Int32) (m p : Int32) (n : Nat) : Int32 := if ch_ow mk wd iw m p n = true then 2 else ch_b (ch_hv mk wd iw m p n)
section yh
variable {n : Nat} {fr lr : Int32} {mk wd vl iw kn sn kp bf sp st aw hd ry ln fe mv rc md lo ra : Nat → Int32}
theorem y_hasPage_86 {post : Int32 → Prop} {J : Int32 → Int32 → Int32 → Int32 → Int32 → Prop} {m p : Int32} {x3 x4 x5 x6 : Int32} {i : Nat} (hi : i < 300)
    (h : J x3 x4 x5 (if mk i = m then x6 else if iw i = 0 then x6 else nI i) (nI (i + 1))) : wY_hasPage_86 post J m p x3 x4 x5 x6 (nI i) (nI n) fr lr mk wd vl iw kn sn kp bf sp st aw hd ry ln fe mv rc md lo ra := by
  unfold wY_hasPage_86
  rw [nI_clamp (by omega)]
  refine ⟨vp_in_nI hi (by decide), br_c (fun a => ?_) (fun a => ⟨vp_in_nI hi (by decide), br_c (fun b => ?_) (fun b => ?_)⟩)⟩
  · rw [if_pos a] at h
    exact nm_r (nI_1 i) h
  · rw [if_neg a, if_pos b] at h
    exact nm_r (nI_1 i) h
  · rw [if_neg a, if_neg b] at h
    exact nm_r (nI_1 i) h
theorem y_hasPage_61 {post : Int32 → Prop} {J : Int32 → Int32 → Int32 → Int32 → Int32 → Prop} {m p : Int32} {x3 x4 x5 x6 : Int32} {i : Nat} (hi : i < 300)
    (h : J x3 (if mk i = m then (if iw i = 0 then x4 else nI i) else x4) x5 (if mk i = m then x6 else if iw i = 0 then x6 else nI i) (nI (i + 1))) : wY_hasPage_61 post J m p x3 x4 x5 x6 (nI i) (nI n) fr lr mk wd vl iw kn sn kp bf sp st aw hd ry ln fe mv rc md lo ra := by
  unfold wY_hasPage_61
  rw [nI_clamp (by omega)]
  refine ⟨vp_in_nI hi (by decide), br_c (fun a => ⟨vp_in_nI hi (by decide), br_c (fun b => ?_) (fun b => ?_)⟩) (fun a => ?_)⟩
  · rw [if_pos a, if_pos b] at h
    exact y_hasPage_86 hi h
  · rw [if_pos a, if_neg b] at h
    exact y_hasPage_86 hi h
  · rw [if_neg a] at h
    exact y_hasPage_86 hi h
theorem y_hasPage_14 (hn : n ≤ 300) {post : Int32 → Prop} {m p : Int32} : ∀ d i, i + d = n → post (ch_h2 mk wd iw m p n) → wY_hasPage_14 post m p (nI n) fr lr mk wd vl iw kn sn kp bf sp st aw hd ry ln fe mv rc md lo ra (d + 1) (ch_la (fun i => decide (wd i / 8 = p) && decide (mk i = m)) i) (ch_la (fun i => decide (wd i / 8 = p) && (decide (mk i = m) && decide (¬ iw i = 0))) i) (ch_la (fun i => decide (wd i / 8 = p) && decide (¬ mk i = m)) i) (ch_la (fun i => decide (wd i / 8 = p) && (decide (¬ mk i = m) && decide (¬ iw i = 0))) i) (nI i) := by
  intro d
  induction d with
  | zero =>
    intro i hi hp
    have : i = n := by omega
    subst this
    refine br_t (nI_le (Nat.le_refl _) (by omega)) ?_
    have ow := ch_ow_iff mk wd iw m p i (by omega)
    have hv := ch_hv_iff mk wd iw m p i (by omega)
    have no : ¬ ch_ow mk wd iw m p i = true → wY_hasPage_131 post (ch_la (fun i => decide (wd i / 8 = p) && decide (mk i = m)) i) (ch_la (fun i => decide (wd i / 8 = p) && (decide (¬ mk i = m) && decide (¬ iw i = 0))) i) (nI i) fr lr mk wd vl iw kn sn kp bf sp st aw hd ry ln fe mv rc md lo ra := by
      intro z
      unfold ch_h2 at hp
      rw [if_neg z] at hp
      refine br_c (fun a => ?_) (fun a => br_c (fun b => ?_) (fun b => ?_))
      · have e : ch_hv mk wd iw m p i = false := ch_nt (fun q => Int32.not_lt.mpr (hv.mp q).1 a)
        rw [e] at hp
        exact hp
      · have e : ch_hv mk wd iw m p i = false := ch_nt (fun q => Int32.not_lt.mpr b (hv.mp q).2)
        rw [e] at hp
        exact hp
      · have e : ch_hv mk wd iw m p i = true := hv.mpr ⟨Int32.not_lt.mp a, Int32.not_le.mp b⟩
        rw [e] at hp
        exact hp
    refine br_c (fun a => no ?_) (fun a => br_c (fun b => no ?_) (fun b => ?_))
    · exact fun q => Int32.not_lt.mpr (ow.mp q).1 a
    · exact fun q => Int32.not_lt.mpr b (ow.mp q).2
    · have e : ch_ow mk wd iw m p i = true := ow.mpr ⟨Int32.not_lt.mp a, Int32.not_le.mp b⟩
      unfold ch_h2 at hp
      rw [if_pos e] at hp
      exact hp
  | succ d ih =>
    intro i hi hp
    have ih := ih (i + 1) (by omega) hp
    refine br_f (nI_ge (by omega) (by omega)) ⟨vp_in_nI (by omega) (by decide), by decide, ?_⟩
    rw [nI_clamp (by omega)]
    refine br_c (fun a => ⟨vp_in_nI (by omega) (by decide), br_c (fun b => ?_) (fun b => ?_)⟩) (fun a => ?_)
    · refine y_hasPage_61 (by omega) ?_
      simp only [ch_la, a, b, decide_true, Bool.true_and, if_true, not_true, decide_false, Bool.false_and, Bool.false_eq_true, if_false] at ih ⊢
      by_cases c : iw i = 0
      · simp only [c, not_true, decide_false, Bool.false_eq_true, if_false, if_true] at ih ⊢
        exact ih
      · simp only [c, not_false_iff, decide_true, if_true, if_false] at ih ⊢
        exact ih
    · refine y_hasPage_61 (by omega) ?_
      simp only [ch_la, a, b, decide_true, Bool.true_and, if_true, not_false_iff, decide_false, Bool.false_and, Bool.false_eq_true, if_false] at ih ⊢
      by_cases c : iw i = 0
      · simp only [c, not_true, decide_false, Bool.false_eq_true, if_false, if_true] at ih ⊢
        exact ih
      · simp only [c, not_false_iff, decide_true, if_true, if_false] at ih ⊢
        exact ih
    · refine nm_r (nI_1 i) ?_
      simp only [ch_la, a, decide_false, Bool.false_and, Bool.false_eq_true, if_false] at ih
      exact ih
theorem y_hasPage (hn : n ≤ 300) {post : Int32 → Prop} {m p : Int32} (h : post (ch_h2 mk wd iw m p n)) : wpY_hasPage post ((nI n), fr, lr, mk, wd, vl, iw, kn, sn, kp, bf, sp, st, aw, hd, ry, ln, fe, mv, rc, md, lo, ra) m p :=
  ⟨n + 1, y_hasPage_14 hn n 0 (by omega) h⟩
theorem y_known_24 (hn : n ≤ 300) {post : Int32 → Prop} {q : Nat} {o : Int32} (hq : q < 4) : ∀ d i, i + d = n → post (nI (ch_cnt (fun j => decide (mk j = o) && decide (¬ kn (300 * q + j) = 0)) n)) → wY_counted__known_24 post (nI q) o (nI n) fr lr mk wd vl iw kn sn kp bf sp st aw hd ry ln fe mv rc md lo ra (d + 1) (nI (ch_cnt (fun j => decide (mk j = o) && decide (¬ kn (300 * q + j) = 0)) i)) (nI i) := by
  intro d
  induction d with
  | zero =>
    intro i hi hp
    have : i = n := by omega
    subst this
    exact br_t (nI_le (Nat.le_refl _) (by omega)) hp
  | succ d ih =>
    intro i hi hp
    have ih := ih (i + 1) (by omega) hp
    refine br_f (nI_ge (by omega) (by omega)) ⟨vp_in_nI (by omega) (by decide), ?_⟩
    rw [nI_clamp (by omega), ch_adC hq (by omega)]
    refine br_c (fun b => ⟨ch_adI hq (by omega), br_c (fun e => ?_) (fun e => ?_)⟩) (fun b => ?_)
    · refine nm_r (nI_1 i) ?_
      rw [ch_cnt, if_neg (by rw [decide_eq_false (p := ¬ kn (300 * q + i) = 0) (fun z => z e), Bool.and_false]; decide)] at ih
      exact ih
    · refine nm_r (nI_1 _) ?_
      refine nm_r (nI_1 i) ?_
      rw [ch_cnt, if_pos (by rw [decide_eq_true e, decide_eq_true b]; rfl)] at ih
      exact ih
    · refine nm_r (nI_1 i) ?_
      rw [ch_cnt, if_neg (by rw [decide_eq_false b, Bool.false_and]; decide)] at ih
      exact ih
theorem y_keeps_24 (hn : n ≤ 300) {post : Int32 → Prop} {q : Nat} {o : Int32} (hq : q < 4) : ∀ d i, i + d = n → post (nI (ch_cnt (fun j => decide (mk j = o) && decide (¬ kp (300 * q + j) = 0)) n)) → wY_counted__keeps_24 post (nI q) o (nI n) fr lr mk wd vl iw kn sn kp bf sp st aw hd ry ln fe mv rc md lo ra (d + 1) (nI (ch_cnt (fun j => decide (mk j = o) && decide (¬ kp (300 * q + j) = 0)) i)) (nI i) := by
  intro d
  induction d with
  | zero =>
    intro i hi hp
    have : i = n := by omega
    subst this
    exact br_t (nI_le (Nat.le_refl _) (by omega)) hp
  | succ d ih =>
    intro i hi hp
    have ih := ih (i + 1) (by omega) hp
    refine br_f (nI_ge (by omega) (by omega)) ⟨vp_in_nI (by omega) (by decide), ?_⟩
    rw [nI_clamp (by omega), ch_adC hq (by omega)]
    refine br_c (fun b => ⟨ch_adI hq (by omega), br_c (fun e => ?_) (fun e => ?_)⟩) (fun b => ?_)
    · refine nm_r (nI_1 i) ?_
      rw [ch_cnt, if_neg (by rw [decide_eq_false (p := ¬ kp (300 * q + i) = 0) (fun z => z e), Bool.and_false]; decide)] at ih
      exact ih
    · refine nm_r (nI_1 _) ?_
      refine nm_r (nI_1 i) ?_
      rw [ch_cnt, if_pos (by rw [decide_eq_true e, decide_eq_true b]; rfl)] at ih
      exact ih
    · refine nm_r (nI_1 i) ?_
      rw [ch_cnt, if_neg (by rw [decide_eq_false b, Bool.false_and]; decide)] at ih
      exact ih
end yh
end
section
/-! the relation, and the questions -/
def ch_R (n : Nat) (L : Nat → Nat) (T : Nat → Nat → Nat) (st aw ty hd ro ln mk wd iw wr kw sr vl kn sn kp ry fe mv rc md lo : Nat → Int32) : Prop :=
  ch_A n mk wd iw wr vl ∧ ch_K n mk iw hd kw sr kn sn kp ∧ ch_Q L T st aw hd ∧ ch_W L T ln ro ∧ ch_W L T ln ry ∧ ch_T ty fe mv rc md lo
/-- the relation at the head of a turn -/
def i_Rel (k : Nat) (u : SX) (v : SY) : Prop :=
  ∃ (n : Nat) (L : Nat → Nat) (T : Nat → Nat → Nat) (fr lr : Int32) (st aw ty hd ro ln sp bf ra mk wd iw wr kw sr vl kn sn kp ry fe mv rc md lo : Nat → Int32),
    u = ((nI n), fr, st, aw, ty, hd, ro, ln, sp, bf, ra, mk, wd, iw, wr, kw, sr) ∧ v = ((nI n), fr, lr, mk, wd, vl, iw, kn, sn, kp, bf, sp, st, aw, hd, ry, ln, fe, mv, rc, md, lo, ra) ∧ ch_R n L T st aw ty hd ro ln mk wd iw wr kw sr vl kn sn kp ry fe mv rc md lo
theorem i_up {k : Nat} {u : SX} {v : SY} (h : i_Rel k u v) : i_Rel (k + 4) u v := h
section q1
variable {n : Nat} {fr lr : Int32} {st aw ty hd ro ln sp bf ra mk wd iw wr kw sr vl kn sn kp ry fe mv rc md lo : Nat → Int32}
variable {L : Nat → Nat} {T : Nat → Nat → Nat}
theorem ch_mk {k : Nat} (fr lr : Int32) (sp bf ra : Nat → Int32) (h : ch_R n L T st aw ty hd ro ln mk wd iw wr kw sr vl kn sn kp ry fe mv rc md lo) : i_Rel k ((nI n), fr, st, aw, ty, hd, ro, ln, sp, bf, ra, mk, wd, iw, wr, kw, sr) ((nI n), fr, lr, mk, wd, vl, iw, kn, sn, kp, bf, sp, st, aw, hd, ry, ln, fe, mv, rc, md, lo, ra) :=
  ⟨n, L, T, fr, lr, st, aw, ty, hd, ro, ln, sp, bf, ra, mk, wd, iw, wr, kw, sr, vl, kn, sn, kp, ry, fe, mv, rc, md, lo, rfl, rfl, h⟩
theorem v_state (v1 : Int32) : ∃ r, (∀ post : Int32 → Prop, post r → wpX_state post ((nI n), fr, st, aw, ty, hd, ro, ln, sp, bf, ra, mk, wd, iw, wr, kw, sr) v1) ∧ (∀ post : Int32 → Prop, post r → wpY_state post ((nI n), fr, lr, mk, wd, vl, iw, kn, sn, kp, bf, sp, st, aw, hd, ry, ln, fe, mv, rc, md, lo, ra) v1) := by
  by_cases a : ch_rg 4 v1
  · obtain ⟨m, hm, rfl⟩ := a
    refine ⟨st m, fun post h => ?_, fun post h => ?_⟩
    · unfold wpX_state
      dsimp only
      refine x_isMachine (fun _ => ?_) (fun z => absurd ⟨m, hm, rfl⟩ z)
      rw [nI_clamp (by omega)]
      exact br_f (by decide) ⟨vp_in_nI hm (by decide), h⟩
    · unfold wpY_state
      dsimp only
      refine y_in (N := 4) rfl (by decide) (fun _ => ?_) (fun z => absurd ⟨m, hm, rfl⟩ z)
      rw [nI_clamp (by omega)]
      exact br_f (by decide) ⟨vp_in_nI hm (by decide), h⟩
  · refine ⟨-1, fun post h => ?_, fun post h => ?_⟩
    · unfold wpX_state
      dsimp only
      exact x_isMachine (fun z => absurd z a) (fun _ => br_t rfl h)
    · unfold wpY_state
      dsimp only
      exact y_in (N := 4) rfl (by decide) (fun z => absurd z a) (fun _ => br_t rfl h)
theorem v_holder (v1 : Int32) : ∃ r, (∀ post : Int32 → Prop, post r → wpX_holder post ((nI n), fr, st, aw, ty, hd, ro, ln, sp, bf, ra, mk, wd, iw, wr, kw, sr) v1) ∧ (∀ post : Int32 → Prop, post r → wpY_holder post ((nI n), fr, lr, mk, wd, vl, iw, kn, sn, kp, bf, sp, st, aw, hd, ry, ln, fe, mv, rc, md, lo, ra) v1) := by
  by_cases a : ch_rg 4 v1
  · obtain ⟨m, hm, rfl⟩ := a
    refine ⟨hd m, fun post h => ?_, fun post h => ?_⟩
    · unfold wpX_holder
      dsimp only
      refine x_isLock (fun _ => ?_) (fun z => absurd ⟨m, hm, rfl⟩ z)
      rw [nI_clamp (by omega)]
      refine br_f (by decide) ⟨vp_in_nI hm (by decide), br_c (fun e => ?_) (fun e => ⟨vp_in_nI hm (by decide), h⟩)⟩
      rw [e] at h
      exact h
    · unfold wpY_holder
      dsimp only
      refine y_in (N := 4) rfl (by decide) (fun _ => ?_) (fun z => absurd ⟨m, hm, rfl⟩ z)
      rw [nI_clamp (by omega)]
      exact br_f (by decide) ⟨vp_in_nI hm (by decide), h⟩
  · refine ⟨-1, fun post h => ?_, fun post h => ?_⟩
    · unfold wpX_holder
      dsimp only
      exact x_isLock (fun z => absurd z a) (fun _ => br_t rfl h)
    · unfold wpY_holder
      dsimp only
      exact y_in (N := 4) rfl (by decide) (fun z => absurd z a) (fun _ => br_t rfl h)
theorem v_races (v1 : Int32) : ∃ r, (∀ post : Int32 → Prop, post r → wpX_races post ((nI n), fr, st, aw, ty, hd, ro, ln, sp, bf, ra, mk, wd, iw, wr, kw, sr) v1) ∧ (∀ post : Int32 → Prop, post r → wpY_races post ((nI n), fr, lr, mk, wd, vl, iw, kn, sn, kp, bf, sp, st, aw, hd, ry, ln, fe, mv, rc, md, lo, ra) v1) := by
  by_cases a : ch_rg 64 v1
  · obtain ⟨m, hm, rfl⟩ := a
    refine ⟨ra m, fun post h => ?_, fun post h => ?_⟩
    · unfold wpX_races
      dsimp only
      refine x_isWord (fun _ => ?_) (fun z => absurd ⟨m, hm, rfl⟩ z)
      rw [nI_clamp (by omega)]
      exact br_f (by decide) ⟨vp_in_nI hm (by decide), h⟩
    · unfold wpY_races
      dsimp only
      refine y_in (N := 64) rfl (by decide) (fun _ => ?_) (fun z => absurd ⟨m, hm, rfl⟩ z)
      rw [nI_clamp (by omega)]
      exact br_f (by decide) ⟨vp_in_nI hm (by decide), h⟩
  · refine ⟨-1, fun post h => ?_, fun post h => ?_⟩
    · unfold wpX_races
      dsimp only
      exact x_isWord (fun z => absurd z a) (fun _ => br_t rfl h)
    · unfold wpY_races
      dsimp only
      exact y_in (N := 64) rfl (by decide) (fun z => absurd z a) (fun _ => br_t rfl h)
theorem v_mode {k : Nat} (R : ch_R n L T st aw ty hd ro ln mk wd iw wr kw sr vl kn sn kp ry fe mv rc md lo) (v1 w : Int32) : ∃ (r : Int32) (u' : SX) (v' : SY), i_Rel k u' v' ∧ (∀ post : Int32 → SX → Prop, post r u' → wpX_mode post ((nI n), fr, st, aw, ty, hd, ro, ln, sp, bf, ra, mk, wd, iw, wr, kw, sr) v1 w) ∧ (∀ post : Int32 → SY → Prop, post r v' → wpY_mode post ((nI n), fr, lr, mk, wd, vl, iw, kn, sn, kp, bf, sp, st, aw, hd, ry, ln, fe, mv, rc, md, lo, ra) v1 w) := by
  by_cases a : ch_rg 8 v1
  · obtain ⟨p, hp, rfl⟩ := a
    by_cases b : nI n ≤ 0
    · refine ⟨1, ((nI n), fr, st, aw, ty, hd, ro, ln, upd sp p (vp_nar .boolean w), bf, ra, mk, wd, iw, wr, kw, sr), ((nI n), fr, lr, mk, wd, vl, iw, kn, sn, kp, bf, upd sp p (vp_nar .boolean w), st, aw, hd, ry, ln, fe, mv, rc, md, lo, ra), ch_mk _ _ _ _ _ R, fun post h => ?_, fun post h => ?_⟩
      · unfold wpX_mode
        dsimp only
        refine x_isPage (fun _ => ?_) (fun z => absurd ⟨p, hp, rfl⟩ z)
        rw [nI_clamp (by omega)]
        exact br_f (by decide) (br_t b ⟨vp_in_nI hp (by decide), nm_e h⟩)
      · unfold wpY_mode
        dsimp only
        refine y_in (N := 8) rfl (by decide) (fun _ => ?_) (fun z => absurd ⟨p, hp, rfl⟩ z)
        rw [nI_clamp (by omega)]
        exact br_f (by decide) (br_t b ⟨vp_in_nI hp (by decide), nm_e h⟩)
    · refine ⟨0, ((nI n), fr, st, aw, ty, hd, ro, ln, sp, bf, ra, mk, wd, iw, wr, kw, sr), ((nI n), fr, lr, mk, wd, vl, iw, kn, sn, kp, bf, sp, st, aw, hd, ry, ln, fe, mv, rc, md, lo, ra), ch_mk _ _ _ _ _ R, fun post h => ?_, fun post h => ?_⟩
      · unfold wpX_mode
        dsimp only
        exact x_isPage (fun _ => br_f (by decide) (br_f b h)) (fun z => absurd ⟨p, hp, rfl⟩ z)
      · unfold wpY_mode
        dsimp only
        exact y_in (N := 8) rfl (by decide) (fun _ => br_f (by decide) (br_f b h)) (fun z => absurd ⟨p, hp, rfl⟩ z)
  · refine ⟨0, ((nI n), fr, st, aw, ty, hd, ro, ln, sp, bf, ra, mk, wd, iw, wr, kw, sr), ((nI n), fr, lr, mk, wd, vl, iw, kn, sn, kp, bf, sp, st, aw, hd, ry, ln, fe, mv, rc, md, lo, ra), ch_mk _ _ _ _ _ R, fun post h => ?_, fun post h => ?_⟩
    · unfold wpX_mode
      dsimp only
      exact x_isPage (fun z => absurd z a) (fun _ => br_t rfl h)
    · unfold wpY_mode
      dsimp only
      exact y_in (N := 8) rfl (by decide) (fun z => absurd z a) (fun _ => br_t rfl h)
theorem ch_4z (z : Nat) : (4 : Int32) + nI z = nI (4 + z) := nI_add 4 z
theorem ch_z4 (z x : Nat) : nI z * 4 + nI x = nI (4 * z + x) := by
  rw [show (4 : Int32) = nI 4 from rfl, pk_mul, nI_add, Nat.mul_comm]
theorem ch_4x (z x : Nat) : 4 * nI z + nI x = nI (4 * z + x) := by
  rw [show (4 : Int32) = nI 4 from rfl, pk_mul, nI_add]
theorem ch_z5 (z x : Nat) : nI z * 5 + nI x = nI (5 * z + x) := by
  rw [show (5 : Int32) = nI 5 from rfl, pk_mul, nI_add, Nat.mul_comm]
theorem v_waits_21 (hQ : ∀ r, r < 8 → L r ≤ 4) (hX : ch_W L T ln ro) (hY : ch_W L T ln ry) {z : Nat} (hz : z < 8) (v3 : Int32) : ∃ r, (∀ post : Int32 → Prop, post r → wX_waits_21 post v3 (nI z) (nI n) fr st aw ty hd ro ln sp bf ra mk wd iw wr kw sr) ∧ (∀ post : Int32 → Prop, post r → wY_waits_21 post v3 (nI z) (nI n) fr lr mk wd vl iw kn sn kp bf sp st aw hd ry ln fe mv rc md lo ra) := by
  have hL := hQ z hz
  have i8 : vp_in (nI z) 8 := vp_in_nI hz (by decide)
  by_cases m1 : v3 = -1
  · refine ⟨ln z, fun post h => br_t m1 ⟨i8, ?_⟩, fun post h => br_t m1 ⟨i8, ?_⟩⟩
    · rw [nI_clamp (by omega)]; exact h
    · rw [nI_clamp (by omega)]; exact h
  · by_cases a : ch_rg (L z) v3
    · obtain ⟨x, hx, rfl⟩ := a
      have hi : vp_in (nI (4 * z + x)) 32 := vp_in_nI (by omega) (by decide)
      refine ⟨nI (T z x), fun post h => br_f m1 (br_f (nI_pos (by omega)) ⟨i8, ?_⟩), fun post h => br_f m1 ⟨i8, ?_⟩⟩
      · rw [nI_clamp (by omega), hX.1 z hz, ch_z4, nI_clamp (by omega), hX.2 z x hz hx]
        exact br_t (nI_lt hx (by omega)) ⟨hi, h⟩
      · rw [nI_clamp (by omega), hY.1 z hz]
        refine y_in rfl (by omega) (fun _ => ?_) (fun q => absurd ⟨x, hx, rfl⟩ q)
        rw [ch_4x, nI_clamp (by omega), hY.2 z x hz hx]
        exact br_f (by decide) ⟨hi, h⟩
    · refine ⟨-1, fun post h => br_f m1 (br_c (fun _ => h) (fun q => ⟨i8, ?_⟩)), fun post h => br_f m1 ⟨i8, ?_⟩⟩
      · rw [nI_clamp (by omega), hX.1 z hz]
        refine br_f ?_ h
        intro q2
        rcases pk_ix v3 (n := L z) (by omega) with e | e | e
        · exact q e
        · exact Int32.not_lt.mpr e q2
        · exact a e
      · rw [nI_clamp (by omega), hY.1 z hz]
        exact y_in rfl (by omega) (fun q => absurd q a) (fun _ => br_t rfl h)
theorem v_waits (R : ch_R n L T st aw ty hd ro ln mk wd iw wr kw sr vl kn sn kp ry fe mv rc md lo) (v1 w v3 : Int32) : ∃ r, (∀ post : Int32 → Prop, post r → wpX_waits post ((nI n), fr, st, aw, ty, hd, ro, ln, sp, bf, ra, mk, wd, iw, wr, kw, sr) v1 w v3) ∧ (∀ post : Int32 → Prop, post r → wpY_waits post ((nI n), fr, lr, mk, wd, vl, iw, kn, sn, kp, bf, sp, st, aw, hd, ry, ln, fe, mv, rc, md, lo, ra) v1 w v3) := by
  obtain ⟨A, K, Q, WX, WY, TT⟩ := R
  by_cases a : ch_rg 4 v1
  · obtain ⟨l, hl, rfl⟩ := a
    by_cases b : w = 0
    · obtain ⟨r, hX, hY⟩ := v_waits_21 (n := n) (fr := fr) (lr := lr) (st := st) (aw := aw) (ty := ty) (hd := hd) (sp := sp) (bf := bf) (ra := ra) (mk := mk) (wd := wd) (iw := iw) (wr := wr) (kw := kw) (sr := sr) (vl := vl) (kn := kn) (sn := sn) (kp := kp) (fe := fe) (mv := mv) (rc := rc) (md := md) (lo := lo) Q.1 WX WY (z := l) (by omega) v3
      refine ⟨r, fun post h => ?_, fun post h => ?_⟩
      · unfold wpX_waits
        dsimp only
        exact x_isLock (fun _ => br_f (by decide) (br_t b (hX post h))) (fun z => absurd ⟨l, hl, rfl⟩ z)
      · unfold wpY_waits
        dsimp only
        exact y_in (N := 4) rfl (by decide) (fun _ => br_f (by decide) (br_t b (hY post h))) (fun z => absurd ⟨l, hl, rfl⟩ z)
    · obtain ⟨r, hX, hY⟩ := v_waits_21 (n := n) (fr := fr) (lr := lr) (st := st) (aw := aw) (ty := ty) (hd := hd) (sp := sp) (bf := bf) (ra := ra) (mk := mk) (wd := wd) (iw := iw) (wr := wr) (kw := kw) (sr := sr) (vl := vl) (kn := kn) (sn := sn) (kp := kp) (fe := fe) (mv := mv) (rc := rc) (md := md) (lo := lo) Q.1 WX WY (z := 4 + l) (by omega) v3
      refine ⟨r, fun post h => ?_, fun post h => ?_⟩
      · unfold wpX_waits
        dsimp only
        rw [ch_4z]
        exact x_isLock (fun _ => br_f (by decide) (br_f b (hX post h))) (fun z => absurd ⟨l, hl, rfl⟩ z)
      · unfold wpY_waits
        dsimp only
        rw [ch_4z]
        exact y_in (N := 4) rfl (by decide) (fun _ => br_f (by decide) (br_f b (hY post h))) (fun z => absurd ⟨l, hl, rfl⟩ z)
  · refine ⟨-1, fun post h => ?_, fun post h => ?_⟩
    · unfold wpX_waits
      dsimp only
      exact x_isLock (fun z => absurd z a) (fun _ => br_t rfl h)
    · unfold wpY_waits
      dsimp only
      exact y_in (N := 4) rfl (by decide) (fun z => absurd z a) (fun _ => br_t rfl h)
theorem ch_fxy (A : ch_A n mk wd iw wr vl) (K : ch_K n mk iw hd kw sr kn sn kp) {m i : Nat} (hm : m < 4) (hi : i < n) : ch_fy iw kn sn m i = ch_fx iw kw sr m i := by
  unfold ch_fy ch_fx
  rcases A.2.2.2.1 i hi with e | e
  · rw [e]; simp
  · rw [K.1 m i hm hi, K.2.2.1 m i hm hi e]
    cases bt (kw i) m <;> cases bt (sr i) m <;> simp [ch_b, e]
theorem v_stale (R : ch_R n L T st aw ty hd ro ln mk wd iw wr kw sr vl kn sn kp ry fe mv rc md lo) (v1 v2 : Int32) : ∃ r, (∀ post : Int32 → Prop, post r → wpX_stale post ((nI n), fr, st, aw, ty, hd, ro, ln, sp, bf, ra, mk, wd, iw, wr, kw, sr) v1 v2) ∧ (∀ post : Int32 → Prop, post r → wpY_stale post ((nI n), fr, lr, mk, wd, vl, iw, kn, sn, kp, bf, sp, st, aw, hd, ry, ln, fe, mv, rc, md, lo, ra) v1 v2) := by
  obtain ⟨A, K, Q, WX, WY, TT⟩ := R
  by_cases a : ch_rg 4 v1
  · by_cases b : ch_rg 8 v2
    · obtain ⟨m, hm, rfl⟩ := a
      obtain ⟨p, hp, rfl⟩ := b
      have e : ch_any (fun j => decide (wd j / 8 = nI p) && ch_fy iw kn sn m j) n = ch_any (fun j => decide (wd j / 8 = nI p) && ch_fx iw kw sr m j) n := ch_any_e (fun i hi => by rw [ch_fxy A K hm hi])
      refine ⟨ch_b (decide (sp p = 0) && ch_any (fun j => decide (wd j / 8 = nI p) && ch_fx iw kw sr m j) n), fun post h => ?_, fun post h => ?_⟩
      · unfold wpX_stale
        dsimp only
        refine x_isMachine (fun _ => ?_) (fun z => absurd ⟨m, hm, rfl⟩ z)
        refine br_f (by decide) ?_
        refine x_isPage (fun _ => ?_) (fun z => absurd ⟨p, hp, rfl⟩ z)
        refine br_f (by decide) ?_
        refine x_isStale A.1 hm hp ?_
        generalize (decide (sp p = 0) && ch_any (fun j => decide (wd j / 8 = nI p) && ch_fx iw kw sr m j) n) = g at h ⊢
        cases g
        · exact br_t rfl h
        · exact br_f (by decide) h
      · unfold wpY_stale
        dsimp only
        refine y_in (N := 4) rfl (by decide) (fun _ => ?_) (fun z => absurd ⟨m, hm, rfl⟩ z)
        refine br_f (by decide) ?_
        refine y_in (N := 8) rfl (by decide) (fun _ => ?_) (fun z => absurd ⟨p, hp, rfl⟩ z)
        refine br_f (by decide) ?_
        refine y_isStale A.1 hm hp ?_
        rw [e]
        generalize (decide (sp p = 0) && ch_any (fun j => decide (wd j / 8 = nI p) && ch_fx iw kw sr m j) n) = g at h ⊢
        cases g
        · exact br_t rfl h
        · exact br_f (by decide) h
    · refine ⟨-1, fun post h => ?_, fun post h => ?_⟩
      · unfold wpX_stale
        dsimp only
        refine x_isMachine (fun _ => br_f (by decide) ?_) (fun z => absurd a z)
        exact x_isPage (fun z => absurd z b) (fun _ => br_t rfl h)
      · unfold wpY_stale
        dsimp only
        refine y_in (N := 4) rfl (by decide) (fun _ => br_f (by decide) ?_) (fun z => absurd a z)
        exact y_in (N := 8) rfl (by decide) (fun z => absurd z b) (fun _ => br_t rfl h)
  · refine ⟨-1, fun post h => ?_, fun post h => ?_⟩
    · unfold wpX_stale
      dsimp only
      exact x_isMachine (fun z => absurd z a) (fun _ => br_t rfl h)
    · unfold wpY_stale
      dsimp only
      exact y_in (N := 4) rfl (by decide) (fun z => absurd z a) (fun _ => br_t rfl h)
theorem v_has (hn : n ≤ 300) (v1 v2 : Int32) : ∃ r, (∀ post : Int32 → Prop, post r → wpX_has post ((nI n), fr, st, aw, ty, hd, ro, ln, sp, bf, ra, mk, wd, iw, wr, kw, sr) v1 v2) ∧ (∀ post : Int32 → Prop, post r → wpY_has post ((nI n), fr, lr, mk, wd, vl, iw, kn, sn, kp, bf, sp, st, aw, hd, ry, ln, fe, mv, rc, md, lo, ra) v1 v2) := by
  by_cases a : ch_rg 4 v1
  · by_cases b : ch_rg 8 v2
    · obtain ⟨p, hp, rfl⟩ := b
      by_cases s : sp p = 0
      · refine ⟨3, fun post h => ?_, fun post h => ?_⟩
        · unfold wpX_has
          dsimp only
          refine x_isMachine (fun _ => br_f (by decide) ?_) (fun z => absurd a z)
          refine x_isPage (fun _ => br_f (by decide) ⟨vp_in_nI hp (by decide), ?_⟩) (fun z => absurd ⟨p, hp, rfl⟩ z)
          rw [nI_clamp (by omega)]
          exact br_t s h
        · unfold wpY_has
          dsimp only
          refine y_in (N := 4) rfl (by decide) (fun _ => br_f (by decide) ?_) (fun z => absurd a z)
          refine y_in (N := 8) rfl (by decide) (fun _ => br_f (by decide) ⟨vp_in_nI hp (by decide), ?_⟩) (fun z => absurd ⟨p, hp, rfl⟩ z)
          rw [nI_clamp (by omega)]
          exact br_t s h
      · refine ⟨ch_h2 mk wd iw v1 (nI p) n, fun post h => ?_, fun post h => ?_⟩
        · unfold wpX_has
          dsimp only
          refine x_isMachine (fun _ => br_f (by decide) ?_) (fun z => absurd a z)
          refine x_isPage (fun _ => br_f (by decide) ⟨vp_in_nI hp (by decide), ?_⟩) (fun z => absurd ⟨p, hp, rfl⟩ z)
          rw [nI_clamp (by omega)]
          refine br_f s ?_
          refine x_ownsPage hn ?_
          unfold ch_h2 at h
          cases e : ch_ow mk wd iw v1 (nI p) n
          · rw [e, if_neg (by decide)] at h
            refine br_t rfl ?_
            refine x_hasPage hn ?_
            cases e2 : ch_hv mk wd iw v1 (nI p) n
            · rw [e2] at h; exact br_t rfl h
            · rw [e2] at h; exact br_f (by decide) h
          · rw [e, if_pos rfl] at h
            exact br_f (by decide) h
        · unfold wpY_has
          dsimp only
          refine y_in (N := 4) rfl (by decide) (fun _ => br_f (by decide) ?_) (fun z => absurd a z)
          refine y_in (N := 8) rfl (by decide) (fun _ => br_f (by decide) ⟨vp_in_nI hp (by decide), ?_⟩) (fun z => absurd ⟨p, hp, rfl⟩ z)
          rw [nI_clamp (by omega)]
          exact br_f s (y_hasPage hn h)
    · refine ⟨-1, fun post h => ?_, fun post h => ?_⟩
      · unfold wpX_has
        dsimp only
        refine x_isMachine (fun _ => br_f (by decide) ?_) (fun z => absurd a z)
        exact x_isPage (fun z => absurd z b) (fun _ => br_t rfl h)
      · unfold wpY_has
        dsimp only
        refine y_in (N := 4) rfl (by decide) (fun _ => br_f (by decide) ?_) (fun z => absurd a z)
        exact y_in (N := 8) rfl (by decide) (fun z => absurd z b) (fun _ => br_t rfl h)
  · refine ⟨-1, fun post h => ?_, fun post h => ?_⟩
    · unfold wpX_has
      dsimp only
      exact x_isMachine (fun z => absurd z a) (fun _ => br_t rfl h)
    · unfold wpY_has
      dsimp only
      exact y_in (N := 4) rfl (by decide) (fun z => absurd z a) (fun _ => br_t rfl h)
end q1
end
section
/-! more questions -/
section q2
variable {n : Nat} {fr lr : Int32} {st aw ty hd ro ln sp bf ra mk wd iw wr kw sr vl kn sn kp ry fe mv rc md lo : Nat → Int32}
variable {L : Nat → Nat} {T : Nat → Nat → Nat}
theorem v_knows (R : ch_R n L T st aw ty hd ro ln mk wd iw wr kw sr vl kn sn kp ry fe mv rc md lo) (v1 v2 : Int32) : ∃ r, (∀ post : Int32 → Prop, post r → wpX_knows post ((nI n), fr, st, aw, ty, hd, ro, ln, sp, bf, ra, mk, wd, iw, wr, kw, sr) v1 v2) ∧ (∀ post : Int32 → Prop, post r → wpY_knows post ((nI n), fr, lr, mk, wd, vl, iw, kn, sn, kp, bf, sp, st, aw, hd, ry, ln, fe, mv, rc, md, lo, ra) v1 v2) := by
  obtain ⟨A, K, Q, WX, WY, TT⟩ := R
  by_cases a : ch_rg 4 v1
  · by_cases b : ch_rg 4 v2
    · obtain ⟨m, hm, rfl⟩ := a
      have e : ch_cnt (fun j => decide (mk j = v2) && decide (¬ kn (300 * m + j) = 0)) n = ch_cnt (fun j => decide (mk j = v2) && bt (kw j) m) n := by
        refine ch_cnt_e (fun i hi => ?_)
        rw [K.1 m i hm hi]
        cases bt (kw i) m <;> simp [ch_b]
      refine ⟨nI (ch_cnt (fun j => decide (mk j = v2) && bt (kw j) m) n), fun post h => ?_, fun post h => ?_⟩
      · unfold wpX_knows
        dsimp only
        refine x_isMachine (fun _ => br_f (by decide) ?_) (fun z => absurd ⟨m, hm, rfl⟩ z)
        refine x_isMachine (fun _ => br_f (by decide) ?_) (fun z => absurd b z)
        exact x_knownOf A.1 (by omega) h
      · unfold wpY_knows
        dsimp only
        unfold wpY_counted__known
        dsimp only
        refine y_in (N := 4) rfl (by decide) (fun _ => br_f (by decide) ?_) (fun z => absurd ⟨m, hm, rfl⟩ z)
        refine y_in (N := 4) rfl (by decide) (fun _ => br_f (by decide) ?_) (fun z => absurd b z)
        refine ⟨n + 1, y_known_24 A.1 hm n 0 (by omega) ?_⟩
        rw [e]
        exact h
    · refine ⟨-1, fun post h => ?_, fun post h => ?_⟩
      · unfold wpX_knows
        dsimp only
        refine x_isMachine (fun _ => br_f (by decide) ?_) (fun z => absurd a z)
        exact x_isMachine (fun z => absurd z b) (fun _ => br_t rfl h)
      · unfold wpY_knows
        dsimp only
        unfold wpY_counted__known
        dsimp only
        refine y_in (N := 4) rfl (by decide) (fun _ => br_f (by decide) ?_) (fun z => absurd a z)
        exact y_in (N := 4) rfl (by decide) (fun z => absurd z b) (fun _ => br_t rfl h)
  · refine ⟨-1, fun post h => ?_, fun post h => ?_⟩
    · unfold wpX_knows
      dsimp only
      exact x_isMachine (fun z => absurd z a) (fun _ => br_t rfl h)
    · unfold wpY_knows
      dsimp only
      unfold wpY_counted__known
      dsimp only
      exact y_in (N := 4) rfl (by decide) (fun z => absurd z a) (fun _ => br_t rfl h)
theorem v_keeps (R : ch_R n L T st aw ty hd ro ln mk wd iw wr kw sr vl kn sn kp ry fe mv rc md lo) (v1 v2 : Int32) : ∃ r, (∀ post : Int32 → Prop, post r → wpX_keeps post ((nI n), fr, st, aw, ty, hd, ro, ln, sp, bf, ra, mk, wd, iw, wr, kw, sr) v1 v2) ∧ (∀ post : Int32 → Prop, post r → wpY_keeps post ((nI n), fr, lr, mk, wd, vl, iw, kn, sn, kp, bf, sp, st, aw, hd, ry, ln, fe, mv, rc, md, lo, ra) v1 v2) := by
  obtain ⟨A, K, Q, WX, WY, TT⟩ := R
  by_cases a : ch_rg 4 v1
  · by_cases b : ch_rg 4 v2
    · obtain ⟨m, hm, rfl⟩ := a
      have e : ch_cnt (fun j => decide (mk j = v2) && decide (¬ kp (300 * m + j) = 0)) n = ch_cnt (fun j => decide (mk j = v2) && bt (kw j) (4 + m)) n := by
        refine ch_cnt_e (fun i hi => ?_)
        rw [K.2.1 m i hm hi]
        cases bt (kw i) (4 + m) <;> simp [ch_b]
      refine ⟨nI (ch_cnt (fun j => decide (mk j = v2) && bt (kw j) (4 + m)) n), fun post h => ?_, fun post h => ?_⟩
      · unfold wpX_keeps
        dsimp only
        refine x_isLock (fun _ => br_f (by decide) ?_) (fun z => absurd ⟨m, hm, rfl⟩ z)
        refine x_isMachine (fun _ => br_f (by decide) ?_) (fun z => absurd b z)
        rw [ch_4z]
        exact x_knownOf A.1 (by omega) h
      · unfold wpY_keeps
        dsimp only
        unfold wpY_counted__keeps
        dsimp only
        refine y_in (N := 4) rfl (by decide) (fun _ => br_f (by decide) ?_) (fun z => absurd ⟨m, hm, rfl⟩ z)
        refine y_in (N := 4) rfl (by decide) (fun _ => br_f (by decide) ?_) (fun z => absurd b z)
        refine ⟨n + 1, y_keeps_24 A.1 hm n 0 (by omega) ?_⟩
        rw [e]
        exact h
    · refine ⟨-1, fun post h => ?_, fun post h => ?_⟩
      · unfold wpX_keeps
        dsimp only
        refine x_isLock (fun _ => br_f (by decide) ?_) (fun z => absurd a z)
        exact x_isMachine (fun z => absurd z b) (fun _ => br_t rfl h)
      · unfold wpY_keeps
        dsimp only
        unfold wpY_counted__keeps
        dsimp only
        refine y_in (N := 4) rfl (by decide) (fun _ => br_f (by decide) ?_) (fun z => absurd a z)
        exact y_in (N := 4) rfl (by decide) (fun z => absurd z b) (fun _ => br_t rfl h)
  · refine ⟨-1, fun post h => ?_, fun post h => ?_⟩
    · unfold wpX_keeps
      dsimp only
      exact x_isLock (fun z => absurd z a) (fun _ => br_t rfl h)
    · unfold wpY_keeps
      dsimp only
      unfold wpY_counted__keeps
      dsimp only
      exact y_in (N := 4) rfl (by decide) (fun z => absurd z a) (fun _ => br_t rfl h)
theorem v_count (TT : ch_T ty fe mv rc md lo) (v1 v2 : Int32) : ∃ r, (∀ post : Int32 → Prop, post r → wpX_count post ((nI n), fr, st, aw, ty, hd, ro, ln, sp, bf, ra, mk, wd, iw, wr, kw, sr) v1 v2) ∧ (∀ post : Int32 → Prop, post r → wpY_count post ((nI n), fr, lr, mk, wd, vl, iw, kn, sn, kp, bf, sp, st, aw, hd, ry, ln, fe, mv, rc, md, lo, ra) v1 v2) := by
  by_cases a : ch_rg 4 v1
  · by_cases b : ch_rg 5 v2
    · obtain ⟨m, hm, rfl⟩ := a
      obtain ⟨w, hw, rfl⟩ := b
      have t := TT m hm
      refine ⟨ty (5 * m + w), fun post h => ?_, fun post h => ?_⟩
      · unfold wpX_count
        dsimp only
        refine x_isMachine (fun _ => br_f (by decide) ?_) (fun z => absurd ⟨m, hm, rfl⟩ z)
        rw [ch_z5, nI_clamp (by omega)]
        exact br_f (nI_pos (by omega)) (br_t (nI_lt (b := 5) hw (by decide)) ⟨vp_in_nI (by omega) (by decide), h⟩)
      · unfold wpY_count
        dsimp only
        refine y_in (N := 4) rfl (by decide) (fun _ => br_f (by decide) ?_) (fun z => absurd ⟨m, hm, rfl⟩ z)
        refine y_in (N := 5) rfl (by decide) (fun _ => br_f (by decide) ?_) (fun z => absurd ⟨w, hw, rfl⟩ z)
        have i4 : vp_in (nI m) 4 := vp_in_nI hm (by decide)
        rw [nI_clamp (by omega)]
        obtain rfl | rfl | rfl | rfl | rfl : w = 0 ∨ w = 1 ∨ w = 2 ∨ w = 3 ∨ w = 4 := by omega
        · rw [show 5 * m + 0 = 5 * m from rfl, t.1] at h
          exact br_t rfl ⟨i4, h⟩
        · rw [t.2.1] at h
          exact br_f (by decide) (br_t rfl ⟨i4, h⟩)
        · rw [t.2.2.1] at h
          exact br_f (by decide) (br_f (by decide) (br_t rfl ⟨i4, h⟩))
        · rw [t.2.2.2.1] at h
          exact br_f (by decide) (br_f (by decide) (br_f (by decide) (br_t rfl ⟨i4, h⟩)))
        · rw [t.2.2.2.2] at h
          exact br_f (by decide) (br_f (by decide) (br_f (by decide) (br_f (by decide) ⟨i4, h⟩)))
    · refine ⟨-1, fun post h => ?_, fun post h => ?_⟩
      · unfold wpX_count
        dsimp only
        refine x_isMachine (fun _ => br_f (by decide) ?_) (fun z => absurd a z)
        refine br_c (fun _ => h) (fun q => br_f ?_ h)
        intro q2
        rcases pk_ix v2 (n := 5) (by decide) with e | e | e
        · exact q e
        · exact Int32.not_lt.mpr e q2
        · exact b e
      · unfold wpY_count
        dsimp only
        refine y_in (N := 4) rfl (by decide) (fun _ => br_f (by decide) ?_) (fun z => absurd a z)
        exact y_in (N := 5) rfl (by decide) (fun z => absurd z b) (fun _ => br_t rfl h)
  · refine ⟨-1, fun post h => ?_, fun post h => ?_⟩
    · unfold wpX_count
      dsimp only
      exact x_isMachine (fun z => absurd z a) (fun _ => br_t rfl h)
    · unfold wpY_count
      dsimp only
      exact y_in (N := 4) rfl (by decide) (fun z => absurd z a) (fun _ => br_t rfl h)
theorem x_machinesThat_4 {post : Int32 → Prop} {s : Int32} : ∀ d i, i + d = 4 → post (nI (ch_cnt (fun j => decide (st j = s)) 4)) → wX_machinesThat_4 post s (nI n) fr st aw ty hd ro ln sp bf ra mk wd iw wr kw sr (d + 1) (nI (ch_cnt (fun j => decide (st j = s)) i)) (nI i) := by
  intro d
  induction d with
  | zero =>
    intro i hi hp
    have : i = 4 := by omega
    subst this
    exact br_t (nI_le (b := 4) (Nat.le_refl 4) (by decide)) hp
  | succ d ih =>
    intro i hi hp
    have ih := ih (i + 1) (by omega) hp
    refine br_f (nI_ge (b := 4) (by omega) (by decide)) ⟨vp_in_nI (by omega) (by decide), ?_⟩
    rw [nI_clamp (by omega)]
    refine br_c (fun b => ?_) (fun b => ?_)
    · refine nm_r (nI_1 _) ?_
      refine nm_r (nI_1 i) ?_
      rw [ch_cnt, if_pos (decide_eq_true b)] at ih
      exact ih
    · refine nm_r (nI_1 i) ?_
      rw [ch_cnt, if_neg (by rw [decide_eq_false b]; decide)] at ih
      exact ih
theorem x_machinesThat {post : Int32 → Prop} {s : Int32} (h : post (nI (ch_cnt (fun j => decide (st j = s)) 4))) : wpX_machinesThat post ((nI n), fr, st, aw, ty, hd, ro, ln, sp, bf, ra, mk, wd, iw, wr, kw, sr) s :=
  ⟨5, x_machinesThat_4 4 0 (by omega) h⟩
theorem y_total_4 {post : Int32 → Prop} {w : Int32} (h : (w = 0 → post (nI n)) ∧ (¬ w = 0 → ((w = 1 → post fr) ∧ (¬ w = 1 → ((w = 2 → post (nI (ch_cnt (fun j => decide (st j = 0)) 4))) ∧ (¬ w = 2 → post (-1))))))) : ∀ d i, i + d = 4 → wY_total_4 post w (nI n) fr lr mk wd vl iw kn sn kp bf sp st aw hd ry ln fe mv rc md lo ra (d + 1) (nI (ch_cnt (fun j => decide (st j = 0)) i)) (nI i) := by
  intro d
  induction d with
  | zero =>
    intro i hi
    have : i = 4 := by omega
    subst this
    exact br_t (nI_le (b := 4) (Nat.le_refl 4) (by decide)) h
  | succ d ih =>
    intro i hi
    have ih := ih (i + 1) (by omega)
    refine br_f (nI_ge (b := 4) (by omega) (by decide)) ⟨vp_in_nI (by omega) (by decide), ?_⟩
    rw [nI_clamp (by omega)]
    refine br_c (fun b => ?_) (fun b => ?_)
    · refine nm_r (nI_1 _) ?_
      refine nm_r (nI_1 i) ?_
      rw [ch_cnt, if_pos (decide_eq_true b)] at ih
      exact ih
    · refine nm_r (nI_1 i) ?_
      rw [ch_cnt, if_neg (by rw [decide_eq_false b]; decide)] at ih
      exact ih
theorem v_total (v1 : Int32) : ∃ r, (∀ post : Int32 → Prop, post r → wpX_total post ((nI n), fr, st, aw, ty, hd, ro, ln, sp, bf, ra, mk, wd, iw, wr, kw, sr) v1) ∧ (∀ post : Int32 → Prop, post r → wpY_total post ((nI n), fr, lr, mk, wd, vl, iw, kn, sn, kp, bf, sp, st, aw, hd, ry, ln, fe, mv, rc, md, lo, ra) v1) := by
  by_cases a : v1 = 0
  · subst a
    exact ⟨nI n, fun post h => br_f (by decide) (br_f (by decide) (br_t rfl h)), fun post h => ⟨5, y_total_4 (br_t rfl h) 4 0 (by omega)⟩⟩
  · by_cases b : v1 = 1
    · subst b
      exact ⟨fr, fun post h => br_f (by decide) (br_f (by decide) (br_f a (br_t rfl h))), fun post h => ⟨5, y_total_4 (br_f a (br_t rfl h)) 4 0 (by omega)⟩⟩
    · by_cases c : v1 = 2
      · subst c
        exact ⟨_, fun post h => br_f (by decide) (br_f (by decide) (br_f a (br_f b (br_t rfl (x_machinesThat h))))), fun post h => ⟨5, y_total_4 (br_f a (br_f b (br_t rfl h))) 4 0 (by omega)⟩⟩
      · refine ⟨-1, fun post h => ?_, fun post h => ⟨5, y_total_4 (br_f a (br_f b (br_f c h))) 4 0 (by omega)⟩⟩
        refine br_c (fun _ => h) (fun q => br_t ?_ h)
        rcases pk_ix v1 (n := 3) (by decide) with e | e | ⟨j, hj, e⟩
        · exact absurd e q
        · exact Int32.lt_of_lt_of_le (by decide) e
        · exfalso
          obtain rfl | rfl | rfl : j = 0 ∨ j = 1 ∨ j = 2 := by omega
          · exact a e
          · exact b e
          · exact c e
theorem ch_ringN (f : Nat → Nat) (a b c d e : Nat) (ha : a < 4) (hb : b < 4) (hc : c < 4) (hd : d < 4) (he : e < 4) (fb : f b = c) (fc : f c = d) (fd : f d = e) (b1 : ¬ b = a) (c1 : ¬ c = a) (d1 : ¬ d = a) (e1 : ¬ e = a) : ¬ f e = a := by
  have q : b = c ∨ b = d ∨ b = e ∨ c = d ∨ c = e ∨ d = e := by omega
  rcases q with q | q | q | q | q | q
  · have h1 : d = c := by rw [← fc, ← q, fb]; exact q.symm ▸ rfl
    have h2 : e = d := by rw [← fd, h1, fc]; exact h1
    rw [h2, fd]; exact e1
  · have h1 : e = c := by rw [← fd, ← q, fb]
    rw [h1, fc]; exact d1
  · rw [← q, fb]; exact c1
  · have h1 : e = d := by rw [← fd, ← q, fc]; exact q.symm
    rw [h1, fd]; exact e1
  · rw [← q, fc]; exact d1
  · rw [← q, fd]; exact e1
end q2
end
section
/-! ring: X goes four steps, Y five -/
def ch_nx (aw hd : Nat → Int32) (m : Nat) : Nat := (hd (aw m).toNatClampNeg).toNatClampNeg
def ch_rv (st : Nat → Int32) (nx : Nat → Nat) (a : Nat) : Nat → Nat → Int32
  | 0, _ => 0
  | k + 1, m => if st m = 1 then (if nx m = a then 1 else ch_rv st nx a k (nx m)) else 0
section rg
variable {n : Nat} {fr lr : Int32} {st aw ty hd ro ln sp bf ra mk wd iw wr kw sr vl kn sn kp ry fe mv rc md lo : Nat → Int32}
variable {L : Nat → Nat} {T : Nat → Nat → Nat}
theorem ch_step (Q : ch_Q L T st aw hd) {m : Nat} (hm : m < 4) (hs : st m = 1) : ∃ l, l < 4 ∧ aw m = nI l ∧ hd l = nI (ch_nx aw hd m) ∧ ch_nx aw hd m < 4 := by
  obtain ⟨_, b, _, d, e, f⟩ := Q
  obtain ⟨l, k, hl, hk, et⟩ := d m hm hs
  have h1 := ((b l k (by omega) hk).2.1 hl).2
  rw [et] at h1
  rcases f l hl with h2 | ⟨m2, hm2, h2⟩
  · exact absurd h2 (e l hl (by omega))
  · have h3 : ch_nx aw hd m = m2 := by
      unfold ch_nx
      rw [h1, nI_clamp (by omega), h2, nI_clamp (by omega)]
    exact ⟨l, hl, h1, by rw [h3]; exact h2, by rw [h3]; exact hm2⟩
theorem x_ring_14 (Q : ch_Q L T st aw hd) {post : Int32 → Prop} {a : Nat} (ha : a < 4) : ∀ d k m, k + d = 4 → m < 4 → post (ch_rv st (ch_nx aw hd) a d m) → wX_ring_14 post (nI a) (nI n) fr st aw ty hd ro ln sp bf ra mk wd iw wr kw sr (d + 1) (nI m) (nI k) := by
  intro d
  induction d with
  | zero =>
    intro k m hk hm hp
    have : k = 4 := by omega
    subst this
    exact br_t (nI_le (b := 4) (Nat.le_refl 4) (by decide)) hp
  | succ d ih =>
    intro k m hk hm hp
    refine br_f (nI_ge (b := 4) (by omega) (by decide)) (br_f (ch_neg1 hm) ⟨vp_in_nI hm (by decide), ?_⟩)
    rw [nI_clamp (n := m) (by omega)]
    unfold ch_rv at hp
    refine br_c (fun s => ?_) (fun s => ?_)
    · obtain ⟨l, hl, e1, e2, e3⟩ := ch_step Q hm s
      rw [if_pos s] at hp
      rw [e1, nI_clamp (n := l) (by omega)]
      refine ⟨vp_in_nI hm (by decide), vp_in_nI hl (by decide), nm_r e2 (br_c (fun q => ?_) (fun q => ?_))⟩
      · have := (nI_eq (by omega) (by omega)).mp q
        rw [if_pos this] at hp
        exact hp
      · have q2 : ¬ ch_nx aw hd m = a := fun z => q (by rw [z])
        rw [if_neg q2] at hp
        exact nm_r (nI_1 k) (ih (k + 1) _ (by omega) e3 hp)
    · rw [if_neg s] at hp
      exact hp
theorem y_ring_14 (Q : ch_Q L T st aw hd) {post : Int32 → Prop} {a : Nat} (ha : a < 4) : ∀ d k m, k + d = 5 → m < 4 → post (ch_rv st (ch_nx aw hd) a d m) → wY_ring_14 post (nI a) (nI n) fr lr mk wd vl iw kn sn kp bf sp st aw hd ry ln fe mv rc md lo ra (d + 1) (nI m) (nI k) := by
  intro d
  induction d with
  | zero =>
    intro k m hk hm hp
    have : k = 5 := by omega
    subst this
    exact br_t (nI_le (b := 5) (Nat.le_refl 5) (by decide)) hp
  | succ d ih =>
    intro k m hk hm hp
    refine br_f (nI_ge (b := 5) (by omega) (by decide)) ⟨vp_in_nI hm (by decide), ?_⟩
    rw [nI_clamp (n := m) (by omega)]
    unfold ch_rv at hp
    refine br_c (fun s => ?_) (fun s => ?_)
    · obtain ⟨l, hl, e1, e2, e3⟩ := ch_step Q hm s
      rw [if_pos s] at hp
      rw [e1, nI_clamp (n := l) (by omega)]
      refine ⟨vp_in_nI hm (by decide), vp_in_nI hl (by decide), nm_r e2 (br_c (fun q => ?_) (fun q => ?_))⟩
      · have := (nI_eq (by omega) (by omega)).mp q
        rw [if_pos this] at hp
        exact hp
      · have q2 : ¬ ch_nx aw hd m = a := fun z => q (by rw [z])
        rw [if_neg q2] at hp
        exact nm_r (nI_1 k) (ih (k + 1) _ (by omega) e3 hp)
    · rw [if_neg s] at hp
      exact hp
theorem ch_rv54 (nx : Nat → Nat) (a : Nat) (ha : a < 4) (hs : ∀ m, m < 4 → st m = 1 → nx m < 4) : ch_rv st nx a 5 a = ch_rv st nx a 4 a := by
  show (if st a = 1 then (if nx a = a then 1 else ch_rv st nx a 4 (nx a)) else 0) = (if st a = 1 then (if nx a = a then 1 else ch_rv st nx a 3 (nx a)) else 0)
  by_cases s0 : st a = 1
  · rw [if_pos s0, if_pos s0]
    have h1 := hs a ha s0
    generalize eb : nx a = b at h1 ⊢
    by_cases q1 : b = a
    · rw [if_pos q1, if_pos q1]
    · rw [if_neg q1, if_neg q1]
      show (if st b = 1 then (if nx b = a then 1 else ch_rv st nx a 3 (nx b)) else 0) = (if st b = 1 then (if nx b = a then 1 else ch_rv st nx a 2 (nx b)) else 0)
      by_cases s1 : st b = 1
      · rw [if_pos s1, if_pos s1]
        have h2 := hs b h1 s1
        generalize ec : nx b = c at h2 ⊢
        by_cases q2 : c = a
        · rw [if_pos q2, if_pos q2]
        · rw [if_neg q2, if_neg q2]
          show (if st c = 1 then (if nx c = a then 1 else ch_rv st nx a 2 (nx c)) else 0) = (if st c = 1 then (if nx c = a then 1 else ch_rv st nx a 1 (nx c)) else 0)
          by_cases s2 : st c = 1
          · rw [if_pos s2, if_pos s2]
            have h3 := hs c h2 s2
            generalize ed : nx c = d at h3 ⊢
            by_cases q3 : d = a
            · rw [if_pos q3, if_pos q3]
            · rw [if_neg q3, if_neg q3]
              show (if st d = 1 then (if nx d = a then 1 else ch_rv st nx a 1 (nx d)) else 0) = (if st d = 1 then (if nx d = a then 1 else 0) else 0)
              by_cases s3 : st d = 1
              · rw [if_pos s3, if_pos s3]
                have h4 := hs d h3 s3
                generalize ee : nx d = e at h4 ⊢
                by_cases q4 : e = a
                · rw [if_pos q4, if_pos q4]
                · rw [if_neg q4, if_neg q4]
                  show (if st e = 1 then (if nx e = a then 1 else 0) else 0) = (0 : Int32)
                  rw [if_neg (ch_ringN nx a b c d e ha h1 h2 h3 h4 ec ed ee q1 q2 q3 q4)]
                  by_cases s4 : st e = 1
                  · rw [if_pos s4]
                  · rw [if_neg s4]
              · rw [if_neg s3, if_neg s3]
          · rw [if_neg s2, if_neg s2]
      · rw [if_neg s1, if_neg s1]
  · rw [if_neg s0, if_neg s0]
theorem v_ring (Q : ch_Q L T st aw hd) (v1 : Int32) : ∃ r, (∀ post : Int32 → Prop, post r → wpX_ring post ((nI n), fr, st, aw, ty, hd, ro, ln, sp, bf, ra, mk, wd, iw, wr, kw, sr) v1) ∧ (∀ post : Int32 → Prop, post r → wpY_ring post ((nI n), fr, lr, mk, wd, vl, iw, kn, sn, kp, bf, sp, st, aw, hd, ry, ln, fe, mv, rc, md, lo, ra) v1) := by
  by_cases a : ch_rg 4 v1
  · obtain ⟨m, hm, rfl⟩ := a
    refine ⟨ch_rv st (ch_nx aw hd) m 4 m, fun post h => ?_, fun post h => ?_⟩
    · unfold wpX_ring
      dsimp only
      refine x_isMachine (fun _ => br_f (by decide) ?_) (fun z => absurd ⟨m, hm, rfl⟩ z)
      exact ⟨5, x_ring_14 Q hm 4 0 m (by omega) hm h⟩
    · unfold wpY_ring
      dsimp only
      refine y_in (N := 4) rfl (by decide) (fun _ => br_f (by decide) ?_) (fun z => absurd ⟨m, hm, rfl⟩ z)
      refine ⟨6, y_ring_14 Q hm 5 0 m (by omega) hm ?_⟩
      rw [ch_rv54 _ m hm (fun m2 h2 s2 => by obtain ⟨l, _, _, _, h⟩ := ch_step Q h2 s2; exact h)]
      exact h
  · refine ⟨-1, fun post h => ?_, fun post h => ?_⟩
    · unfold wpX_ring
      dsimp only
      exact x_isMachine (fun z => absurd z a) (fun _ => br_t rfl h)
    · unfold wpY_ring
      dsimp only
      exact y_in (N := 4) rfl (by decide) (fun z => absurd z a) (fun _ => br_t rfl h)
end rg
end
section
/-! the walks of locks and rows -/
section lk
variable {n : Nat} {fr lr : Int32} {st aw ty hd ro ln sp bf ra mk wd iw wr kw sr vl kn sn kp ry fe mv rc md lo : Nat → Int32}
variable {L : Nat → Nat} {T : Nat → Nat → Nat}
theorem x_learn_2 (hn : n ≤ 300) {q f : Nat} (hq : q < 32) (hf : f < 32) : ∀ (d i : Nat) (kw : Nat → Int32), i + d = n → ∃ kw' : Nat → Int32, (∀ j, (j < i ∨ n ≤ j) → kw' j = kw j) ∧ (∀ j, i ≤ j → j < n → kw' j = if bt (kw j) f = true then kw j ||| ((1 : Int32) <<< (nI q &&& 31)) else kw j) ∧ ∀ post : SX → Prop, post ((nI n), fr, st, aw, ty, hd, ro, ln, sp, bf, ra, mk, wd, iw, wr, kw', sr) → wX_learn_2 post (nI q) (nI f) (nI n) fr (d + 1) (nI i) st aw ty hd ro ln sp bf ra mk wd iw wr kw sr := by
  intro d
  induction d with
  | zero =>
    intro i kw hi
    have : i = n := by omega
    subst this
    exact ⟨kw, fun j _ => rfl, fun j h1 h2 => by omega, fun post h => br_t (nI_le (Nat.le_refl _) (by omega)) h⟩
  | succ d ih =>
    intro i kw hi
    cases e : bt (kw i) f
    · obtain ⟨kw', h1, h2, h3⟩ := ih (i + 1) kw (by omega)
      refine ⟨kw', fun j hj => h1 j (by omega), fun j hj hj2 => ?_, fun post h => ?_⟩
      · by_cases z : j = i
        · subst z
          rw [h1 j (by omega), e, if_neg (by decide)]
        · exact h2 j (by omega) hj2
      · refine br_f (nI_ge (by omega) (by omega)) ?_
        refine x_isKnown (by omega) hf ?_
        rw [e]
        exact br_t rfl (nm_r (nI_1 i) (h3 post h))
    · obtain ⟨kw', h1, h2, h3⟩ := ih (i + 1) (upd kw i (kw i ||| ((1 : Int32) <<< (nI q &&& 31)))) (by omega)
      refine ⟨kw', fun j hj => ?_, fun j hj hj2 => ?_, fun post h => ?_⟩
      · rw [h1 j (by omega), pk_un (by omega)]
      · by_cases z : j = i
        · subst z
          rw [h1 j (by omega), pk_us, e, if_pos rfl]
        · rw [h2 j (by omega) hj2, pk_un z]
      · refine br_f (nI_ge (by omega) (by omega)) ?_
        refine x_isKnown (by omega) hf ?_
        rw [e]
        refine br_f (by decide) ⟨vp_in_nI (by omega) (by decide), vp_in_nI (by omega) (by decide), ?_⟩
        rw [nI_clamp (by omega)]
        exact nm_e (nm_r (nI_1 i) (h3 post h))
theorem x_learn (hn : n ≤ 300) {q f : Nat} (hq : q < 32) (hf : f < 32) : ∃ kw' : Nat → Int32, (∀ j, n ≤ j → kw' j = kw j) ∧ (∀ j, j < n → kw' j = if bt (kw j) f = true then kw j ||| ((1 : Int32) <<< (nI q &&& 31)) else kw j) ∧ ∀ (fr : Int32) (st hd : Nat → Int32) (post : SX → Prop), post ((nI n), fr, st, aw, ty, hd, ro, ln, sp, bf, ra, mk, wd, iw, wr, kw', sr) → wpX_learn post ((nI n), fr, st, aw, ty, hd, ro, ln, sp, bf, ra, mk, wd, iw, wr, kw, sr) (nI q) (nI f) := by
  obtain ⟨kw', h1, h2, h3⟩ := x_learn_2 (fr := 0) (st := fun _ => 0) (hd := fun _ => 0) (aw := aw) (ty := ty) (ro := ro) (ln := ln) (sp := sp) (bf := bf) (ra := ra) (mk := mk) (wd := wd) (iw := iw) (wr := wr) (sr := sr) hn hq hf n 0 kw (by omega)
  refine ⟨kw', fun j hj => h1 j (by omega), fun j hj => h2 j (by omega) hj, ?_⟩
  intro fr st hd post h
  obtain ⟨kw2, g1, g2, g3⟩ := x_learn_2 (fr := fr) (st := st) (hd := hd) (aw := aw) (ty := ty) (ro := ro) (ln := ln) (sp := sp) (bf := bf) (ra := ra) (mk := mk) (wd := wd) (iw := iw) (wr := wr) (sr := sr) hn hq hf n 0 kw (by omega)
  have e : kw2 = kw' := by
    funext j
    by_cases z : j < n
    · rw [g2 j (by omega) z, h2 j (by omega) z]
    · rw [g1 j (by omega), h1 j (by omega)]
  rw [e] at g3
  exact ⟨n + 1, g3 post h⟩
theorem y_gets_16 (hn : n ≤ 300) {m l : Nat} (hm : m < 4) (hl : l < 4) : ∀ (d i : Nat) (kn : Nat → Int32), i + d = n → ∃ kn' : Nat → Int32, (∀ j, (∀ k, i ≤ k → k < n → ¬ j = 300 * m + k) → kn' j = kn j) ∧ (∀ j, i ≤ j → j < n → kn' (300 * m + j) = if kp (300 * l + j) = 0 then kn (300 * m + j) else 1) ∧ ∀ post : SY → Prop, post ((nI n), fr, lr, mk, wd, vl, iw, kn', sn, kp, bf, sp, st, aw, hd, ry, ln, fe, mv, rc, md, lo, ra) → wY_gets_16 post (nI m) (nI l) (nI n) fr lr (d + 1) (nI i) mk wd vl iw kn sn kp bf sp st aw hd ry ln fe mv rc md lo ra := by
  intro d
  induction d with
  | zero =>
    intro i kn hi
    have : i = n := by omega
    subst this
    exact ⟨kn, fun j _ => rfl, fun j h1 h2 => by omega, fun post h => br_t (nI_le (Nat.le_refl _) (by omega)) h⟩
  | succ d ih =>
    intro i kn hi
    by_cases e : kp (300 * l + i) = 0
    · obtain ⟨kn', h1, h2, h3⟩ := ih (i + 1) kn (by omega)
      refine ⟨kn', fun j hj => h1 j (fun k hk hk2 => hj k (by omega) hk2), fun j hj hj2 => ?_, fun post h => ?_⟩
      · by_cases z : j = i
        · subst z
          rw [h1 _ (fun k hk hk2 => by omega), if_pos e]
        · exact h2 j (by omega) hj2
      · refine br_f (nI_ge (by omega) (by omega)) ⟨ch_adI hl (by omega), ?_⟩
        rw [ch_adC hl (by omega)]
        exact br_t e (nm_r (nI_1 i) (h3 post h))
    · obtain ⟨kn', h1, h2, h3⟩ := ih (i + 1) (upd kn (300 * m + i) 1) (by omega)
      refine ⟨kn', fun j hj => ?_, fun j hj hj2 => ?_, fun post h => ?_⟩
      · rw [h1 j (fun k hk hk2 => hj k (by omega) hk2), pk_un (hj i (by omega) (by omega))]
      · by_cases z : j = i
        · subst z
          rw [h1 _ (fun k hk hk2 => by omega), pk_us, if_neg e]
        · rw [h2 j (by omega) hj2, pk_un (by omega)]
      · refine br_f (nI_ge (by omega) (by omega)) ⟨ch_adI hl (by omega), ?_⟩
        rw [ch_adC hl (by omega), ch_adC hm (by omega)]
        exact br_f e ⟨ch_adI hm (by omega), nm_e (nm_r (nI_1 i) (h3 post h))⟩
theorem v_gets (A : ch_A n mk wd iw wr vl) (K : ch_K n mk iw hd kw sr kn sn kp) {m l : Nat} (hm : m < 4) (hl : l < 4) : ∃ kw' kn' : Nat → Int32, ch_K n mk iw (upd hd l (nI m)) kw' sr kn' sn kp ∧ (∀ post : SX → Prop, post ((nI n), fr, upd st m 0, aw, ty, upd hd l (nI m), ro, ln, sp, bf, ra, mk, wd, iw, wr, kw', sr) → wpX_handOver post ((nI n), fr, st, aw, ty, hd, ro, ln, sp, bf, ra, mk, wd, iw, wr, kw, sr) (nI l) (nI m)) ∧ (∀ post : SY → Prop, post ((nI n), fr, lr, mk, wd, vl, iw, kn', sn, kp, bf, sp, upd st m 0, aw, upd hd l (nI m), ry, ln, fe, mv, rc, md, lo, ra) → wpY_gets post ((nI n), fr, lr, mk, wd, vl, iw, kn, sn, kp, bf, sp, st, aw, hd, ry, ln, fe, mv, rc, md, lo, ra) (nI m) (nI l)) := by
  obtain ⟨kw', h1, h2, h3⟩ := x_learn (n := n) (aw := aw) (ty := ty) (ro := ro) (ln := ln) (sp := sp) (bf := bf) (ra := ra) (mk := mk) (wd := wd) (iw := iw) (wr := wr) (sr := sr) (kw := kw) (q := m) (f := 4 + l) A.1 (by omega) (by omega)
  obtain ⟨kn', g1, g2, g3⟩ := y_gets_16 (n := n) (fr := fr) (lr := lr) (mk := mk) (wd := wd) (vl := vl) (iw := iw) (sn := sn) (kp := kp) (bf := bf) (sp := sp) (st := upd st m 0) (aw := aw) (hd := upd hd l (nI m)) (ry := ry) (ln := ln) (fe := fe) (mv := mv) (rc := rc) (md := md) (lo := lo) (ra := ra) A.1 hm hl n 0 kn (by omega)
  refine ⟨kw', kn', ?_, fun post h => ?_, fun post h => ?_⟩
  · exact ch_Kget K A.1 hl hm h2 (fun i hi => g2 i (by omega) hi) (fun j hj => g1 j (fun k _ hk => hj k hk)) (fun j hj => pk_un hj) pk_us
  · unfold wpX_handOver
    dsimp only
    rw [nI_clamp (n := l) (by omega), nI_clamp (n := m) (by omega), ch_4z]
    exact ⟨vp_in_nI hl (by decide), nm_e ⟨vp_in_nI hm (by decide), nm_e (h3 _ _ _ _ h)⟩⟩
  · unfold wpY_gets
    dsimp only
    rw [nI_clamp (n := l) (by omega), nI_clamp (n := m) (by omega)]
    exact ⟨vp_in_nI hl (by decide), nm_e ⟨vp_in_nI hm (by decide), nm_e ⟨n + 1, g3 post h⟩⟩⟩
theorem x_putLast {fk : Int32} {r m : Nat} (hr : r < 8) (hL : ln r = nI (L r)) (h4 : L r < 4) {post : SX → Prop} (h : post (fk, fr, st, aw, ty, hd, upd ro (4 * r + L r) (nI m), upd ln r (nI (L r + 1)), sp, bf, ra, mk, wd, iw, wr, kw, sr)) : wpX_putLast post (fk, fr, st, aw, ty, hd, ro, ln, sp, bf, ra, mk, wd, iw, wr, kw, sr) (nI r) (nI m) := by
  unfold wpX_putLast
  dsimp only
  rw [nI_clamp (n := r) (by omega), hL, ch_z4, nI_clamp (n := 4 * r + L r) (by omega), nI_1]
  have i8 : vp_in (nI r) 8 := vp_in_nI hr (by decide)
  exact ⟨i8, br_f (nI_ge (b := 4) h4 (by decide)) ⟨i8, vp_in_nI (by omega) (by decide), nm_e ⟨i8, i8, nm_e h⟩⟩⟩
theorem y_push {fk : Int32} {r m : Nat} (hr : r < 8) (hL : ln r = nI (L r)) (h4 : L r < 4) {post : SY → Prop} (h : post (fk, fr, lr, mk, wd, vl, iw, kn, sn, kp, bf, sp, st, aw, hd, upd ry (4 * r + L r) (nI m), upd ln r (nI (L r + 1)), fe, mv, rc, md, lo, ra)) : wpY_push post (fk, fr, lr, mk, wd, vl, iw, kn, sn, kp, bf, sp, st, aw, hd, ry, ln, fe, mv, rc, md, lo, ra) (nI r) (nI m) := by
  unfold wpY_push
  dsimp only
  rw [nI_clamp (n := r) (by omega), hL, ch_4x, nI_clamp (n := 4 * r + L r) (by omega), nI_1]
  have i8 : vp_in (nI r) 8 := vp_in_nI hr (by decide)
  exact ⟨i8, vp_in_nI (by omega) (by decide), nm_e ⟨i8, i8, nm_e h⟩⟩
theorem x_waitFor {fk : Int32} {l m : Nat} (hl : l < 4) (hm : m < 4) (hL : ln l = nI (L l)) (h4 : L l < 4) {post : SX → Prop} (h : post (fk, fr, upd st m 1, upd aw m (nI l), ty, hd, upd ro (4 * l + L l) (nI m), upd ln l (nI (L l + 1)), sp, bf, ra, mk, wd, iw, wr, kw, sr)) : wpX_waitFor post (fk, fr, st, aw, ty, hd, ro, ln, sp, bf, ra, mk, wd, iw, wr, kw, sr) (nI l) (nI m) := by
  unfold wpX_waitFor
  dsimp only
  rw [nI_clamp (n := m) (by omega)]
  exact ⟨vp_in_nI hm (by decide), nm_e ⟨vp_in_nI hm (by decide), nm_e (x_putLast (L := L) (by omega) hL h4 h)⟩⟩
theorem x_takeFirst_11 {fk : Int32} {r : Nat} {x : Int32} (hr : r < 8) : ∀ (d i : Nat) (ro : Nat → Int32), i + d = 3 → ∃ ro' : Nat → Int32, (∀ k, i ≤ k → k < 3 → ro' (4 * r + k) = ro (4 * r + (k + 1))) ∧ (∀ j, (j < 4 * r + i ∨ 4 * r + 3 ≤ j) → ro' j = ro j) ∧ ∀ post : Int32 → SX → Prop, post x (fk, fr, st, aw, ty, hd, ro', upd ln r (ln r - 1), sp, bf, ra, mk, wd, iw, wr, kw, sr) → wX_takeFirst_11 post (nI r) x fk fr (d + 1) (nI (i + 1)) st aw ty hd ro ln sp bf ra mk wd iw wr kw sr := by
  intro d
  have i8 : vp_in (nI r) 8 := vp_in_nI hr (by decide)
  induction d with
  | zero =>
    intro i ro hi
    have : i = 3 := by omega
    subst this
    refine ⟨ro, fun k h1 h2 => by omega, fun j _ => rfl, fun post h => br_t (nI_le (b := 4) (Nat.le_refl 4) (by decide)) ⟨i8, i8, ?_⟩⟩
    rw [nI_clamp (n := r) (by omega)]
    exact nm_e h
  | succ d ih =>
    intro i ro hi
    obtain ⟨ro', h1, h2, h3⟩ := ih (i + 1) (upd ro (4 * r + i) (ro (4 * r + (i + 1)))) (by omega)
    refine ⟨ro', fun k hk hk2 => ?_, fun j hj => ?_, fun post h => ?_⟩
    · by_cases z : k = i
      · subst z
        rw [h2 _ (by omega), pk_us]
      · rw [h1 k (by omega) hk2, pk_un (by omega)]
    · rw [h2 j (by omega), pk_un (by omega)]
    · refine br_f (nI_ge (b := 4) (by omega) (by decide)) ?_
      have e : nI r * 4 + nI (i + 1) - 1 = nI (4 * r + i) := by
        rw [ch_z4]
        exact nI_pred (4 * r + i)
      rw [e, ch_z4, nI_clamp (n := 4 * r + (i + 1)) (by omega), nI_clamp (n := 4 * r + i) (by omega)]
      exact ⟨vp_in_nI (by omega) (by decide), vp_in_nI (by omega) (by decide), nm_e (nm_r (nI_1 (i + 1)) (h3 post h))⟩
theorem x_takeFirst {fk : Int32} {r : Nat} (hr : r < 8) : ∃ ro' : Nat → Int32, (∀ k, k < 3 → ro' (4 * r + k) = ro (4 * r + (k + 1))) ∧ (∀ j, (j < 4 * r ∨ 4 * r + 3 ≤ j) → ro' j = ro j) ∧ ∀ post : Int32 → SX → Prop, post (ro (4 * r)) (fk, fr, st, aw, ty, hd, ro', upd ln r (ln r - 1), sp, bf, ra, mk, wd, iw, wr, kw, sr) → wpX_takeFirst post (fk, fr, st, aw, ty, hd, ro, ln, sp, bf, ra, mk, wd, iw, wr, kw, sr) (nI r) := by
  obtain ⟨ro', h1, h2, h3⟩ := x_takeFirst_11 (fk := fk) (fr := fr) (st := st) (aw := aw) (ty := ty) (hd := hd) (ln := ln) (sp := sp) (bf := bf) (ra := ra) (mk := mk) (wd := wd) (iw := iw) (wr := wr) (kw := kw) (sr := sr) (x := ro (4 * r)) hr 3 0 ro (by omega)
  refine ⟨ro', fun k hk => h1 k (by omega) hk, fun j hj => h2 j (by omega), fun post h => ?_⟩
  unfold wpX_takeFirst
  dsimp only
  have e : nI r * 4 = nI (4 * r) := by
    rw [show (4 : Int32) = nI 4 from rfl, pk_mul, Nat.mul_comm]
  rw [e, nI_clamp (n := 4 * r) (by omega)]
  exact ⟨vp_in_nI (by omega) (by decide), nm_e ⟨4, h3 post h⟩⟩
theorem y_shift_21 {fk : Int32} {r c : Nat} {x : Int32} (hr : r < 8) (hc : c ≤ 3) (hL : ln r = nI c) : ∀ (d i : Nat) (ry : Nat → Int32), i + d = c → ∃ ry' : Nat → Int32, (∀ k, i ≤ k → k < c → ry' (4 * r + k) = ry (4 * r + (k + 1))) ∧ (∀ j, (j < 4 * r + i ∨ 4 * r + c ≤ j) → ry' j = ry j) ∧ ∀ post : Int32 → SY → Prop, post x (fk, fr, lr, mk, wd, vl, iw, kn, sn, kp, bf, sp, st, aw, hd, ry', ln, fe, mv, rc, md, lo, ra) → wY_shift_21 post (nI r) x fk fr lr (d + 1) (nI i) mk wd vl iw kn sn kp bf sp st aw hd ry ln fe mv rc md lo ra := by
  intro d
  have i8 : vp_in (nI r) 8 := vp_in_nI hr (by decide)
  induction d with
  | zero =>
    intro i ry hi
    have : i = c := by omega
    subst this
    refine ⟨ry, fun k h1 h2 => by omega, fun j _ => rfl, fun post h => ⟨i8, ?_⟩⟩
    rw [nI_clamp (n := r) (by omega), hL]
    exact br_t (nI_le (Nat.le_refl _) (by omega)) h
  | succ d ih =>
    intro i ry hi
    obtain ⟨ry', h1, h2, h3⟩ := ih (i + 1) (upd ry (4 * r + i) (ry (4 * r + (i + 1)))) (by omega)
    refine ⟨ry', fun k hk hk2 => ?_, fun j hj => ?_, fun post h => ⟨i8, ?_⟩⟩
    · by_cases z : k = i
      · subst z
        rw [h2 _ (by omega), pk_us]
      · rw [h1 k (by omega) hk2, pk_un (by omega)]
    · rw [h2 j (by omega), pk_un (by omega)]
    · rw [nI_clamp (n := r) (by omega), hL]
      refine br_f (nI_ge (by omega) (by omega)) ?_
      rw [ch_4x, nI_1 (4 * r + i), nI_clamp (n := 4 * r + i + 1) (by omega), nI_clamp (n := 4 * r + i) (by omega)]
      exact ⟨vp_in_nI (by omega) (by decide), vp_in_nI (by omega) (by decide), nm_e (nm_r (nI_1 i) (h3 post h))⟩
theorem y_shift {fk : Int32} {r : Nat} (hr : r < 8) (hL : ln r = nI (L r)) (h0 : 0 < L r) (h4 : L r ≤ 4) : ∃ ry' : Nat → Int32, (∀ k, k + 1 < L r → ry' (4 * r + k) = ry (4 * r + (k + 1))) ∧ (∀ j, (j < 4 * r ∨ 4 * r + 4 ≤ j) → ry' j = ry j) ∧ ∀ post : Int32 → SY → Prop, post (ry (4 * r)) (fk, fr, lr, mk, wd, vl, iw, kn, sn, kp, bf, sp, st, aw, hd, ry', upd ln r (ln r - 1), fe, mv, rc, md, lo, ra) → wpY_shift post (fk, fr, lr, mk, wd, vl, iw, kn, sn, kp, bf, sp, st, aw, hd, ry, ln, fe, mv, rc, md, lo, ra) (nI r) := by
  have e0 : ln r - 1 = nI (L r - 1) := by
    rw [hL]
    obtain ⟨c, hc⟩ : ∃ c, L r = c + 1 := ⟨L r - 1, by omega⟩
    rw [hc]
    exact nI_pred c
  obtain ⟨ry', h1, h2, h3⟩ := y_shift_21 (fk := fk) (fr := fr) (lr := lr) (mk := mk) (wd := wd) (vl := vl) (iw := iw) (kn := kn) (sn := sn) (kp := kp) (bf := bf) (sp := sp) (st := st) (aw := aw) (hd := hd) (ln := upd ln r (ln r - 1)) (fe := fe) (mv := mv) (rc := rc) (md := md) (lo := lo) (ra := ra) (x := ry (4 * r)) (c := L r - 1) hr (by omega) (by rw [pk_us, e0]) (L r - 1) 0 ry (by omega)
  refine ⟨ry', fun k hk => h1 k (by omega) (by omega), fun j hj => h2 j (by omega), fun post h => ?_⟩
  unfold wpY_shift
  dsimp only
  have e : 4 * nI r = nI (4 * r) := by
    rw [show (4 : Int32) = nI 4 from rfl, pk_mul]
  have i8 : vp_in (nI r) 8 := vp_in_nI hr (by decide)
  rw [e, nI_clamp (n := 4 * r) (by omega), nI_clamp (n := r) (by omega)]
  exact ⟨vp_in_nI (by omega) (by decide), nm_e ⟨i8, i8, nm_e ⟨_, h3 post h⟩⟩⟩
end lk
end
section
/-! give back, acquire, release, rest -/
section gv
variable {n : Nat} {fr lr : Int32} {st aw ty hd ro ln sp bf ra mk wd iw wr kw sr vl kn sn kp ry fe mv rc md lo : Nat → Int32}
variable {L : Nat → Nat} {T : Nat → Nat → Nat}
theorem y_give_2 (hn : n ≤ 300) {m l : Nat} (hm : m < 4) (hl : l < 4) (hb : ∀ i, i < n → ∃ b, kn (300 * m + i) = ch_b b) : ∀ (d i : Nat) (kp : Nat → Int32), i + d = n → ∃ kp' : Nat → Int32, (∀ j, (∀ k, i ≤ k → k < n → ¬ j = 300 * l + k) → kp' j = kp j) ∧ (∀ j, i ≤ j → j < n → kp' (300 * l + j) = kn (300 * m + j)) ∧ ∀ post : SY → Prop, wY_give_2 post (nI m) (nI l) (nI n) fr lr 1 (nI n) mk wd vl iw kn sn kp' bf sp st aw hd ry ln fe mv rc md lo ra → wY_give_2 post (nI m) (nI l) (nI n) fr lr (d + 1) (nI i) mk wd vl iw kn sn kp bf sp st aw hd ry ln fe mv rc md lo ra := by
  intro d
  induction d with
  | zero =>
    intro i kp hi
    have : i = n := by omega
    subst this
    exact ⟨kp, fun j _ => rfl, fun j h1 h2 => by omega, fun post h => h⟩
  | succ d ih =>
    intro i kp hi
    obtain ⟨b, eb⟩ := hb i (by omega)
    obtain ⟨kp', h1, h2, h3⟩ := ih (i + 1) (upd kp (300 * l + i) (kn (300 * m + i))) (by omega)
    refine ⟨kp', fun j hj => ?_, fun j hj hj2 => ?_, fun post h => ?_⟩
    · rw [h1 j (fun k hk hk2 => hj k (by omega) hk2), pk_un (hj i (by omega) (by omega))]
    · by_cases z : j = i
      · subst z
        rw [h1 _ (fun k hk hk2 => by omega), pk_us]
      · rw [h2 j (by omega) hj2]
    · refine br_f (nI_ge (by omega) (by omega)) ⟨ch_adI hm (by omega), ch_adI hl (by omega), ?_⟩
      rw [ch_adC hl (by omega), ch_adC hm (by omega), eb, ch_vb, ← eb]
      exact nm_e (nm_r (nI_1 i) (h3 post h))
theorem v_give (A : ch_A n mk wd iw wr vl) (K : ch_K n mk iw hd kw sr kn sn kp) (Q : ch_Q L T st aw hd) (WX : ch_W L T ln ro) (WY : ch_W L T ln ry) {m l : Nat} (hm : m < 4) (hl : l < 4) (hs : st m = 0) (hh : hd l = nI m) :
    ∃ (L' : Nat → Nat) (T' : Nat → Nat → Nat) (st' hd' ln' ro' ry' kw' kn' kp' : Nat → Int32), ch_K n mk iw hd' kw' sr kn' sn kp' ∧ ch_Q L' T' st' aw hd' ∧ ch_W L' T' ln' ro' ∧ ch_W L' T' ln' ry' ∧ st' m = 0 ∧
      (∀ post : SX → Prop, post ((nI n), fr, st', aw, ty, hd', ro', ln', sp, bf, ra, mk, wd, iw, wr, kw', sr) → wpX_giveBack post ((nI n), fr, st, aw, ty, hd, ro, ln, sp, bf, ra, mk, wd, iw, wr, kw, sr) (nI m) (nI l)) ∧ (∀ post : SY → Prop, post ((nI n), fr, lr, mk, wd, vl, iw, kn', sn, kp', bf, sp, st', aw, hd', ry', ln', fe, mv, rc, md, lo, ra) → wpY_give post ((nI n), fr, lr, mk, wd, vl, iw, kn, sn, kp, bf, sp, st, aw, hd, ry, ln, fe, mv, rc, md, lo, ra) (nI m) (nI l)) := by
  obtain ⟨kw1, h1, h2, h3⟩ := x_learn (n := n) (aw := aw) (ty := ty) (ro := ro) (ln := ln) (sp := sp) (bf := bf) (ra := ra) (mk := mk) (wd := wd) (iw := iw) (wr := wr) (sr := sr) (kw := kw) (q := 4 + l) (f := m) A.1 (by omega) (by omega)
  obtain ⟨kp1, g1, g2, g3⟩ := y_give_2 (n := n) (fr := fr) (lr := lr) (mk := mk) (wd := wd) (vl := vl) (iw := iw) (kn := kn) (sn := sn) (bf := bf) (sp := sp) (st := st) (aw := aw) (hd := hd) (ry := ry) (ln := ln) (fe := fe) (mv := mv) (rc := rc) (md := md) (lo := lo) (ra := ra) A.1 hm hl (fun i hi => ⟨_, K.1 m i hm hi⟩) n 0 kp (by omega)
  have K1 : ch_K n mk iw (upd hd l (-1)) kw1 sr kn sn kp1 := ch_Kgive K A.1 hl hm hh h2 (fun i hi => g2 i (by omega) hi) (fun j hj => g1 j (fun k _ hk => hj k hk)) (fun j hj => pk_un hj) pk_us
  have i4 : vp_in (nI l) 4 := vp_in_nI hl (by decide)
  have i8 : vp_in (nI l) 8 := vp_in_nI (by omega) (by decide)
  have eL := WX.1 l (by omega)
  have L4 := Q.1 l (by omega)
  by_cases z : L l = 0
  · refine ⟨L, T, st, upd hd l (-1), ln, ro, ry, kw1, kn, kp1, K1, ch_hdn Q (fun j hj => pk_un hj) z pk_us, WX, WY, hs, fun post h => ?_, fun post h => ?_⟩
    · unfold wpX_giveBack
      dsimp only
      rw [ch_4z]
      refine h3 _ _ _ _ ?_
      dsimp only
      refine ⟨i4, ?_⟩
      rw [nI_clamp (n := l) (by omega), eL, z]
      exact nm_e ⟨i8, br_t (by decide) h⟩
    · refine ⟨n + 1, g3 post (br_t (nI_le (Nat.le_refl _) (by have := A.1; omega)) ⟨i4, ?_⟩)⟩
      rw [nI_clamp (n := l) (by omega), eL, z]
      exact nm_e ⟨i8, br_t rfl h⟩
  · have h0 : 0 < L l := by omega
    have e0 : ln l - 1 = nI (L l - 1) := by
      rw [eL]
      obtain ⟨c, hc⟩ : ∃ c, L l = c + 1 := ⟨L l - 1, by omega⟩
      rw [hc]
      exact nI_pred c
    have hx : T l 0 < 4 := (Q.2.1 l 0 (by omega) h0).1
    have hx1 : st (T l 0) = 1 := ((Q.2.1 l 0 (by omega) h0).2.1 hl).1
    obtain ⟨ro1, r1, r2, r3⟩ := x_takeFirst (fk := nI n) (fr := fr) (st := st) (aw := aw) (ty := ty) (hd := upd hd l (-1)) (ro := ro) (ln := ln) (sp := sp) (bf := bf) (ra := ra) (mk := mk) (wd := wd) (iw := iw) (wr := wr) (kw := kw1) (sr := sr) (r := l) (by omega)
    obtain ⟨ry1, s1, s2, s3⟩ := y_shift (fk := nI n) (L := L) (fr := fr) (lr := lr) (mk := mk) (wd := wd) (vl := vl) (iw := iw) (kn := kn) (sn := sn) (kp := kp1) (bf := bf) (sp := sp) (st := st) (aw := aw) (hd := upd hd l (-1)) (ry := ry) (ln := ln) (fe := fe) (mv := mv) (rc := rc) (md := md) (lo := lo) (ra := ra) (r := l) (by omega) eL h0 L4
    obtain ⟨kw2, kn2, K2, X2, Y2⟩ := v_gets (fr := fr) (lr := lr) (st := st) (aw := aw) (ty := ty) (ro := ro1) (ln := upd ln l (ln l - 1)) (sp := sp) (bf := bf) (ra := ra) (ry := ry1) (fe := fe) (mv := mv) (rc := rc) (md := md) (lo := lo) A K1 hx hl
    have eX : ro (4 * l) = nI (T l 0) := WX.2 l 0 (by omega) h0
    have eY : ry (4 * l) = nI (T l 0) := WY.2 l 0 (by omega) h0
    refine ⟨ch_oL L l, ch_oT T l, upd st (T l 0) 0, upd (upd hd l (-1)) l (nI (T l 0)), upd ln l (ln l - 1), ro1, ry1, kw2, kn2, kp1, K2, ?_, ?_, ?_, ?_, fun post h => ?_, fun post h => ?_⟩
    · refine ch_set (ch_Ppop (ch_hd (l := l) Q ?_ ⟨T l 0, hx, pk_us⟩) (by omega) h0) (fun j hj => pk_un hj) ?_
      · intro j hj
        rw [pk_un hj, pk_un hj]
      · rw [pk_us]
        decide
    · exact ch_Wpop WX (by omega) h0 Q.1 e0 (fun k hk => r1 k (by omega)) (fun j hj => r2 j (by omega))
    · exact ch_Wpop WY (by omega) h0 Q.1 e0 (fun k hk => s1 k hk) (fun j hj => s2 j hj)
    · by_cases q : m = T l 0
      · rw [q, pk_us]
      · rw [pk_un q]; exact hs
    · unfold wpX_giveBack
      dsimp only
      rw [ch_4z]
      refine h3 _ _ _ _ ?_
      dsimp only
      refine ⟨i4, ?_⟩
      rw [nI_clamp (n := l) (by omega)]
      refine nm_e ⟨i8, br_f ?_ ?_⟩
      · rw [eL]
        exact nI_nle h0 (by omega)
      · refine r3 _ ?_
        rw [eX]
        exact X2 _ h
    · refine ⟨n + 1, g3 post (br_t (nI_le (Nat.le_refl _) (by have := A.1; omega)) ⟨i4, ?_⟩)⟩
      rw [nI_clamp (n := l) (by omega)]
      refine nm_e ⟨i8, br_f ?_ ?_⟩
      · rw [eL]
        exact nI_ne0 h0 (by omega)
      · refine s3 _ ?_
        rw [eY]
        exact Y2 _ h
theorem v_release {k : Nat} (R : ch_R n L T st aw ty hd ro ln mk wd iw wr kw sr vl kn sn kp ry fe mv rc md lo) (v1 v2 : Int32) : ∃ (r : Int32) (u' : SX) (v' : SY), i_Rel k u' v' ∧ (∀ post : Int32 → SX → Prop, post r u' → wpX_release post ((nI n), fr, st, aw, ty, hd, ro, ln, sp, bf, ra, mk, wd, iw, wr, kw, sr) v1 v2) ∧ (∀ post : Int32 → SY → Prop, post r v' → wpY_release post ((nI n), fr, lr, mk, wd, vl, iw, kn, sn, kp, bf, sp, st, aw, hd, ry, ln, fe, mv, rc, md, lo, ra) v1 v2) := by
  by_cases a : ch_hol st hd v1 v2
  · have a2 := a
    obtain ⟨m, l, hm, hl, rfl, rfl, hs, hh⟩ := a2
    obtain ⟨A, K, Q, WX, WY, TT⟩ := R
    obtain ⟨L', T', st', hd', ln', ro', ry', kw', kn', kp', K', Q', WX', WY', hs', hX, hY⟩ := v_give (fr := fr) (lr := lr) (ty := ty) (sp := sp) (bf := bf) (ra := ra) (fe := fe) (mv := mv) (rc := rc) (md := md) (lo := lo) A K Q WX WY hm hl hs hh
    refine ⟨1, _, _, ch_mk fr lr sp bf ra ⟨A, K', Q', WX', WY', TT⟩, fun post h => ?_, fun post h => ?_⟩
    · unfold wpX_release
      dsimp only
      exact x_isRunningHolder (fun _ => br_f (by decide) (hX _ h)) (fun z => absurd a z)
    · unfold wpY_release
      dsimp only
      exact y_holds (fun _ => br_f (by decide) (hY _ h)) (fun z => absurd a z)
  · refine ⟨0, _, _, ch_mk fr lr sp bf ra R, fun post h => ?_, fun post h => ?_⟩
    · unfold wpX_release
      dsimp only
      exact x_isRunningHolder (fun z => absurd z a) (fun _ => br_t rfl h)
    · unfold wpY_release
      dsimp only
      exact y_holds (fun z => absurd z a) (fun _ => br_t rfl h)
theorem v_rest {k : Nat} (R : ch_R n L T st aw ty hd ro ln mk wd iw wr kw sr vl kn sn kp ry fe mv rc md lo) (v1 v2 : Int32) : ∃ (r : Int32) (u' : SX) (v' : SY), i_Rel k u' v' ∧ (∀ post : Int32 → SX → Prop, post r u' → wpX_rest post ((nI n), fr, st, aw, ty, hd, ro, ln, sp, bf, ra, mk, wd, iw, wr, kw, sr) v1 v2) ∧ (∀ post : Int32 → SY → Prop, post r v' → wpY_rest post ((nI n), fr, lr, mk, wd, vl, iw, kn, sn, kp, bf, sp, st, aw, hd, ry, ln, fe, mv, rc, md, lo, ra) v1 v2) := by
  by_cases a : ch_hol st hd v1 v2
  · have a2 := a
    obtain ⟨m, l, hm, hl, rfl, rfl, hs, hh⟩ := a2
    obtain ⟨A, K, Q, WX, WY, TT⟩ := R
    obtain ⟨L', T', st', hd', ln', ro', ry', kw', kn', kp', K', Q', WX', WY', hs', hX, hY⟩ := v_give (fr := fr) (lr := lr) (ty := ty) (sp := sp) (bf := bf) (ra := ra) (fe := fe) (mv := mv) (rc := rc) (md := md) (lo := lo) A K Q WX WY hm hl hs hh
    have P : ch_P L' T' st' aw hd' m := ch_Pof Q' hm (by rw [hs']; decide) (by rw [hs']; decide)
    have rm : L' (4 + l) < 4 := ch_room P (by omega)
    have Q2 : ch_Q (ch_pL L' (4 + l)) (ch_pT L' T' (4 + l) m) (upd st' m 3) aw hd' := ch_push P (by omega) (fun j hj => pk_un hj) (fun j hj => rfl) (fun z => absurd z (by omega)) (fun _ => pk_us)
    have WX2 := ch_Wpush (x := m) WX' (show 4 + l < 8 by omega) rm Q'.1 rfl rfl
    have WY2 := ch_Wpush (x := m) WY' (show 4 + l < 8 by omega) rm Q'.1 rfl rfl
    refine ⟨1, _, _, ch_mk fr lr sp bf ra ⟨A, K', Q2, WX2, WY2, TT⟩, fun post h => ?_, fun post h => ?_⟩
    · unfold wpX_rest
      dsimp only
      refine x_isRunningHolder (fun _ => br_f (by decide) (hX _ ?_)) (fun z => absurd a z)
      refine ⟨vp_in_nI hm (by decide), ?_⟩
      rw [nI_clamp (n := m) (by omega), ch_4z]
      exact nm_e (x_putLast (L := L') (by omega) (WX'.1 _ (by omega)) rm h)
    · unfold wpY_rest
      dsimp only
      refine y_holds (fun _ => br_f (by decide) (hY _ ?_)) (fun z => absurd a z)
      refine ⟨vp_in_nI hm (by decide), ?_⟩
      rw [nI_clamp (n := m) (by omega), ch_4z]
      exact nm_e (y_push (L := L') (by omega) (WY'.1 _ (by omega)) rm h)
  · refine ⟨0, _, _, ch_mk fr lr sp bf ra R, fun post h => ?_, fun post h => ?_⟩
    · unfold wpX_rest
      dsimp only
      exact x_isRunningHolder (fun z => absurd z a) (fun _ => br_t rfl h)
    · unfold wpY_rest
      dsimp only
      exact y_holds (fun z => absurd z a) (fun _ => br_t rfl h)
theorem v_acquire {k : Nat} (R : ch_R n L T st aw ty hd ro ln mk wd iw wr kw sr vl kn sn kp ry fe mv rc md lo) (v1 v2 : Int32) : ∃ (r : Int32) (u' : SX) (v' : SY), i_Rel k u' v' ∧ (∀ post : Int32 → SX → Prop, post r u' → wpX_acquire post ((nI n), fr, st, aw, ty, hd, ro, ln, sp, bf, ra, mk, wd, iw, wr, kw, sr) v1 v2) ∧ (∀ post : Int32 → SY → Prop, post r v' → wpY_acquire post ((nI n), fr, lr, mk, wd, vl, iw, kn, sn, kp, bf, sp, st, aw, hd, ry, ln, fe, mv, rc, md, lo, ra) v1 v2) := by
  by_cases a : ch_run st v1
  · by_cases b : ch_rg 4 v2
    · have a2 := a
      have b2 := b
      obtain ⟨m, hm, rfl, hs⟩ := a2
      obtain ⟨l, hl, rfl⟩ := b2
      have i4 : vp_in (nI l) 4 := vp_in_nI hl (by decide)
      by_cases c : hd l = nI m
      · refine ⟨-1, _, _, ch_mk fr lr sp bf ra R, fun post h => ?_, fun post h => ?_⟩
        · unfold wpX_acquire
          dsimp only
          refine x_isRunning (fun _ => br_f (by decide) ?_) (fun z => absurd a z)
          refine x_isLock (fun _ => br_f (by decide) ⟨i4, ?_⟩) (fun z => absurd b z)
          rw [nI_clamp (n := l) (by omega)]
          exact br_t c h
        · unfold wpY_acquire
          dsimp only
          refine y_runs (fun _ => br_f (by decide) ?_) (fun z => absurd a z)
          refine y_in (N := 4) rfl (by decide) (fun _ => br_f (by decide) ⟨i4, ?_⟩) (fun z => absurd b z)
          rw [nI_clamp (n := l) (by omega)]
          exact br_t c h
      · obtain ⟨A, K, Q, WX, WY, TT⟩ := R
        by_cases d : hd l = -1
        · obtain ⟨kw', kn', K', hX, hY⟩ := v_gets (fr := fr) (lr := lr) (st := st) (aw := aw) (ty := ty) (ro := ro) (ln := ln) (sp := sp) (bf := bf) (ra := ra) (ry := ry) (fe := fe) (mv := mv) (rc := rc) (md := md) (lo := lo) A K hm hl
          have Q2 : ch_Q L T (upd st m 0) aw (upd hd l (nI m)) := ch_set (ch_Pof (ch_hd (l := l) Q (fun j hj => pk_un hj) ⟨m, hm, pk_us⟩) hm (by rw [hs]; decide) (by rw [hs]; decide)) (fun j hj => pk_un hj) (by rw [pk_us]; decide)
          refine ⟨1, _, _, ch_mk fr lr sp bf ra ⟨A, K', Q2, WX, WY, TT⟩, fun post h => ?_, fun post h => ?_⟩
          · unfold wpX_acquire
            dsimp only
            refine x_isRunning (fun _ => br_f (by decide) ?_) (fun z => absurd a z)
            refine x_isLock (fun _ => br_f (by decide) ⟨i4, ?_⟩) (fun z => absurd b z)
            rw [nI_clamp (n := l) (by omega)]
            exact br_f c ⟨i4, br_t d (hX _ h)⟩
          · unfold wpY_acquire
            dsimp only
            refine y_runs (fun _ => br_f (by decide) ?_) (fun z => absurd a z)
            refine y_in (N := 4) rfl (by decide) (fun _ => br_f (by decide) ⟨i4, ?_⟩) (fun z => absurd b z)
            rw [nI_clamp (n := l) (by omega)]
            exact br_f c ⟨i4, br_f (by rw [d]; decide) (hY _ h)⟩
        · have P : ch_P L T st aw hd m := ch_Pof Q hm (by rw [hs]; decide) (by rw [hs]; decide)
          have rm : L l < 4 := ch_room P (by omega)
          have Q2 : ch_Q (ch_pL L l) (ch_pT L T l m) (upd st m 1) (upd aw m (nI l)) hd := ch_push P (by omega) (fun j hj => pk_un hj) (fun j hj => pk_un hj) (fun _ => ⟨pk_us, pk_us, d⟩) (fun z => absurd z (by omega))
          have WX2 := ch_Wpush (x := m) WX (show l < 8 by omega) rm Q.1 rfl rfl
          have WY2 := ch_Wpush (x := m) WY (show l < 8 by omega) rm Q.1 rfl rfl
          have d0 : 0 ≤ hd l := by
            rcases Q.2.2.2.2.2 l hl with e | ⟨m2, hm2, e⟩
            · exact absurd e d
            · rw [e]; exact nI_pos' (by omega)
          refine ⟨0, _, _, ch_mk fr lr sp bf ra ⟨A, K, Q2, WX2, WY2, TT⟩, fun post h => ?_, fun post h => ?_⟩
          · unfold wpX_acquire
            dsimp only
            refine x_isRunning (fun _ => br_f (by decide) ?_) (fun z => absurd a z)
            refine x_isLock (fun _ => br_f (by decide) ⟨i4, ?_⟩) (fun z => absurd b z)
            rw [nI_clamp (n := l) (by omega)]
            exact br_f c ⟨i4, br_f d (x_waitFor (L := L) hl hm (WX.1 l (by omega)) rm h)⟩
          · unfold wpY_acquire
            dsimp only
            refine y_runs (fun _ => br_f (by decide) ?_) (fun z => absurd a z)
            refine y_in (N := 4) rfl (by decide) (fun _ => br_f (by decide) ⟨i4, ?_⟩) (fun z => absurd b z)
            rw [nI_clamp (n := l) (by omega), nI_clamp (n := m) (by omega)]
            exact br_f c ⟨i4, br_t d0 ⟨vp_in_nI hm (by decide), nm_e ⟨vp_in_nI hm (by decide), nm_e (y_push (L := L) (by omega) (WY.1 l (by omega)) rm h)⟩⟩⟩
    · refine ⟨-1, _, _, ch_mk fr lr sp bf ra R, fun post h => ?_, fun post h => ?_⟩
      · unfold wpX_acquire
        dsimp only
        refine x_isRunning (fun _ => br_f (by decide) ?_) (fun z => absurd a z)
        exact x_isLock (fun z => absurd z b) (fun _ => br_t rfl h)
      · unfold wpY_acquire
        dsimp only
        refine y_runs (fun _ => br_f (by decide) ?_) (fun z => absurd a z)
        exact y_in (N := 4) rfl (by decide) (fun z => absurd z b) (fun _ => br_t rfl h)
  · refine ⟨-1, _, _, ch_mk fr lr sp bf ra R, fun post h => ?_, fun post h => ?_⟩
    · unfold wpX_acquire
      dsimp only
      exact x_isRunning (fun z => absurd z a) (fun _ => br_t rfl h)
    · unfold wpY_acquire
      dsimp only
      exact y_runs (fun z => absurd z a) (fun _ => br_t rfl h)
end gv
end
section
/-! wake, arrive, tidy -/
section wk
variable {n : Nat} {fr lr : Int32} {st aw ty hd ro ln sp bf ra mk wd iw wr kw sr vl kn sn kp ry fe mv rc md lo : Nat → Int32}
variable {L : Nat → Nat} {T : Nat → Nat → Nat}
theorem v_wake1 (Q : ch_Q L T st aw hd) (WX : ch_W L T ln ro) (WY : ch_W L T ln ry) {l : Nat} (hl : l < 4) (hh : ¬ hd l = -1) (h0 : 0 < L (4 + l)) :
    ∃ (L' : Nat → Nat) (T' : Nat → Nat → Nat) (st' aw' ln' ro' ry' : Nat → Int32), ch_Q L' T' st' aw' hd ∧ ch_W L' T' ln' ro' ∧ ch_W L' T' ln' ry' ∧ L' (4 + l) + 1 = L (4 + l) ∧
      (∀ (post : Int32 → SX → Prop) (d i c : Nat), i < c → c < 2 ^ 31 → wX_wake_41 post (nI l) (nI c) d (nI (i + 1)) (nI n) fr st' aw' ty hd ro' ln' sp bf ra mk wd iw wr kw sr → wX_wake_41 post (nI l) (nI c) (d + 1) (nI i) (nI n) fr st aw ty hd ro ln sp bf ra mk wd iw wr kw sr) ∧
      (∀ (post : Int32 → SY → Prop) (J : Int32 → Int32 → Int32 → Int32 → (Nat → Int32) → (Nat → Int32) → (Nat → Int32) → (Nat → Int32) → (Nat → Int32) → (Nat → Int32) → (Nat → Int32) → (Nat → Int32) → (Nat → Int32) → (Nat → Int32) → (Nat → Int32) → (Nat → Int32) → (Nat → Int32) → (Nat → Int32) → (Nat → Int32) → (Nat → Int32) → (Nat → Int32) → (Nat → Int32) → (Nat → Int32) → (Nat → Int32) → Prop) (w : Int32) (i : Nat), J (nI (i + 1)) (nI n) fr lr mk wd vl iw kn sn kp bf sp st' aw' hd ry' ln' fe mv rc md lo ra → wY_wake_34 post J (nI l) w (nI i) (nI n) fr lr mk wd vl iw kn sn kp bf sp st aw hd ry ln fe mv rc md lo ra) := by
  have h4 := Q.1 (4 + l) (by omega)
  have eL := WX.1 (4 + l) (by omega)
  have e0 : ln (4 + l) - 1 = nI (L (4 + l) - 1) := by
    rw [eL]
    obtain ⟨c, hc⟩ : ∃ c, L (4 + l) = c + 1 := ⟨L (4 + l) - 1, by omega⟩
    rw [hc]
    exact nI_pred c
  have P := ch_Ppop Q (show 4 + l < 8 by omega) h0
  have hx := P.1
  obtain ⟨ro1, r1, r2, r3⟩ := x_takeFirst (fk := nI n) (fr := fr) (st := st) (aw := aw) (ty := ty) (hd := hd) (ro := ro) (ln := ln) (sp := sp) (bf := bf) (ra := ra) (mk := mk) (wd := wd) (iw := iw) (wr := wr) (kw := kw) (sr := sr) (r := 4 + l) (by omega)
  obtain ⟨ry1, s1, s2, s3⟩ := y_shift (fk := nI n) (L := L) (fr := fr) (lr := lr) (mk := mk) (wd := wd) (vl := vl) (iw := iw) (kn := kn) (sn := sn) (kp := kp) (bf := bf) (sp := sp) (st := st) (aw := aw) (hd := hd) (ry := ry) (ln := ln) (fe := fe) (mv := mv) (rc := rc) (md := md) (lo := lo) (ra := ra) (r := 4 + l) (by omega) eL h0 h4
  have WX1 := ch_Wpop WX (show 4 + l < 8 by omega) h0 Q.1 e0 (fun k hk => r1 k (by omega)) (fun j hj => r2 j (by omega))
  have WY1 := ch_Wpop WY (show 4 + l < 8 by omega) h0 Q.1 e0 (fun k hk => s1 k hk) (fun j hj => s2 j hj)
  have eX : ro (4 * (4 + l)) = nI (T (4 + l) 0) := WX.2 (4 + l) 0 (by omega) h0
  have eY : ry (4 * (4 + l)) = nI (T (4 + l) 0) := WY.2 (4 + l) 0 (by omega) h0
  have rm : ch_oL L (4 + l) l < 4 := ch_room P (by omega)
  have Q2 := ch_push (st' := upd st (T (4 + l) 0) 1) (aw' := upd aw (T (4 + l) 0) (nI l)) (r := l) P (by omega) (fun j hj => pk_un hj) (fun j hj => pk_un hj) (fun _ => ⟨pk_us, pk_us, hh⟩) (fun z => absurd z (by omega))
  have WX2 := ch_Wpush (x := T (4 + l) 0) WX1 (show l < 8 by omega) rm P.2.2.1 rfl rfl
  have WY2 := ch_Wpush (x := T (4 + l) 0) WY1 (show l < 8 by omega) rm P.2.2.1 rfl rfl
  refine ⟨_, _, _, _, _, _, _, Q2, WX2, WY2, ?_, fun post d i c hi hc h => ?_, fun post J w i h => ?_⟩
  · unfold ch_pL ch_oL
    rw [if_neg (by omega), if_pos rfl]
    omega
  · refine br_f (nI_ge hi hc) ?_
    rw [ch_4z]
    refine r3 _ ?_
    dsimp only
    rw [eX]
    exact x_waitFor (L := ch_oL L (4 + l)) hl hx (WX1.1 l (by omega)) rm (nm_r (nI_1 i) h)
  · unfold wY_wake_34
    rw [ch_4z]
    refine s3 _ ?_
    dsimp only
    rw [eY, nI_clamp (n := T (4 + l) 0) (by omega)]
    exact ⟨vp_in_nI hx (by decide), nm_e ⟨vp_in_nI hx (by decide), nm_e (y_push (L := ch_oL L (4 + l)) (by omega) (WY1.1 l (by omega)) rm (nm_r (nI_1 i) h))⟩⟩
theorem v_wakeA {l : Nat} {w : Int32} (hl : l < 4) (hh : ¬ hd l = -1) (hw : ¬ w = 0) : ∀ (c i : Nat) (L : Nat → Nat) (T : Nat → Nat → Nat) (st aw ln ro ry : Nat → Int32), ch_Q L T st aw hd → ch_W L T ln ro → ch_W L T ln ry → L (4 + l) = c → i + c ≤ 8 → c ≤ 4 →
    ∃ (L' : Nat → Nat) (T' : Nat → Nat → Nat) (st' aw' ln' ro' ry' : Nat → Int32), ch_Q L' T' st' aw' hd ∧ ch_W L' T' ln' ro' ∧ ch_W L' T' ln' ry' ∧
      (∀ post : Int32 → SX → Prop, post (nI (i + c)) ((nI n), fr, st', aw', ty, hd, ro', ln', sp, bf, ra, mk, wd, iw, wr, kw, sr) → wX_wake_41 post (nI l) (nI (i + c)) (c + 1) (nI i) (nI n) fr st aw ty hd ro ln sp bf ra mk wd iw wr kw sr) ∧
      (∀ post : Int32 → SY → Prop, post (nI (i + c)) ((nI n), fr, lr, mk, wd, vl, iw, kn, sn, kp, bf, sp, st', aw', hd, ry', ln', fe, mv, rc, md, lo, ra) → wY_wake_14 post (nI l) w (c + 1) (nI i) (nI n) fr lr mk wd vl iw kn sn kp bf sp st aw hd ry ln fe mv rc md lo ra) := by
  have i8 : vp_in (4 + nI l) 8 := by
    rw [ch_4z]
    exact vp_in_nI (by omega) (by decide)
  intro c
  induction c with
  | zero =>
    intro i L T st aw ln ro ry Q WX WY hc hi _
    refine ⟨L, T, st, aw, ln, ro, ry, Q, WX, WY, fun post h => ?_, fun post h => ?_⟩
    · exact br_t (nI_le (Nat.le_refl _) (by omega)) h
    · refine ⟨i8, ?_⟩
      rw [ch_4z, nI_clamp (n := 4 + l) (by omega), WX.1 (4 + l) (by omega), hc]
      exact br_t (by decide) h
  | succ c ih =>
    intro i L T st aw ln ro ry Q WX WY hc hi hc4
    obtain ⟨L1, T1, st1, aw1, ln1, ro1, ry1, Q1, WX1, WY1, e1, hX, hY⟩ := v_wake1 (n := n) (fr := fr) (lr := lr) (ty := ty) (sp := sp) (bf := bf) (ra := ra) (mk := mk) (wd := wd) (iw := iw) (wr := wr) (kw := kw) (sr := sr) (vl := vl) (kn := kn) (sn := sn) (kp := kp) (fe := fe) (mv := mv) (rc := rc) (md := md) (lo := lo) Q WX WY hl hh (by omega)
    obtain ⟨L2, T2, st2, aw2, ln2, ro2, ry2, Q2, WX2, WY2, gX, gY⟩ := ih (i + 1) L1 T1 st1 aw1 ln1 ro1 ry1 Q1 WX1 WY1 (by omega) (by omega) (by omega)
    have ei : i + 1 + c = i + (c + 1) := by omega
    rw [ei] at gX gY
    refine ⟨L2, T2, st2, aw2, ln2, ro2, ry2, Q2, WX2, WY2, fun post h => ?_, fun post h => ?_⟩
    · exact hX post _ i _ (by omega) (by omega) (gX post h)
    · refine ⟨i8, ?_⟩
      rw [ch_4z, nI_clamp (n := 4 + l) (by omega), WX.1 (4 + l) (by omega), hc]
      exact br_f (nI_nle (by omega) (by omega)) (br_f hw (hY post _ w i (gY post h)))
theorem v_wake {k : Nat} (R : ch_R n L T st aw ty hd ro ln mk wd iw wr kw sr vl kn sn kp ry fe mv rc md lo) (v1 v2 w : Int32) : ∃ (r : Int32) (u' : SX) (v' : SY), i_Rel k u' v' ∧ (∀ post : Int32 → SX → Prop, post r u' → wpX_wake post ((nI n), fr, st, aw, ty, hd, ro, ln, sp, bf, ra, mk, wd, iw, wr, kw, sr) v1 v2 w) ∧ (∀ post : Int32 → SY → Prop, post r v' → wpY_wake post ((nI n), fr, lr, mk, wd, vl, iw, kn, sn, kp, bf, sp, st, aw, hd, ry, ln, fe, mv, rc, md, lo, ra) v1 v2 w) := by
  by_cases a : ch_hol st hd v1 v2
  · have a2 := a
    obtain ⟨m, l, hm, hl, rfl, rfl, hs, hh⟩ := a2
    obtain ⟨A, K, Q, WX, WY, TT⟩ := R
    have hh1 : ¬ hd l = -1 := by rw [hh]; exact ch_neg1 hm
    have i8 : vp_in (nI (4 + l)) 8 := vp_in_nI (by omega) (by decide)
    have eL := WX.1 (4 + l) (by omega)
    have h4 := Q.1 (4 + l) (by omega)
    by_cases b : w = 0
    · by_cases c : L (4 + l) = 0
      · refine ⟨0, _, _, ch_mk fr lr sp bf ra ⟨A, K, Q, WX, WY, TT⟩, fun post h => ?_, fun post h => ?_⟩
        · unfold wpX_wake
          dsimp only
          refine x_isRunningHolder (fun _ => br_f (by decide) ?_) (fun z => absurd a z)
          rw [ch_4z, nI_clamp (n := 4 + l) (by omega), eL, c]
          exact ⟨i8, nm_e (br_t b (br_t rfl ⟨1, br_t (by decide) h⟩))⟩
        · unfold wpY_wake
          dsimp only
          refine y_holds (fun _ => br_f (by decide) ⟨1, ?_⟩) (fun z => absurd a z)
          unfold wY_wake_14
          rw [ch_4z, nI_clamp (n := 4 + l) (by omega), eL, c]
          exact ⟨i8, br_t (by decide) h⟩
      · obtain ⟨L1, T1, st1, aw1, ln1, ro1, ry1, Q1, WX1, WY1, e1, hX, hY⟩ := v_wake1 (n := n) (fr := fr) (lr := lr) (ty := ty) (sp := sp) (bf := bf) (ra := ra) (mk := mk) (wd := wd) (iw := iw) (wr := wr) (kw := kw) (sr := sr) (vl := vl) (kn := kn) (sn := sn) (kp := kp) (fe := fe) (mv := mv) (rc := rc) (md := md) (lo := lo) Q WX WY hl hh1 (by omega)
        refine ⟨1, _, _, ch_mk fr lr sp bf ra ⟨A, K, Q1, WX1, WY1, TT⟩, fun post h => ?_, fun post h => ?_⟩
        · unfold wpX_wake
          dsimp only
          refine x_isRunningHolder (fun _ => br_f (by decide) ?_) (fun z => absurd a z)
          rw [ch_4z, nI_clamp (n := 4 + l) (by omega), eL]
          refine ⟨i8, nm_e (br_t b (br_f (nI_ne0 (by omega) (by omega)) ⟨2, ?_⟩))⟩
          exact hX post 1 0 1 (by omega) (by omega) (br_t (by decide) h)
        · unfold wpY_wake
          dsimp only
          refine y_holds (fun _ => br_f (by decide) ⟨2, ?_⟩) (fun z => absurd a z)
          unfold wY_wake_14
          rw [ch_4z, nI_clamp (n := 4 + l) (by omega), eL]
          refine ⟨i8, br_f (nI_nle (by omega) (by omega)) (br_t b (br_t rfl (hY post _ w 0 ?_)))⟩
          unfold wY_wake_14
          rw [ch_4z]
          exact ⟨i8, br_c (fun _ => h) (fun _ => br_t b (br_f (by decide) h))⟩
    · obtain ⟨L2, T2, st2, aw2, ln2, ro2, ry2, Q2, WX2, WY2, gX, gY⟩ := v_wakeA (n := n) (fr := fr) (lr := lr) (ty := ty) (sp := sp) (bf := bf) (ra := ra) (mk := mk) (wd := wd) (iw := iw) (wr := wr) (kw := kw) (sr := sr) (vl := vl) (kn := kn) (sn := sn) (kp := kp) (fe := fe) (mv := mv) (rc := rc) (md := md) (lo := lo) hl hh1 b (L (4 + l)) 0 L T st aw ln ro ry Q WX WY rfl (by omega) h4
      rw [Nat.zero_add] at gX gY
      refine ⟨nI (L (4 + l)), _, _, ch_mk fr lr sp bf ra ⟨A, K, Q2, WX2, WY2, TT⟩, fun post h => ?_, fun post h => ?_⟩
      · unfold wpX_wake
        dsimp only
        refine x_isRunningHolder (fun _ => br_f (by decide) ?_) (fun z => absurd a z)
        rw [ch_4z, nI_clamp (n := 4 + l) (by omega), eL]
        exact ⟨i8, nm_e (br_f b ⟨_, gX post h⟩)⟩
      · unfold wpY_wake
        dsimp only
        exact y_holds (fun _ => br_f (by decide) ⟨_, gY post h⟩) (fun z => absurd a z)
  · refine ⟨-1, _, _, ch_mk fr lr sp bf ra R, fun post h => ?_, fun post h => ?_⟩
    · unfold wpX_wake
      dsimp only
      exact x_isRunningHolder (fun z => absurd z a) (fun _ => br_t rfl h)
    · unfold wpY_wake
      dsimp only
      exact y_holds (fun z => absurd z a) (fun _ => br_t rfl h)
end wk
end
section
/-! arrive, tidy -/
theorem ch_cnt_all {P : Nat → Bool} {n : Nat} (h : ∀ i, i < n → P i = true) : ch_cnt P n = n := by
  induction n with
  | zero => rfl
  | succ n ih => rw [ch_cnt, if_pos (h n (by omega)), ih (fun i hi => h i (by omega))]
theorem ch_cnt_lt {P : Nat → Bool} {n i : Nat} (hi : i < n) (h : P i = false) : ch_cnt P n < n := by
  induction n with
  | zero => omega
  | succ n ih =>
    have hle := ch_cnt_le P n
    rw [ch_cnt]
    by_cases e : i = n
    · rw [← e, if_neg (by rw [h]; decide), e]; omega
    · have := ih (by omega)
      split <;> omega
/-- what tidy makes of the words -/
def ch_bf (wd iw wr bf : Nat → Int32) : Nat → Nat → Int32
  | 0 => bf
  | n + 1 => if iw n = 0 then ch_bf wd iw wr bf n else upd (ch_bf wd iw wr bf n) (wd n).toNatClampNeg (wr n)
theorem ch_bf_e {wd iw wr vl bf : Nat → Int32} : ∀ n, (∀ i, i < n → ¬ iw i = 0 → wr i = vl i) → ch_bf wd iw wr bf n = ch_bf wd iw vl bf n := by
  intro n
  induction n with
  | zero => intro _; rfl
  | succ n ih =>
    intro h
    rw [ch_bf, ch_bf, ih (fun i hi => h i (by omega))]
    by_cases e : iw n = 0
    · rw [if_pos e, if_pos e]
    · rw [if_neg e, if_neg e, h n (by omega) e]
section ar
variable {n : Nat} {fr lr : Int32} {st aw ty hd ro ln sp bf ra mk wd iw wr kw sr vl kn sn kp ry fe mv rc md lo : Nat → Int32}
variable {L : Nat → Nat} {T : Nat → Nat → Nat}
theorem x_open_22 (hn : n ≤ 300) {post : SX → Prop} {kw' : Nat → Int32} : ∀ (d i : Nat) (kw : Nat → Int32), i + d = n → (∀ j, kw' j = if i ≤ j ∧ j < n then kw j ||| 15 else kw j) → post ((nI n), fr + 1, st, aw, ty, hd, ro, ln, sp, bf, ra, mk, wd, iw, wr, kw', sr) → wX_openBarrier_22 post (nI n) fr (d + 1) (nI i) st aw ty hd ro ln sp bf ra mk wd iw wr kw sr := by
  intro d
  induction d with
  | zero =>
    intro i kw hi hk hp
    have : i = n := by omega
    subst this
    have e : kw' = kw := by
      funext j
      rw [hk j, if_neg (by omega)]
    rw [e] at hp
    exact br_t (nI_le (Nat.le_refl _) (by omega)) (nm_e hp)
  | succ d ih =>
    intro i kw hi hk hp
    refine br_f (nI_ge (by omega) (by omega)) ⟨vp_in_nI (by omega) (by decide), vp_in_nI (by omega) (by decide), ?_⟩
    rw [nI_clamp (by omega)]
    refine nm_e (nm_r (nI_1 i) (ih (i + 1) _ (by omega) ?_ hp))
    intro j
    rw [hk j]
    by_cases z : j = i
    · subst z
      rw [if_pos (by omega), if_neg (by omega), pk_us]
    · rw [pk_un z]
      by_cases y : i ≤ j ∧ j < n
      · rw [if_pos y, if_pos (by omega)]
      · rw [if_neg y, if_neg (by omega)]
theorem x_open_2 {post : SX → Prop} {st' : Nat → Int32} (hp : ∃ n22, wX_openBarrier_22 post (nI n) fr n22 0 st' aw ty hd ro ln sp bf ra mk wd iw wr kw sr) : ∀ (d i : Nat) (st : Nat → Int32), i + d = 4 → (∀ j, st' j = if i ≤ j ∧ j < 4 then 0 else st j) → wX_openBarrier_2 post (nI n) fr (d + 1) (nI i) st aw ty hd ro ln sp bf ra mk wd iw wr kw sr := by
  intro d
  induction d with
  | zero =>
    intro i st hi hk
    have : i = 4 := by omega
    subst this
    have e : st' = st := by
      funext j
      rw [hk j, if_neg (by omega)]
    rw [e] at hp
    exact br_t (nI_le (b := 4) (Nat.le_refl 4) (by decide)) hp
  | succ d ih =>
    intro i st hi hk
    refine br_f (nI_ge (b := 4) (by omega) (by decide)) ⟨vp_in_nI (by omega) (by decide), ?_⟩
    rw [nI_clamp (by omega)]
    refine nm_e (nm_r (nI_1 i) (ih (i + 1) _ (by omega) ?_))
    intro j
    rw [hk j]
    by_cases z : j = i
    · subst z
      rw [if_pos (by omega), if_neg (by omega), pk_us]
    · rw [pk_un z]
      by_cases y : i ≤ j ∧ j < 4
      · rw [if_pos y, if_pos (by omega)]
      · rw [if_neg y, if_neg (by omega)]
theorem y_arr_143 {post : Int32 → SY → Prop} {st' : Nat → Int32} (hp : post 1 ((nI n), fr + 1, lr, mk, wd, vl, iw, kn, sn, kp, bf, sp, st', aw, hd, ry, ln, fe, mv, rc, md, lo, ra)) : ∀ (d i : Nat) (st : Nat → Int32), i + d = 4 → (∀ j, st' j = if i ≤ j ∧ j < 4 then 0 else st j) → wY_arrive_143 post (nI n) fr lr (d + 1) (nI i) mk wd vl iw kn sn kp bf sp st aw hd ry ln fe mv rc md lo ra := by
  intro d
  induction d with
  | zero =>
    intro i st hi hk
    have : i = 4 := by omega
    subst this
    have e : st' = st := by
      funext j
      rw [hk j, if_neg (by omega)]
    rw [e] at hp
    exact br_t (nI_le (b := 4) (Nat.le_refl 4) (by decide)) (nm_e hp)
  | succ d ih =>
    intro i st hi hk
    refine br_f (nI_ge (b := 4) (by omega) (by decide)) ⟨vp_in_nI (by omega) (by decide), ?_⟩
    rw [nI_clamp (by omega)]
    refine nm_e (nm_r (nI_1 i) (ih (i + 1) _ (by omega) ?_))
    intro j
    rw [hk j]
    by_cases z : j = i
    · subst z
      rw [if_pos (by omega), if_neg (by omega), pk_us]
    · rw [pk_un z]
      by_cases y : i ≤ j ∧ j < 4
      · rw [if_pos y, if_pos (by omega)]
      · rw [if_neg y, if_neg (by omega)]
theorem y_arr_109 {i : Nat} (hi : i < 300) : ∀ (d q : Nat) (kn : Nat → Int32), q + d = 4 → ∃ kn' : Nat → Int32, (∀ k, q ≤ k → k < 4 → kn' (300 * k + i) = 1) ∧ (∀ j, (∀ k, q ≤ k → k < 4 → ¬ j = 300 * k + i) → kn' j = kn j) ∧ ∀ (post : Int32 → SY → Prop) (J : Int32 → (Nat → Int32) → (Nat → Int32) → (Nat → Int32) → (Nat → Int32) → (Nat → Int32) → (Nat → Int32) → (Nat → Int32) → (Nat → Int32) → (Nat → Int32) → (Nat → Int32) → (Nat → Int32) → (Nat → Int32) → (Nat → Int32) → (Nat → Int32) → (Nat → Int32) → (Nat → Int32) → (Nat → Int32) → (Nat → Int32) → (Nat → Int32) → (Nat → Int32) → Prop), J (nI (i + 1)) mk wd vl iw kn' sn kp bf sp st aw hd ry ln fe mv rc md lo ra → wY_arrive_109 post J (nI i) 1 (nI n) fr lr (d + 1) (nI q) mk wd vl iw kn sn kp bf sp st aw hd ry ln fe mv rc md lo ra := by
  intro d
  induction d with
  | zero =>
    intro q kn hq
    have : q = 4 := by omega
    subst this
    exact ⟨kn, fun k h1 h2 => by omega, fun j _ => rfl, fun post J h => br_t (nI_le (b := 4) (Nat.le_refl 4) (by decide)) (nm_r (nI_1 i) h)⟩
  | succ d ih =>
    intro q kn hq
    obtain ⟨kn', h1, h2, h3⟩ := ih (q + 1) (upd kn (300 * q + i) 1) (by omega)
    refine ⟨kn', fun k hk hk2 => ?_, fun j hj => ?_, fun post J h => ?_⟩
    · by_cases z : k = q
      · subst z
        rw [h2 _ (fun k2 _ _ => by omega), pk_us]
      · exact h1 k (by omega) hk2
    · rw [h2 j (fun k2 hk hk2 => hj k2 (by omega) hk2), pk_un (hj q (by omega) (by omega))]
    · refine br_f (nI_ge (b := 4) (by omega) (by decide)) ⟨ch_adI (by omega) hi, ?_⟩
      rw [ch_adC (by omega) hi]
      exact nm_e (nm_r (nI_1 q) (h3 post J h))
theorem y_arr_44 (hn : n ≤ 300) : ∀ (d i : Nat) (kn : Nat → Int32), i + d = n → (∀ i2, i ≤ i2 → i2 < n → ∃ q, q < 4 ∧ ¬ kn (300 * q + i2) = 0) → ∃ kn' : Nat → Int32, (∀ q i2, q < 4 → i ≤ i2 → i2 < n → kn' (300 * q + i2) = 1) ∧ (∀ j, (∀ q i2, q < 4 → i ≤ i2 → i2 < n → ¬ j = 300 * q + i2) → kn' j = kn j) ∧ ∀ post : Int32 → SY → Prop, wY_arrive_44 post (nI n) fr lr 1 (nI n) mk wd vl iw kn' sn kp bf sp st aw hd ry ln fe mv rc md lo ra → wY_arrive_44 post (nI n) fr lr (d + 1) (nI i) mk wd vl iw kn sn kp bf sp st aw hd ry ln fe mv rc md lo ra := by
  intro d
  induction d with
  | zero =>
    intro i kn hi _
    have : i = n := by omega
    subst this
    exact ⟨kn, fun q i2 _ h1 h2 => by omega, fun j _ => rfl, fun post h => h⟩
  | succ d ih =>
    intro i kn hi hk
    obtain ⟨kn1, h1, h2, h3⟩ := y_arr_109 (n := n) (fr := fr) (lr := lr) (mk := mk) (wd := wd) (vl := vl) (iw := iw) (sn := sn) (kp := kp) (bf := bf) (sp := sp) (st := st) (aw := aw) (hd := hd) (ry := ry) (ln := ln) (fe := fe) (mv := mv) (rc := rc) (md := md) (lo := lo) (ra := ra) (i := i) (by omega) 4 0 kn (by omega)
    obtain ⟨kn', g1, g2, g3⟩ := ih (i + 1) kn1 (by omega) (by
      intro i2 a b
      obtain ⟨q, hq, e⟩ := hk i2 (by omega) b
      refine ⟨q, hq, ?_⟩
      rw [h2 _ (fun k _ _ => by omega)]
      exact e)
    refine ⟨kn', fun q i2 hq ha hb => ?_, fun j hj => ?_, fun post h => ?_⟩
    · by_cases z : i2 = i
      · subst z
        rw [g2 _ (fun q2 i3 _ _ _ => by omega), h1 q (by omega) hq]
      · exact g1 q i2 hq (by omega) hb
    · rw [g2 j (fun q i2 hq ha hb => hj q i2 hq (by omega) hb), h2 j (fun k _ hk => hj k i hk (by omega) (by omega))]
    · have go := h3 post (wY_arrive_44 post (nI n) fr lr (d + 1)) (g3 post h)
      have a0 : vp_in (nI i) 1200 := vp_in_nI (by omega) (by decide)
      have a3 : (300 : Int32) + nI i = nI (300 + i) := nI_add 300 i
      have a6 : (600 : Int32) + nI i = nI (600 + i) := nI_add 600 i
      have a9 : (900 : Int32) + nI i = nI (900 + i) := nI_add 900 i
      refine br_f (nI_ge (by omega) (by omega)) ⟨a0, ?_⟩
      rw [a3, a6, a9, nI_clamp (n := i) (by omega), nI_clamp (n := 300 + i) (by omega), nI_clamp (n := 600 + i) (by omega), nI_clamp (n := 900 + i) (by omega)]
      refine br_c (fun e0 => ⟨vp_in_nI (by omega) (by decide), br_c (fun e1 => ⟨vp_in_nI (by omega) (by decide), br_c (fun e2 => ⟨vp_in_nI (by omega) (by decide), br_f ?_ ⟨5, go⟩⟩) (fun _ => ⟨5, go⟩)⟩) (fun _ => ⟨5, go⟩)⟩) (fun _ => ⟨5, go⟩)
      intro e3
      obtain ⟨q, hq, e⟩ := hk i (by omega) (by omega)
      obtain rfl | rfl | rfl | rfl : q = 0 ∨ q = 1 ∨ q = 2 ∨ q = 3 := by omega
      · exact e (by rw [show 300 * 0 + i = i by omega]; exact e0)
      · exact e e1
      · exact e e2
      · exact e e3
theorem y_arr_19 {post : Int32 → SY → Prop} : ∀ (d i : Nat), i + d = 4 → ((∀ j, i ≤ j → j < 4 → st j = 2) → ∃ n44, wY_arrive_44 post (nI n) fr lr n44 0 mk wd vl iw kn sn kp bf sp st aw hd ry ln fe mv rc md lo ra) → ((∃ j, i ≤ j ∧ j < 4 ∧ ¬ st j = 2) → post 0 ((nI n), fr, lr, mk, wd, vl, iw, kn, sn, kp, bf, sp, st, aw, hd, ry, ln, fe, mv, rc, md, lo, ra)) → wY_arrive_19 post (nI n) fr lr mk wd vl iw kn sn kp bf sp st aw hd ry ln fe mv rc md lo ra (d + 1) (nI i) := by
  intro d
  induction d with
  | zero =>
    intro i hi h1 h2
    have : i = 4 := by omega
    subst this
    exact br_t (nI_le (b := 4) (Nat.le_refl 4) (by decide)) (h1 (fun j a b => by omega))
  | succ d ih =>
    intro i hi h1 h2
    refine br_f (nI_ge (b := 4) (by omega) (by decide)) ⟨vp_in_nI (by omega) (by decide), ?_⟩
    rw [nI_clamp (by omega)]
    refine br_c (fun e => nm_r (nI_1 i) (ih (i + 1) (by omega) (fun h => h1 ?_) (fun h => h2 ?_))) (fun e => h2 ⟨i, by omega, by omega, e⟩)
    · intro j a b
      by_cases z : j = i
      · rw [z]; exact e
      · exact h j (by omega) b
    · obtain ⟨j, a, b, c⟩ := h
      exact ⟨j, by omega, b, c⟩
theorem v_arrive {k : Nat} (R : ch_R n L T st aw ty hd ro ln mk wd iw wr kw sr vl kn sn kp ry fe mv rc md lo) (v1 : Int32) : ∃ (r : Int32) (u' : SX) (v' : SY), i_Rel k u' v' ∧ (∀ post : Int32 → SX → Prop, post r u' → wpX_arrive post ((nI n), fr, st, aw, ty, hd, ro, ln, sp, bf, ra, mk, wd, iw, wr, kw, sr) v1) ∧ (∀ post : Int32 → SY → Prop, post r v' → wpY_arrive post ((nI n), fr, lr, mk, wd, vl, iw, kn, sn, kp, bf, sp, st, aw, hd, ry, ln, fe, mv, rc, md, lo, ra) v1) := by
  by_cases a : ch_run st v1
  · have a2 := a
    obtain ⟨m, hm, rfl, hs⟩ := a2
    obtain ⟨A, K, Q, WX, WY, TT⟩ := R
    have i4 : vp_in (nI m) 4 := vp_in_nI hm (by decide)
    have Q1 : ch_Q L T (upd st m 2) aw hd := ch_set (ch_Pof Q hm (by rw [hs]; decide) (by rw [hs]; decide)) (fun j hj => pk_un hj) (by rw [pk_us]; decide)
    by_cases b : ∀ j, j < 4 → upd st m 2 j = 2
    · have hown : ∀ i2, 0 ≤ i2 → i2 < n → ∃ q, q < 4 ∧ ¬ kn (300 * q + i2) = 0 := by
        intro i2 _ h2
        obtain ⟨q, hq, e⟩ := A.2.1 i2 h2
        refine ⟨q, hq, ?_⟩
        rw [K.1 q i2 hq h2, K.2.2.2.1 q i2 hq h2 e]
        decide
      obtain ⟨kn', g1, g2, g3⟩ := y_arr_44 (n := n) (fr := fr) (lr := lr) (mk := mk) (wd := wd) (vl := vl) (iw := iw) (sn := sn) (kp := kp) (bf := bf) (sp := sp) (st := upd st m 2) (aw := aw) (hd := hd) (ry := ry) (ln := ln) (fe := fe) (mv := mv) (rc := rc) (md := md) (lo := lo) (ra := ra) A.1 n 0 kn (by omega) hown
      have K1 : ch_K n mk iw hd (fun j => if 0 ≤ j ∧ j < n then kw j ||| 15 else kw j) sr kn' sn kp := ch_Kopen K (fun i hi => if_pos ⟨Nat.zero_le i, hi⟩) (fun q i hq hi => g1 q i hq (Nat.zero_le i) hi)
      have Q2 : ch_Q L T (fun j => if 0 ≤ j ∧ j < 4 then 0 else upd st m 2 j) aw hd := ch_open Q1 b (fun j hj => by
        show ¬ (if 0 ≤ j ∧ j < 4 then (0 : Int32) else upd st m 2 j) = 1
        rw [if_pos ⟨Nat.zero_le j, hj⟩]
        decide)
      refine ⟨1, _, _, ch_mk (fr + 1) lr sp bf ra ⟨A, K1, Q2, WX, WY, TT⟩, fun post h => ?_, fun post h => ?_⟩
      · unfold wpX_arrive
        dsimp only
        refine x_isRunning (fun _ => br_f (by decide) ⟨i4, ?_⟩) (fun z => absurd a z)
        rw [nI_clamp (by omega)]
        refine nm_e (x_machinesThat ?_)
        rw [ch_cnt_all (fun j hj => decide_eq_true (b j hj))]
        refine br_t (by decide) ?_
        exact ⟨5, x_open_2 ⟨n + 1, x_open_22 A.1 n 0 kw (by omega) (fun j => rfl) h⟩ 4 0 _ (by omega) (fun j => rfl)⟩
      · unfold wpY_arrive
        dsimp only
        refine y_runs (fun _ => br_f (by decide) ⟨i4, ?_⟩) (fun z => absurd a z)
        rw [nI_clamp (by omega)]
        refine nm_e ⟨5, y_arr_19 4 0 (by omega) (fun _ => ⟨n + 1, g3 post ?_⟩) (fun z => ?_)⟩
        · refine br_t (nI_le (Nat.le_refl _) (by have := A.1; omega)) ⟨5, ?_⟩
          exact y_arr_143 h 4 0 _ (by omega) (fun j => rfl)
        · obtain ⟨j, _, h1, h2⟩ := z
          exact absurd (b j h1) h2
    · have b2 : ∃ j, 0 ≤ j ∧ j < 4 ∧ ¬ upd st m 2 j = 2 := by
        apply Classical.byContradiction
        intro z
        exact b (fun j hj => Classical.byContradiction (fun y => z ⟨j, Nat.zero_le j, hj, y⟩))
      refine ⟨0, _, _, ch_mk fr lr sp bf ra ⟨A, K, Q1, WX, WY, TT⟩, fun post h => ?_, fun post h => ?_⟩
      · unfold wpX_arrive
        dsimp only
        refine x_isRunning (fun _ => br_f (by decide) ⟨i4, ?_⟩) (fun z => absurd a z)
        rw [nI_clamp (by omega)]
        refine nm_e (x_machinesThat ?_)
        obtain ⟨j, _, h1, h2⟩ := b2
        refine br_f ?_ h
        exact nI_ge (b := 4) (ch_cnt_lt h1 (decide_eq_false h2)) (by decide)
      · unfold wpY_arrive
        dsimp only
        refine y_runs (fun _ => br_f (by decide) ⟨i4, ?_⟩) (fun z => absurd a z)
        rw [nI_clamp (by omega)]
        refine nm_e ⟨5, y_arr_19 4 0 (by omega) (fun z => ?_) (fun _ => h)⟩
        exact absurd (fun j hj => z j (Nat.zero_le j) hj) b
  · refine ⟨-1, _, _, ch_mk fr lr sp bf ra R, fun post h => ?_, fun post h => ?_⟩
    · unfold wpX_arrive
      dsimp only
      exact x_isRunning (fun z => absurd z a) (fun _ => br_t rfl h)
    · unfold wpY_arrive
      dsimp only
      exact y_runs (fun z => absurd z a) (fun _ => br_t rfl h)
theorem x_tidy_34 (hn : n ≤ 300) (hw : ∀ i, i < n → ∃ w, w < 64 ∧ wd i = nI w) {post : Int32 → SX → Prop} (hp : post (nI n) (0, fr, st, aw, ty, hd, ro, ln, sp, ch_bf wd iw wr bf n, ra, mk, wd, iw, wr, kw, sr)) : ∀ (d i : Nat), i + d = n → wX_tidy_34 post (nI n) fr (d + 1) (nI i) st aw ty hd ro ln sp (ch_bf wd iw wr bf i) ra mk wd iw wr kw sr := by
  intro d
  induction d with
  | zero =>
    intro i hi
    have : i = n := by omega
    subst this
    exact br_t (nI_le (Nat.le_refl _) (by omega)) hp
  | succ d ih =>
    intro i hi
    have ih := ih (i + 1) (by omega)
    have i3 : vp_in (nI i) 300 := vp_in_nI (by omega) (by decide)
    refine br_f (nI_ge (by omega) (by omega)) ⟨i3, ?_⟩
    rw [nI_clamp (by omega)]
    rw [ch_bf] at ih
    obtain ⟨w, hw1, ew⟩ := hw i (by omega)
    refine br_c (fun e => nm_r (nI_1 i) ?_) (fun e => ⟨i3, i3, ?_, nm_e (nm_r (nI_1 i) ?_)⟩)
    · rw [if_pos e] at ih
      exact ih
    · rw [ew]
      exact vp_in_nI hw1 (by decide)
    · rw [if_neg e] at ih
      exact ih
theorem y_tidy_48 (hn : n ≤ 300) (hw : ∀ i, i < n → ∃ w, w < 64 ∧ wd i = nI w) {post : Int32 → SY → Prop} (hp : post (nI n) (0, fr, lr, mk, wd, vl, iw, kn, sn, kp, ch_bf wd iw vl bf n, sp, st, aw, hd, ry, ln, fe, mv, rc, md, lo, ra)) : ∀ (d i : Nat), i + d = n → wY_tidy_48 post (nI n) fr lr (d + 1) (nI i) mk wd vl iw kn sn kp (ch_bf wd iw vl bf i) sp st aw hd ry ln fe mv rc md lo ra := by
  intro d
  induction d with
  | zero =>
    intro i hi
    have : i = n := by omega
    subst this
    exact br_t (nI_le (Nat.le_refl _) (by omega)) hp
  | succ d ih =>
    intro i hi
    have ih := ih (i + 1) (by omega)
    have i3 : vp_in (nI i) 300 := vp_in_nI (by omega) (by decide)
    refine br_f (nI_ge (by omega) (by omega)) ⟨i3, ?_⟩
    rw [nI_clamp (by omega)]
    rw [ch_bf] at ih
    obtain ⟨w, hw1, ew⟩ := hw i (by omega)
    refine br_c (fun e => nm_r (nI_1 i) ?_) (fun e => ⟨i3, i3, ?_, nm_e (nm_r (nI_1 i) ?_)⟩)
    · rw [if_pos e] at ih
      exact ih
    · rw [ew]
      exact vp_in_nI hw1 (by decide)
    · rw [if_neg e] at ih
      exact ih
theorem x_tidy_2 (hn : n ≤ 300) {post : Int32 → SX → Prop} : ∀ (d i : Nat), i + d = n → ((∀ j, i ≤ j → j < n → (kw j &&& 15) = 15) → ∃ n34, wX_tidy_34 post (nI n) fr n34 0 st aw ty hd ro ln sp bf ra mk wd iw wr kw sr) → ((∃ j, i ≤ j ∧ j < n ∧ ¬ (kw j &&& 15) = 15) → post (-1) ((nI n), fr, st, aw, ty, hd, ro, ln, sp, bf, ra, mk, wd, iw, wr, kw, sr)) → wX_tidy_2 post (nI n) fr st aw ty hd ro ln sp bf ra mk wd iw wr kw sr (d + 1) (nI i) := by
  intro d
  induction d with
  | zero =>
    intro i hi h1 h2
    have : i = n := by omega
    subst this
    exact br_t (nI_le (Nat.le_refl _) (by omega)) (h1 (fun j a b => by omega))
  | succ d ih =>
    intro i hi h1 h2
    refine br_f (nI_ge (by omega) (by omega)) ⟨vp_in_nI (by omega) (by decide), ?_⟩
    rw [nI_clamp (by omega)]
    refine br_c (fun e => nm_r (nI_1 i) (ih (i + 1) (by omega) (fun h => h1 ?_) (fun h => h2 ?_))) (fun e => h2 ⟨i, by omega, by omega, e⟩)
    · intro j a b
      by_cases z : j = i
      · rw [z]; exact e
      · exact h j (by omega) b
    · obtain ⟨j, a, b, c⟩ := h
      exact ⟨j, by omega, b, c⟩
theorem y_tidy_9 (hn : n ≤ 300) {post : Int32 → SY → Prop} {J : Int32 → Prop} {q : Nat} (hq : q < 4) : ∀ (d i : Nat), i + d = n → ((∀ j, i ≤ j → j < n → ¬ kn (300 * q + j) = 0) → J (nI (q + 1))) → ((∃ j, i ≤ j ∧ j < n ∧ kn (300 * q + j) = 0) → post (-1) ((nI n), fr, lr, mk, wd, vl, iw, kn, sn, kp, bf, sp, st, aw, hd, ry, ln, fe, mv, rc, md, lo, ra)) → wY_tidy_9 post J (nI q) (nI n) fr lr mk wd vl iw kn sn kp bf sp st aw hd ry ln fe mv rc md lo ra (d + 1) (nI i) := by
  intro d
  induction d with
  | zero =>
    intro i hi h1 h2
    have : i = n := by omega
    subst this
    exact br_t (nI_le (Nat.le_refl _) (by omega)) (nm_r (nI_1 q) (h1 (fun j a b => by omega)))
  | succ d ih =>
    intro i hi h1 h2
    refine br_f (nI_ge (by omega) (by omega)) ⟨ch_adI hq (by omega), ?_⟩
    rw [ch_adC hq (by omega)]
    refine br_c (fun e => h2 ⟨i, by omega, by omega, e⟩) (fun e => nm_r (nI_1 i) (ih (i + 1) (by omega) (fun h => h1 ?_) (fun h => h2 ?_)))
    · intro j a b
      by_cases z : j = i
      · rw [z]; exact e
      · exact h j (by omega) b
    · obtain ⟨j, a, b, c⟩ := h
      exact ⟨j, by omega, b, c⟩
theorem y_tidy_2 (hn : n ≤ 300) {post : Int32 → SY → Prop} : ∀ (d q : Nat), q + d = 4 → ((∀ k j, q ≤ k → k < 4 → j < n → ¬ kn (300 * k + j) = 0) → ∃ n48, wY_tidy_48 post (nI n) fr lr n48 0 mk wd vl iw kn sn kp bf sp st aw hd ry ln fe mv rc md lo ra) → ((∃ k j, q ≤ k ∧ k < 4 ∧ j < n ∧ kn (300 * k + j) = 0) → post (-1) ((nI n), fr, lr, mk, wd, vl, iw, kn, sn, kp, bf, sp, st, aw, hd, ry, ln, fe, mv, rc, md, lo, ra)) → wY_tidy_2 post (nI n) fr lr mk wd vl iw kn sn kp bf sp st aw hd ry ln fe mv rc md lo ra (d + 1) (nI q) := by
  intro d
  induction d with
  | zero =>
    intro q hq h1 h2
    have : q = 4 := by omega
    subst this
    exact br_t (nI_le (b := 4) (Nat.le_refl 4) (by decide)) (h1 (fun k j a b => by omega))
  | succ d ih =>
    intro q hq h1 h2
    refine br_f (nI_ge (b := 4) (by omega) (by decide)) ⟨n + 1, ?_⟩
    refine y_tidy_9 hn (by omega) n 0 (by omega) (fun g => ih (q + 1) (by omega) (fun h => h1 ?_) (fun h => h2 ?_)) (fun g => h2 ?_)
    · intro k j a b c
      by_cases z : k = q
      · rw [z]; exact g j (Nat.zero_le j) c
      · exact h k j (by omega) b c
    · obtain ⟨k, j, a, b, c, e⟩ := h
      exact ⟨k, j, by omega, b, c, e⟩
    · obtain ⟨j, a, b, c⟩ := g
      exact ⟨q, j, by omega, by omega, b, c⟩
theorem v_tidy {k : Nat} (R : ch_R n L T st aw ty hd ro ln mk wd iw wr kw sr vl kn sn kp ry fe mv rc md lo) : ∃ (r : Int32) (u' : SX) (v' : SY), i_Rel k u' v' ∧ (∀ post : Int32 → SX → Prop, post r u' → wpX_tidy post ((nI n), fr, st, aw, ty, hd, ro, ln, sp, bf, ra, mk, wd, iw, wr, kw, sr)) ∧ (∀ post : Int32 → SY → Prop, post r v' → wpY_tidy post ((nI n), fr, lr, mk, wd, vl, iw, kn, sn, kp, bf, sp, st, aw, hd, ry, ln, fe, mv, rc, md, lo, ra)) := by
  have R2 := R
  obtain ⟨A, K, Q, WX, WY, TT⟩ := R2
  have ek : ∀ q j, q < 4 → j < n → (kn (300 * q + j) = 0 ↔ ¬ bt (kw j) q = true) := by
    intro q j hq hj
    rw [K.1 q j hq hj, ch_b_0]
    cases bt (kw j) q <;> simp
  by_cases b : ∀ j, j < n → (kw j &&& 15) = 15
  · have e := ch_bf_e (wd := wd) (iw := iw) (wr := wr) (vl := vl) (bf := bf) n (by
      intro i hi h
      refine A.2.2.2.2 i hi ?_
      rcases A.2.2.2.1 i hi with z | z
      · exact absurd z h
      · exact z)
    have A0 : ch_A 0 mk wd iw wr vl := ⟨by omega, fun i h => absurd h (Nat.not_lt_zero i), fun i h => absurd h (Nat.not_lt_zero i), fun i h => absurd h (Nat.not_lt_zero i), fun i h => absurd h (Nat.not_lt_zero i)⟩
    refine ⟨nI n, _, _, ch_mk fr lr sp (ch_bf wd iw wr bf n) ra ⟨A0, ch_K0 (knw := kw) (sr := sr) (kn := kn) (sn := sn) (kp := kp), Q, WX, WY, TT⟩, fun post h => ?_, fun post h => ?_⟩
    · refine ⟨n + 1, x_tidy_2 A.1 n 0 (by omega) (fun _ => ⟨n + 1, x_tidy_34 A.1 A.2.2.1 h n 0 (by omega)⟩) (fun z => ?_)⟩
      obtain ⟨j, _, h1, h2⟩ := z
      exact absurd (b j h1) h2
    · rw [e] at h
      refine ⟨5, y_tidy_2 A.1 4 0 (by omega) (fun _ => ⟨n + 1, y_tidy_48 A.1 A.2.2.1 h n 0 (by omega)⟩) (fun z => ?_)⟩
      obtain ⟨q, j, _, h1, h2, h3⟩ := z
      exact absurd ((ch_and15 _).mp (b j h2) q h1) ((ek q j h1 h2).mp h3)
  · refine ⟨-1, _, _, ch_mk fr lr sp bf ra R, fun post h => ?_, fun post h => ?_⟩
    · exact ⟨n + 1, x_tidy_2 A.1 n 0 (by omega) (fun z => absurd (fun j hj => z j (Nat.zero_le j) hj) b) (fun _ => h)⟩
    · refine ⟨5, y_tidy_2 A.1 4 0 (by omega) (fun z => ?_) (fun _ => h)⟩
      refine absurd (fun j hj => (ch_and15 _).mpr (fun q hq => ?_)) b
      exact Classical.byContradiction (fun y => z q j (Nat.zero_le q) hq hj ((ek q j hq hj).mpr y))
end ar
end
section
/-! fetch and refresh -/
def ch_sw (P : Nat → Bool) (m : Nat) (sr : Nat → Int32) (i : Nat) : Nat → Int32 := fun j => if j < i ∧ P j = true then sr j ||| ((1 : Int32) <<< (nI m &&& 31)) else sr j
def ch_sv (P : Nat → Bool) (m : Nat) (sn : Nat → Int32) (i : Nat) : Nat → Int32 := fun j => if 300 * m ≤ j ∧ j - 300 * m < i ∧ P (j - 300 * m) = true then 1 else sn j
def ch_av (mv : Nat → Int32) (m c : Nat) : Nat → Int32 := fun j => if j = m then mv m + nI c else mv j
def ch_cf (ty : Nat → Int32) (m : Nat) (c : Int32) : Nat → Int32 := upd (upd ty (5 * m) (ty (5 * m) + 1)) (5 * m + 1) (upd ty (5 * m) (ty (5 * m) + 1) (5 * m + 1) + c)
theorem ch_sw_0 (P : Nat → Bool) (m : Nat) (sr : Nat → Int32) : ch_sw P m sr 0 = sr := by
  funext j
  exact if_neg (fun z => absurd z.1 (Nat.not_lt_zero j))
theorem ch_sw_f {P : Nat → Bool} {m : Nat} {sr : Nat → Int32} {i : Nat} (h : P i = false) : ch_sw P m sr (i + 1) = ch_sw P m sr i := by
  funext j
  unfold ch_sw
  by_cases z : j = i
  · subst z
    rw [if_neg (by rw [h]; simp), if_neg (by rw [h]; simp)]
  · by_cases y : j < i ∧ P j = true
    · rw [if_pos y, if_pos ⟨by omega, y.2⟩]
    · rw [if_neg y, if_neg (fun q => y ⟨by omega, q.2⟩)]
theorem ch_sw_t {P : Nat → Bool} {m : Nat} {sr : Nat → Int32} {i : Nat} (h : P i = true) : upd (ch_sw P m sr i) i (ch_sw P m sr i i ||| ((1 : Int32) <<< (nI m &&& 31))) = ch_sw P m sr (i + 1) := by
  funext j
  by_cases z : j = i
  · subst z
    rw [pk_us]
    unfold ch_sw
    rw [if_neg (by omega), if_pos ⟨by omega, h⟩]
  · rw [pk_un z]
    unfold ch_sw
    by_cases y : j < i ∧ P j = true
    · rw [if_pos y, if_pos ⟨by omega, y.2⟩]
    · rw [if_neg y, if_neg (fun q => y ⟨by omega, q.2⟩)]
theorem ch_sw_i (P : Nat → Bool) (m : Nat) (sr : Nat → Int32) (i : Nat) : ch_sw P m sr i i = sr i := if_neg (fun z => absurd z.1 (Nat.lt_irrefl i))
theorem ch_sv_0 (P : Nat → Bool) (m : Nat) (sn : Nat → Int32) : ch_sv P m sn 0 = sn := by
  funext j
  exact if_neg (fun z => absurd z.2.1 (Nat.not_lt_zero _))
theorem ch_sv_at (P : Nat → Bool) (m : Nat) (sn : Nat → Int32) (n i : Nat) : ch_sv P m sn n (300 * m + i) = if i < n ∧ P i = true then 1 else sn (300 * m + i) := by
  unfold ch_sv
  rw [show 300 * m + i - 300 * m = i by omega]
  by_cases y : i < n ∧ P i = true
  · rw [if_pos y, if_pos ⟨by omega, y⟩]
  · rw [if_neg y, if_neg (fun q => y q.2)]
theorem ch_sv_n (P : Nat → Bool) (m : Nat) (sn : Nat → Int32) (n j : Nat) (h : ∀ i, i < n → ¬ j = 300 * m + i) : ch_sv P m sn n j = sn j := by
  unfold ch_sv
  refine if_neg ?_
  rintro ⟨a, b, _⟩
  exact h _ b (by omega)
theorem ch_sv_x {f g : Nat → Int32} (m n : Nat) (h1 : ∀ i, i < n → f (300 * m + i) = g (300 * m + i)) (h2 : ∀ j, (∀ i, i < n → ¬ j = 300 * m + i) → f j = g j) : f = g := by
  funext j
  by_cases z : ∃ i, i < n ∧ j = 300 * m + i
  · obtain ⟨i, hi, e⟩ := z
    rw [e]
    exact h1 i hi
  · exact h2 j (fun i hi e => z ⟨i, hi, e⟩)
theorem ch_sv_f {P : Nat → Bool} {m : Nat} {sn : Nat → Int32} {i : Nat} (h : P i = false) : ch_sv P m sn (i + 1) = ch_sv P m sn i := by
  refine ch_sv_x m (i + 1) (fun j hj => ?_) (fun j hj => ?_)
  · rw [ch_sv_at, ch_sv_at]
    by_cases z : j = i
    · subst z
      rw [if_neg (by rw [h]; simp), if_neg (by rw [h]; simp)]
    · by_cases y : j < i ∧ P j = true
      · rw [if_pos y, if_pos ⟨by omega, y.2⟩]
      · rw [if_neg y, if_neg (fun q => y ⟨by omega, q.2⟩)]
  · rw [ch_sv_n _ _ _ _ _ hj, ch_sv_n _ _ _ _ _ (fun k hk => hj k (by omega))]
theorem ch_sv_t {P : Nat → Bool} {m : Nat} {sn : Nat → Int32} {i : Nat} (h : P i = true) : upd (ch_sv P m sn i) (300 * m + i) 1 = ch_sv P m sn (i + 1) := by
  refine ch_sv_x m (i + 1) (fun j hj => ?_) (fun j hj => ?_)
  · by_cases z : j = i
    · subst z
      rw [pk_us, ch_sv_at, if_pos ⟨by omega, h⟩]
    · rw [pk_un (by omega), ch_sv_at, ch_sv_at]
      by_cases y : j < i ∧ P j = true
      · rw [if_pos y, if_pos ⟨by omega, y.2⟩]
      · rw [if_neg y, if_neg (fun q => y ⟨by omega, q.2⟩)]
  · rw [pk_un (hj i (by omega)), ch_sv_n _ _ _ _ _ hj, ch_sv_n _ _ _ _ _ (fun k hk => hj k (by omega))]
theorem ch_av_0 (mv : Nat → Int32) (m : Nat) : ch_av mv m 0 = mv := by
  funext j
  unfold ch_av
  by_cases z : j = m
  · rw [if_pos z, z, nI_0, Int32.add_zero]
  · rw [if_neg z]
theorem ch_av_s (mv : Nat → Int32) (m c : Nat) : upd (ch_av mv m c) m (ch_av mv m c m + 1) = ch_av mv m (c + 1) := by
  funext j
  by_cases z : j = m
  · subst z
    rw [pk_us]
    unfold ch_av
    rw [if_pos rfl, if_pos rfl, Int32.add_assoc, nI_1]
  · rw [pk_un z]
    unfold ch_av
    rw [if_neg z, if_neg z]
theorem ch_Tcf {ty fe mv rc md lo fe' mv' : Nat → Int32} {m : Nat} {c : Int32} (TT : ch_T ty fe mv rc md lo) (e1 : fe' m = fe m + 1) (e2 : ∀ j, ¬ j = m → fe' j = fe j) (e3 : mv' m = mv m + c) (e4 : ∀ j, ¬ j = m → mv' j = mv j) : ch_T (ch_cf ty m c) fe' mv' rc md lo := by
  intro k hk
  obtain ⟨t0, t1, t2, t3, t4⟩ := TT k hk
  unfold ch_cf
  by_cases z : k = m
  · subst z
    refine ⟨?_, ?_, ?_, ?_, ?_⟩
    · rw [pk_un (by omega), pk_us, t0, e1]
    · rw [pk_us, pk_un (by omega), t1, e3]
    · rw [pk_un (by omega), pk_un (by omega), t2]
    · rw [pk_un (by omega), pk_un (by omega), t3]
    · rw [pk_un (by omega), pk_un (by omega), t4]
  · refine ⟨?_, ?_, ?_, ?_, ?_⟩
    · rw [pk_un (by omega), pk_un (by omega), t0, e2 k z]
    · rw [pk_un (by omega), pk_un (by omega), t1, e4 k z]
    · rw [pk_un (by omega), pk_un (by omega), t2]
    · rw [pk_un (by omega), pk_un (by omega), t3]
    · rw [pk_un (by omega), pk_un (by omega), t4]
/-- the access j is of one of the first t words of page p, and F -/
def ch_pt (wd : Nat → Int32) (F : Nat → Bool) (p t j : Nat) : Bool := ch_any (fun s => decide (wd j = nI (8 * p + s))) t && F j
/-- how many of the first t words of page p have one -/
def ch_ct (wd : Nat → Int32) (F : Nat → Bool) (n p t : Nat) : Nat := ch_cnt (fun s => ch_any (fun j => decide (wd j = nI (8 * p + s)) && F j) n) t
theorem ch_pt_no {wd : Nat → Int32} {F : Nat → Bool} {p t j : Nat} (hp : p < 8) (ht : t < 8) (h : wd j = nI (8 * p + t)) : ch_pt wd F p t j = false := by
  unfold ch_pt
  rw [ch_any_f, Bool.false_and]
  intro s hs
  refine decide_eq_false ?_
  rw [h]
  intro e
  have := (nI_eq (by omega) (by omega)).mp e
  omega
theorem ch_pt_s {wd : Nat → Int32} {F : Nat → Bool} {p t j : Nat} : ch_pt wd F p (t + 1) j = (ch_pt wd F p t j || (decide (wd j = nI (8 * p + t)) && F j)) := by
  show ((ch_any (fun s => decide (wd j = nI (8 * p + s))) t || decide (wd j = nI (8 * p + t))) && F j) = ((ch_any (fun s => decide (wd j = nI (8 * p + s))) t && F j) || (decide (wd j = nI (8 * p + t)) && F j))
  rw [Bool.and_or_distrib_right]
section fx
variable {n : Nat} {fr : Int32} {st aw ty hd ro ln sp bf ra mk wd iw wr kw sr : Nat → Int32}
theorem x_see_5 (hn : n ≤ 300) {post : Int32 → SX → Prop} {m : Nat} {w : Int32} (hm : m < 4) (P : Nat → Bool) (hP : ∀ j, P j = (decide (wd j = w) && ch_fx iw kw sr m j)) (hp : post (ch_b (ch_any P n)) ((nI n), fr, st, aw, ty, hd, ro, ln, sp, bf, ra, mk, wd, iw, wr, kw, ch_sw P m sr n)) : ∀ d i, i + d = n → wX_seeWord_5 post (nI m) w (nI n) fr (d + 1) (ch_b (ch_any P i)) (nI i) st aw ty hd ro ln sp bf ra mk wd iw wr kw (ch_sw P m sr i) := by
  intro d
  induction d with
  | zero =>
    intro i hi
    have : i = n := by omega
    subst this
    exact br_t (nI_le (Nat.le_refl _) (by omega)) ⟨ch_nb _, hp⟩
  | succ d ih =>
    intro i hi
    have ih := ih (i + 1) (by omega)
    have i3 : vp_in (nI i) 300 := vp_in_nI (by omega) (by decide)
    have ef : ch_fx iw kw (ch_sw P m sr i) m i = ch_fx iw kw sr m i := by
      unfold ch_fx
      rw [ch_sw_i]
    have no : P i = false → wX_seeWord_5 post (nI m) w (nI n) fr (d + 1) (ch_b (ch_any P i)) (nI (i + 1)) st aw ty hd ro ln sp bf ra mk wd iw wr kw (ch_sw P m sr i) := by
      intro e
      rw [ch_sw_f e, show ch_any P (i + 1) = (ch_any P i || P i) from rfl, e, Bool.or_false] at ih
      exact ih
    refine br_f (nI_ge (by omega) (by omega)) ⟨i3, ?_⟩
    rw [nI_clamp (by omega)]
    refine br_c (fun a => ?_) (fun a => nm_r (nI_1 i) (no ?_))
    · refine x_fresh (by omega) (by omega) ?_
      rw [ef]
      cases e : ch_fx iw kw sr m i
      · refine br_t rfl (nm_r (nI_1 i) (no ?_))
        rw [hP, e, Bool.and_false]
      · have e2 : P i = true := by rw [hP, e, decide_eq_true a]; rfl
        refine br_f (by decide) ⟨i3, i3, ?_⟩
        rw [ch_sw_t e2]
        rw [show ch_any P (i + 1) = (ch_any P i || P i) from rfl, e2, Bool.or_true] at ih
        exact nm_e (nm_r (nI_1 i) ih)
    · rw [hP, decide_eq_false a, Bool.false_and]
theorem x_seeWord (hn : n ≤ 300) {post : Int32 → SX → Prop} {m : Nat} {w : Int32} (hm : m < 4) (P : Nat → Bool) (hP : ∀ j, P j = (decide (wd j = w) && ch_fx iw kw sr m j)) (hp : post (ch_b (ch_any P n)) ((nI n), fr, st, aw, ty, hd, ro, ln, sp, bf, ra, mk, wd, iw, wr, kw, ch_sw P m sr n)) : wpX_seeWord post ((nI n), fr, st, aw, ty, hd, ro, ln, sp, bf, ra, mk, wd, iw, wr, kw, sr) (nI m) w := by
  have h := x_see_5 hn hm P hP hp n 0 (by omega)
  rw [ch_sw_0] at h
  exact ⟨n + 1, h⟩
theorem x_countFetch {fk : Int32} {post : SX → Prop} {m : Nat} {c : Int32} (hm : m < 4) (hp : post (fk, fr, st, aw, ch_cf ty m c, hd, ro, ln, sp, bf, ra, mk, wd, iw, wr, kw, sr)) : wpX_countFetch post (fk, fr, st, aw, ty, hd, ro, ln, sp, bf, ra, mk, wd, iw, wr, kw, sr) (nI m) c := by
  unfold wpX_countFetch
  dsimp only
  have e0 : nI m * 5 + 0 = nI (5 * m) := ch_z5 m 0
  have e1 : nI m * 5 + 1 = nI (5 * m + 1) := ch_z5 m 1
  rw [e0, e1, nI_clamp (n := 5 * m) (by omega), nI_clamp (n := 5 * m + 1) (by omega)]
  have a0 : vp_in (nI (5 * m)) 20 := vp_in_nI (by omega) (by decide)
  have a1 : vp_in (nI (5 * m + 1)) 20 := vp_in_nI (by omega) (by decide)
  exact ⟨a0, a0, nm_e ⟨a1, a1, nm_e hp⟩⟩
theorem x_fetch_11 (hn : n ≤ 300) {post : SX → Prop} {m p : Nat} (hm : m < 4) (hp8 : p < 8) (hp : post ((nI n), fr, st, aw, ch_cf ty m (nI (ch_ct wd (ch_fx iw kw sr m) n p 8)), hd, ro, ln, sp, bf, ra, mk, wd, iw, wr, kw, ch_sw (ch_pt wd (ch_fx iw kw sr m) p 8) m sr n)) : ∀ d t, t + d = 8 → wX_fetchLazy_11 post (nI m) (nI (8 * p)) (d + 1) (nI (ch_ct wd (ch_fx iw kw sr m) n p t)) (nI (8 * p + t)) (nI n) fr st aw ty hd ro ln sp bf ra mk wd iw wr kw (ch_sw (ch_pt wd (ch_fx iw kw sr m) p t) m sr n) := by
  have e8 : nI (8 * p) + 8 = nI (8 * p + 8) := nI_add (8 * p) 8
  intro d
  induction d with
  | zero =>
    intro t ht
    have : t = 8 := by omega
    subst this
    refine br_t ?_ (x_countFetch hm hp)
    rw [e8]
    exact nI_le (Nat.le_refl _) (by omega)
  | succ d ih =>
    intro t ht
    have ih := ih (t + 1) (by omega)
    have ep : ∀ j, (decide (wd j = nI (8 * p + t)) && ch_fx iw kw sr m j) = (decide (wd j = nI (8 * p + t)) && ch_fx iw kw (ch_sw (ch_pt wd (ch_fx iw kw sr m) p t) m sr n) m j) := by
      intro j
      by_cases z : wd j = nI (8 * p + t)
      · have e : ch_sw (ch_pt wd (ch_fx iw kw sr m) p t) m sr n j = sr j := by
          unfold ch_sw
          rw [if_neg (fun q => by rw [ch_pt_no hp8 (by omega) z] at q; exact absurd q.2 (by decide))]
        unfold ch_fx at e ⊢
        rw [e]
      · rw [decide_eq_false z, Bool.false_and, Bool.false_and]
    have es : ch_sw (fun j => decide (wd j = nI (8 * p + t)) && ch_fx iw kw sr m j) m (ch_sw (ch_pt wd (ch_fx iw kw sr m) p t) m sr n) n = ch_sw (ch_pt wd (ch_fx iw kw sr m) p (t + 1)) m sr n := by
      funext j
      by_cases z : j < n
      · by_cases y : wd j = nI (8 * p + t)
        · have e : ch_pt wd (ch_fx iw kw sr m) p t j = false := ch_pt_no hp8 (by omega) y
          have e2 : ch_pt wd (ch_fx iw kw sr m) p (t + 1) j = ch_fx iw kw sr m j := by rw [ch_pt_s, e, decide_eq_true y, Bool.false_or, Bool.true_and]
          unfold ch_sw
          dsimp only
          simp only [e, e2, y, decide_true, Bool.true_and, Bool.false_eq_true, and_false, if_false]
        · have e2 : ch_pt wd (ch_fx iw kw sr m) p (t + 1) j = ch_pt wd (ch_fx iw kw sr m) p t j := by rw [ch_pt_s, decide_eq_false y, Bool.false_and, Bool.or_false]
          unfold ch_sw
          dsimp only
          simp only [e2, y, decide_false, Bool.false_and, Bool.false_eq_true, and_false, if_false]
      · unfold ch_sw
        simp only [z, false_and, if_false]
    refine br_f ?_ ?_
    · rw [e8]
      exact nI_ge (by omega) (by omega)
    · refine x_seeWord hn hm _ ep ?_
      rw [es]
      cases e : ch_any (fun j => decide (wd j = nI (8 * p + t)) && ch_fx iw kw sr m j) n
      · refine br_t rfl (nm_r (nI_1 (8 * p + t)) ?_)
        unfold ch_ct at ih
        rw [ch_cnt, if_neg (by rw [e]; decide)] at ih
        exact ih
      · refine br_f (by decide) (nm_r (nI_1 _) (nm_r (nI_1 (8 * p + t)) ?_))
        unfold ch_ct at ih
        rw [ch_cnt, if_pos e] at ih
        exact ih
theorem x_fetchLazy (hn : n ≤ 300) {post : SX → Prop} {m p : Nat} (hm : m < 4) (hp8 : p < 8) (hp : post ((nI n), fr, st, aw, ch_cf ty m (nI (ch_ct wd (ch_fx iw kw sr m) n p 8)), hd, ro, ln, sp, bf, ra, mk, wd, iw, wr, kw, ch_sw (ch_pt wd (ch_fx iw kw sr m) p 8) m sr n)) : wpX_fetchLazy post ((nI n), fr, st, aw, ty, hd, ro, ln, sp, bf, ra, mk, wd, iw, wr, kw, sr) (nI m) (nI p) := by
  have h := x_fetch_11 hn hm hp8 hp 8 0 (by omega)
  have e0 : ch_sw (ch_pt wd (ch_fx iw kw sr m) p 0) m sr n = sr := by
    funext j
    exact if_neg (fun q => absurd q.2 (by rw [show ch_pt wd (ch_fx iw kw sr m) p 0 j = false from rfl]; decide))
  rw [e0] at h
  have e1 : nI p * 8 = nI (8 * p) := by rw [show (8 : Int32) = nI 8 from rfl, pk_mul, Nat.mul_comm]
  exact nm_r e1 ⟨9, h⟩
end fx
end
section
/-! Y's fetch; both together; refresh -/
section fy
variable {n : Nat} {fr lr : Int32} {mk wd vl iw kn sn kp bf sp st aw hd ry ln fe mv rc md lo ra : Nat → Int32}
theorem y_see_32 (hn : n ≤ 300) {post : SY → Prop} {J : Int32 → (Nat → Int32) → (Nat → Int32) → (Nat → Int32) → (Nat → Int32) → (Nat → Int32) → (Nat → Int32) → (Nat → Int32) → (Nat → Int32) → (Nat → Int32) → (Nat → Int32) → (Nat → Int32) → (Nat → Int32) → (Nat → Int32) → (Nat → Int32) → (Nat → Int32) → (Nat → Int32) → (Nat → Int32) → (Nat → Int32) → (Nat → Int32) → (Nat → Int32) → Prop} {m w : Nat} {x2 : Int32} (hm : m < 4) (P : Nat → Bool) (hP : ∀ j, P j = (decide (wd j = nI w) && ch_fy iw kn sn m j))
    (hf : ch_any P n = false → J (nI (w + 1)) mk wd vl iw kn (ch_sv P m sn n) kp bf sp st aw hd ry ln fe mv rc md lo ra) (ht : ch_any P n = true → J (nI (w + 1)) mk wd vl iw kn (ch_sv P m sn n) kp bf sp st aw hd ry ln fe (upd mv m (mv m + 1)) rc md lo ra) : ∀ d i, i + d = n → wY_fetch_32 post J (nI m) x2 (nI w) (nI n) fr lr (d + 1) (ch_b (ch_any P i)) (nI i) mk wd vl iw kn (ch_sv P m sn i) kp bf sp st aw hd ry ln fe mv rc md lo ra := by
  intro d
  induction d with
  | zero =>
    intro i hi
    have : i = n := by omega
    subst this
    refine br_t (nI_le (Nat.le_refl _) (by omega)) ?_
    cases e : ch_any P i
    · exact br_t rfl (nm_r (nI_1 w) (hf e))
    · refine br_f (by decide) ⟨vp_in_nI hm (by decide), vp_in_nI hm (by decide), ?_⟩
      rw [nI_clamp (by omega)]
      exact nm_e (nm_r (nI_1 w) (ht e))
  | succ d ih =>
    intro i hi
    have ih := ih (i + 1) (by omega)
    have i3 : vp_in (nI i) 300 := vp_in_nI (by omega) (by decide)
    have ef : ch_fy iw kn (ch_sv P m sn i) m i = ch_fy iw kn sn m i := by
      unfold ch_fy
      rw [ch_sv_at, if_neg (by omega)]
    have no : P i = false → wY_fetch_32 post J (nI m) x2 (nI w) (nI n) fr lr (d + 1) (ch_b (ch_any P i)) (nI (i + 1)) mk wd vl iw kn (ch_sv P m sn i) kp bf sp st aw hd ry ln fe mv rc md lo ra := by
      intro e
      rw [ch_sv_f e, show ch_any P (i + 1) = (ch_any P i || P i) from rfl, e, Bool.or_false] at ih
      exact ih
    refine br_f (nI_ge (by omega) (by omega)) ⟨i3, ?_⟩
    rw [nI_clamp (by omega)]
    refine br_c (fun a => ?_) (fun a => nm_r (nI_1 i) (no ?_))
    · refine y_fresh (by omega) (by omega) ?_
      rw [ef]
      cases e : ch_fy iw kn sn m i
      · refine br_t rfl (nm_r (nI_1 i) (no ?_))
        rw [hP, e, Bool.and_false]
      · have e2 : P i = true := by rw [hP, e, decide_eq_true a]; rfl
        refine br_f (by decide) ⟨ch_adI hm (by omega), ?_⟩
        rw [ch_adC hm (by omega), ch_vb1, ch_sv_t e2]
        rw [show ch_any P (i + 1) = (ch_any P i || P i) from rfl, e2, Bool.or_true] at ih
        exact nm_e (nm_r (nI_1 i) ih)
    · rw [hP, decide_eq_false a, Bool.false_and]
theorem y_fetch_15 (hn : n ≤ 300) {post : SY → Prop} {m p : Nat} (hm : m < 4) (hp8 : p < 8) (hp : post ((nI n), fr, lr, mk, wd, vl, iw, kn, ch_sv (ch_pt wd (ch_fy iw kn sn m) p 8) m sn n, kp, bf, sp, st, aw, hd, ry, ln, fe, ch_av mv m (ch_ct wd (ch_fy iw kn sn m) n p 8), rc, md, lo, ra)) : ∀ d t, t + d = 8 → wY_fetch_15 post (nI m) (nI p) (nI n) fr lr (d + 1) (nI (8 * p + t)) mk wd vl iw kn (ch_sv (ch_pt wd (ch_fy iw kn sn m) p t) m sn n) kp bf sp st aw hd ry ln fe (ch_av mv m (ch_ct wd (ch_fy iw kn sn m) n p t)) rc md lo ra := by
  have e8 : 8 * nI p + 8 = nI (8 * p + 8) := by
    rw [show (8 : Int32) = nI 8 from rfl, pk_mul, nI_add]
  intro d
  induction d with
  | zero =>
    intro t ht
    have : t = 8 := by omega
    subst this
    refine br_t ?_ hp
    rw [e8]
    exact nI_le (Nat.le_refl _) (by omega)
  | succ d ih =>
    intro t ht
    have ih := ih (t + 1) (by omega)
    have ep : ∀ j, j < n → ch_fy iw kn (ch_sv (ch_pt wd (ch_fy iw kn sn m) p t) m sn n) m j = ch_fy iw kn sn m j ∨ ¬ wd j = nI (8 * p + t) := by
      intro j hj
      by_cases z : wd j = nI (8 * p + t)
      · left
        unfold ch_fy
        rw [ch_sv_at, if_neg]
        intro q
        have e := ch_pt_no (F := ch_fy iw kn sn m) hp8 (show t < 8 by omega) z
        unfold ch_fy at e
        rw [e] at q
        exact absurd q.2 (by decide)
      · exact Or.inr z
    have ea : ch_any (fun j => decide (wd j = nI (8 * p + t)) && ch_fy iw kn (ch_sv (ch_pt wd (ch_fy iw kn sn m) p t) m sn n) m j) n = ch_any (fun j => decide (wd j = nI (8 * p + t)) && ch_fy iw kn sn m j) n := by
      refine ch_any_e (fun j hj => ?_)
      rcases ep j hj with e | e
      · rw [e]
      · rw [decide_eq_false e, Bool.false_and, Bool.false_and]
    have es : ch_sv (fun j => decide (wd j = nI (8 * p + t)) && ch_fy iw kn (ch_sv (ch_pt wd (ch_fy iw kn sn m) p t) m sn n) m j) m (ch_sv (ch_pt wd (ch_fy iw kn sn m) p t) m sn n) n = ch_sv (ch_pt wd (ch_fy iw kn sn m) p (t + 1)) m sn n := by
      refine ch_sv_x m n (fun j hj => ?_) (fun j hj => ?_)
      · rw [ch_sv_at, ch_sv_at, ch_sv_at]
        rcases ep j hj with e | e
        · rw [ch_pt_s]
          simp only [e, hj, true_and]
          cases ch_pt wd (ch_fy iw kn sn m) p t j <;> cases (decide (wd j = nI (8 * p + t)) && ch_fy iw kn sn m j) <;> simp
        · rw [ch_pt_s]
          simp only [e, hj, true_and, decide_false, Bool.false_and, Bool.or_false, Bool.false_eq_true, if_false]
      · rw [ch_sv_n _ _ _ _ _ hj, ch_sv_n _ _ _ _ _ hj, ch_sv_n _ _ _ _ _ hj]
    refine br_f ?_ ⟨n + 1, ?_⟩
    · rw [e8]
      exact nI_ge (by omega) (by omega)
    · have h := y_see_32 (n := n) (fr := fr) (lr := lr) (mk := mk) (wd := wd) (vl := vl) (iw := iw) (kn := kn) (sn := ch_sv (ch_pt wd (ch_fy iw kn sn m) p t) m sn n) (kp := kp) (bf := bf) (sp := sp) (st := st) (aw := aw) (hd := hd) (ry := ry) (ln := ln) (fe := fe) (mv := ch_av mv m (ch_ct wd (ch_fy iw kn sn m) n p t)) (rc := rc) (md := md) (lo := lo) (ra := ra) (post := post) (J := wY_fetch_15 post (nI m) (nI p) (nI n) fr lr (d + 1)) (x2 := nI p) (w := 8 * p + t) hn hm _ (fun j => rfl) (fun e => ?_) (fun e => ?_) n 0 (by omega)
      · rw [ch_sv_0] at h
        exact h
      · rw [es]
        rw [ea] at e
        unfold ch_ct at ih ⊢
        rw [ch_cnt, if_neg (by rw [e]; decide)] at ih
        exact ih
      · rw [es, ch_av_s]
        rw [ea] at e
        unfold ch_ct at ih ⊢
        rw [ch_cnt, if_pos e] at ih
        exact ih
theorem y_fetch (hn : n ≤ 300) {post : SY → Prop} {m p : Nat} (hm : m < 4) (hp8 : p < 8) (hp : post ((nI n), fr, lr, mk, wd, vl, iw, kn, ch_sv (ch_pt wd (ch_fy iw kn sn m) p 8) m sn n, kp, bf, sp, st, aw, hd, ry, ln, upd fe m (fe m + 1), ch_av mv m (ch_ct wd (ch_fy iw kn sn m) n p 8), rc, md, lo, ra)) : wpY_fetch post ((nI n), fr, lr, mk, wd, vl, iw, kn, sn, kp, bf, sp, st, aw, hd, ry, ln, fe, mv, rc, md, lo, ra) (nI m) (nI p) := by
  have h := y_fetch_15 hn hm hp8 hp 8 0 (by omega)
  have e0 : ch_sv (ch_pt wd (ch_fy iw kn sn m) p 0) m sn n = sn := by
    funext j
    exact if_neg (fun q => absurd q.2.2 (by rw [show ch_pt wd (ch_fy iw kn sn m) p 0 (j - 300 * m) = false from rfl]; decide))
  rw [e0, show ch_ct wd (ch_fy iw kn sn m) n p 0 = 0 from rfl, ch_av_0] at h
  have e1 : 8 * nI p = nI (8 * p) := by rw [show (8 : Int32) = nI 8 from rfl, pk_mul]
  have i4 : vp_in (nI m) 4 := vp_in_nI hm (by decide)
  unfold wpY_fetch
  dsimp only
  rw [nI_clamp (n := m) (by omega)]
  exact ⟨i4, i4, nm_e (nm_r e1 ⟨9, h⟩)⟩
end fy
section fb
variable {n : Nat} {fr lr : Int32} {st aw ty hd ro ln sp bf ra mk wd iw wr kw sr vl kn sn kp ry fe mv rc md lo : Nat → Int32}
variable {L : Nat → Nat} {T : Nat → Nat → Nat}
theorem v_fetch (A : ch_A n mk wd iw wr vl) (K : ch_K n mk iw hd kw sr kn sn kp) (TT : ch_T ty fe mv rc md lo) {m p : Nat} (hm : m < 4) (hp : p < 8) : ∃ ty' sr' sn' fe' mv' : Nat → Int32, ch_K n mk iw hd kw sr' kn sn' kp ∧ ch_T ty' fe' mv' rc md lo ∧ (∀ post : SX → Prop, post ((nI n), fr, st, aw, ty', hd, ro, ln, sp, bf, ra, mk, wd, iw, wr, kw, sr') → wpX_fetchLazy post ((nI n), fr, st, aw, ty, hd, ro, ln, sp, bf, ra, mk, wd, iw, wr, kw, sr) (nI m) (nI p)) ∧ (∀ post : SY → Prop, post ((nI n), fr, lr, mk, wd, vl, iw, kn, sn', kp, bf, sp, st, aw, hd, ry, ln, fe', mv', rc, md, lo, ra) → wpY_fetch post ((nI n), fr, lr, mk, wd, vl, iw, kn, sn, kp, bf, sp, st, aw, hd, ry, ln, fe, mv, rc, md, lo, ra) (nI m) (nI p)) := by
  have ef : ∀ j, j < n → ch_fy iw kn sn m j = ch_fx iw kw sr m j := fun j hj => ch_fxy A K hm hj
  have ec : ch_ct wd (ch_fy iw kn sn m) n p 8 = ch_ct wd (ch_fx iw kw sr m) n p 8 := by
    unfold ch_ct
    refine ch_cnt_e (fun s _ => ch_any_e (fun j hj => ?_))
    rw [ef j hj]
  have ep : ∀ j, j < n → ch_pt wd (ch_fy iw kn sn m) p 8 j = ch_pt wd (ch_fx iw kw sr m) p 8 j := by
    intro j hj
    unfold ch_pt
    rw [ef j hj]
  refine ⟨_, _, _, _, _, ?_, ?_, fun post h => x_fetchLazy A.1 hm hp h, fun post h => y_fetch A.1 hm hp h⟩
  · refine ch_Ksee (ch_pt wd (ch_fx iw kw sr m) p 8) K A.1 hm (fun i hi => ?_) (fun i hi => ?_) (fun j hj => ch_sv_n _ _ _ _ _ hj)
    · unfold ch_sw
      simp only [hi, true_and]
    · rw [ch_sv_at, ep i hi]
      simp only [hi, true_and]
  · refine ch_Tcf TT pk_us (fun j hj => pk_un hj) ?_ (fun j hj => if_neg hj)
    unfold ch_av
    rw [if_pos rfl, ec]
theorem v_ref (A : ch_A n mk wd iw wr vl) {m : Nat} (hm : m < 4) : ∀ (d p c : Nat) (ty sr sn fe mv : Nat → Int32), p + d = 8 → ch_K n mk iw hd kw sr kn sn kp → ch_T ty fe mv rc md lo → ∃ (r : Int32) (ty' sr' sn' fe' mv' : Nat → Int32), ch_K n mk iw hd kw sr' kn sn' kp ∧ ch_T ty' fe' mv' rc md lo ∧ (∀ post : Int32 → SX → Prop, post r ((nI n), fr, st, aw, ty', hd, ro, ln, sp, bf, ra, mk, wd, iw, wr, kw, sr') → wX_refresh_14 post (nI m) (d + 1) (nI c) (nI p) (nI n) fr st aw ty hd ro ln sp bf ra mk wd iw wr kw sr) ∧ (∀ post : Int32 → SY → Prop, post r ((nI n), fr, lr, mk, wd, vl, iw, kn, sn', kp, bf, sp, st, aw, hd, ry, ln, fe', mv', rc, md, lo, ra) → wY_refresh_14 post (nI m) (d + 1) (nI c) (nI p) (nI n) fr lr mk wd vl iw kn sn kp bf sp st aw hd ry ln fe mv rc md lo ra) := by
  intro d
  induction d with
  | zero =>
    intro p c ty sr sn fe mv hp K TT
    have : p = 8 := by omega
    subst this
    exact ⟨nI c, ty, sr, sn, fe, mv, K, TT, fun post h => br_t (nI_le (b := 8) (Nat.le_refl 8) (by decide)) h, fun post h => br_t (nI_le (b := 8) (Nat.le_refl 8) (by decide)) h⟩
  | succ d ih =>
    intro p c ty sr sn fe mv hp K TT
    have ea : ch_any (fun j => decide (wd j / 8 = nI p) && ch_fy iw kn sn m j) n = ch_any (fun j => decide (wd j / 8 = nI p) && ch_fx iw kw sr m j) n := ch_any_e (fun i hi => by rw [ch_fxy A K hm hi])
    have gt : ¬ (8 : Int32) ≤ nI p := nI_ge (b := 8) (by omega) (by decide)
    cases e : (decide (sp p = 0) && ch_any (fun j => decide (wd j / 8 = nI p) && ch_fx iw kw sr m j) n)
    · obtain ⟨r, ty', sr', sn', fe', mv', K', TT', hX, hY⟩ := ih (p + 1) c ty sr sn fe mv (by omega) K TT
      refine ⟨r, ty', sr', sn', fe', mv', K', TT', fun post h => br_f gt ?_, fun post h => br_f gt ?_⟩
      · refine x_isStale A.1 hm (by omega) ?_
        rw [e]
        exact br_t rfl (nm_r (nI_1 p) (hX post h))
      · refine y_isStale A.1 hm (by omega) ?_
        rw [ea, e]
        exact br_t rfl (nm_r (nI_1 p) (hY post h))
    · obtain ⟨ty1, sr1, sn1, fe1, mv1, K1, TT1, X1, Y1⟩ := v_fetch (fr := fr) (lr := lr) (st := st) (aw := aw) (ro := ro) (ln := ln) (sp := sp) (bf := bf) (ra := ra) (ry := ry) A K TT hm (p := p) (by omega)
      obtain ⟨r, ty', sr', sn', fe', mv', K', TT', hX, hY⟩ := ih (p + 1) (c + 1) ty1 sr1 sn1 fe1 mv1 (by omega) K1 TT1
      refine ⟨r, ty', sr', sn', fe', mv', K', TT', fun post h => br_f gt ?_, fun post h => br_f gt ?_⟩
      · refine x_isStale A.1 hm (by omega) ?_
        rw [e]
        exact br_f (by decide) (X1 _ (nm_r (nI_1 c) (nm_r (nI_1 p) (hX post h))))
      · refine y_isStale A.1 hm (by omega) ?_
        rw [ea, e]
        exact br_f (by decide) (Y1 _ (nm_r (nI_1 c) (nm_r (nI_1 p) (hY post h))))
theorem v_refresh {k : Nat} (R : ch_R n L T st aw ty hd ro ln mk wd iw wr kw sr vl kn sn kp ry fe mv rc md lo) (v1 : Int32) : ∃ (r : Int32) (u' : SX) (v' : SY), i_Rel k u' v' ∧ (∀ post : Int32 → SX → Prop, post r u' → wpX_refresh post ((nI n), fr, st, aw, ty, hd, ro, ln, sp, bf, ra, mk, wd, iw, wr, kw, sr) v1) ∧ (∀ post : Int32 → SY → Prop, post r v' → wpY_refresh post ((nI n), fr, lr, mk, wd, vl, iw, kn, sn, kp, bf, sp, st, aw, hd, ry, ln, fe, mv, rc, md, lo, ra) v1) := by
  by_cases a : ch_run st v1
  · have a2 := a
    obtain ⟨m, hm, rfl, hs⟩ := a2
    obtain ⟨A, K, Q, WX, WY, TT⟩ := R
    obtain ⟨r, ty', sr', sn', fe', mv', K', TT', hX, hY⟩ := v_ref (fr := fr) (lr := lr) (st := st) (aw := aw) (ro := ro) (ln := ln) (sp := sp) (bf := bf) (ra := ra) (ry := ry) A hm 8 0 0 ty sr sn fe mv (by omega) K TT
    refine ⟨r, _, _, ch_mk fr lr sp bf ra ⟨A, K', Q, WX, WY, TT'⟩, fun post h => ?_, fun post h => ?_⟩
    · unfold wpX_refresh
      dsimp only
      exact x_isRunning (fun _ => br_f (by decide) ⟨9, hX post h⟩) (fun z => absurd a z)
    · unfold wpY_refresh
      dsimp only
      exact y_runs (fun _ => br_f (by decide) ⟨9, hY post h⟩) (fun z => absurd a z)
  · refine ⟨-1, _, _, ch_mk fr lr sp bf ra R, fun post h => ?_, fun post h => ?_⟩
    · unfold wpX_refresh
      dsimp only
      exact x_isRunning (fun z => absurd z a) (fun _ => br_t rfl h)
    · unfold wpY_refresh
      dsimp only
      exact y_runs (fun z => absurd z a) (fun _ => br_t rfl h)
end fb
end
section
/-! an access: X's side -/
/-- an access that j would race with -/
def ch_rx (wd iw kw : Nat → Int32) (m w : Nat) (g : Bool) (j : Nat) : Bool := decide (wd j = nI w) && ((g || decide (¬ iw j = 0)) && !(bt (kw j) m))
/-- a write that gives the value -/
def ch_px (wd iw sr sp : Nat → Int32) (m w p : Nat) (j : Nat) : Bool := decide (¬ iw j = 0) && (decide (wd j = nI w) && (decide (¬ sp p = 0) || bt (sr j) m))
def ch_kt (ty : Nat → Int32) (m : Nat) (b : Bool) : Nat → Int32 := match b with
  | true => upd (upd ty (5 * m + 2) (ty (5 * m + 2) + 1)) (5 * m + 3) (upd ty (5 * m + 2) (ty (5 * m + 2) + 1) (5 * m + 3) + 1)
  | false => upd ty (5 * m + 3) (ty (5 * m + 3) + 1)
def ch_up (a : Nat → Int32) (w : Nat) (b : Bool) : Nat → Int32 := match b with
  | true => upd a w (a w + 1)
  | false => a
theorem ch_Tkt {ty fe mv rc md lo : Nat → Int32} {m : Nat} (b : Bool) (TT : ch_T ty fe mv rc md lo) : ch_T (ch_kt ty m b) fe mv (ch_up rc m b) (upd md m (md m + 1)) lo := by
  intro k hk
  obtain ⟨t0, t1, t2, t3, t4⟩ := TT k hk
  cases b
  · show upd ty (5 * m + 3) (ty (5 * m + 3) + 1) (5 * k) = _ ∧ upd ty (5 * m + 3) (ty (5 * m + 3) + 1) (5 * k + 1) = _ ∧ upd ty (5 * m + 3) (ty (5 * m + 3) + 1) (5 * k + 2) = rc k ∧ upd ty (5 * m + 3) (ty (5 * m + 3) + 1) (5 * k + 3) = _ ∧ upd ty (5 * m + 3) (ty (5 * m + 3) + 1) (5 * k + 4) = _
    rw [pk_un (by omega), pk_un (by omega), pk_un (by omega), pk_un (j := 5 * k + 4) (by omega)]
    refine ⟨t0, t1, t2, ?_, t4⟩
    by_cases z : k = m
    · subst z
      rw [pk_us, pk_us, t3]
    · rw [pk_un (by omega), pk_un z, t3]
  · show upd (upd ty (5 * m + 2) (ty (5 * m + 2) + 1)) (5 * m + 3) (upd ty (5 * m + 2) (ty (5 * m + 2) + 1) (5 * m + 3) + 1) (5 * k) = _ ∧ upd (upd ty (5 * m + 2) (ty (5 * m + 2) + 1)) (5 * m + 3) (upd ty (5 * m + 2) (ty (5 * m + 2) + 1) (5 * m + 3) + 1) (5 * k + 1) = _ ∧ upd (upd ty (5 * m + 2) (ty (5 * m + 2) + 1)) (5 * m + 3) (upd ty (5 * m + 2) (ty (5 * m + 2) + 1) (5 * m + 3) + 1) (5 * k + 2) = upd rc m (rc m + 1) k ∧ upd (upd ty (5 * m + 2) (ty (5 * m + 2) + 1)) (5 * m + 3) (upd ty (5 * m + 2) (ty (5 * m + 2) + 1) (5 * m + 3) + 1) (5 * k + 3) = _ ∧ upd (upd ty (5 * m + 2) (ty (5 * m + 2) + 1)) (5 * m + 3) (upd ty (5 * m + 2) (ty (5 * m + 2) + 1) (5 * m + 3) + 1) (5 * k + 4) = _
    refine ⟨?_, ?_, ?_, ?_, ?_⟩
    · rw [pk_un (by omega), pk_un (by omega), t0]
    · rw [pk_un (by omega), pk_un (by omega), t1]
    · rw [pk_un (by omega)]
      by_cases z : k = m
      · subst z
        rw [pk_us, pk_us, t2]
      · rw [pk_un (by omega), pk_un z, t2]
    · by_cases z : k = m
      · subst z
        rw [pk_us, pk_us, pk_un (by omega), t3]
      · rw [pk_un (by omega), pk_un (by omega), pk_un z, t3]
    · rw [pk_un (by omega), pk_un (by omega), t4]
section ax
variable {n : Nat} {fr : Int32} {st aw ty hd ro ln sp bf ra mk wd iw wr kw sr : Nat → Int32}
theorem x_rac_37 {fk : Int32} {post : Int32 → Prop} {J : Int32 → Prop} {m i : Nat} {x2 x3 : Int32} (hi : i < 300) (hm : m < 4) (t : bt (kw i) m = false → post 1) (f : bt (kw i) m = true → J (nI (i + 1))) : wX_isRacing_37 post J (nI m) x2 x3 (nI i) fk fr st aw ty hd ro ln sp bf ra mk wd iw wr kw sr := by
  unfold wX_isRacing_37
  refine x_isKnown hi (by omega) ?_
  cases e : bt (kw i) m
  · exact br_t rfl (t e)
  · exact br_f (by decide) (nm_r (nI_1 i) (f e))
theorem x_rac_3 (hn : n ≤ 300) {post : Int32 → Prop} {m w : Nat} (g : Bool) (hm : m < 4) : ∀ d i, i + d = n → (∀ j, j < i → ch_rx wd iw kw m w g j = false) → post (ch_b (ch_any (ch_rx wd iw kw m w g) n)) → wX_isRacing_3 post (nI m) (nI w) (ch_b g) (nI n) fr st aw ty hd ro ln sp bf ra mk wd iw wr kw sr (d + 1) (nI i) := by
  intro d
  induction d with
  | zero =>
    intro i hi hj hp
    have : i = n := by omega
    subst this
    refine br_t (nI_le (Nat.le_refl _) (by omega)) ?_
    rw [ch_any_f hj] at hp
    exact hp
  | succ d ih =>
    intro i hi hj hp
    have next : ch_rx wd iw kw m w g i = false → wX_isRacing_3 post (nI m) (nI w) (ch_b g) (nI n) fr st aw ty hd ro ln sp bf ra mk wd iw wr kw sr (d + 1) (nI (i + 1)) := by
      intro e
      refine ih (i + 1) (by omega) ?_ hp
      intro j h
      by_cases q : j = i
      · rw [q]; exact e
      · exact hj j (by omega)
    have i3 : vp_in (nI i) 300 := vp_in_nI (by omega) (by decide)
    have go : wd i = nI w → (g || decide (¬ iw i = 0)) = true → wX_isRacing_37 post (wX_isRacing_3 post (nI m) (nI w) (ch_b g) (nI n) fr st aw ty hd ro ln sp bf ra mk wd iw wr kw sr (d + 1)) (nI m) (nI w) (ch_b g) (nI i) (nI n) fr st aw ty hd ro ln sp bf ra mk wd iw wr kw sr := by
      intro a c
      refine x_rac_37 (by omega) hm (fun e => ?_) (fun e => next ?_)
      · rw [ch_any_t (i := i) (by omega) (by unfold ch_rx; rw [decide_eq_true a, c, e]; rfl)] at hp
        exact hp
      · unfold ch_rx
        rw [e]
        simp
    refine br_f (nI_ge (by omega) (by omega)) ⟨i3, ?_⟩
    rw [nI_clamp (by omega)]
    refine br_c (fun a => ?_) (fun a => nm_r (nI_1 i) (next ?_))
    · cases g
      · refine br_t rfl ⟨i3, br_c (fun c => nm_r (nI_1 i) (next ?_)) (fun c => go a ?_)⟩
        · unfold ch_rx
          rw [c]
          simp
        · rw [decide_eq_true c]
          rfl
      · exact br_f (by decide) (go a rfl)
    · unfold ch_rx
      rw [decide_eq_false a, Bool.false_and]
theorem x_isRacing (hn : n ≤ 300) {post : Int32 → Prop} {m w : Nat} (g : Bool) (hm : m < 4) (hp : post (ch_b (ch_any (ch_rx wd iw kw m w g) n))) : wpX_isRacing post ((nI n), fr, st, aw, ty, hd, ro, ln, sp, bf, ra, mk, wd, iw, wr, kw, sr) (nI m) (nI w) (ch_b g) :=
  ⟨n + 1, x_rac_3 hn g hm n 0 (by omega) (fun j h => absurd h (Nat.not_lt_zero j)) hp⟩
theorem x_val_21 (hn : n ≤ 300) {post : Int32 → Prop} {m w p : Nat} {v0 : Int32} (hm : m < 4) (hp : post (ch_lv (ch_px wd iw sr sp m w p) wr v0 n)) : ∀ d i, i + d = n → wX_valueAt_21 post (nI m) (nI w) (sp p) (nI n) fr st aw ty hd ro ln sp bf ra mk wd iw wr kw sr (d + 1) (ch_lv (ch_px wd iw sr sp m w p) wr v0 i) (nI i) := by
  intro d
  induction d with
  | zero =>
    intro i hi
    have : i = n := by omega
    subst this
    exact br_t (nI_le (Nat.le_refl _) (by omega)) hp
  | succ d ih =>
    intro i hi
    have ih := ih (i + 1) (by omega)
    rw [ch_lv] at ih
    have i3 : vp_in (nI i) 300 := vp_in_nI (by omega) (by decide)
    have no : ch_px wd iw sr sp m w p i = false → wX_valueAt_21 post (nI m) (nI w) (sp p) (nI n) fr st aw ty hd ro ln sp bf ra mk wd iw wr kw sr (d + 1) (ch_lv (ch_px wd iw sr sp m w p) wr v0 i) (nI (i + 1)) := by
      intro e
      rw [if_neg (by rw [e]; decide)] at ih
      exact ih
    have yes : ch_px wd iw sr sp m w p i = true → wX_valueAt_21 post (nI m) (nI w) (sp p) (nI n) fr st aw ty hd ro ln sp bf ra mk wd iw wr kw sr (d + 1) (wr i) (nI (i + 1)) := by
      intro e
      rw [if_pos e] at ih
      exact ih
    refine br_f (nI_ge (by omega) (by omega)) ⟨i3, ?_⟩
    rw [nI_clamp (by omega)]
    refine br_c (fun a => nm_r (nI_1 i) (no ?_)) (fun a => ⟨i3, br_c (fun b => br_c (fun c => ?_) (fun c => ⟨i3, nm_e (nm_r (nI_1 i) (yes ?_))⟩)) (fun b => nm_r (nI_1 i) (no ?_))⟩)
    · unfold ch_px
      rw [a]
      simp
    · refine x_isSeen (by omega) (by omega) ?_
      cases e : bt (sr i) m
      · refine br_t rfl (nm_r (nI_1 i) (no ?_))
        unfold ch_px
        rw [e, c]
        simp
      · refine br_f (by decide) ⟨i3, nm_e (nm_r (nI_1 i) (yes ?_))⟩
        unfold ch_px
        rw [e, decide_eq_true a, decide_eq_true b]
        simp
    · unfold ch_px
      rw [decide_eq_true a, decide_eq_true b, decide_eq_true c]
      rfl
    · unfold ch_px
      rw [decide_eq_false b]
      simp
theorem ch_w8 {w : Nat} (hw : w < 64) : nI w / 8 = nI (w / 8) := by
  rw [show (8 : Int32) = nI 8 from rfl]
  exact pk_div (by omega) (by decide) (by decide)
theorem x_valueAt (hn : n ≤ 300) {post : Int32 → Prop} {m w : Nat} (hm : m < 4) (hw : w < 64) (hp : post (ch_lv (ch_px wd iw sr sp m w (w / 8)) wr (bf w) n)) : wpX_valueAt post ((nI n), fr, st, aw, ty, hd, ro, ln, sp, bf, ra, mk, wd, iw, wr, kw, sr) (nI m) (nI w) := by
  unfold wpX_valueAt
  dsimp only
  rw [ch_w8 hw, nI_clamp (n := w / 8) (by omega), nI_clamp (n := w) (by omega)]
  exact ⟨by decide, vp_in_nI (by omega) (by decide), nm_e ⟨vp_in_nI hw (by decide), nm_e ⟨n + 1, x_val_21 hn hm hp n 0 (by omega)⟩⟩⟩
theorem x_keep_38 (hn : n < 300) {post : Int32 → SX → Prop} {m w : Nat} {v : Int32} {g b : Bool} (hm : m < 4) (hp : post (ch_b b) (nI (n + 1), fr, st, aw, upd ty (5 * m + 3) (ty (5 * m + 3) + 1), hd, ro, ln, sp, bf, ra, upd mk n (nI m), upd wd n (nI w), upd iw n (ch_b g), upd wr n v, upd kw n ((1 : Int32) <<< (nI m &&& 31)), upd sr n ((1 : Int32) <<< (nI m &&& 31)))) : wX_keepAccess_38 post (nI m) (nI w) (ch_b g) v (ch_b b) (nI n) fr st aw ty hd ro ln sp bf ra mk wd iw wr kw sr := by
  unfold wX_keepAccess_38
  have e3 : nI m * 5 + 3 = nI (5 * m + 3) := ch_z5 m 3
  have i3 : vp_in (nI n) 300 := vp_in_nI hn (by decide)
  have a3 : vp_in (nI (5 * m + 3)) 20 := vp_in_nI (by omega) (by decide)
  rw [e3, nI_clamp (n := 5 * m + 3) (by omega), nI_clamp (n := n) (by omega), ch_vb, nI_1 n]
  exact ⟨a3, a3, nm_e ⟨i3, nm_e ⟨i3, nm_e ⟨i3, nm_e ⟨i3, nm_e ⟨i3, nm_e ⟨i3, nm_e (nm_e ⟨ch_nb b, hp⟩)⟩⟩⟩⟩⟩⟩⟩
theorem x_keepAccess (hn : n < 300) {post : Int32 → SX → Prop} {m w : Nat} {v : Int32} {g b : Bool} (hm : m < 4) (hw : w < 64) (hb : ch_any (ch_rx wd iw kw m w g) n = b) (hp : post (ch_b b) (nI (n + 1), fr, st, aw, ch_kt ty m b, hd, ro, ln, sp, bf, ch_up ra w b, upd mk n (nI m), upd wd n (nI w), upd iw n (ch_b g), upd wr n v, upd kw n ((1 : Int32) <<< (nI m &&& 31)), upd sr n ((1 : Int32) <<< (nI m &&& 31)))) : wpX_keepAccess post ((nI n), fr, st, aw, ty, hd, ro, ln, sp, bf, ra, mk, wd, iw, wr, kw, sr) (nI m) (nI w) (ch_b g) v := by
  unfold wpX_keepAccess
  dsimp only
  refine x_isRacing (by omega) g hm ?_
  rw [hb]
  cases b
  · exact br_t rfl (x_keep_38 (b := false) hn hm hp)
  · have e2 : nI m * 5 + 2 = nI (5 * m + 2) := ch_z5 m 2
    have a2 : vp_in (nI (5 * m + 2)) 20 := vp_in_nI (by omega) (by decide)
    have a6 : vp_in (nI w) 64 := vp_in_nI hw (by decide)
    rw [e2, nI_clamp (n := 5 * m + 2) (by omega), nI_clamp (n := w) (by omega)]
    exact br_f (by decide) ⟨a2, a2, nm_e ⟨a6, a6, nm_e (x_keep_38 (b := true) hn hm hp)⟩⟩
theorem x_take_12 (hn : n ≤ 300) {m p : Nat} (hm : m < 4) : ∀ (d i : Nat) (ty : Nat → Int32), i + d = 4 → ∃ ty' : Nat → Int32, (∀ k, i ≤ k → k < 4 → ty' (5 * k + 4) = if ¬ k = m ∧ ch_hv mk wd iw (nI k) (nI p) n = true then ty (5 * k + 4) + 1 else ty (5 * k + 4)) ∧ (∀ j, (∀ k, i ≤ k → k < 4 → ¬ j = 5 * k + 4) → ty' j = ty j) ∧ ∀ post : SX → Prop, post ((nI n), fr, st, aw, ty', hd, ro, ln, sp, bf, ra, mk, wd, iw, wr, kw, sr) → wX_takeFromOthers_12 post (nI m) (nI p) (nI n) fr (d + 1) (nI i) st aw ty hd ro ln sp bf ra mk wd iw wr kw sr := by
  intro d
  induction d with
  | zero =>
    intro i ty hi
    have : i = 4 := by omega
    subst this
    exact ⟨ty, fun k h1 h2 => by omega, fun j _ => rfl, fun post h => br_t (nI_le (b := 4) (Nat.le_refl 4) (by decide)) h⟩
  | succ d ih =>
    intro i ty hi
    have gt : ¬ (4 : Int32) ≤ nI i := nI_ge (b := 4) (by omega) (by decide)
    by_cases q : ¬ i = m ∧ ch_hv mk wd iw (nI i) (nI p) n = true
    · obtain ⟨ty', h1, h2, h3⟩ := ih (i + 1) (upd ty (5 * i + 4) (ty (5 * i + 4) + 1)) (by omega)
      refine ⟨ty', fun k hk hk2 => ?_, fun j hj => ?_, fun post h => ?_⟩
      · by_cases z : k = i
        · subst z
          rw [h2 _ (fun k2 _ _ => by omega), pk_us, if_pos q]
        · rw [h1 k (by omega) hk2, pk_un (by omega)]
      · rw [h2 j (fun k hk hk2 => hj k (by omega) hk2), pk_un (hj i (by omega) (by omega))]
      · have e4 : nI i * 5 + 4 = nI (5 * i + 4) := ch_z5 i 4
        have a4 : vp_in (nI (5 * i + 4)) 20 := vp_in_nI (by omega) (by decide)
        have ne : ¬ nI i = nI m := fun e => q.1 ((nI_eq (by omega) (by omega)).mp e)
        refine br_f gt (br_f ne (x_hasPage hn ?_))
        rw [q.2, e4, nI_clamp (n := 5 * i + 4) (by omega)]
        exact br_f (by decide) ⟨a4, a4, nm_e (nm_r (nI_1 i) (h3 post h))⟩
    · obtain ⟨ty', h1, h2, h3⟩ := ih (i + 1) ty (by omega)
      refine ⟨ty', fun k hk hk2 => ?_, fun j hj => ?_, fun post h => ?_⟩
      · by_cases z : k = i
        · subst z
          rw [h2 _ (fun k2 _ _ => by omega), if_neg q]
        · exact h1 k (by omega) hk2
      · exact h2 j (fun k hk hk2 => hj k (by omega) hk2)
      · refine br_f gt (br_c (fun _ => nm_r (nI_1 i) (h3 post h)) (fun ne => x_hasPage hn ?_))
        have e : ch_hv mk wd iw (nI i) (nI p) n = false := ch_nt (fun z => q ⟨fun e => ne (by rw [e]), z⟩)
        rw [e]
        exact br_t rfl (nm_r (nI_1 i) (h3 post h))
end ax
end
section
/-! an access: Y's side -/
def ch_ry (mk wd iw kn : Nat → Int32) (m w : Nat) (g : Bool) (j : Nat) : Bool := decide (wd j = nI w) && (decide (¬ mk j = nI m) && ((g || decide (¬ iw j = 0)) && decide (kn (300 * m + j) = 0)))
def ch_qy (iw sn sp : Nat → Int32) (m p : Nat) (j : Nat) : Bool := decide (¬ iw j = 0) && (decide (¬ sp p = 0) || decide (¬ sn (300 * m + j) = 0))
def ch_py (wd iw sn sp : Nat → Int32) (m w p : Nat) (j : Nat) : Bool := decide (wd j = nI w) && ch_qy iw sn sp m p j
section ay
variable {n : Nat} {fr lr : Int32} {mk wd vl iw kn sn kp bf sp st aw hd ry ln fe mv rc md lo ra : Nat → Int32}
theorem y_a120 {fk : Int32} {post : Int32 → SY → Prop} {J : Int32 → Int32 → Int32 → Prop} {m p i : Nat} {x2 x3 x5 x6 : Int32} (hi : i < 300) (hm : m < 4) (hp : p < 8) (h : J x5 (if ch_qy iw sn sp m p i = true then nI i else x6) (nI (i + 1))) : wY_access_120 post J (nI m) x2 x3 (nI p) x5 x6 (nI i) fk fr lr mk wd vl iw kn sn kp bf sp st aw hd ry ln fe mv rc md lo ra := by
  unfold wY_access_120
  have i3 : vp_in (nI i) 300 := vp_in_nI hi (by decide)
  rw [nI_clamp (n := i) (by omega), nI_clamp (n := p) (by omega), ch_adC hm hi]
  have no : ch_qy iw sn sp m p i = false → J x5 x6 (nI (i + 1)) := by
    intro e
    rw [if_neg (by rw [e]; decide)] at h
    exact h
  have yes : ch_qy iw sn sp m p i = true → J x5 (nI i) (nI (i + 1)) := by
    intro e
    rw [if_pos e] at h
    exact h
  refine ⟨i3, br_c (fun a => nm_r (nI_1 i) (no ?_)) (fun a => ⟨vp_in_nI hp (by decide), br_c (fun b => ⟨ch_adI hm hi, br_c (fun c => nm_r (nI_1 i) (no ?_)) (fun c => nm_r (nI_1 i) (yes ?_))⟩) (fun b => nm_r (nI_1 i) (yes ?_))⟩)⟩
  · unfold ch_qy
    rw [a]
    simp
  · unfold ch_qy
    rw [b, c]
    simp
  · unfold ch_qy
    rw [decide_eq_true a, decide_eq_true c]
    simp
  · unfold ch_qy
    rw [decide_eq_true a, decide_eq_true b]
    rfl
theorem y_a101 {fk : Int32} {post : Int32 → SY → Prop} {J : Int32 → Int32 → Int32 → Prop} {m p i : Nat} {x2 x3 x5 x6 : Int32} (hi : i < 300) (hm : m < 4) (hp : p < 8) (h : J (if kn (300 * m + i) = 0 then 1 else x5) (if ch_qy iw sn sp m p i = true then nI i else x6) (nI (i + 1))) : wY_access_101 post J (nI m) x2 x3 (nI p) x5 x6 (nI i) fk fr lr mk wd vl iw kn sn kp bf sp st aw hd ry ln fe mv rc md lo ra := by
  unfold wY_access_101
  rw [ch_adC hm hi]
  refine ⟨ch_adI hm hi, br_c (fun a => ?_) (fun a => ?_)⟩
  · rw [if_pos a] at h
    exact y_a120 hi hm hp h
  · rw [if_neg a] at h
    exact y_a120 hi hm hp h
theorem y_a53 (hn : n ≤ 300) {post : Int32 → SY → Prop} {m w p : Nat} (g : Bool) (hm : m < 4) (hp : p < 8) (he : wY_access_53 post (nI m) (nI w) (ch_b g) (nI p) (nI n) fr lr mk wd vl iw kn sn kp bf sp st aw hd ry ln fe mv rc md lo ra 1 (ch_b (ch_any (ch_ry mk wd iw kn m w g) n)) (ch_la (ch_py wd iw sn sp m w p) n) (nI n)) : ∀ d i, i + d = n → wY_access_53 post (nI m) (nI w) (ch_b g) (nI p) (nI n) fr lr mk wd vl iw kn sn kp bf sp st aw hd ry ln fe mv rc md lo ra (d + 1) (ch_b (ch_any (ch_ry mk wd iw kn m w g) i)) (ch_la (ch_py wd iw sn sp m w p) i) (nI i) := by
  intro d
  induction d with
  | zero =>
    intro i hi
    have : i = n := by omega
    subst this
    exact he
  | succ d ih =>
    intro i hi
    have ih := ih (i + 1) (by omega)
    have i3 : vp_in (nI i) 300 := vp_in_nI (by omega) (by decide)
    have ea : ch_any (ch_ry mk wd iw kn m w g) (i + 1) = (ch_any (ch_ry mk wd iw kn m w g) i || ch_ry mk wd iw kn m w g i) := rfl
    have el : ch_la (ch_py wd iw sn sp m w p) (i + 1) = if ch_py wd iw sn sp m w p i = true then nI i else ch_la (ch_py wd iw sn sp m w p) i := rfl
    refine br_f (nI_ge (by omega) (by omega)) ⟨i3, ?_⟩
    rw [nI_clamp (n := i) (by omega)]
    refine br_c (fun a => ?_) (fun a => ?_)
    · have ep : ch_py wd iw sn sp m w p i = ch_qy iw sn sp m p i := by
        unfold ch_py
        rw [decide_eq_true a, Bool.true_and]
      rw [el, ep] at ih
      have quiet : ch_ry mk wd iw kn m w g i = false → wY_access_120 post (wY_access_53 post (nI m) (nI w) (ch_b g) (nI p) (nI n) fr lr mk wd vl iw kn sn kp bf sp st aw hd ry ln fe mv rc md lo ra (d + 1)) (nI m) (nI w) (ch_b g) (nI p) (ch_b (ch_any (ch_ry mk wd iw kn m w g) i)) (ch_la (ch_py wd iw sn sp m w p) i) (nI i) (nI n) fr lr mk wd vl iw kn sn kp bf sp st aw hd ry ln fe mv rc md lo ra := by
        intro e
        rw [ea, e, Bool.or_false] at ih
        exact y_a120 (by omega) hm hp ih
      have loud : ¬ mk i = nI m → (g || decide (¬ iw i = 0)) = true → wY_access_101 post (wY_access_53 post (nI m) (nI w) (ch_b g) (nI p) (nI n) fr lr mk wd vl iw kn sn kp bf sp st aw hd ry ln fe mv rc md lo ra (d + 1)) (nI m) (nI w) (ch_b g) (nI p) (ch_b (ch_any (ch_ry mk wd iw kn m w g) i)) (ch_la (ch_py wd iw sn sp m w p) i) (nI i) (nI n) fr lr mk wd vl iw kn sn kp bf sp st aw hd ry ln fe mv rc md lo ra := by
        intro b c
        refine y_a101 (by omega) hm hp ?_
        have er : ch_ry mk wd iw kn m w g i = decide (kn (300 * m + i) = 0) := by
          unfold ch_ry
          rw [decide_eq_true a, decide_eq_true b, c, Bool.true_and, Bool.true_and, Bool.true_and]
        rw [ea, er] at ih
        by_cases z : kn (300 * m + i) = 0
        · rw [decide_eq_true z, Bool.or_true] at ih
          rw [if_pos z]
          exact ih
        · rw [decide_eq_false z, Bool.or_false] at ih
          rw [if_neg z]
          exact ih
      refine ⟨i3, br_c (fun b => quiet ?_) (fun b => ?_)⟩
      · unfold ch_ry
        rw [b]
        simp
      · cases g
        · refine br_t rfl ⟨i3, br_c (fun c => quiet ?_) (fun c => loud b ?_)⟩
          · unfold ch_ry
            rw [c]
            simp
          · rw [decide_eq_true c]
            rfl
        · exact br_f (by decide) (loud b rfl)
    · refine nm_r (nI_1 i) ?_
      have e1 : ch_ry mk wd iw kn m w g i = false := by unfold ch_ry; rw [decide_eq_false a, Bool.false_and]
      have e2 : ch_py wd iw sn sp m w p i = false := by unfold ch_py; rw [decide_eq_false a, Bool.false_and]
      rw [ea, el, e1, e2, Bool.or_false, if_neg (by decide)] at ih
      exact ih
theorem y_a303 (hn : n < 300) {post : Int32 → SY → Prop} {J : Int32 → (Nat → Int32) → (Nat → Int32) → (Nat → Int32) → (Nat → Int32) → (Nat → Int32) → (Nat → Int32) → (Nat → Int32) → (Nat → Int32) → (Nat → Int32) → (Nat → Int32) → (Nat → Int32) → (Nat → Int32) → (Nat → Int32) → (Nat → Int32) → (Nat → Int32) → (Nat → Int32) → (Nat → Int32) → (Nat → Int32) → (Nat → Int32) → (Nat → Int32) → Prop} {x1 x2 x3 x6 : Int32} {q : Nat} (b : Bool) (hq : q < 4) (h : J (nI (q + 1)) mk wd vl iw kn (upd sn (300 * q + n) (ch_b b)) (upd kp (300 * q + n) 0) bf sp st aw hd ry ln fe mv rc md lo ra) : wY_access_303 post J x1 x2 x3 x6 (nI q) (ch_b b) (300 * nI q + nI n) (nI n) fr lr mk wd vl iw kn sn kp bf sp st aw hd ry ln fe mv rc md lo ra := by
  unfold wY_access_303
  rw [ch_adC hq hn, ch_vb, ch_vb0]
  exact ⟨ch_adI hq hn, nm_e ⟨ch_adI hq hn, nm_e (nm_r (nI_1 q) h)⟩⟩
theorem y_a272 (hn : n < 300) {post : Int32 → SY → Prop} {J : Int32 → (Nat → Int32) → (Nat → Int32) → (Nat → Int32) → (Nat → Int32) → (Nat → Int32) → (Nat → Int32) → (Nat → Int32) → (Nat → Int32) → (Nat → Int32) → (Nat → Int32) → (Nat → Int32) → (Nat → Int32) → (Nat → Int32) → (Nat → Int32) → (Nat → Int32) → (Nat → Int32) → (Nat → Int32) → (Nat → Int32) → (Nat → Int32) → (Nat → Int32) → Prop} {x2 x6 : Int32} {m q : Nat} (g b : Bool) (hm : m < 4) (hq : q < 4) (h : J (nI (q + 1)) mk wd vl iw (upd kn (300 * q + n) (ch_b b)) (upd sn (300 * q + n) (ch_b (decide (q = m) && g))) (upd kp (300 * q + n) 0) bf sp st aw hd ry ln fe mv rc md lo ra) : wY_access_272 post J (nI m) x2 (ch_b g) x6 (nI q) (ch_b b) (300 * nI q + nI n) (nI n) fr lr mk wd vl iw kn sn kp bf sp st aw hd ry ln fe mv rc md lo ra := by
  unfold wY_access_272
  rw [ch_adC hq hn, ch_vb]
  refine ⟨ch_adI hq hn, nm_e (br_c (fun a => ?_) (fun a => ?_))⟩
  · have e : q = m := (nI_eq (by omega) (by omega)).mp a
    rw [decide_eq_true e, Bool.true_and] at h
    cases g
    · exact br_t rfl (y_a303 (b := false) hn hq h)
    · exact br_f (by decide) (y_a303 (b := true) hn hq h)
  · have e : ¬ q = m := fun z => a (by rw [z])
    rw [decide_eq_false e, Bool.false_and] at h
    exact y_a303 (b := false) hn hq h
theorem y_a240 (hn : n < 300) {m : Nat} {x2 x6 : Int32} (g : Bool) (hm : m < 4) : ∀ (d q : Nat) (kn sn kp : Nat → Int32), q + d = 4 → ∃ kn' sn' kp' : Nat → Int32,
    (∀ k, q ≤ k → k < 4 → kn' (300 * k + n) = ch_b (decide (k = m)) ∧ sn' (300 * k + n) = ch_b (decide (k = m) && g) ∧ kp' (300 * k + n) = 0) ∧ (∀ j, (∀ k, q ≤ k → k < 4 → ¬ j = 300 * k + n) → kn' j = kn j ∧ sn' j = sn j ∧ kp' j = kp j) ∧
    ∀ post : Int32 → SY → Prop, wY_access_240 post (nI m) x2 (ch_b g) x6 (nI n) fr lr 1 (nI 4) mk wd vl iw kn' sn' kp' bf sp st aw hd ry ln fe mv rc md lo ra → wY_access_240 post (nI m) x2 (ch_b g) x6 (nI n) fr lr (d + 1) (nI q) mk wd vl iw kn sn kp bf sp st aw hd ry ln fe mv rc md lo ra := by
  intro d
  induction d with
  | zero =>
    intro q kn sn kp hq
    have : q = 4 := by omega
    subst this
    exact ⟨kn, sn, kp, fun k h1 h2 => by omega, fun j _ => ⟨rfl, rfl, rfl⟩, fun post h => h⟩
  | succ d ih =>
    intro q kn sn kp hq
    obtain ⟨kn', sn', kp', h1, h2, h3⟩ := ih (q + 1) (upd kn (300 * q + n) (ch_b (decide (q = m)))) (upd sn (300 * q + n) (ch_b (decide (q = m) && g))) (upd kp (300 * q + n) 0) (by omega)
    refine ⟨kn', sn', kp', fun k hk hk2 => ?_, fun j hj => ?_, fun post h => ?_⟩
    · by_cases z : k = q
      · subst z
        obtain ⟨a, b, c⟩ := h2 (300 * k + n) (fun k2 _ _ => by omega)
        rw [a, b, c, pk_us, pk_us, pk_us]
        exact ⟨rfl, rfl, rfl⟩
      · exact h1 k (by omega) hk2
    · obtain ⟨a, b, c⟩ := h2 j (fun k2 hk hk2 => hj k2 (by omega) hk2)
      have z := hj q (by omega) (by omega)
      rw [a, b, c, pk_un z, pk_un z, pk_un z]
      exact ⟨rfl, rfl, rfl⟩
    · have go := h3 post h
      refine br_f (nI_ge (b := 4) (by omega) (by decide)) (br_c (fun a => ?_) (fun a => ?_))
      · have e : q = m := (nI_eq (by omega) (by omega)).mp a
        refine y_a272 (b := true) hn g hm (by omega) ?_
        rw [decide_eq_true e] at go
        rw [decide_eq_true e]
        exact go
      · have e : ¬ q = m := fun z => a (by rw [z])
        refine y_a272 (b := false) hn g hm (by omega) ?_
        rw [decide_eq_false e] at go
        rw [decide_eq_false e]
        exact go
theorem y_a191 (hn : n < 300) {m w : Nat} {x6 : Int32} (g b : Bool) (hm : m < 4) : ∃ kn' sn' kp' : Nat → Int32,
    (∀ k, k < 4 → kn' (300 * k + n) = ch_b (decide (k = m)) ∧ sn' (300 * k + n) = ch_b (decide (k = m) && g) ∧ kp' (300 * k + n) = 0) ∧ (∀ j, (∀ k, k < 4 → ¬ j = 300 * k + n) → kn' j = kn j ∧ sn' j = sn j ∧ kp' j = kp j) ∧
    ∀ (rc ra : Nat → Int32) (post : Int32 → SY → Prop), ((0 ≤ x6 → (vp_in x6 300 ∧ post (vl x6.toNatClampNeg) ((nI n), fr, ch_b b, upd mk n (nI m), upd wd n (nI w), vl, upd iw n (ch_b g), kn', sn', kp', bf, sp, st, aw, hd, ry, ln, fe, mv, rc, upd md m (md m + 1), lo, ra))) ∧ (¬ 0 ≤ x6 → (vp_in (nI w) 64 ∧ post (bf (nI w).toNatClampNeg) ((nI n), fr, ch_b b, upd mk n (nI m), upd wd n (nI w), vl, upd iw n (ch_b g), kn', sn', kp', bf, sp, st, aw, hd, ry, ln, fe, mv, rc, upd md m (md m + 1), lo, ra)))) → wY_access_191 post (nI m) (nI w) (ch_b g) (ch_b b) x6 (nI n) fr lr mk wd vl iw kn sn kp bf sp st aw hd ry ln fe mv rc md lo ra := by
  obtain ⟨kn', sn', kp', h1, h2, _⟩ := y_a240 (n := n) (fr := fr) (lr := ch_b b) (mk := upd mk n (nI m)) (wd := upd wd n (nI w)) (vl := vl) (iw := upd iw n (ch_b g)) (bf := bf) (sp := sp) (st := st) (aw := aw) (hd := hd) (ry := ry) (ln := ln) (fe := fe) (mv := mv) (rc := fun _ => 0) (md := upd md m (md m + 1)) (lo := lo) (ra := fun _ => 0) (x2 := nI w) (x6 := x6) hn g hm 4 0 kn sn kp (by omega)
  refine ⟨kn', sn', kp', fun k hk => h1 k (by omega) hk, fun j hj => h2 j (fun k _ hk => hj k hk), ?_⟩
  intro rc ra post h
  obtain ⟨kn2, sn2, kp2, g1, g2, g3⟩ := y_a240 (n := n) (fr := fr) (lr := ch_b b) (mk := upd mk n (nI m)) (wd := upd wd n (nI w)) (vl := vl) (iw := upd iw n (ch_b g)) (bf := bf) (sp := sp) (st := st) (aw := aw) (hd := hd) (ry := ry) (ln := ln) (fe := fe) (mv := mv) (rc := rc) (md := upd md m (md m + 1)) (lo := lo) (ra := ra) (x2 := nI w) (x6 := x6) hn g hm 4 0 kn sn kp (by omega)
  have e : ∀ j, kn2 j = kn' j ∧ sn2 j = sn' j ∧ kp2 j = kp' j := by
    intro j
    by_cases z : ∃ k, k < 4 ∧ j = 300 * k + n
    · obtain ⟨k, hk, rfl⟩ := z
      obtain ⟨a1, a2, a3⟩ := h1 k (by omega) hk
      obtain ⟨b1, b2, b3⟩ := g1 k (by omega) hk
      rw [a1, a2, a3, b1, b2, b3]
      exact ⟨rfl, rfl, rfl⟩
    · obtain ⟨a1, a2, a3⟩ := h2 j (fun k _ hk q => z ⟨k, hk, q⟩)
      obtain ⟨b1, b2, b3⟩ := g2 j (fun k _ hk q => z ⟨k, hk, q⟩)
      rw [a1, a2, a3, b1, b2, b3]
      exact ⟨rfl, rfl, rfl⟩
  have ek : kn2 = kn' := funext (fun j => (e j).1)
  have es : sn2 = sn' := funext (fun j => (e j).2.1)
  have ep : kp2 = kp' := funext (fun j => (e j).2.2)
  rw [ek, es, ep] at g3
  unfold wY_access_191
  have i3 : vp_in (nI n) 300 := vp_in_nI hn (by decide)
  have i4 : vp_in (nI m) 4 := vp_in_nI hm (by decide)
  rw [nI_clamp (n := m) (by omega), nI_clamp (n := n) (by omega), ch_vb]
  exact ⟨i4, i4, nm_e ⟨ch_nb b, ch_fb b, i3, nm_e ⟨i3, nm_e ⟨i3, nm_e ⟨5, g3 post (br_t (by decide) h)⟩⟩⟩⟩⟩
theorem y_acc (hn : n < 300) {m w p : Nat} (g b : Bool) (hm : m < 4) (hw : w < 64) (hp : p < 8) (hb : ch_any (ch_ry mk wd iw kn m w g) n = b) : ∃ kn' sn' kp' : Nat → Int32,
    (∀ k, k < 4 → kn' (300 * k + n) = ch_b (decide (k = m)) ∧ sn' (300 * k + n) = ch_b (decide (k = m) && g) ∧ kp' (300 * k + n) = 0) ∧ (∀ j, (∀ k, k < 4 → ¬ j = 300 * k + n) → kn' j = kn j ∧ sn' j = sn j ∧ kp' j = kp j) ∧
    ∀ post : Int32 → SY → Prop, post (ch_lv (ch_py wd iw sn sp m w p) vl (bf w) n) ((nI n), fr, ch_b b, upd mk n (nI m), upd wd n (nI w), vl, upd iw n (ch_b g), kn', sn', kp', bf, sp, st, aw, hd, ry, ln, fe, mv, ch_up rc m b, upd md m (md m + 1), lo, ch_up ra w b) → ∃ n53, wY_access_53 post (nI m) (nI w) (ch_b g) (nI p) (nI n) fr lr mk wd vl iw kn sn kp bf sp st aw hd ry ln fe mv rc md lo ra n53 0 (-1) 0 := by
  obtain ⟨kn', sn', kp', h1, h2, h3⟩ := y_a191 (n := n) (fr := fr) (lr := lr) (mk := mk) (wd := wd) (vl := vl) (iw := iw) (kn := kn) (sn := sn) (kp := kp) (bf := bf) (sp := sp) (st := st) (aw := aw) (hd := hd) (ry := ry) (ln := ln) (fe := fe) (mv := mv) (md := md) (lo := lo) (w := w) (x6 := ch_la (ch_py wd iw sn sp m w p) n) hn g b hm
  refine ⟨kn', sn', kp', h1, h2, fun post h => ⟨n + 1, y_a53 (by omega) g hm hp ?_ n 0 (by omega)⟩⟩
  have h4 : ∀ rc ra : Nat → Int32, post (ch_lv (ch_py wd iw sn sp m w p) vl (bf w) n) ((nI n), fr, ch_b b, upd mk n (nI m), upd wd n (nI w), vl, upd iw n (ch_b g), kn', sn', kp', bf, sp, st, aw, hd, ry, ln, fe, mv, rc, upd md m (md m + 1), lo, ra) → wY_access_191 post (nI m) (nI w) (ch_b g) (ch_b b) (ch_la (ch_py wd iw sn sp m w p) n) (nI n) fr lr mk wd vl iw kn sn kp bf sp st aw hd ry ln fe mv rc md lo ra := by
    intro rc ra h
    refine h3 rc ra post ?_
    rcases ch_lv_c (ch_py wd iw sn sp m w p) vl (bf w) n with ⟨a, c⟩ | ⟨i, hi, _, a, c⟩
    · rw [a]
      rw [c] at h
      refine br_f (by decide) ⟨vp_in_nI hw (by decide), ?_⟩
      rw [nI_clamp (n := w) (by omega)]
      exact h
    · rw [a]
      rw [c] at h
      refine br_t (nI_pos' (by omega)) ⟨vp_in_nI (by omega) (by decide), ?_⟩
      rw [nI_clamp (n := i) (by omega)]
      exact h
  refine br_t (nI_le (Nat.le_refl _) (by omega)) ?_
  rw [hb]
  cases b
  · exact br_t rfl (h4 rc ra h)
  · have i4 : vp_in (nI m) 4 := vp_in_nI hm (by decide)
    have a6 : vp_in (nI w) 64 := vp_in_nI hw (by decide)
    rw [nI_clamp (n := m) (by omega), nI_clamp (n := w) (by omega)]
    exact br_f (by decide) ⟨i4, i4, nm_e ⟨a6, a6, nm_e (h4 _ _ h)⟩⟩
theorem y_r71 {fk : Int32} {post : SY → Prop} {J : Int32 → (Nat → Int32) → (Nat → Int32) → (Nat → Int32) → (Nat → Int32) → (Nat → Int32) → (Nat → Int32) → (Nat → Int32) → (Nat → Int32) → (Nat → Int32) → (Nat → Int32) → (Nat → Int32) → (Nat → Int32) → (Nat → Int32) → (Nat → Int32) → (Nat → Int32) → (Nat → Int32) → (Nat → Int32) → (Nat → Int32) → (Nat → Int32) → (Nat → Int32) → Prop} {x1 x2 z : Int32} {i : Nat} (hi : i < 4) (f : z ≤ 0 → J (nI (i + 1)) mk wd vl iw kn sn kp bf sp st aw hd ry ln fe mv rc md lo ra) (t : ¬ z ≤ 0 → J (nI (i + 1)) mk wd vl iw kn sn kp bf sp st aw hd ry ln fe mv rc md (upd lo i (lo i + 1)) ra) : wY_reach_71 post J x1 x2 (nI i) z fk fr lr mk wd vl iw kn sn kp bf sp st aw hd ry ln fe mv rc md lo ra := by
  unfold wY_reach_71
  have i4 : vp_in (nI i) 4 := vp_in_nI hi (by decide)
  rw [nI_clamp (n := i) (by omega)]
  exact br_c (fun a => nm_r (nI_1 i) (f a)) (fun a => ⟨i4, i4, nm_e (nm_r (nI_1 i) (t a))⟩)
theorem ch_h2_le {m p : Int32} : ch_h2 mk wd iw m p n ≤ 0 ↔ ch_hv mk wd iw m p n = false := by
  unfold ch_h2
  cases e : ch_ow mk wd iw m p n
  · rw [if_neg (by decide)]
    cases ch_hv mk wd iw m p n <;> decide
  · rw [if_pos rfl, ch_ow_hv mk wd iw m p n e]
    decide
theorem y_r48 (hn : n ≤ 300) {m p : Nat} (hm : m < 4) : ∀ (d i : Nat) (lo : Nat → Int32), i + d = 4 → ∃ lo' : Nat → Int32, (∀ k, i ≤ k → k < 4 → lo' k = if ¬ k = m ∧ ch_hv mk wd iw (nI k) (nI p) n = true then lo k + 1 else lo k) ∧ (∀ j, (j < i ∨ 4 ≤ j) → lo' j = lo j) ∧ ∀ post : SY → Prop, post ((nI n), fr, lr, mk, wd, vl, iw, kn, sn, kp, bf, sp, st, aw, hd, ry, ln, fe, mv, rc, md, lo', ra) → wY_reach_48 post (nI m) (nI p) (nI n) fr lr (d + 1) (nI i) mk wd vl iw kn sn kp bf sp st aw hd ry ln fe mv rc md lo ra := by
  intro d
  induction d with
  | zero =>
    intro i lo hi
    have : i = 4 := by omega
    subst this
    exact ⟨lo, fun k h1 h2 => by omega, fun j _ => rfl, fun post h => br_t (nI_le (b := 4) (Nat.le_refl 4) (by decide)) h⟩
  | succ d ih =>
    intro i lo hi
    have gt : ¬ (4 : Int32) ≤ nI i := nI_ge (b := 4) (by omega) (by decide)
    by_cases q : ¬ i = m ∧ ch_hv mk wd iw (nI i) (nI p) n = true
    · obtain ⟨lo', h1, h2, h3⟩ := ih (i + 1) (upd lo i (lo i + 1)) (by omega)
      refine ⟨lo', fun k hk hk2 => ?_, fun j hj => ?_, fun post h => ?_⟩
      · by_cases z : k = i
        · subst z
          rw [h2 _ (by omega), pk_us, if_pos q]
        · rw [h1 k (by omega) hk2, pk_un z]
      · rw [h2 j (by omega), pk_un (by omega)]
      · have ne : ¬ nI i = nI m := fun e => q.1 ((nI_eq (by omega) (by omega)).mp e)
        refine br_f gt (br_f ne (y_hasPage hn ?_))
        refine y_r71 (by omega) (fun a => ?_) (fun _ => h3 post h)
        rw [ch_h2_le, q.2] at a
        cases a
    · obtain ⟨lo', h1, h2, h3⟩ := ih (i + 1) lo (by omega)
      refine ⟨lo', fun k hk hk2 => ?_, fun j hj => h2 j (by omega), fun post h => ?_⟩
      · by_cases z : k = i
        · subst z
          rw [h2 _ (by omega), if_neg q]
        · exact h1 k (by omega) hk2
      · refine br_f gt (br_c (fun _ => y_r71 (by omega) (fun _ => h3 post h) (fun a => absurd (by decide) a)) (fun ne => y_hasPage hn ?_))
        have e : ch_hv mk wd iw (nI i) (nI p) n = false := ch_nt (fun z => q ⟨fun e => ne (by rw [e]), z⟩)
        exact y_r71 (by omega) (fun _ => h3 post h) (fun a => absurd (ch_h2_le.mpr e) a)
end ay
end
section
/-! an access: both sides -/
theorem ch_Tlo {ty ty2 fe mv rc md lo lo2 : Nat → Int32} (D : Nat → Prop) (TT : ch_T ty fe mv rc md lo) (h1 : ∀ j, (∀ k, 0 ≤ k → k < 4 → ¬ j = 5 * k + 4) → ty2 j = ty j) (h2 : ∀ k, k < 4 → (D k → ty2 (5 * k + 4) = ty (5 * k + 4) + 1 ∧ lo2 k = lo k + 1) ∧ (¬ D k → ty2 (5 * k + 4) = ty (5 * k + 4) ∧ lo2 k = lo k)) : ch_T ty2 fe mv rc md lo2 := by
  intro k hk
  obtain ⟨t0, t1, t2, t3, t4⟩ := TT k hk
  rw [h1 _ (fun j _ _ => by omega), h1 (5 * k + 1) (fun j _ _ => by omega), h1 (5 * k + 2) (fun j _ _ => by omega), h1 (5 * k + 3) (fun j _ _ => by omega)]
  refine ⟨t0, t1, t2, t3, ?_⟩
  by_cases z : D k
  · obtain ⟨a, b⟩ := (h2 k hk).1 z
    rw [a, b, t4]
  · obtain ⟨a, b⟩ := (h2 k hk).2 z
    rw [a, b, t4]
section ac
variable {n : Nat} {fr lr : Int32} {st aw ty hd ro ln sp bf ra mk wd iw wr kw sr vl kn sn kp ry fe mv rc md lo : Nat → Int32}
variable {L : Nat → Nat} {T : Nat → Nat → Nat}
theorem v_strict (hn : n ≤ 300) (TT : ch_T ty fe mv rc md lo) {m p : Nat} (g : Bool) (hm : m < 4) (hp : p < 8) (hs : ¬ sp p = 0) : ∃ ty2 lo2 : Nat → Int32, ch_T ty2 fe mv rc md lo2 ∧ (g = false → ty2 = ty) ∧ (g = true → ∀ post : SX → Prop, post ((nI n), fr, st, aw, ty2, hd, ro, ln, sp, bf, ra, mk, wd, iw, wr, kw, sr) → wpX_takeFromOthers post ((nI n), fr, st, aw, ty, hd, ro, ln, sp, bf, ra, mk, wd, iw, wr, kw, sr) (nI m) (nI p)) ∧ (∀ post : SY → Prop, post ((nI n), fr, lr, mk, wd, vl, iw, kn, sn, kp, bf, sp, st, aw, hd, ry, ln, fe, mv, rc, md, lo2, ra) → wY_reach_34 post (nI m) (nI p) (ch_b g) (ch_h2 mk wd iw (nI m) (nI p) n) (nI n) fr lr mk wd vl iw kn sn kp bf sp st aw hd ry ln fe mv rc md lo ra) := by
  cases g
  · exact ⟨ty, lo, TT, fun _ => rfl, fun z => (by cases z), fun post h => br_t rfl h⟩
  · obtain ⟨ty2, h1, h2, h3⟩ := x_take_12 (n := n) (fr := fr) (st := st) (aw := aw) (hd := hd) (ro := ro) (ln := ln) (sp := sp) (bf := bf) (ra := ra) (mk := mk) (wd := wd) (iw := iw) (wr := wr) (kw := kw) (sr := sr) (p := p) hn hm 4 0 ty (by omega)
    have hX : ∀ post : SX → Prop, post ((nI n), fr, st, aw, ty2, hd, ro, ln, sp, bf, ra, mk, wd, iw, wr, kw, sr) → wpX_takeFromOthers post ((nI n), fr, st, aw, ty, hd, ro, ln, sp, bf, ra, mk, wd, iw, wr, kw, sr) (nI m) (nI p) := by
      intro post h
      unfold wpX_takeFromOthers
      dsimp only
      rw [nI_clamp (n := p) (by omega)]
      exact ⟨vp_in_nI hp (by decide), br_f hs ⟨5, h3 post h⟩⟩
    cases e : ch_ow mk wd iw (nI m) (nI p) n
    · obtain ⟨lo2, g1, g2, g3⟩ := y_r48 (n := n) (fr := fr) (lr := lr) (mk := mk) (wd := wd) (vl := vl) (iw := iw) (kn := kn) (sn := sn) (kp := kp) (bf := bf) (sp := sp) (st := st) (aw := aw) (hd := hd) (ry := ry) (ln := ln) (fe := fe) (mv := mv) (rc := rc) (md := md) (ra := ra) (p := p) hn hm 4 0 lo (by omega)
      refine ⟨ty2, lo2, ?_, fun z => (by cases z), fun _ => hX, fun post h => br_f (by decide) (br_f ?_ ⟨5, g3 post h⟩)⟩
      · refine ch_Tlo (fun k => ¬ k = m ∧ ch_hv mk wd iw (nI k) (nI p) n = true) TT h2 (fun k hk => ⟨fun z => ?_, fun z => ?_⟩)
        · exact ⟨(h1 k (Nat.zero_le k) hk).trans (if_pos z), (g1 k (Nat.zero_le k) hk).trans (if_pos z)⟩
        · exact ⟨(h1 k (Nat.zero_le k) hk).trans (if_neg z), (g1 k (Nat.zero_le k) hk).trans (if_neg z)⟩
      · unfold ch_h2
        rw [e, if_neg (by decide)]
        cases ch_hv mk wd iw (nI m) (nI p) n <;> decide
    · refine ⟨ty2, lo, ?_, fun z => (by cases z), fun _ => hX, fun post h => br_f (by decide) (br_t ?_ h)⟩
      · refine ch_Tlo (fun _ => False) TT h2 (fun k hk => ⟨fun z => z.elim, fun _ => ⟨(h1 k (Nat.zero_le k) hk).trans (if_neg ?_), rfl⟩⟩)
        rintro ⟨a, b⟩
        rw [ch_ow_no mk wd iw (nI m) (nI k) (nI p) (fun z => a ((nI_eq (by omega) (by omega)).mp z)) n e] at b
        cases b
      · unfold ch_h2
        rw [e, if_pos rfl]
theorem v_page (A : ch_A n mk wd iw wr vl) (K : ch_K n mk iw hd kw sr kn sn kp) (TT : ch_T ty fe mv rc md lo) {m p : Nat} (g : Bool) (hm : m < 4) (hp : p < 8) : ∃ ty1 sr1 ty2 sn1 fe1 mv1 lo1 : Nat → Int32, ch_K n mk iw hd kw sr1 kn sn1 kp ∧ ch_T ty2 fe1 mv1 rc md lo1 ∧ (g = false → ty2 = ty1) ∧ (∀ post : SX → Prop, post ((nI n), fr, st, aw, ty1, hd, ro, ln, sp, bf, ra, mk, wd, iw, wr, kw, sr1) → wpX_bringPage post ((nI n), fr, st, aw, ty, hd, ro, ln, sp, bf, ra, mk, wd, iw, wr, kw, sr) (nI m) (nI p)) ∧ (g = true → ∀ post : SX → Prop, post ((nI n), fr, st, aw, ty2, hd, ro, ln, sp, bf, ra, mk, wd, iw, wr, kw, sr1) → wpX_takeFromOthers post ((nI n), fr, st, aw, ty1, hd, ro, ln, sp, bf, ra, mk, wd, iw, wr, kw, sr1) (nI m) (nI p)) ∧ (∀ (post : Int32 → SY → Prop) (w : Nat), nI w / 8 = nI p → (∃ n53, wY_access_53 post (nI m) (nI w) (ch_b g) (nI p) (nI n) fr lr mk wd vl iw kn sn1 kp bf sp st aw hd ry ln fe1 mv1 rc md lo1 ra n53 0 (-1) 0) → wpY_access post ((nI n), fr, lr, mk, wd, vl, iw, kn, sn, kp, bf, sp, st, aw, hd, ry, ln, fe, mv, rc, md, lo, ra) (nI m) (nI w) (ch_b g)) := by
  have i8 : vp_in (nI p) 8 := vp_in_nI hp (by decide)
  by_cases s : sp p = 0
  · have ht : ∀ (ty1 sr1 : Nat → Int32) (post : SX → Prop), post ((nI n), fr, st, aw, ty1, hd, ro, ln, sp, bf, ra, mk, wd, iw, wr, kw, sr1) → wpX_takeFromOthers post ((nI n), fr, st, aw, ty1, hd, ro, ln, sp, bf, ra, mk, wd, iw, wr, kw, sr1) (nI m) (nI p) := by
      intro ty1 sr1 post h
      unfold wpX_takeFromOthers
      dsimp only
      rw [nI_clamp (n := p) (by omega)]
      exact ⟨i8, br_t s h⟩
    have ea : ch_any (fun j => decide (wd j / 8 = nI p) && ch_fy iw kn sn m j) n = ch_any (fun j => decide (wd j / 8 = nI p) && ch_fx iw kw sr m j) n := ch_any_e (fun i hi => by rw [ch_fxy A K hm hi])
    cases e : (decide (sp p = 0) && ch_any (fun j => decide (wd j / 8 = nI p) && ch_fx iw kw sr m j) n)
    · refine ⟨ty, sr, ty, sn, fe, mv, lo, K, TT, fun _ => rfl, fun post h => ?_, fun _ => ht ty sr, fun post w hw h => ?_⟩
      · unfold wpX_bringPage
        dsimp only
        rw [nI_clamp (n := p) (by omega)]
        refine ⟨i8, br_t s (x_isStale A.1 hm hp ?_)⟩
        rw [e]
        exact br_t rfl h
      · unfold wpY_access
        dsimp only
        refine ⟨by decide, nm_r hw ⟨i8, ?_⟩⟩
        rw [nI_clamp (n := p) (by omega)]
        refine br_t s (y_isStale A.1 hm hp ?_)
        rw [ea, e]
        exact br_t rfl h
    · obtain ⟨ty1, sr1, sn1, fe1, mv1, K1, TT1, X1, Y1⟩ := v_fetch (fr := fr) (lr := lr) (st := st) (aw := aw) (ro := ro) (ln := ln) (sp := sp) (bf := bf) (ra := ra) (ry := ry) A K TT hm hp
      refine ⟨ty1, sr1, ty1, sn1, fe1, mv1, lo, K1, TT1, fun _ => rfl, fun post h => ?_, fun _ => ht ty1 sr1, fun post w hw h => ?_⟩
      · unfold wpX_bringPage
        dsimp only
        rw [nI_clamp (n := p) (by omega)]
        refine ⟨i8, br_t s (x_isStale A.1 hm hp ?_)⟩
        rw [e]
        exact br_f (by decide) (X1 _ h)
      · unfold wpY_access
        dsimp only
        refine ⟨by decide, nm_r hw ⟨i8, ?_⟩⟩
        rw [nI_clamp (n := p) (by omega)]
        refine br_t s (y_isStale A.1 hm hp ?_)
        rw [ea, e]
        exact br_f (by decide) (Y1 _ h)
  · have i4 : vp_in (nI m) 4 := vp_in_nI hm (by decide)
    cases e : ch_hv mk wd iw (nI m) (nI p) n
    · have e0 : ch_h2 mk wd iw (nI m) (nI p) n = 0 := by
        unfold ch_h2
        rw [if_neg (fun z => by rw [ch_ow_hv mk wd iw (nI m) (nI p) n z] at e; cases e), e]
        rfl
      have TT1 : ch_T (ch_cf ty m 8) (upd fe m (fe m + 1)) (upd mv m (mv m + 8)) rc md lo := ch_Tcf TT pk_us (fun j hj => pk_un hj) pk_us (fun j hj => pk_un hj)
      obtain ⟨ty2, lo2, TT2, z0, z1, z2⟩ := v_strict (fr := fr) (lr := lr) (st := st) (aw := aw) (hd := hd) (ro := ro) (ln := ln) (sp := sp) (bf := bf) (ra := ra) (mk := mk) (wd := wd) (iw := iw) (wr := wr) (kw := kw) (sr := sr) (vl := vl) (kn := kn) (sn := sn) (kp := kp) (ry := ry) A.1 TT1 g hm hp s
      refine ⟨ch_cf ty m 8, sr, ty2, sn, _, _, lo2, K, TT2, z0, fun post h => ?_, z1, fun post w hw h => ?_⟩
      · unfold wpX_bringPage
        dsimp only
        rw [nI_clamp (n := p) (by omega)]
        refine ⟨i8, br_f s (x_hasPage A.1 ?_)⟩
        rw [e]
        exact br_t rfl (x_countFetch hm h)
      · unfold wpY_access
        dsimp only
        refine ⟨by decide, nm_r hw ⟨i8, ?_⟩⟩
        rw [nI_clamp (n := p) (by omega)]
        refine br_f s ?_
        unfold wpY_reach
        dsimp only
        refine y_hasPage A.1 ?_
        rw [nI_clamp (n := m) (by omega)]
        exact br_t e0 ⟨i4, i4, nm_e ⟨i4, i4, nm_e (z2 _ h)⟩⟩
    · have e0 : ¬ ch_h2 mk wd iw (nI m) (nI p) n = 0 := by
        unfold ch_h2
        rw [e]
        split <;> decide
      obtain ⟨ty2, lo2, TT2, z0, z1, z2⟩ := v_strict (fr := fr) (lr := lr) (st := st) (aw := aw) (hd := hd) (ro := ro) (ln := ln) (sp := sp) (bf := bf) (ra := ra) (mk := mk) (wd := wd) (iw := iw) (wr := wr) (kw := kw) (sr := sr) (vl := vl) (kn := kn) (sn := sn) (kp := kp) (ry := ry) A.1 TT g hm hp s
      refine ⟨ty, sr, ty2, sn, fe, mv, lo2, K, TT2, z0, fun post h => ?_, z1, fun post w hw h => ?_⟩
      · unfold wpX_bringPage
        dsimp only
        rw [nI_clamp (n := p) (by omega)]
        refine ⟨i8, br_f s (x_hasPage A.1 ?_)⟩
        rw [e]
        exact br_f (by decide) h
      · unfold wpY_access
        dsimp only
        refine ⟨by decide, nm_r hw ⟨i8, ?_⟩⟩
        rw [nI_clamp (n := p) (by omega)]
        refine br_f s ?_
        unfold wpY_reach
        dsimp only
        refine y_hasPage A.1 ?_
        exact br_f e0 (z2 _ h)
theorem ch_rxy (A : ch_A n mk wd iw wr vl) (K : ch_K n mk iw hd kw sr kn sn kp) {m w : Nat} (g : Bool) (hm : m < 4) : ch_any (ch_ry mk wd iw kn m w g) n = ch_any (ch_rx wd iw kw m w g) n := by
  refine ch_any_e (fun i hi => ?_)
  unfold ch_ry ch_rx
  rw [K.1 m i hm hi]
  by_cases z : mk i = nI m
  · rw [K.2.2.2.1 m i hm hi z, z]
    simp
  · rw [decide_eq_true z, Bool.true_and]
    cases bt (kw i) m <;> rfl
theorem ch_pxy (A : ch_A n mk wd iw wr vl) (K : ch_K n mk iw hd kw sr kn sn kp) {m w p : Nat} (hm : m < 4) (v0 : Int32) : ch_lv (ch_py wd iw sn sp m w p) vl v0 n = ch_lv (ch_px wd iw sr sp m w p) wr v0 n := by
  have e : ∀ i, i < n → ch_py wd iw sn sp m w p i = ch_px wd iw sr sp m w p i := by
    intro i hi
    unfold ch_py ch_qy ch_px
    rcases A.2.2.2.1 i hi with z | z
    · rw [z]
      simp
    · rw [K.2.2.1 m i hm hi z, z]
      cases bt (sr i) m <;> simp [ch_b]
  refine ch_lv_e v0 n e (fun i hi h => ?_)
  rw [e i hi] at h
  unfold ch_px at h
  rcases A.2.2.2.1 i hi with z | z
  · rw [z] at h
    simp at h
  · exact (A.2.2.2.2 i hi z).symm
theorem v_access (R : ch_R n L T st aw ty hd ro ln mk wd iw wr kw sr vl kn sn kp ry fe mv rc md lo) (hn : n < 300) {m w : Nat} (g : Bool) (hm : m < 4) (hw : w < 64) :
    ∃ (val : Int32) (b : Bool) (ty1 sr1 ty2 fe1 mv1 lo1 kn1 sn1 kp1 : Nat → Int32),
      (∀ v v2 : Int32, (g = true → v = v2) → ch_R (n + 1) L T st aw (ch_kt ty2 m b) hd ro ln (upd mk n (nI m)) (upd wd n (nI w)) (upd iw n (ch_b g)) (upd wr n v) (upd kw n ((1 : Int32) <<< (nI m &&& 31))) (upd sr1 n ((1 : Int32) <<< (nI m &&& 31))) (upd vl n v2) kn1 sn1 kp1 ry fe1 mv1 (ch_up rc m b) (upd md m (md m + 1)) lo1) ∧
      (g = false → ty2 = ty1) ∧
      (∀ post : SX → Prop, post ((nI n), fr, st, aw, ty1, hd, ro, ln, sp, bf, ra, mk, wd, iw, wr, kw, sr1) → wpX_bringPage post ((nI n), fr, st, aw, ty, hd, ro, ln, sp, bf, ra, mk, wd, iw, wr, kw, sr) (nI m) (nI w / 8)) ∧
      (∀ post : Int32 → Prop, post val → wpX_valueAt post ((nI n), fr, st, aw, ty1, hd, ro, ln, sp, bf, ra, mk, wd, iw, wr, kw, sr1) (nI m) (nI w)) ∧
      (g = true → ∀ post : SX → Prop, post ((nI n), fr, st, aw, ty2, hd, ro, ln, sp, bf, ra, mk, wd, iw, wr, kw, sr1) → wpX_takeFromOthers post ((nI n), fr, st, aw, ty1, hd, ro, ln, sp, bf, ra, mk, wd, iw, wr, kw, sr1) (nI m) (nI w / 8)) ∧
      (∀ (v : Int32) (post : Int32 → SX → Prop), post (ch_b b) (nI (n + 1), fr, st, aw, ch_kt ty2 m b, hd, ro, ln, sp, bf, ch_up ra w b, upd mk n (nI m), upd wd n (nI w), upd iw n (ch_b g), upd wr n v, upd kw n ((1 : Int32) <<< (nI m &&& 31)), upd sr1 n ((1 : Int32) <<< (nI m &&& 31))) → wpX_keepAccess post ((nI n), fr, st, aw, ty2, hd, ro, ln, sp, bf, ra, mk, wd, iw, wr, kw, sr1) (nI m) (nI w) (ch_b g) v) ∧
      (∀ post : Int32 → SY → Prop, post val ((nI n), fr, ch_b b, upd mk n (nI m), upd wd n (nI w), vl, upd iw n (ch_b g), kn1, sn1, kp1, bf, sp, st, aw, hd, ry, ln, fe1, mv1, ch_up rc m b, upd md m (md m + 1), lo1, ch_up ra w b) → wpY_access post ((nI n), fr, lr, mk, wd, vl, iw, kn, sn, kp, bf, sp, st, aw, hd, ry, ln, fe, mv, rc, md, lo, ra) (nI m) (nI w) (ch_b g)) := by
  obtain ⟨A, K, Q, WX, WY, TT⟩ := R
  have e8 := ch_w8 hw
  obtain ⟨ty1, sr1, ty2, sn0, fe1, mv1, lo1, K1, TT1, z0, z1, z2, z3⟩ := v_page (fr := fr) (lr := lr) (st := st) (aw := aw) (ro := ro) (ln := ln) (sp := sp) (bf := bf) (ra := ra) (ry := ry) A K TT (p := w / 8) g hm (by omega)
  obtain ⟨kn1, sn1, kp1, h1, h2, h3⟩ := y_acc (n := n) (fr := fr) (lr := lr) (mk := mk) (wd := wd) (vl := vl) (iw := iw) (kn := kn) (sn := sn0) (kp := kp) (bf := bf) (sp := sp) (st := st) (aw := aw) (hd := hd) (ry := ry) (ln := ln) (fe := fe1) (mv := mv1) (rc := rc) (md := md) (lo := lo1) (ra := ra) (p := w / 8) hn g _ hm hw (by omega) rfl
  rw [ch_rxy A K1 g hm, ch_pxy A K1 hm] at h3
  refine ⟨ch_lv (ch_px wd iw sr1 sp m w (w / 8)) wr (bf w) n, ch_any (ch_rx wd iw kw m w g) n, ty1, sr1, ty2, fe1, mv1, lo1, kn1, sn1, kp1, ?_, z0, ?_, ?_, ?_, ?_, ?_⟩
  · intro v v2 hv
    refine ⟨ch_Anew A hn hm hw ?_ (fun q => hv (ch_b_1.mp q)), ?_, Q, WX, WY, ch_Tkt _ TT1⟩
    · cases g
      · exact Or.inl rfl
      · exact Or.inr rfl
    · refine ch_Knew K1 hn hm rfl (fun q hq => ?_) (fun j hj => (h2 j hj).1) (fun y q hq => ?_) (fun j hj => (h2 j hj).2.1) (fun q hq => (h1 q hq).2.2) (fun j hj => (h2 j hj).2.2)
      · rw [(h1 q hq).1]
        by_cases z : q = m
        · rw [decide_eq_true z, if_pos z]; rfl
        · rw [decide_eq_false z, if_neg z]; rfl
      · rw [(h1 q hq).2.1, ch_b_1.mp y, Bool.and_true]
        by_cases z : q = m
        · rw [decide_eq_true z, if_pos z]; rfl
        · rw [decide_eq_false z, if_neg z]; rfl
  · rw [e8]
    exact z1
  · exact fun post h => x_valueAt A.1 hm hw h
  · rw [e8]
    exact z2
  · exact fun v post h => x_keepAccess hn hm hw rfl h
  · exact fun post h => z3 post w e8 (h3 post h)
theorem ch_full (hn : n ≤ 300) (h : ¬ n < 300) : (nI n : Int32) = 300 := by
  have : n = 300 := by omega
  subst this
  rfl
theorem v_read {k : Nat} (R : ch_R n L T st aw ty hd ro ln mk wd iw wr kw sr vl kn sn kp ry fe mv rc md lo) (v1 v2 : Int32) : ∃ (r : Int64) (u' : SX) (v' : SY), i_Rel k u' v' ∧ (∀ post : Int64 → SX → Prop, post r u' → wpX_read post ((nI n), fr, st, aw, ty, hd, ro, ln, sp, bf, ra, mk, wd, iw, wr, kw, sr) v1 v2) ∧ (∀ post : Int64 → SY → Prop, post r v' → wpY_read post ((nI n), fr, lr, mk, wd, vl, iw, kn, sn, kp, bf, sp, st, aw, hd, ry, ln, fe, mv, rc, md, lo, ra) v1 v2) := by
  have hn3 := R.1.1
  by_cases a : ch_run st v1
  · by_cases b : ch_rg 64 v2
    · by_cases hn : n < 300
      · have a2 := a
        have b2 := b
        obtain ⟨m, hm, rfl, hs⟩ := a2
        obtain ⟨w, hw, rfl⟩ := b2
        obtain ⟨val, f, ty1, sr1, ty2, fe1, mv1, lo1, kn1, sn1, kp1, R2, z0, zb, zv, zt, zk, zy⟩ := v_access (fr := fr) (lr := lr) (sp := sp) (bf := bf) (ra := ra) R hn false hm hw
        have z0 := z0 rfl
        subst z0
        refine ⟨val.toInt64, _, _, ch_mk fr (ch_b f) sp bf (ch_up ra w f) (R2 0 val (fun z => (by cases z))), fun post h => ?_, fun post h => ?_⟩
        · unfold wpX_read
          dsimp only
          refine x_mayAccess (fun _ _ => br_f (by decide) (br_t (nI_lt (b := 300) hn (by decide)) ⟨by decide, ?_⟩)) (fun z => absurd ⟨a, b⟩ z)
          exact zb _ (zv _ (zk 0 _ h))
        · unfold wpY_read
          dsimp only
          refine y_runs (fun _ => br_f (by decide) ?_) (fun z => absurd a z)
          refine y_in (N := 64) rfl (by decide) (fun _ => br_f (by decide) ?_) (fun z => absurd b z)
          have ne : ¬ (nI n : Int32) = 300 := fun e => absurd ((nI_eq (b := 300) (by omega) (by decide)).mp e) (by omega)
          refine br_f ne (zy _ ?_)
          dsimp only
          rw [nI_clamp (n := n) (by omega)]
          exact nm_r (nI_1 n) ⟨vp_in_nI hn (by decide), nm_e h⟩
      · refine ⟨-10000000000, _, _, ch_mk fr lr sp bf ra R, fun post h => ?_, fun post h => ?_⟩
        · unfold wpX_read
          dsimp only
          exact x_mayAccess (fun _ _ => br_f (by decide) (br_f (nI_nlt (b := 300) (by omega) (by omega)) h)) (fun z => absurd ⟨a, b⟩ z)
        · unfold wpY_read
          dsimp only
          refine y_runs (fun _ => br_f (by decide) ?_) (fun z => absurd a z)
          exact y_in (N := 64) rfl (by decide) (fun _ => br_f (by decide) (br_t (ch_full hn3 hn) h)) (fun z => absurd b z)
    · refine ⟨-10000000000, _, _, ch_mk fr lr sp bf ra R, fun post h => ?_, fun post h => ?_⟩
      · unfold wpX_read
        dsimp only
        exact x_mayAccess (fun _ z => absurd z b) (fun _ => br_t rfl h)
      · unfold wpY_read
        dsimp only
        refine y_runs (fun _ => br_f (by decide) ?_) (fun z => absurd a z)
        exact y_in (N := 64) rfl (by decide) (fun z => absurd z b) (fun _ => br_t rfl h)
  · refine ⟨-10000000000, _, _, ch_mk fr lr sp bf ra R, fun post h => ?_, fun post h => ?_⟩
    · unfold wpX_read
      dsimp only
      exact x_mayAccess (fun z _ => absurd z a) (fun _ => br_t rfl h)
    · unfold wpY_read
      dsimp only
      exact y_runs (fun z => absurd z a) (fun _ => br_t rfl h)
theorem v_add {k : Nat} (R : ch_R n L T st aw ty hd ro ln mk wd iw wr kw sr vl kn sn kp ry fe mv rc md lo) (v1 v2 v3 : Int32) : ∃ (r : Int64) (u' : SX) (v' : SY), i_Rel k u' v' ∧ (∀ post : Int64 → SX → Prop, post r u' → wpX_add post ((nI n), fr, st, aw, ty, hd, ro, ln, sp, bf, ra, mk, wd, iw, wr, kw, sr) v1 v2 v3) ∧ (∀ post : Int64 → SY → Prop, post r v' → wpY_add post ((nI n), fr, lr, mk, wd, vl, iw, kn, sn, kp, bf, sp, st, aw, hd, ry, ln, fe, mv, rc, md, lo, ra) v1 v2 v3) := by
  have hn3 := R.1.1
  by_cases a : ch_run st v1
  · by_cases b : ch_rg 64 v2
    · by_cases hn : n < 300
      · have a2 := a
        have b2 := b
        obtain ⟨m, hm, rfl, hs⟩ := a2
        obtain ⟨w, hw, rfl⟩ := b2
        obtain ⟨val, f, ty1, sr1, ty2, fe1, mv1, lo1, kn1, sn1, kp1, R2, z0, zb, zv, zt, zk, zy⟩ := v_access (fr := fr) (lr := lr) (sp := sp) (bf := bf) (ra := ra) R hn true hm hw
        refine ⟨val.toInt64, _, _, ch_mk fr (ch_b f) sp bf (ch_up ra w f) (R2 (val + v3) (val + v3) (fun _ => rfl)), fun post h => ?_, fun post h => ?_⟩
        · unfold wpX_add
          dsimp only
          refine x_mayAccess (fun _ _ => br_f (by decide) (br_t (nI_lt (b := 300) hn (by decide)) ⟨by decide, ?_⟩)) (fun z => absurd ⟨a, b⟩ z)
          exact zb _ (zv _ ⟨by decide, zt rfl _ (zk (val + v3) _ h)⟩)
        · unfold wpY_add
          dsimp only
          refine y_runs (fun _ => br_f (by decide) ?_) (fun z => absurd a z)
          refine y_in (N := 64) rfl (by decide) (fun _ => br_f (by decide) ?_) (fun z => absurd b z)
          have ne : ¬ (nI n : Int32) = 300 := fun e => absurd ((nI_eq (b := 300) (by omega) (by decide)).mp e) (by omega)
          refine br_f ne (zy _ ?_)
          dsimp only
          rw [nI_clamp (n := n) (by omega)]
          exact nm_r (nI_1 n) ⟨vp_in_nI hn (by decide), nm_e h⟩
      · refine ⟨-10000000000, _, _, ch_mk fr lr sp bf ra R, fun post h => ?_, fun post h => ?_⟩
        · unfold wpX_add
          dsimp only
          exact x_mayAccess (fun _ _ => br_f (by decide) (br_f (nI_nlt (b := 300) (by omega) (by omega)) h)) (fun z => absurd ⟨a, b⟩ z)
        · unfold wpY_add
          dsimp only
          refine y_runs (fun _ => br_f (by decide) ?_) (fun z => absurd a z)
          exact y_in (N := 64) rfl (by decide) (fun _ => br_f (by decide) (br_t (ch_full hn3 hn) h)) (fun z => absurd b z)
    · refine ⟨-10000000000, _, _, ch_mk fr lr sp bf ra R, fun post h => ?_, fun post h => ?_⟩
      · unfold wpX_add
        dsimp only
        exact x_mayAccess (fun _ z => absurd z b) (fun _ => br_t rfl h)
      · unfold wpY_add
        dsimp only
        refine y_runs (fun _ => br_f (by decide) ?_) (fun z => absurd a z)
        exact y_in (N := 64) rfl (by decide) (fun z => absurd z b) (fun _ => br_t rfl h)
  · refine ⟨-10000000000, _, _, ch_mk fr lr sp bf ra R, fun post h => ?_, fun post h => ?_⟩
    · unfold wpX_add
      dsimp only
      exact x_mayAccess (fun z _ => absurd z a) (fun _ => br_t rfl h)
    · unfold wpY_add
      dsimp only
      exact y_runs (fun z => absurd z a) (fun _ => br_t rfl h)
theorem v_write {k : Nat} (R : ch_R n L T st aw ty hd ro ln mk wd iw wr kw sr vl kn sn kp ry fe mv rc md lo) (v1 v2 v3 : Int32) : ∃ (r : Int32) (u' : SX) (v' : SY), i_Rel k u' v' ∧ (∀ post : Int32 → SX → Prop, post r u' → wpX_write post ((nI n), fr, st, aw, ty, hd, ro, ln, sp, bf, ra, mk, wd, iw, wr, kw, sr) v1 v2 v3) ∧ (∀ post : Int32 → SY → Prop, post r v' → wpY_write post ((nI n), fr, lr, mk, wd, vl, iw, kn, sn, kp, bf, sp, st, aw, hd, ry, ln, fe, mv, rc, md, lo, ra) v1 v2 v3) := by
  have hn3 := R.1.1
  by_cases a : ch_run st v1
  · by_cases b : ch_rg 64 v2
    · by_cases hn : n < 300
      · have a2 := a
        have b2 := b
        obtain ⟨m, hm, rfl, hs⟩ := a2
        obtain ⟨w, hw, rfl⟩ := b2
        obtain ⟨val, f, ty1, sr1, ty2, fe1, mv1, lo1, kn1, sn1, kp1, R2, z0, zb, zv, zt, zk, zy⟩ := v_access (fr := fr) (lr := lr) (sp := sp) (bf := bf) (ra := ra) R hn true hm hw
        refine ⟨ch_b f, _, _, ch_mk fr (ch_b f) sp bf (ch_up ra w f) (R2 v3 v3 (fun _ => rfl)), fun post h => ?_, fun post h => ?_⟩
        · unfold wpX_write
          dsimp only
          refine x_mayAccess (fun _ _ => br_f (by decide) (br_t (nI_lt (b := 300) hn (by decide)) ⟨by decide, ?_⟩)) (fun z => absurd ⟨a, b⟩ z)
          refine zb _ ⟨by decide, zt rfl _ (zk v3 _ ?_)⟩
          dsimp only
          cases f
          · exact br_t rfl h
          · exact br_f (by decide) h
        · unfold wpY_write
          dsimp only
          refine y_runs (fun _ => br_f (by decide) ?_) (fun z => absurd a z)
          refine y_in (N := 64) rfl (by decide) (fun _ => br_f (by decide) ?_) (fun z => absurd b z)
          have ne : ¬ (nI n : Int32) = 300 := fun e => absurd ((nI_eq (b := 300) (by omega) (by decide)).mp e) (by omega)
          refine br_f ne (zy _ ?_)
          dsimp only
          rw [nI_clamp (n := n) (by omega)]
          refine nm_r (nI_1 n) ⟨vp_in_nI hn (by decide), nm_e ?_⟩
          cases f
          · exact br_t rfl h
          · exact br_f (by decide) h
      · refine ⟨-2, _, _, ch_mk fr lr sp bf ra R, fun post h => ?_, fun post h => ?_⟩
        · unfold wpX_write
          dsimp only
          exact x_mayAccess (fun _ _ => br_f (by decide) (br_f (nI_nlt (b := 300) (by omega) (by omega)) h)) (fun z => absurd ⟨a, b⟩ z)
        · unfold wpY_write
          dsimp only
          refine y_runs (fun _ => br_f (by decide) ?_) (fun z => absurd a z)
          exact y_in (N := 64) rfl (by decide) (fun _ => br_f (by decide) (br_t (ch_full hn3 hn) h)) (fun z => absurd b z)
    · refine ⟨-1, _, _, ch_mk fr lr sp bf ra R, fun post h => ?_, fun post h => ?_⟩
      · unfold wpX_write
        dsimp only
        exact x_mayAccess (fun _ z => absurd z b) (fun _ => br_t rfl h)
      · unfold wpY_write
        dsimp only
        refine y_runs (fun _ => br_f (by decide) ?_) (fun z => absurd a z)
        exact y_in (N := 64) rfl (by decide) (fun z => absurd z b) (fun _ => br_t rfl h)
  · refine ⟨-1, _, _, ch_mk fr lr sp bf ra R, fun post h => ?_, fun post h => ?_⟩
    · unfold wpX_write
      dsimp only
      exact x_mayAccess (fun z _ => absurd z a) (fun _ => br_t rfl h)
    · unfold wpY_write
      dsimp only
      exact y_runs (fun z => absurd z a) (fun _ => br_t rfl h)
end ac
end
section
/-! what is owed -/
section ow
variable {n : Nat} {fr lr : Int32} {st aw ty hd ro ln sp bf ra mk wd iw wr kw sr vl kn sn kp ry fe mv rc md lo : Nat → Int32}
theorem x_init {fk : Int32} {post : SX → Prop} {hd' : Nat → Int32} (hp : post (fk, fr, st, aw, ty, hd', ro, ln, sp, bf, ra, mk, wd, iw, wr, kw, sr)) : ∀ (d i : Nat) (hd : Nat → Int32), i + d = 4 → (∀ j, hd' j = if i ≤ j ∧ j < 4 then -1 else hd j) → wX_init_139 post fk fr (d + 1) (nI i) st aw ty hd ro ln sp bf ra mk wd iw wr kw sr := by
  intro d
  induction d with
  | zero =>
    intro i hd hi hk
    have : i = 4 := by omega
    subst this
    have e : hd' = hd := by
      funext j
      rw [hk j, if_neg (by omega)]
    rw [e] at hp
    exact br_t (nI_le (b := 4) (Nat.le_refl 4) (by decide)) hp
  | succ d ih =>
    intro i hd hi hk
    refine br_f (nI_ge (b := 4) (by omega) (by decide)) ⟨vp_in_nI (by omega) (by decide), ?_⟩
    rw [nI_clamp (by omega)]
    refine nm_e (nm_r (nI_1 i) (ih (i + 1) _ (by omega) ?_))
    intro j
    rw [hk j]
    by_cases z : j = i
    · subst z
      rw [if_pos (by omega), if_neg (by omega), pk_us]
    · rw [pk_un z]
      by_cases y : i ≤ j ∧ j < 4
      · rw [if_pos y, if_pos (by omega)]
      · rw [if_neg y, if_neg (by omega)]
theorem y_init {fk : Int32} {post : SY → Prop} {hd' : Nat → Int32} (hp : post (fk, fr, lr, mk, wd, vl, iw, kn, sn, kp, bf, sp, st, aw, hd', ry, ln, fe, mv, rc, md, lo, ra)) : ∀ (d i : Nat) (hd : Nat → Int32), i + d = 4 → (∀ j, hd' j = if i ≤ j ∧ j < 4 then -1 else hd j) → wY_init_165 post fk fr lr (d + 1) (nI i) mk wd vl iw kn sn kp bf sp st aw hd ry ln fe mv rc md lo ra := by
  intro d
  induction d with
  | zero =>
    intro i hd hi hk
    have : i = 4 := by omega
    subst this
    have e : hd' = hd := by
      funext j
      rw [hk j, if_neg (by omega)]
    rw [e] at hp
    exact br_t (nI_le (b := 4) (Nat.le_refl 4) (by decide)) hp
  | succ d ih =>
    intro i hd hi hk
    refine br_f (nI_ge (b := 4) (by omega) (by decide)) ⟨vp_in_nI (by omega) (by decide), ?_⟩
    rw [nI_clamp (by omega)]
    refine nm_e (nm_r (nI_1 i) (ih (i + 1) _ (by omega) ?_))
    intro j
    rw [hk j]
    by_cases z : j = i
    · subst z
      rw [if_pos (by omega), if_neg (by omega), pk_us]
    · rw [pk_un z]
      by_cases y : i ≤ j ∧ j < 4
      · rw [if_pos y, if_pos (by omega)]
      · rw [if_neg y, if_neg (by omega)]
theorem y_initE {P : SY → Prop} (h : P (nI 0, 0, 0, fun _ => 0, fun _ => 0, fun _ => 0, fun _ => 0, fun _ => 0, fun _ => 0, fun _ => 0, fun _ => 0, fun _ => 0, fun _ => 0, fun _ => 0, fun j => if 0 ≤ j ∧ j < 4 then -1 else 0, fun _ => 0, fun _ => 0, fun _ => 0, fun _ => 0, fun _ => 0, fun _ => 0, fun _ => 0, fun _ => 0)) : wpY_init P := ⟨5, y_init h 4 0 (fun _ => 0) (by omega) (fun j => rfl)⟩
theorem ch_R0 : ch_R 0 (fun _ => 0) (fun _ _ => 0) (fun _ => 0) (fun _ => 0) (fun _ => 0) (fun j => if 0 ≤ j ∧ j < 4 then -1 else 0) (fun _ => 0) (fun _ => 0) (fun _ => 0) (fun _ => 0) (fun _ => 0) (fun _ => 0) (fun _ => 0) (fun _ => 0) (fun _ => 0) (fun _ => 0) (fun _ => 0) (fun _ => 0) (fun _ => 0) (fun _ => 0) (fun _ => 0) (fun _ => 0) (fun _ => 0) (fun _ => 0) := by
  refine ⟨⟨by omega, fun i h => absurd h (Nat.not_lt_zero i), fun i h => absurd h (Nat.not_lt_zero i), fun i h => absurd h (Nat.not_lt_zero i), fun i h => absurd h (Nat.not_lt_zero i)⟩, ch_K0, ⟨fun r _ => Nat.zero_le 4, fun r k _ h => absurd h (Nat.not_lt_zero k), fun r k s j _ h => absurd h (Nat.not_lt_zero k), fun m _ h => absurd (show (0 : Int32) = 1 from h) (by decide), fun l _ h => absurd h (Nat.not_lt_zero 0), fun l hl => Or.inl (if_pos ⟨Nat.zero_le l, hl⟩)⟩, ⟨fun r _ => rfl, fun r k _ h => absurd h (Nat.not_lt_zero k)⟩, ⟨fun r _ => rfl, fun r k _ h => absurd h (Nat.not_lt_zero k)⟩, fun m _ => ⟨rfl, rfl, rfl, rfl, rfl⟩⟩
end ow

theorem i_vc0 : wpX_init (fun u => wpY_init (fun v => i_Rel 0 u v)):= ⟨5, x_init (y_initE (ch_mk 0 0 _ _ _ ch_R0)) 4 0 _ (by omega) (fun j => rfl)⟩
theorem i_vc_mode {k : Nat} {u : SX} {v : SY} (I : i_Rel k u v) (hk : k + 4 ≤ 2048) (v1 : Int32) (v2 : Int32) : wpX_mode (fun r u' => wpY_mode (fun r' v' => r' = r ∧ i_Rel (k + 4) u' v') v v1 (lw_bz v2)) u v1 (lw_bz v2) := by
  obtain ⟨n, L, T, fr, lr, st, aw, ty, hd, ro, ln, sp, bf, ra, mk, wd, iw, wr, kw, sr, vl, kn, sn, kp, ry, fe, mv, rc, md, lo, rfl, rfl, R⟩ := I
  obtain ⟨r, u', v', I2, hX, hY⟩ := v_mode (k := k + 4) (n := n) (fr := fr) (lr := lr) (st := st) (aw := aw) (ty := ty) (hd := hd) (ro := ro) (ln := ln) (sp := sp) (bf := bf) (ra := ra) (mk := mk) (wd := wd) (iw := iw) (wr := wr) (kw := kw) (sr := sr) (vl := vl) (kn := kn) (sn := sn) (kp := kp) (ry := ry) (fe := fe) (mv := mv) (rc := rc) (md := md) (lo := lo) R v1 (lw_bz v2)
  exact hX _ (hY _ ⟨rfl, I2⟩)
theorem i_vc_read {k : Nat} {u : SX} {v : SY} (I : i_Rel k u v) (hk : k + 4 ≤ 2048) (v1 : Int32) (v2 : Int32) : wpX_read (fun r u' => wpY_read (fun r' v' => r' = r ∧ i_Rel (k + 4) u' v') v v1 v2) u v1 v2 := by
  obtain ⟨n, L, T, fr, lr, st, aw, ty, hd, ro, ln, sp, bf, ra, mk, wd, iw, wr, kw, sr, vl, kn, sn, kp, ry, fe, mv, rc, md, lo, rfl, rfl, R⟩ := I
  obtain ⟨r, u', v', I2, hX, hY⟩ := v_read (k := k + 4) (n := n) (fr := fr) (lr := lr) (st := st) (aw := aw) (ty := ty) (hd := hd) (ro := ro) (ln := ln) (sp := sp) (bf := bf) (ra := ra) (mk := mk) (wd := wd) (iw := iw) (wr := wr) (kw := kw) (sr := sr) (vl := vl) (kn := kn) (sn := sn) (kp := kp) (ry := ry) (fe := fe) (mv := mv) (rc := rc) (md := md) (lo := lo) R v1 v2
  exact hX _ (hY _ ⟨rfl, I2⟩)
theorem i_vc_write {k : Nat} {u : SX} {v : SY} (I : i_Rel k u v) (hk : k + 4 ≤ 2048) (v1 : Int32) (v2 : Int32) (v3 : Int32) : wpX_write (fun r u' => wpY_write (fun r' v' => r' = r ∧ i_Rel (k + 4) u' v') v v1 v2 v3) u v1 v2 v3 := by
  obtain ⟨n, L, T, fr, lr, st, aw, ty, hd, ro, ln, sp, bf, ra, mk, wd, iw, wr, kw, sr, vl, kn, sn, kp, ry, fe, mv, rc, md, lo, rfl, rfl, R⟩ := I
  obtain ⟨r, u', v', I2, hX, hY⟩ := v_write (k := k + 4) (n := n) (fr := fr) (lr := lr) (st := st) (aw := aw) (ty := ty) (hd := hd) (ro := ro) (ln := ln) (sp := sp) (bf := bf) (ra := ra) (mk := mk) (wd := wd) (iw := iw) (wr := wr) (kw := kw) (sr := sr) (vl := vl) (kn := kn) (sn := sn) (kp := kp) (ry := ry) (fe := fe) (mv := mv) (rc := rc) (md := md) (lo := lo) R v1 v2 v3
  exact hX _ (hY _ ⟨rfl, I2⟩)
theorem i_vc_add {k : Nat} {u : SX} {v : SY} (I : i_Rel k u v) (hk : k + 4 ≤ 2048) (v1 : Int32) (v2 : Int32) (v3 : Int32) : wpX_add (fun r u' => wpY_add (fun r' v' => r' = r ∧ i_Rel (k + 4) u' v') v v1 v2 v3) u v1 v2 v3 := by
  obtain ⟨n, L, T, fr, lr, st, aw, ty, hd, ro, ln, sp, bf, ra, mk, wd, iw, wr, kw, sr, vl, kn, sn, kp, ry, fe, mv, rc, md, lo, rfl, rfl, R⟩ := I
  obtain ⟨r, u', v', I2, hX, hY⟩ := v_add (k := k + 4) (n := n) (fr := fr) (lr := lr) (st := st) (aw := aw) (ty := ty) (hd := hd) (ro := ro) (ln := ln) (sp := sp) (bf := bf) (ra := ra) (mk := mk) (wd := wd) (iw := iw) (wr := wr) (kw := kw) (sr := sr) (vl := vl) (kn := kn) (sn := sn) (kp := kp) (ry := ry) (fe := fe) (mv := mv) (rc := rc) (md := md) (lo := lo) R v1 v2 v3
  exact hX _ (hY _ ⟨rfl, I2⟩)
theorem i_vc_acquire {k : Nat} {u : SX} {v : SY} (I : i_Rel k u v) (hk : k + 4 ≤ 2048) (v1 : Int32) (v2 : Int32) : wpX_acquire (fun r u' => wpY_acquire (fun r' v' => r' = r ∧ i_Rel (k + 4) u' v') v v1 v2) u v1 v2 := by
  obtain ⟨n, L, T, fr, lr, st, aw, ty, hd, ro, ln, sp, bf, ra, mk, wd, iw, wr, kw, sr, vl, kn, sn, kp, ry, fe, mv, rc, md, lo, rfl, rfl, R⟩ := I
  obtain ⟨r, u', v', I2, hX, hY⟩ := v_acquire (k := k + 4) (n := n) (fr := fr) (lr := lr) (st := st) (aw := aw) (ty := ty) (hd := hd) (ro := ro) (ln := ln) (sp := sp) (bf := bf) (ra := ra) (mk := mk) (wd := wd) (iw := iw) (wr := wr) (kw := kw) (sr := sr) (vl := vl) (kn := kn) (sn := sn) (kp := kp) (ry := ry) (fe := fe) (mv := mv) (rc := rc) (md := md) (lo := lo) R v1 v2
  exact hX _ (hY _ ⟨rfl, I2⟩)
theorem i_vc_release {k : Nat} {u : SX} {v : SY} (I : i_Rel k u v) (hk : k + 4 ≤ 2048) (v1 : Int32) (v2 : Int32) : wpX_release (fun r u' => wpY_release (fun r' v' => r' = r ∧ i_Rel (k + 4) u' v') v v1 v2) u v1 v2 := by
  obtain ⟨n, L, T, fr, lr, st, aw, ty, hd, ro, ln, sp, bf, ra, mk, wd, iw, wr, kw, sr, vl, kn, sn, kp, ry, fe, mv, rc, md, lo, rfl, rfl, R⟩ := I
  obtain ⟨r, u', v', I2, hX, hY⟩ := v_release (k := k + 4) (n := n) (fr := fr) (lr := lr) (st := st) (aw := aw) (ty := ty) (hd := hd) (ro := ro) (ln := ln) (sp := sp) (bf := bf) (ra := ra) (mk := mk) (wd := wd) (iw := iw) (wr := wr) (kw := kw) (sr := sr) (vl := vl) (kn := kn) (sn := sn) (kp := kp) (ry := ry) (fe := fe) (mv := mv) (rc := rc) (md := md) (lo := lo) R v1 v2
  exact hX _ (hY _ ⟨rfl, I2⟩)
theorem i_vc_rest {k : Nat} {u : SX} {v : SY} (I : i_Rel k u v) (hk : k + 4 ≤ 2048) (v1 : Int32) (v2 : Int32) : wpX_rest (fun r u' => wpY_rest (fun r' v' => r' = r ∧ i_Rel (k + 4) u' v') v v1 v2) u v1 v2 := by
  obtain ⟨n, L, T, fr, lr, st, aw, ty, hd, ro, ln, sp, bf, ra, mk, wd, iw, wr, kw, sr, vl, kn, sn, kp, ry, fe, mv, rc, md, lo, rfl, rfl, R⟩ := I
  obtain ⟨r, u', v', I2, hX, hY⟩ := v_rest (k := k + 4) (n := n) (fr := fr) (lr := lr) (st := st) (aw := aw) (ty := ty) (hd := hd) (ro := ro) (ln := ln) (sp := sp) (bf := bf) (ra := ra) (mk := mk) (wd := wd) (iw := iw) (wr := wr) (kw := kw) (sr := sr) (vl := vl) (kn := kn) (sn := sn) (kp := kp) (ry := ry) (fe := fe) (mv := mv) (rc := rc) (md := md) (lo := lo) R v1 v2
  exact hX _ (hY _ ⟨rfl, I2⟩)
theorem i_vc_wake {k : Nat} {u : SX} {v : SY} (I : i_Rel k u v) (hk : k + 4 ≤ 2048) (v1 : Int32) (v2 : Int32) (v3 : Int32) : wpX_wake (fun r u' => wpY_wake (fun r' v' => r' = r ∧ i_Rel (k + 4) u' v') v v1 v2 (lw_bz v3)) u v1 v2 (lw_bz v3) := by
  obtain ⟨n, L, T, fr, lr, st, aw, ty, hd, ro, ln, sp, bf, ra, mk, wd, iw, wr, kw, sr, vl, kn, sn, kp, ry, fe, mv, rc, md, lo, rfl, rfl, R⟩ := I
  obtain ⟨r, u', v', I2, hX, hY⟩ := v_wake (k := k + 4) (n := n) (fr := fr) (lr := lr) (st := st) (aw := aw) (ty := ty) (hd := hd) (ro := ro) (ln := ln) (sp := sp) (bf := bf) (ra := ra) (mk := mk) (wd := wd) (iw := iw) (wr := wr) (kw := kw) (sr := sr) (vl := vl) (kn := kn) (sn := sn) (kp := kp) (ry := ry) (fe := fe) (mv := mv) (rc := rc) (md := md) (lo := lo) R v1 v2 (lw_bz v3)
  exact hX _ (hY _ ⟨rfl, I2⟩)
theorem i_vc_arrive {k : Nat} {u : SX} {v : SY} (I : i_Rel k u v) (hk : k + 4 ≤ 2048) (v1 : Int32) : wpX_arrive (fun r u' => wpY_arrive (fun r' v' => r' = r ∧ i_Rel (k + 4) u' v') v v1) u v1 := by
  obtain ⟨n, L, T, fr, lr, st, aw, ty, hd, ro, ln, sp, bf, ra, mk, wd, iw, wr, kw, sr, vl, kn, sn, kp, ry, fe, mv, rc, md, lo, rfl, rfl, R⟩ := I
  obtain ⟨r, u', v', I2, hX, hY⟩ := v_arrive (k := k + 4) (n := n) (fr := fr) (lr := lr) (st := st) (aw := aw) (ty := ty) (hd := hd) (ro := ro) (ln := ln) (sp := sp) (bf := bf) (ra := ra) (mk := mk) (wd := wd) (iw := iw) (wr := wr) (kw := kw) (sr := sr) (vl := vl) (kn := kn) (sn := sn) (kp := kp) (ry := ry) (fe := fe) (mv := mv) (rc := rc) (md := md) (lo := lo) R v1
  exact hX _ (hY _ ⟨rfl, I2⟩)
theorem i_vc_refresh {k : Nat} {u : SX} {v : SY} (I : i_Rel k u v) (hk : k + 4 ≤ 2048) (v1 : Int32) : wpX_refresh (fun r u' => wpY_refresh (fun r' v' => r' = r ∧ i_Rel (k + 4) u' v') v v1) u v1 := by
  obtain ⟨n, L, T, fr, lr, st, aw, ty, hd, ro, ln, sp, bf, ra, mk, wd, iw, wr, kw, sr, vl, kn, sn, kp, ry, fe, mv, rc, md, lo, rfl, rfl, R⟩ := I
  obtain ⟨r, u', v', I2, hX, hY⟩ := v_refresh (k := k + 4) (n := n) (fr := fr) (lr := lr) (st := st) (aw := aw) (ty := ty) (hd := hd) (ro := ro) (ln := ln) (sp := sp) (bf := bf) (ra := ra) (mk := mk) (wd := wd) (iw := iw) (wr := wr) (kw := kw) (sr := sr) (vl := vl) (kn := kn) (sn := sn) (kp := kp) (ry := ry) (fe := fe) (mv := mv) (rc := rc) (md := md) (lo := lo) R v1
  exact hX _ (hY _ ⟨rfl, I2⟩)
theorem i_vc_tidy {k : Nat} {u : SX} {v : SY} (I : i_Rel k u v) (hk : k + 4 ≤ 2048) : wpX_tidy (fun r u' => wpY_tidy (fun r' v' => r' = r ∧ i_Rel (k + 4) u' v') v) u := by
  obtain ⟨n, L, T, fr, lr, st, aw, ty, hd, ro, ln, sp, bf, ra, mk, wd, iw, wr, kw, sr, vl, kn, sn, kp, ry, fe, mv, rc, md, lo, rfl, rfl, R⟩ := I
  obtain ⟨r, u', v', I2, hX, hY⟩ := v_tidy (k := k + 4) (n := n) (fr := fr) (lr := lr) (st := st) (aw := aw) (ty := ty) (hd := hd) (ro := ro) (ln := ln) (sp := sp) (bf := bf) (ra := ra) (mk := mk) (wd := wd) (iw := iw) (wr := wr) (kw := kw) (sr := sr) (vl := vl) (kn := kn) (sn := sn) (kp := kp) (ry := ry) (fe := fe) (mv := mv) (rc := rc) (md := md) (lo := lo) R 
  exact hX _ (hY _ ⟨rfl, I2⟩)
theorem i_vc_state {k : Nat} {u : SX} {v : SY} (I : i_Rel k u v) (hk : k + 4 ≤ 2048) (v1 : Int32) : wpX_state (fun r => wpY_state (fun r' => r' = r ∧ i_Rel (k + 4) u v) v v1) u v1 := by
  have I2 := i_up I
  obtain ⟨n, L, T, fr, lr, st, aw, ty, hd, ro, ln, sp, bf, ra, mk, wd, iw, wr, kw, sr, vl, kn, sn, kp, ry, fe, mv, rc, md, lo, rfl, rfl, R⟩ := I
  obtain ⟨r, hX, hY⟩ := v_state (n := n) (fr := fr) (lr := lr) (st := st) (aw := aw) (ty := ty) (hd := hd) (ro := ro) (ln := ln) (sp := sp) (bf := bf) (ra := ra) (mk := mk) (wd := wd) (iw := iw) (wr := wr) (kw := kw) (sr := sr) (vl := vl) (kn := kn) (sn := sn) (kp := kp) (ry := ry) (fe := fe) (mv := mv) (rc := rc) (md := md) (lo := lo) v1
  exact hX _ (hY _ ⟨rfl, I2⟩)
theorem i_vc_holder {k : Nat} {u : SX} {v : SY} (I : i_Rel k u v) (hk : k + 4 ≤ 2048) (v1 : Int32) : wpX_holder (fun r => wpY_holder (fun r' => r' = r ∧ i_Rel (k + 4) u v) v v1) u v1 := by
  have I2 := i_up I
  obtain ⟨n, L, T, fr, lr, st, aw, ty, hd, ro, ln, sp, bf, ra, mk, wd, iw, wr, kw, sr, vl, kn, sn, kp, ry, fe, mv, rc, md, lo, rfl, rfl, R⟩ := I
  obtain ⟨r, hX, hY⟩ := v_holder (n := n) (fr := fr) (lr := lr) (st := st) (aw := aw) (ty := ty) (hd := hd) (ro := ro) (ln := ln) (sp := sp) (bf := bf) (ra := ra) (mk := mk) (wd := wd) (iw := iw) (wr := wr) (kw := kw) (sr := sr) (vl := vl) (kn := kn) (sn := sn) (kp := kp) (ry := ry) (fe := fe) (mv := mv) (rc := rc) (md := md) (lo := lo) v1
  exact hX _ (hY _ ⟨rfl, I2⟩)
theorem i_vc_waits {k : Nat} {u : SX} {v : SY} (I : i_Rel k u v) (hk : k + 4 ≤ 2048) (v1 : Int32) (v2 : Int32) (v3 : Int32) : wpX_waits (fun r => wpY_waits (fun r' => r' = r ∧ i_Rel (k + 4) u v) v v1 (lw_bz v2) v3) u v1 (lw_bz v2) v3 := by
  have I2 := i_up I
  obtain ⟨n, L, T, fr, lr, st, aw, ty, hd, ro, ln, sp, bf, ra, mk, wd, iw, wr, kw, sr, vl, kn, sn, kp, ry, fe, mv, rc, md, lo, rfl, rfl, R⟩ := I
  obtain ⟨r, hX, hY⟩ := v_waits (n := n) (fr := fr) (lr := lr) (st := st) (aw := aw) (ty := ty) (hd := hd) (ro := ro) (ln := ln) (sp := sp) (bf := bf) (ra := ra) (mk := mk) (wd := wd) (iw := iw) (wr := wr) (kw := kw) (sr := sr) (vl := vl) (kn := kn) (sn := sn) (kp := kp) (ry := ry) (fe := fe) (mv := mv) (rc := rc) (md := md) (lo := lo) R v1 (lw_bz v2) v3
  exact hX _ (hY _ ⟨rfl, I2⟩)
theorem i_vc_ring {k : Nat} {u : SX} {v : SY} (I : i_Rel k u v) (hk : k + 4 ≤ 2048) (v1 : Int32) : wpX_ring (fun r => wpY_ring (fun r' => r' = r ∧ i_Rel (k + 4) u v) v v1) u v1 := by
  have I2 := i_up I
  obtain ⟨n, L, T, fr, lr, st, aw, ty, hd, ro, ln, sp, bf, ra, mk, wd, iw, wr, kw, sr, vl, kn, sn, kp, ry, fe, mv, rc, md, lo, rfl, rfl, R⟩ := I
  obtain ⟨r, hX, hY⟩ := v_ring (n := n) (fr := fr) (lr := lr) (st := st) (aw := aw) (ty := ty) (hd := hd) (ro := ro) (ln := ln) (sp := sp) (bf := bf) (ra := ra) (mk := mk) (wd := wd) (iw := iw) (wr := wr) (kw := kw) (sr := sr) (vl := vl) (kn := kn) (sn := sn) (kp := kp) (ry := ry) (fe := fe) (mv := mv) (rc := rc) (md := md) (lo := lo) R.2.2.1 v1
  exact hX _ (hY _ ⟨rfl, I2⟩)
theorem i_vc_has {k : Nat} {u : SX} {v : SY} (I : i_Rel k u v) (hk : k + 4 ≤ 2048) (v1 : Int32) (v2 : Int32) : wpX_has (fun r => wpY_has (fun r' => r' = r ∧ i_Rel (k + 4) u v) v v1 v2) u v1 v2 := by
  have I2 := i_up I
  obtain ⟨n, L, T, fr, lr, st, aw, ty, hd, ro, ln, sp, bf, ra, mk, wd, iw, wr, kw, sr, vl, kn, sn, kp, ry, fe, mv, rc, md, lo, rfl, rfl, R⟩ := I
  obtain ⟨r, hX, hY⟩ := v_has (n := n) (fr := fr) (lr := lr) (st := st) (aw := aw) (ty := ty) (hd := hd) (ro := ro) (ln := ln) (sp := sp) (bf := bf) (ra := ra) (mk := mk) (wd := wd) (iw := iw) (wr := wr) (kw := kw) (sr := sr) (vl := vl) (kn := kn) (sn := sn) (kp := kp) (ry := ry) (fe := fe) (mv := mv) (rc := rc) (md := md) (lo := lo) R.1.1 v1 v2
  exact hX _ (hY _ ⟨rfl, I2⟩)
theorem i_vc_stale {k : Nat} {u : SX} {v : SY} (I : i_Rel k u v) (hk : k + 4 ≤ 2048) (v1 : Int32) (v2 : Int32) : wpX_stale (fun r => wpY_stale (fun r' => r' = r ∧ i_Rel (k + 4) u v) v v1 v2) u v1 v2 := by
  have I2 := i_up I
  obtain ⟨n, L, T, fr, lr, st, aw, ty, hd, ro, ln, sp, bf, ra, mk, wd, iw, wr, kw, sr, vl, kn, sn, kp, ry, fe, mv, rc, md, lo, rfl, rfl, R⟩ := I
  obtain ⟨r, hX, hY⟩ := v_stale (n := n) (fr := fr) (lr := lr) (st := st) (aw := aw) (ty := ty) (hd := hd) (ro := ro) (ln := ln) (sp := sp) (bf := bf) (ra := ra) (mk := mk) (wd := wd) (iw := iw) (wr := wr) (kw := kw) (sr := sr) (vl := vl) (kn := kn) (sn := sn) (kp := kp) (ry := ry) (fe := fe) (mv := mv) (rc := rc) (md := md) (lo := lo) R v1 v2
  exact hX _ (hY _ ⟨rfl, I2⟩)
theorem i_vc_knows {k : Nat} {u : SX} {v : SY} (I : i_Rel k u v) (hk : k + 4 ≤ 2048) (v1 : Int32) (v2 : Int32) : wpX_knows (fun r => wpY_knows (fun r' => r' = r ∧ i_Rel (k + 4) u v) v v1 v2) u v1 v2 := by
  have I2 := i_up I
  obtain ⟨n, L, T, fr, lr, st, aw, ty, hd, ro, ln, sp, bf, ra, mk, wd, iw, wr, kw, sr, vl, kn, sn, kp, ry, fe, mv, rc, md, lo, rfl, rfl, R⟩ := I
  obtain ⟨r, hX, hY⟩ := v_knows (n := n) (fr := fr) (lr := lr) (st := st) (aw := aw) (ty := ty) (hd := hd) (ro := ro) (ln := ln) (sp := sp) (bf := bf) (ra := ra) (mk := mk) (wd := wd) (iw := iw) (wr := wr) (kw := kw) (sr := sr) (vl := vl) (kn := kn) (sn := sn) (kp := kp) (ry := ry) (fe := fe) (mv := mv) (rc := rc) (md := md) (lo := lo) R v1 v2
  exact hX _ (hY _ ⟨rfl, I2⟩)
theorem i_vc_keeps {k : Nat} {u : SX} {v : SY} (I : i_Rel k u v) (hk : k + 4 ≤ 2048) (v1 : Int32) (v2 : Int32) : wpX_keeps (fun r => wpY_keeps (fun r' => r' = r ∧ i_Rel (k + 4) u v) v v1 v2) u v1 v2 := by
  have I2 := i_up I
  obtain ⟨n, L, T, fr, lr, st, aw, ty, hd, ro, ln, sp, bf, ra, mk, wd, iw, wr, kw, sr, vl, kn, sn, kp, ry, fe, mv, rc, md, lo, rfl, rfl, R⟩ := I
  obtain ⟨r, hX, hY⟩ := v_keeps (n := n) (fr := fr) (lr := lr) (st := st) (aw := aw) (ty := ty) (hd := hd) (ro := ro) (ln := ln) (sp := sp) (bf := bf) (ra := ra) (mk := mk) (wd := wd) (iw := iw) (wr := wr) (kw := kw) (sr := sr) (vl := vl) (kn := kn) (sn := sn) (kp := kp) (ry := ry) (fe := fe) (mv := mv) (rc := rc) (md := md) (lo := lo) R v1 v2
  exact hX _ (hY _ ⟨rfl, I2⟩)
theorem i_vc_count {k : Nat} {u : SX} {v : SY} (I : i_Rel k u v) (hk : k + 4 ≤ 2048) (v1 : Int32) (v2 : Int32) : wpX_count (fun r => wpY_count (fun r' => r' = r ∧ i_Rel (k + 4) u v) v v1 v2) u v1 v2 := by
  have I2 := i_up I
  obtain ⟨n, L, T, fr, lr, st, aw, ty, hd, ro, ln, sp, bf, ra, mk, wd, iw, wr, kw, sr, vl, kn, sn, kp, ry, fe, mv, rc, md, lo, rfl, rfl, R⟩ := I
  obtain ⟨r, hX, hY⟩ := v_count (n := n) (fr := fr) (lr := lr) (st := st) (aw := aw) (ty := ty) (hd := hd) (ro := ro) (ln := ln) (sp := sp) (bf := bf) (ra := ra) (mk := mk) (wd := wd) (iw := iw) (wr := wr) (kw := kw) (sr := sr) (vl := vl) (kn := kn) (sn := sn) (kp := kp) (ry := ry) (fe := fe) (mv := mv) (rc := rc) (md := md) (lo := lo) R.2.2.2.2.2 v1 v2
  exact hX _ (hY _ ⟨rfl, I2⟩)
theorem i_vc_races {k : Nat} {u : SX} {v : SY} (I : i_Rel k u v) (hk : k + 4 ≤ 2048) (v1 : Int32) : wpX_races (fun r => wpY_races (fun r' => r' = r ∧ i_Rel (k + 4) u v) v v1) u v1 := by
  have I2 := i_up I
  obtain ⟨n, L, T, fr, lr, st, aw, ty, hd, ro, ln, sp, bf, ra, mk, wd, iw, wr, kw, sr, vl, kn, sn, kp, ry, fe, mv, rc, md, lo, rfl, rfl, R⟩ := I
  obtain ⟨r, hX, hY⟩ := v_races (n := n) (fr := fr) (lr := lr) (st := st) (aw := aw) (ty := ty) (hd := hd) (ro := ro) (ln := ln) (sp := sp) (bf := bf) (ra := ra) (mk := mk) (wd := wd) (iw := iw) (wr := wr) (kw := kw) (sr := sr) (vl := vl) (kn := kn) (sn := sn) (kp := kp) (ry := ry) (fe := fe) (mv := mv) (rc := rc) (md := md) (lo := lo) v1
  exact hX _ (hY _ ⟨rfl, I2⟩)
theorem i_vc_total {k : Nat} {u : SX} {v : SY} (I : i_Rel k u v) (hk : k + 4 ≤ 2048) (v1 : Int32) : wpX_total (fun r => wpY_total (fun r' => r' = r ∧ i_Rel (k + 4) u v) v v1) u v1 := by
  have I2 := i_up I
  obtain ⟨n, L, T, fr, lr, st, aw, ty, hd, ro, ln, sp, bf, ra, mk, wd, iw, wr, kw, sr, vl, kn, sn, kp, ry, fe, mv, rc, md, lo, rfl, rfl, R⟩ := I
  obtain ⟨r, hX, hY⟩ := v_total (n := n) (fr := fr) (lr := lr) (st := st) (aw := aw) (ty := ty) (hd := hd) (ro := ro) (ln := ln) (sp := sp) (bf := bf) (ra := ra) (mk := mk) (wd := wd) (iw := iw) (wr := wr) (kw := kw) (sr := sr) (vl := vl) (kn := kn) (sn := sn) (kp := kp) (ry := ry) (fe := fe) (mv := mv) (rc := rc) (md := md) (lo := lo) v1
  exact hX _ (hY _ ⟨rfl, I2⟩)
end

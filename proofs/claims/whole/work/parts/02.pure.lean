/-! bits, scans and last places, pure -/
def ch_b (b : Bool) : Int32 := match b with
  | true => 1
  | false => 0
theorem ch_b_0 {b : Bool} : ch_b b = 0 ↔ b = false := by cases b <;> decide
theorem ch_b_1 {b : Bool} : ch_b b = 1 ↔ b = true := by cases b <;> decide
theorem ch_b_n {b : Bool} : ¬ ch_b b = 0 ↔ b = true := by cases b <;> decide
theorem ch_nf {x : Bool} (h : ¬ x = false) : x = true := by cases x <;> simp_all
theorem ch_nt {x : Bool} (h : ¬ x = true) : x = false := by cases x <;> simp_all
theorem ch_bt1 : ∀ i, i < 32 → bt 1 i = decide (i = 0) := by decide +kernel
theorem ch_bit (x : Int32) (q : Nat) (hq : q < 32) : ((x >>> (nI q &&& 31)) &&& 1) = 0 ↔ bt x q = false := by
  constructor
  · intro h
    have h2 : bt ((x >>> (nI q &&& 31)) &&& 1) 0 = bt 0 0 := by rw [h]
    rw [b_and, b_sshr q hq x (by decide), b_0, ch_bt1 0 (by decide), if_pos (by omega)] at h2
    simpa using h2
  · intro h
    apply b_ext
    intro i hi
    rw [b_and, b_0, b_sshr q hq x hi, ch_bt1 i hi]
    by_cases h0 : i = 0
    · subst h0
      rw [if_pos (by omega)]
      simp [h]
    · simp [h0]
theorem ch_one : ∀ m, m < 32 → ∀ i, i < 32 → bt ((1 : Int32) <<< (nI m &&& 31)) i = decide (i = m) := by decide +kernel
theorem ch_orb (x : Int32) {m q : Nat} (hm : m < 32) (hq : q < 32) : bt (x ||| ((1 : Int32) <<< (nI m &&& 31))) q = (bt x q || decide (q = m)) := by
  rw [b_or, ch_one m hm q hq]
theorem ch_bt15 : ∀ i, i < 32 → bt 15 i = decide (i < 4) := by decide +kernel
theorem ch_or15 (x : Int32) {q : Nat} (hq : q < 32) : bt (x ||| 15) q = (bt x q || decide (q < 4)) := by
  rw [b_or, ch_bt15 q hq]
theorem ch_and15 (x : Int32) : (x &&& 15) = 15 ↔ ∀ q, q < 4 → bt x q = true := by
  constructor
  · intro h q hq
    have h2 : bt (x &&& 15) q = bt 15 q := by rw [h]
    rw [b_and, ch_bt15 q (by omega)] at h2
    simpa [hq] using h2
  · intro h
    apply b_ext
    intro i hi
    rw [b_and, ch_bt15 i hi]
    by_cases h4 : i < 4
    · simp [h i h4, h4]
    · simp [h4]
theorem ch_news (k s : Int32) (q : Nat) (hq : q < 32) : (((k &&& (s ^^^ (-1))) >>> (nI q &&& 31)) &&& 1) = 0 ↔ (bt k q && !(bt s q)) = false := by
  rw [ch_bit _ q hq, b_and, b_xor, b_m1 q hq]
  simp
/-- the last place below n at which P holds, or -1 -/
def ch_la (P : Nat → Bool) : Nat → Int32
  | 0 => -1
  | n + 1 => if P n = true then nI n else ch_la P n
theorem ch_la_lt (P : Nat → Bool) : ∀ n, n < 2 ^ 31 → ch_la P n < nI n := by
  intro n
  induction n with
  | zero => intro _; show (-1 : Int32) < nI 0; decide
  | succ n ih =>
    intro h
    have h1 : nI n < nI (n + 1) := nI_lt (by omega) h
    show (if P n = true then nI n else ch_la P n) < nI (n + 1)
    by_cases p : P n = true
    · rw [if_pos p]; exact h1
    · rw [if_neg p]; exact Int32.lt_trans (ih (by omega)) h1
theorem ch_la_c (P : Nat → Bool) : ∀ n, (ch_la P n = -1 ∧ ∀ i, i < n → P i = false) ∨ ∃ i, i < n ∧ P i = true ∧ ch_la P n = nI i := by
  intro n
  induction n with
  | zero => exact Or.inl ⟨rfl, fun i h => absurd h (Nat.not_lt_zero i)⟩
  | succ n ih =>
    show ((if P n = true then nI n else ch_la P n) = -1 ∧ _) ∨ ∃ i, i < n + 1 ∧ P i = true ∧ (if P n = true then nI n else ch_la P n) = nI i
    by_cases p : P n = true
    · exact Or.inr ⟨n, by omega, p, if_pos p⟩
    · rw [if_neg p]
      rcases ih with ⟨a, b⟩ | ⟨i, hi, pi, e⟩
      · refine Or.inl ⟨a, fun i hi => ?_⟩
        by_cases e : i = n
        · rw [e]; exact ch_nt p
        · exact b i (by omega)
      · exact Or.inr ⟨i, by omega, pi, e⟩
/-- the value at the last place below n at which P holds, or d -/
def ch_lv (P : Nat → Bool) (f : Nat → Int32) (d : Int32) : Nat → Int32
  | 0 => d
  | n + 1 => if P n = true then f n else ch_lv P f d n
theorem ch_lv_c (P : Nat → Bool) (f : Nat → Int32) (d : Int32) : ∀ n, (ch_la P n = -1 ∧ ch_lv P f d n = d) ∨ ∃ i, i < n ∧ P i = true ∧ ch_la P n = nI i ∧ ch_lv P f d n = f i := by
  intro n
  induction n with
  | zero => exact Or.inl ⟨rfl, rfl⟩
  | succ n ih =>
    show ((if P n = true then nI n else ch_la P n) = -1 ∧ (if P n = true then f n else ch_lv P f d n) = d) ∨ ∃ i, i < n + 1 ∧ P i = true ∧ (if P n = true then nI n else ch_la P n) = nI i ∧ (if P n = true then f n else ch_lv P f d n) = f i
    by_cases p : P n = true
    · exact Or.inr ⟨n, by omega, p, if_pos p, if_pos p⟩
    · rw [if_neg p, if_neg p]
      rcases ih with h | ⟨i, hi, h⟩
      · exact Or.inl h
      · exact Or.inr ⟨i, by omega, h⟩
theorem ch_lv_e {P Q : Nat → Bool} {f g : Nat → Int32} (d : Int32) : ∀ n, (∀ i, i < n → P i = Q i) → (∀ i, i < n → P i = true → f i = g i) → ch_lv P f d n = ch_lv Q g d n := by
  intro n
  induction n with
  | zero => intro _ _; rfl
  | succ n ih =>
    intro h1 h2
    show (if P n = true then f n else ch_lv P f d n) = (if Q n = true then g n else ch_lv Q g d n)
    rw [← h1 n (by omega), ih (fun i hi => h1 i (by omega)) (fun i hi => h2 i (by omega))]
    by_cases p : P n = true
    · rw [if_pos p, if_pos p, h2 n (by omega) p]
    · rw [if_neg p, if_neg p]
theorem ch_la_e {P Q : Nat → Bool} : ∀ n, (∀ i, i < n → P i = Q i) → ch_la P n = ch_la Q n := by
  intro n
  induction n with
  | zero => intro _; rfl
  | succ n ih =>
    intro h1
    show (if P n = true then nI n else ch_la P n) = (if Q n = true then nI n else ch_la Q n)
    rw [← h1 n (by omega), ih (fun i hi => h1 i (by omega))]
/-- is there one below n -/
def ch_any (P : Nat → Bool) : Nat → Bool
  | 0 => false
  | n + 1 => ch_any P n || P n
theorem ch_any_t {P : Nat → Bool} {n i : Nat} (hi : i < n) (h : P i = true) : ch_any P n = true := by
  induction n with
  | zero => omega
  | succ n ih =>
    show (ch_any P n || P n) = true
    by_cases e : i = n
    · rw [← e, h, Bool.or_true]
    · rw [ih (by omega), Bool.true_or]
theorem ch_any_f {P : Nat → Bool} {n : Nat} (h : ∀ i, i < n → P i = false) : ch_any P n = false := by
  induction n with
  | zero => rfl
  | succ n ih =>
    show (ch_any P n || P n) = false
    rw [ih (fun i hi => h i (by omega)), h n (by omega)]
    rfl
theorem ch_any_c (P : Nat → Bool) (n : Nat) : (ch_any P n = true ∧ ∃ i, i < n ∧ P i = true) ∨ (ch_any P n = false ∧ ∀ i, i < n → P i = false) := by
  by_cases h : ∃ i, i < n ∧ P i = true
  · obtain ⟨i, hi, p⟩ := h
    exact Or.inl ⟨ch_any_t hi p, i, hi, p⟩
  · have h2 : ∀ i, i < n → P i = false := fun i hi => ch_nt (fun p => h ⟨i, hi, p⟩)
    exact Or.inr ⟨ch_any_f h2, h2⟩
theorem ch_any_e {P Q : Nat → Bool} {n : Nat} (h : ∀ i, i < n → P i = Q i) : ch_any P n = ch_any Q n := by
  induction n with
  | zero => rfl
  | succ n ih =>
    show (ch_any P n || P n) = (ch_any Q n || Q n)
    rw [ih (fun i hi => h i (by omega)), h n (by omega)]
/-- how many below n -/
def ch_cnt (P : Nat → Bool) : Nat → Nat
  | 0 => 0
  | n + 1 => if P n = true then ch_cnt P n + 1 else ch_cnt P n
theorem ch_cnt_le (P : Nat → Bool) : ∀ n, ch_cnt P n ≤ n := by
  intro n
  induction n with
  | zero => exact Nat.le_refl 0
  | succ n ih =>
    show (if P n = true then ch_cnt P n + 1 else ch_cnt P n) ≤ n + 1
    split <;> omega
theorem ch_cnt_e {P Q : Nat → Bool} {n : Nat} (h : ∀ i, i < n → P i = Q i) : ch_cnt P n = ch_cnt Q n := by
  induction n with
  | zero => rfl
  | succ n ih =>
    show (if P n = true then ch_cnt P n + 1 else ch_cnt P n) = (if Q n = true then ch_cnt Q n + 1 else ch_cnt Q n)
    rw [ih (fun i hi => h i (by omega)), h n (by omega)]
/-- has and owns -/
def ch_hv (mk wd iw : Nat → Int32) (m p : Int32) : Nat → Bool
  | 0 => false
  | n + 1 => if wd n / 8 = p then (if mk n = m then true else if iw n = 0 then ch_hv mk wd iw m p n else false) else ch_hv mk wd iw m p n
def ch_ow (mk wd iw : Nat → Int32) (m p : Int32) : Nat → Bool
  | 0 => false
  | n + 1 => if wd n / 8 = p then (if mk n = m then (if iw n = 0 then ch_ow mk wd iw m p n else true) else false) else ch_ow mk wd iw m p n
theorem ch_ow_hv (mk wd iw : Nat → Int32) (m p : Int32) : ∀ n, ch_ow mk wd iw m p n = true → ch_hv mk wd iw m p n = true := by
  intro n
  induction n with
  | zero => intro h; exact h
  | succ n ih =>
    unfold ch_ow ch_hv
    by_cases a : wd n / 8 = p
    · rw [if_pos a, if_pos a]
      by_cases b : mk n = m
      · rw [if_pos b, if_pos b]; exact fun _ => rfl
      · rw [if_neg b, if_neg b]; intro h; cases h
    · rw [if_neg a, if_neg a]; exact ih
theorem ch_ow_no (mk wd iw : Nat → Int32) (m k p : Int32) (hk : ¬ k = m) : ∀ n, ch_ow mk wd iw m p n = true → ch_hv mk wd iw k p n = false := by
  intro n
  induction n with
  | zero => intro _; rfl
  | succ n ih =>
    unfold ch_ow ch_hv
    by_cases a : wd n / 8 = p
    · rw [if_pos a, if_pos a]
      by_cases b : mk n = m
      · have c : ¬ mk n = k := fun e => hk (e.symm.trans b)
        rw [if_pos b, if_neg c]
        by_cases d : iw n = 0
        · rw [if_pos d, if_pos d]; exact ih
        · rw [if_neg d, if_neg d]; exact fun _ => rfl
      · rw [if_neg b]; intro h; cases h
    · rw [if_neg a, if_neg a]; exact ih
theorem ch_hv_iff (mk wd iw : Nat → Int32) (m p : Int32) : ∀ n, n < 2 ^ 31 → (ch_hv mk wd iw m p n = true ↔ (0 ≤ ch_la (fun i => decide (wd i / 8 = p) && decide (mk i = m)) n ∧ ch_la (fun i => decide (wd i / 8 = p) && (decide (¬ mk i = m) && decide (¬ iw i = 0))) n < ch_la (fun i => decide (wd i / 8 = p) && decide (mk i = m)) n)) := by
  intro n
  induction n with
  | zero =>
    intro _
    constructor
    · intro h; cases h
    · rintro ⟨h, _⟩; exact absurd (show (0 : Int32) ≤ -1 from h) (by decide)
  | succ n ih =>
    intro hn
    have l1 := ch_la_lt (fun i => decide (wd i / 8 = p) && decide (mk i = m)) n (by omega)
    have l2 := ch_la_lt (fun i => decide (wd i / 8 = p) && (decide (¬ mk i = m) && decide (¬ iw i = 0))) n (by omega)
    have ih := ih (by omega)
    unfold ch_hv ch_la
    by_cases a : wd n / 8 = p
    · by_cases b : mk n = m
      · simp only [a, b, if_true, decide_true, Bool.and_true, not_true, decide_false, Bool.false_and, Bool.and_false, Bool.false_eq_true, if_false, true_iff]
        exact ⟨nI_pos' (by omega), l2⟩
      · by_cases d : iw n = 0
        · simp only [a, b, d, if_true, decide_true, Bool.and_true, not_true, decide_false, Bool.false_and, Bool.and_false, Bool.false_eq_true, if_false]
          exact ih
        · simp only [a, b, d, if_true, decide_true, Bool.and_true, not_false_iff, decide_false, Bool.false_and, Bool.and_false, Bool.false_eq_true, if_false, false_iff]
          rintro ⟨_, h⟩
          exact Int32.lt_irrefl (Int32.lt_trans h l1)
    · simp only [a, if_false, decide_false, Bool.false_and, Bool.false_eq_true]
      exact ih
theorem ch_ow_iff (mk wd iw : Nat → Int32) (m p : Int32) : ∀ n, n < 2 ^ 31 → (ch_ow mk wd iw m p n = true ↔ (0 ≤ ch_la (fun i => decide (wd i / 8 = p) && (decide (mk i = m) && decide (¬ iw i = 0))) n ∧ ch_la (fun i => decide (wd i / 8 = p) && decide (¬ mk i = m)) n < ch_la (fun i => decide (wd i / 8 = p) && (decide (mk i = m) && decide (¬ iw i = 0))) n)) := by
  intro n
  induction n with
  | zero =>
    intro _
    constructor
    · intro h; cases h
    · rintro ⟨h, _⟩; exact absurd (show (0 : Int32) ≤ -1 from h) (by decide)
  | succ n ih =>
    intro hn
    have l1 := ch_la_lt (fun i => decide (wd i / 8 = p) && (decide (mk i = m) && decide (¬ iw i = 0))) n (by omega)
    have l2 := ch_la_lt (fun i => decide (wd i / 8 = p) && decide (¬ mk i = m)) n (by omega)
    have ih := ih (by omega)
    unfold ch_ow ch_la
    by_cases a : wd n / 8 = p
    · by_cases b : mk n = m
      · by_cases d : iw n = 0
        · simp only [a, b, d, if_true, decide_true, Bool.and_true, not_true, decide_false, Bool.false_and, Bool.and_false, Bool.false_eq_true, if_false]
          exact ih
        · simp only [a, b, d, if_true, decide_true, Bool.and_true, not_true, not_false_iff, decide_false, Bool.false_and, Bool.and_false, Bool.false_eq_true, if_false, true_iff]
          exact ⟨nI_pos' (by omega), l2⟩
      · simp only [a, b, if_true, decide_true, Bool.and_true, not_false_iff, decide_false, Bool.false_and, Bool.and_false, Bool.false_eq_true, if_false, false_iff]
        rintro ⟨_, h⟩
        exact Int32.lt_irrefl (Int32.lt_trans h l1)
    · simp only [a, if_false, decide_false, Bool.false_and, Bool.false_eq_true]
      exact ih

/-! Parities and rows over GF(2): a row is 256 * set + value; ph a j r is false where the assignment a fits bit j of the row r -/
theorem gf_p8 {n : Nat} (h : n ≤ 8) : 2 ^ n ≤ 256 := by
  have h2 : 2 ^ n ≤ 2 ^ 8 := Nat.pow_le_pow_right (by decide) h
  exact h2
theorem gf_p16 {n : Nat} (h : n ≤ 8) : 2 ^ (8 + n) ≤ 65536 := by
  have h2 : 2 ^ (8 + n) ≤ 2 ^ 16 := Nat.pow_le_pow_right (by decide) (by omega)
  exact h2
def gf_pr (f : Nat → Bool) : Nat → Bool
  | 0 => false
  | k + 1 => (gf_pr f k ^^ f k)
theorem gf_pr_xor (f g : Nat → Bool) (k : Nat) : gf_pr (fun i => (f i ^^ g i)) k = (gf_pr f k ^^ gf_pr g k) := by
  induction k with
  | zero => rfl
  | succ k ih =>
    show (gf_pr (fun i => (f i ^^ g i)) k ^^ (f k ^^ g k)) = ((gf_pr f k ^^ f k) ^^ (gf_pr g k ^^ g k))
    rw [ih]
    cases gf_pr f k <;> cases gf_pr g k <;> cases f k <;> cases g k <;> rfl
theorem gf_pr_congr {f g : Nat → Bool} {k : Nat} (h : ∀ i, i < k → f i = g i) : gf_pr f k = gf_pr g k := by
  induction k with
  | zero => rfl
  | succ k ih =>
    show (gf_pr f k ^^ f k) = (gf_pr g k ^^ g k)
    rw [ih (fun i hi => h i (by omega)), h k (by omega)]
theorem gf_pr_false {f : Nat → Bool} {k : Nat} (h : ∀ i, i < k → f i = false) : gf_pr f k = false := by
  induction k with
  | zero => rfl
  | succ k ih =>
    show (gf_pr f k ^^ f k) = false
    rw [ih (fun i hi => h i (by omega)), h k (by omega)]
    rfl
theorem gf_pr_one {f : Nat → Bool} {k p : Nat} (hp : p < k) (h : ∀ i, i < k → i ≠ p → f i = false) : gf_pr f k = f p := by
  induction k with
  | zero => omega
  | succ k ih =>
    show (gf_pr f k ^^ f k) = f p
    by_cases e : p = k
    · subst e
      rw [gf_pr_false (f := f) (k := p) (fun i hi => h i (by omega) (by omega))]
      exact Bool.false_xor _
    · rw [ih (by omega) (fun i hi hn => h i (by omega) hn), h k (by omega) (fun e' => e e'.symm)]
      exact Bool.xor_false _
def gf_par (s : Nat) : Bool := gf_pr (fun i => s.testBit i) 8
theorem gf_par_xor (s t : Nat) : gf_par (s ^^^ t) = (gf_par s ^^ gf_par t) := by
  unfold gf_par
  rw [← gf_pr_xor]
  exact gf_pr_congr (fun i _ => Nat.testBit_xor _ _ _)
theorem gf_par_0 : gf_par 0 = false := gf_pr_false (fun i _ => Nat.zero_testBit i)
theorem gf_par_bit {k : Nat} (hk : k < 8) (s : Nat) : gf_par (2 ^ k &&& s) = s.testBit k := by
  have h : gf_pr (fun i => (2 ^ k &&& s).testBit i) 8 = (2 ^ k &&& s).testBit k := by
    refine gf_pr_one (f := fun i => (2 ^ k &&& s).testBit i) hk ?_
    intro i hi hn
    show (2 ^ k &&& s).testBit i = false
    rw [Nat.testBit_and, Nat.testBit_two_pow_of_ne (fun e => hn e.symm), Bool.false_and]
  unfold gf_par
  rw [h, Nat.testBit_and, Nat.testBit_two_pow_self, Bool.true_and]
theorem gf_par_bit' {k : Nat} (hk : k < 8) (a : Nat) : gf_par (a &&& 2 ^ k) = a.testBit k := by
  rw [Nat.and_comm]
  exact gf_par_bit hk a
def gf_ph (a j r : Nat) : Bool := (gf_par (a &&& (r / 256)) ^^ r.testBit j)
theorem gf_ph_xor (a j r q : Nat) : gf_ph a j (r ^^^ q) = (gf_ph a j r ^^ gf_ph a j q) := by
  unfold gf_ph
  have h : (r ^^^ q) / 256 = (r / 256) ^^^ (q / 256) := Nat.xor_div_two_pow (n := 8)
  rw [h, Nat.and_xor_distrib_left, gf_par_xor, Nat.testBit_xor]
  cases gf_par (a &&& (r / 256)) <;> cases gf_par (a &&& (q / 256)) <;> cases r.testBit j <;> cases q.testBit j <;> rfl
theorem gf_ph_0 (a j : Nat) : gf_ph a j 0 = false := by
  unfold gf_ph
  rw [Nat.zero_div, Nat.and_zero, gf_par_0, Nat.zero_testBit]
  rfl
theorem gf_ph_a (a c j r : Nat) : gf_ph (a ^^^ c) j r = (gf_ph a j r ^^ gf_par (c &&& (r / 256))) := by
  unfold gf_ph
  rw [Nat.and_xor_distrib_right, gf_par_xor]
  cases gf_par (a &&& (r / 256)) <;> cases gf_par (c &&& (r / 256)) <;> cases r.testBit j <;> rfl
theorem gf_ph_3 (a b c j r : Nat) : gf_ph (a ^^^ b ^^^ c) j r = ((gf_ph a j r ^^ gf_ph b j r) ^^ gf_ph c j r) := by
  rw [gf_ph_a, gf_ph_a]
  unfold gf_ph
  cases gf_par (a &&& (r / 256)) <;> cases gf_par (b &&& (r / 256)) <;> cases gf_par (c &&& (r / 256)) <;> cases r.testBit j <;> rfl
theorem gf_par_3 (a b c t : Nat) : gf_par ((a ^^^ b ^^^ c) &&& t) = ((gf_par (a &&& t) ^^ gf_par (b &&& t)) ^^ gf_par (c &&& t)) := by
  rw [Nat.and_xor_distrib_right, gf_par_xor, Nat.and_xor_distrib_right, gf_par_xor]
/-! rows 256 * s + v -/
theorem gf_row_div {s v : Nat} (hv : v < 256) : (s * 256 + v) / 256 = s := by omega
theorem gf_row_bit {s v j : Nat} (hv : v < 256) (hj : j < 8) : (s * 256 + v).testBit j = v.testBit j := by
  have h := Nat.testBit_two_pow_mul_add s (b := v) (i := 8) hv j
  rw [if_pos hj] at h
  rw [Nat.mul_comm]
  exact h
theorem gf_ph_row {s v a j : Nat} (hv : v < 256) (hj : j < 8) : gf_ph a j (s * 256 + v) = (gf_par (a &&& s) ^^ v.testBit j) := by
  unfold gf_ph
  rw [gf_row_div hv, gf_row_bit hv hj]
theorem gf_hi (r k : Nat) : (r / 256).testBit k = r.testBit (8 + k) := by
  have h := Nat.testBit_div_two_pow (n := 8) r k
  rw [Nat.add_comm k 8] at h
  exact h
/-! reducing by an echelon basis -/
def gf_red (B : Nat → Nat) : Nat → Nat → Nat
  | 0, r => r
  | k + 1, r => gf_red B k (if r.testBit (8 + k) = true then r ^^^ B k else r)
theorem gf_red_ph {B : Nat → Nat} {a j : Nat} : ∀ (k r : Nat), (∀ b, b < k → gf_ph a j (B b) = false) → gf_ph a j (gf_red B k r) = gf_ph a j r := by
  intro k
  induction k with
  | zero => intro r _; rfl
  | succ k ih =>
    intro r h
    show gf_ph a j (gf_red B k (if r.testBit (8 + k) = true then r ^^^ B k else r)) = gf_ph a j r
    rw [ih _ (fun b hb => h b (by omega))]
    split
    · rw [gf_ph_xor, h k (by omega), Bool.xor_false]
    · rfl
theorem gf_red_lt {B : Nat → Nat} {m : Nat} : ∀ (k r : Nat), r < 2 ^ m → (∀ b, b < k → B b < 2 ^ m) → gf_red B k r < 2 ^ m := by
  intro k
  induction k with
  | zero => intro r h _; exact h
  | succ k ih =>
    intro r hr h
    show gf_red B k (if r.testBit (8 + k) = true then r ^^^ B k else r) < 2 ^ m
    refine ih _ ?_ (fun b hb => h b (by omega))
    split
    · exact Nat.xor_lt_two_pow hr (h k (by omega))
    · exact hr
def gf_Ech (B : Nat → Nat) : Prop := ∀ b, b < 8 → B b = 0 ∨ ((B b).testBit (8 + b) = true ∧ ∀ c, b < c → (B b).testBit (8 + c) = false)
theorem gf_ech_hi {B : Nat → Nat} (E : gf_Ech B) {b c : Nat} (hb : b < 8) (h : b < c) : (B b).testBit (8 + c) = false := by
  rcases E b hb with z | z
  · rw [z, Nat.zero_testBit]
  · exact z.2 c h
theorem gf_red_keep {B : Nat → Nat} {c : Nat} : ∀ (k r : Nat), (∀ b, b < k → (B b).testBit (8 + c) = false) → (gf_red B k r).testBit (8 + c) = r.testBit (8 + c) := by
  intro k
  induction k with
  | zero => intro r _; rfl
  | succ k ih =>
    intro r h
    show (gf_red B k (if r.testBit (8 + k) = true then r ^^^ B k else r)).testBit (8 + c) = r.testBit (8 + c)
    rw [ih _ (fun b hb => h b (by omega))]
    split
    · rw [Nat.testBit_xor, h k (by omega), Bool.xor_false]
    · rfl
theorem gf_red_clear {B : Nat → Nat} (E : gf_Ech B) : ∀ (k r : Nat), k ≤ 8 → ∀ b, b < k → B b ≠ 0 → (gf_red B k r).testBit (8 + b) = false := by
  intro k
  induction k with
  | zero => intro r _ b hb; omega
  | succ k ih =>
    intro r hk b hb hB
    show (gf_red B k (if r.testBit (8 + k) = true then r ^^^ B k else r)).testBit (8 + b) = false
    by_cases e : b = k
    · subst e
      rw [gf_red_keep (B := B) (c := b) b _ (fun c hc => gf_ech_hi E (b := c) (c := b) (by omega) hc)]
      by_cases q : r.testBit (8 + b) = true
      · rw [if_pos q, Nat.testBit_xor, q]
        rcases E b (by omega) with z | z
        · exact absurd z hB
        · rw [z.1]; rfl
      · rw [if_neg q]
        exact Bool.eq_false_iff.mpr q
    · exact ih _ (by omega) b (by omega) hB
/-! an echelon basis is solved by some assignment -/
theorem gf_solv {B : Nat → Nat} {n : Nat} (E : gf_Ech B) (hn : n ≤ 8) (hB : ∀ b, b < 8 → B b < 2 ^ (8 + n)) (j : Nat) : ∃ a, a < 2 ^ n ∧ ∀ b, b < 8 → gf_ph a j (B b) = false := by
  have key : ∀ k, k ≤ 8 → ∃ a, a < 2 ^ k ∧ ∀ b, b < k → gf_ph a j (B b) = false := by
    intro k
    induction k with
    | zero => intro _; exact ⟨0, by decide, fun b hb => absurd hb (Nat.not_lt_zero b)⟩
    | succ k ih =>
      intro hk
      obtain ⟨a, ha, h⟩ := ih (by omega)
      have h2 : 2 ^ k < 2 ^ (k + 1) := Nat.pow_lt_pow_right (by decide) (by omega)
      by_cases q : gf_ph a j (B k) = false
      · refine ⟨a, by omega, fun b hb => ?_⟩
        by_cases e : b = k
        · rw [e]; exact q
        · exact h b (by omega)
      · have q1 : gf_ph a j (B k) = true := by
          cases z : gf_ph a j (B k)
          · exact absurd z q
          · rfl
        refine ⟨a ^^^ 2 ^ k, Nat.xor_lt_two_pow (by omega) h2, fun b hb => ?_⟩
        rw [gf_ph_a, gf_par_bit (by omega), gf_hi]
        by_cases e : b = k
        · subst e
          rw [q1]
          rcases E b (by omega) with z | z
          · rw [z, gf_ph_0] at q
            exact absurd rfl q
          · rw [z.1]; rfl
        · rw [h b (by omega), gf_ech_hi E (by omega) (by omega)]
          rfl
  obtain ⟨a, ha, h⟩ := key n hn
  refine ⟨a, ha, fun b hb => ?_⟩
  by_cases e : b < n
  · exact h b e
  · rcases E b hb with z | z
    · rw [z, gf_ph_0]
    · have h1 := Nat.ge_two_pow_of_testBit z.1
      have h2 := hB b hb
      have h3 : 2 ^ (8 + n) ≤ 2 ^ (8 + b) := Nat.pow_le_pow_right (by decide) (by omega)
      omega
theorem gf_tops {q : Nat} (h : q < 65536) (h0 : ¬ q < 256) : ∃ p, p < 8 ∧ q.testBit (8 + p) = true ∧ ∀ c, p < c → q.testBit (8 + c) = false := by
  have hq : q ≠ 0 := by omega
  have h1 : 8 ≤ q.log2 := (Nat.le_log2 hq).mpr (by omega)
  have h2 : q.log2 < 16 := (Nat.log2_lt hq).mpr (by omega)
  have h3 := Nat.testBit_log2 hq
  have h4 : q < 2 ^ (q.log2 + 1) := Nat.lt_log2_self
  refine ⟨q.log2 - 8, by omega, ?_, fun c hc => ?_⟩
  · rw [show 8 + (q.log2 - 8) = q.log2 by omega]
    exact h3
  · have h5 : 2 ^ (q.log2 + 1) ≤ 2 ^ (8 + c) := Nat.pow_le_pow_right (by decide) (by omega)
    exact Nat.testBit_lt_two_pow (by omega)
def gf_upd (B : Nat → Nat) (p q : Nat) : Nat → Nat := fun i => if i = p then q else B i
theorem gf_upd_s (B : Nat → Nat) (p q : Nat) : gf_upd B p q p = q := if_pos rfl
theorem gf_upd_n (B : Nat → Nat) {p i : Nat} (q : Nat) (h : i ≠ p) : gf_upd B p q i = B i := if_neg h
theorem gf_ech_upd {B : Nat → Nat} (E : gf_Ech B) {p q : Nat} (h1 : q.testBit (8 + p) = true) (h2 : ∀ c, p < c → q.testBit (8 + c) = false) : gf_Ech (gf_upd B p q) := by
  intro b hb
  by_cases e : b = p
  · subst e
    rw [gf_upd_s]
    exact Or.inr ⟨h1, h2⟩
  · rw [gf_upd_n B q e]
    exact E b hb
theorem gf_top0 {B : Nat → Nat} (E : gf_Ech B) {r p : Nat} (hp : p < 8) (h : (gf_red B 8 r).testBit (8 + p) = true) : B p = 0 := by
  by_cases z : B p = 0
  · exact z
  · have := gf_red_clear E 8 r (by omega) p hp z
    rw [this] at h
    exact absurd h (by decide)
/-- not reduced to nothing: both sums occur -/
theorem gf_free {B : Nat → Nat} {n : Nat} (E : gf_Ech B) (hn : n ≤ 8) (hB : ∀ b, b < 8 → B b < 2 ^ (8 + n)) {r : Nat} (hr : r < 2 ^ (8 + n)) (h : ¬ gf_red B 8 r < 256) {j : Nat} (hj : j < 8) (c : Bool) : ∃ a, a < 2 ^ n ∧ (∀ b, b < 8 → gf_ph a j (B b) = false) ∧ gf_par (a &&& (r / 256)) = c := by
  have hq : gf_red B 8 r < 2 ^ (8 + n) := gf_red_lt 8 r hr hB
  have h16 : 2 ^ (8 + n) ≤ 65536 := gf_p16 hn
  obtain ⟨p, hp, h1, h2⟩ := gf_tops (by omega) h
  have hB0 := gf_top0 E hp h1
  have hph : ∀ a, (∀ b, b < 8 → gf_ph a j (B b) = false) → gf_ph a j (gf_red B 8 r) = gf_ph a j r := fun a ha => gf_red_ph 8 r ha
  generalize gf_red B 8 r = q at hq h1 h2 hph
  have h2j : 2 ^ j < 2 ^ (8 + n) := Nat.pow_lt_pow_right (by decide) (by omega)
  have hbj : ∀ c, (2 ^ j).testBit (8 + c) = false := fun c => Nat.testBit_two_pow_of_ne (by omega)
  have hpj : ∀ a, gf_ph a j (2 ^ j) = true := by
    intro a
    have z : 2 ^ j / 256 = 0 := Nat.div_eq_of_lt (by
      have : 2 ^ j < 2 ^ 8 := Nat.pow_lt_pow_right (by decide) hj
      omega)
    unfold gf_ph
    rw [z, Nat.and_zero, gf_par_0, Nat.testBit_two_pow_self]
    rfl
  obtain ⟨q', hq', h1', h2', hx⟩ : ∃ q', q' < 2 ^ (8 + n) ∧ q'.testBit (8 + p) = true ∧ (∀ c, p < c → q'.testBit (8 + c) = false) ∧ ∀ a, gf_ph a j q' = (gf_ph a j q ^^ (c ^^ r.testBit j)) := by
    cases z : (c ^^ r.testBit j)
    · exact ⟨q, hq, h1, h2, fun a => (Bool.xor_false _).symm⟩
    · refine ⟨q ^^^ 2 ^ j, Nat.xor_lt_two_pow hq h2j, ?_, fun c hc => ?_, fun a => ?_⟩
      · rw [Nat.testBit_xor, h1, hbj]; rfl
      · rw [Nat.testBit_xor, h2 c hc, hbj]; rfl
      · rw [gf_ph_xor, hpj]
  obtain ⟨a, ha, hs⟩ := gf_solv (gf_ech_upd E h1' h2') hn (fun b hb => by
    by_cases e : b = p
    · subst e
      rw [gf_upd_s]
      exact hq'
    · rw [gf_upd_n B q' e]
      exact hB b hb) j
  have hsol : ∀ b, b < 8 → gf_ph a j (B b) = false := by
    intro b hb
    by_cases e : b = p
    · rw [e, hB0, gf_ph_0]
    · have := hs b hb
      rw [gf_upd_n B q' e] at this
      exact this
  refine ⟨a, ha, hsol, ?_⟩
  have w := hs p hp
  rw [gf_upd_s, hx a, hph a hsol] at w
  unfold gf_ph at w
  revert w
  cases gf_par (a &&& (r / 256)) <;> cases r.testBit j <;> cases c <;> simp
/-- reduced to nothing: one sum alone occurs -/
theorem gf_fix {B : Nat → Nat} {r a j : Nat} (h : gf_red B 8 r < 256) (hs : ∀ b, b < 8 → gf_ph a j (B b) = false) : gf_par (a &&& (r / 256)) = ((gf_red B 8 r).testBit j ^^ r.testBit j) := by
  have w := gf_red_ph 8 r hs
  have z : gf_red B 8 r / 256 = 0 := Nat.div_eq_of_lt h
  unfold gf_ph at w
  rw [z, Nat.and_zero, gf_par_0] at w
  rw [Bool.false_xor] at w
  rw [w]
  cases gf_par (a &&& (r / 256)) <;> cases r.testBit j <;> rfl

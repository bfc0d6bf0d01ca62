section
/-! Parities and rows over GF(2): a row is 256 * set + value; ph a j r is false where the assignment a fits bit j of the row r -/
theorem gf_p8 {n : Nat} (h : n ≤ 8) : 2 ^ n ≤ 256 := by
  have h2 : 2 ^ n ≤ 2 ^ 8 := Nat.pow_le_pow_right (by decide) h
  exact h2
theorem gf_p16 {n : Nat} (h : n ≤ 8) : 2 ^ (8 + n) ≤ 65536 := by
  have h2 : 2 ^ (8 + n) ≤ 2 ^ 16 := Nat.pow_le_pow_right (by decide) (by omega)
  exact h2
def gf_pr (f : Nat → Bool) : Nat → Bool
  | 0 => false
  | k + 1 => (gf_pr f k ^^ f k)
theorem gf_pr_xor (f g : Nat → Bool) (k : Nat) : gf_pr (fun i => (f i ^^ g i)) k = (gf_pr f k ^^ gf_pr g k) := by
  induction k with
  | zero => rfl
  | succ k ih =>
    show (gf_pr (fun i => (f i ^^ g i)) k ^^ (f k ^^ g k)) = ((gf_pr f k ^^ f k) ^^ (gf_pr g k ^^ g k))
    rw [ih]
    cases gf_pr f k <;> cases gf_pr g k <;> cases f k <;> cases g k <;> rfl
theorem gf_pr_congr {f g : Nat → Bool} {k : Nat} (h : ∀ i, i < k → f i = g i) : gf_pr f k = gf_pr g k := by
  induction k with
  | zero => rfl
  | succ k ih =>
    show (gf_pr f k ^^ f k) = (gf_pr g k ^^ g k)
    rw [ih (fun i hi => h i (by omega)), h k (by omega)]
theorem gf_pr_false {f : Nat → Bool} {k : Nat} (h : ∀ i, i < k → f i = false) : gf_pr f k = false := by
  induction k with
  | zero => rfl
  | succ k ih =>
    show (gf_pr f k ^^ f k) = false
    rw [ih (fun i hi => h i (by omega)), h k (by omega)]
    rfl
theorem gf_pr_one {f : Nat → Bool} {k p : Nat} (hp : p < k) (h : ∀ i, i < k → i ≠ p → f i = false) : gf_pr f k = f p := by
  induction k with
  | zero => omega
  | succ k ih =>
    show (gf_pr f k ^^ f k) = f p
    by_cases e : p = k
    · subst e
      rw [gf_pr_false (f := f) (k := p) (fun i hi => h i (by omega) (by omega))]
      exact Bool.false_xor _
    · rw [ih (by omega) (fun i hi hn => h i (by omega) hn), h k (by omega) (fun e' => e e'.symm)]
      exact Bool.xor_false _
def gf_par (s : Nat) : Bool := gf_pr (fun i => s.testBit i) 8
theorem gf_par_xor (s t : Nat) : gf_par (s ^^^ t) = (gf_par s ^^ gf_par t) := by
  unfold gf_par
  rw [← gf_pr_xor]
  exact gf_pr_congr (fun i _ => Nat.testBit_xor _ _ _)
theorem gf_par_0 : gf_par 0 = false := gf_pr_false (fun i _ => Nat.zero_testBit i)
theorem gf_par_bit {k : Nat} (hk : k < 8) (s : Nat) : gf_par (2 ^ k &&& s) = s.testBit k := by
  have h : gf_pr (fun i => (2 ^ k &&& s).testBit i) 8 = (2 ^ k &&& s).testBit k := by
    refine gf_pr_one (f := fun i => (2 ^ k &&& s).testBit i) hk ?_
    intro i hi hn
    show (2 ^ k &&& s).testBit i = false
    rw [Nat.testBit_and, Nat.testBit_two_pow_of_ne (fun e => hn e.symm), Bool.false_and]
  unfold gf_par
  rw [h, Nat.testBit_and, Nat.testBit_two_pow_self, Bool.true_and]
theorem gf_par_bit' {k : Nat} (hk : k < 8) (a : Nat) : gf_par (a &&& 2 ^ k) = a.testBit k := by
  rw [Nat.and_comm]
  exact gf_par_bit hk a
def gf_ph (a j r : Nat) : Bool := (gf_par (a &&& (r / 256)) ^^ r.testBit j)
theorem gf_ph_xor (a j r q : Nat) : gf_ph a j (r ^^^ q) = (gf_ph a j r ^^ gf_ph a j q) := by
  unfold gf_ph
  have h : (r ^^^ q) / 256 = (r / 256) ^^^ (q / 256) := Nat.xor_div_two_pow (n := 8)
  rw [h, Nat.and_xor_distrib_left, gf_par_xor, Nat.testBit_xor]
  cases gf_par (a &&& (r / 256)) <;> cases gf_par (a &&& (q / 256)) <;> cases r.testBit j <;> cases q.testBit j <;> rfl
theorem gf_ph_0 (a j : Nat) : gf_ph a j 0 = false := by
  unfold gf_ph
  rw [Nat.zero_div, Nat.and_zero, gf_par_0, Nat.zero_testBit]
  rfl
theorem gf_ph_a (a c j r : Nat) : gf_ph (a ^^^ c) j r = (gf_ph a j r ^^ gf_par (c &&& (r / 256))) := by
  unfold gf_ph
  rw [Nat.and_xor_distrib_right, gf_par_xor]
  cases gf_par (a &&& (r / 256)) <;> cases gf_par (c &&& (r / 256)) <;> cases r.testBit j <;> rfl
theorem gf_ph_3 (a b c j r : Nat) : gf_ph (a ^^^ b ^^^ c) j r = ((gf_ph a j r ^^ gf_ph b j r) ^^ gf_ph c j r) := by
  rw [gf_ph_a, gf_ph_a]
  unfold gf_ph
  cases gf_par (a &&& (r / 256)) <;> cases gf_par (b &&& (r / 256)) <;> cases gf_par (c &&& (r / 256)) <;> cases r.testBit j <;> rfl
theorem gf_par_3 (a b c t : Nat) : gf_par ((a ^^^ b ^^^ c) &&& t) = ((gf_par (a &&& t) ^^ gf_par (b &&& t)) ^^ gf_par (c &&& t)) := by
  rw [Nat.and_xor_distrib_right, gf_par_xor, Nat.and_xor_distrib_right, gf_par_xor]
/-! rows 256 * s + v -/
theorem gf_row_div {s v : Nat} (hv : v < 256) : (s * 256 + v) / 256 = s := by omega
theorem gf_row_bit {s v j : Nat} (hv : v < 256) (hj : j < 8) : (s * 256 + v).testBit j = v.testBit j := by
  have h := Nat.testBit_two_pow_mul_add s (b := v) (i := 8) hv j
  rw [if_pos hj] at h
  rw [Nat.mul_comm]
  exact h
theorem gf_ph_row {s v a j : Nat} (hv : v < 256) (hj : j < 8) : gf_ph a j (s * 256 + v) = (gf_par (a &&& s) ^^ v.testBit j) := by
  unfold gf_ph
  rw [gf_row_div hv, gf_row_bit hv hj]
theorem gf_hi (r k : Nat) : (r / 256).testBit k = r.testBit (8 + k) := by
  have h := Nat.testBit_div_two_pow (n := 8) r k
  rw [Nat.add_comm k 8] at h
  exact h
/-! reducing by an echelon basis -/
def gf_red (B : Nat → Nat) : Nat → Nat → Nat
  | 0, r => r
  | k + 1, r => gf_red B k (if r.testBit (8 + k) = true then r ^^^ B k else r)
theorem gf_red_ph {B : Nat → Nat} {a j : Nat} : ∀ (k r : Nat), (∀ b, b < k → gf_ph a j (B b) = false) → gf_ph a j (gf_red B k r) = gf_ph a j r := by
  intro k
  induction k with
  | zero => intro r _; rfl
  | succ k ih =>
    intro r h
    show gf_ph a j (gf_red B k (if r.testBit (8 + k) = true then r ^^^ B k else r)) = gf_ph a j r
    rw [ih _ (fun b hb => h b (by omega))]
    split
    · rw [gf_ph_xor, h k (by omega), Bool.xor_false]
    · rfl
theorem gf_red_lt {B : Nat → Nat} {m : Nat} : ∀ (k r : Nat), r < 2 ^ m → (∀ b, b < k → B b < 2 ^ m) → gf_red B k r < 2 ^ m := by
  intro k
  induction k with
  | zero => intro r h _; exact h
  | succ k ih =>
    intro r hr h
    show gf_red B k (if r.testBit (8 + k) = true then r ^^^ B k else r) < 2 ^ m
    refine ih _ ?_ (fun b hb => h b (by omega))
    split
    · exact Nat.xor_lt_two_pow hr (h k (by omega))
    · exact hr
def gf_Ech (B : Nat → Nat) : Prop := ∀ b, b < 8 → B b = 0 ∨ ((B b).testBit (8 + b) = true ∧ ∀ c, b < c → (B b).testBit (8 + c) = false)
theorem gf_ech_hi {B : Nat → Nat} (E : gf_Ech B) {b c : Nat} (hb : b < 8) (h : b < c) : (B b).testBit (8 + c) = false := by
  rcases E b hb with z | z
  · rw [z, Nat.zero_testBit]
  · exact z.2 c h
theorem gf_red_keep {B : Nat → Nat} {c : Nat} : ∀ (k r : Nat), (∀ b, b < k → (B b).testBit (8 + c) = false) → (gf_red B k r).testBit (8 + c) = r.testBit (8 + c) := by
  intro k
  induction k with
  | zero => intro r _; rfl
  | succ k ih =>
    intro r h
    show (gf_red B k (if r.testBit (8 + k) = true then r ^^^ B k else r)).testBit (8 + c) = r.testBit (8 + c)
    rw [ih _ (fun b hb => h b (by omega))]
    split
    · rw [Nat.testBit_xor, h k (by omega), Bool.xor_false]
    · rfl
theorem gf_red_clear {B : Nat → Nat} (E : gf_Ech B) : ∀ (k r : Nat), k ≤ 8 → ∀ b, b < k → B b ≠ 0 → (gf_red B k r).testBit (8 + b) = false := by
  intro k
  induction k with
  | zero => intro r _ b hb; omega
  | succ k ih =>
    intro r hk b hb hB
    show (gf_red B k (if r.testBit (8 + k) = true then r ^^^ B k else r)).testBit (8 + b) = false
    by_cases e : b = k
    · subst e
      rw [gf_red_keep (B := B) (c := b) b _ (fun c hc => gf_ech_hi E (b := c) (c := b) (by omega) hc)]
      by_cases q : r.testBit (8 + b) = true
      · rw [if_pos q, Nat.testBit_xor, q]
        rcases E b (by omega) with z | z
        · exact absurd z hB
        · rw [z.1]; rfl
      · rw [if_neg q]
        exact Bool.eq_false_iff.mpr q
    · exact ih _ (by omega) b (by omega) hB
/-! an echelon basis is solved by some assignment -/
theorem gf_solv {B : Nat → Nat} {n : Nat} (E : gf_Ech B) (hn : n ≤ 8) (hB : ∀ b, b < 8 → B b < 2 ^ (8 + n)) (j : Nat) : ∃ a, a < 2 ^ n ∧ ∀ b, b < 8 → gf_ph a j (B b) = false := by
  have key : ∀ k, k ≤ 8 → ∃ a, a < 2 ^ k ∧ ∀ b, b < k → gf_ph a j (B b) = false := by
    intro k
    induction k with
    | zero => intro _; exact ⟨0, by decide, fun b hb => absurd hb (Nat.not_lt_zero b)⟩
    | succ k ih =>
      intro hk
      obtain ⟨a, ha, h⟩ := ih (by omega)
      have h2 : 2 ^ k < 2 ^ (k + 1) := Nat.pow_lt_pow_right (by decide) (by omega)
      by_cases q : gf_ph a j (B k) = false
      · refine ⟨a, by omega, fun b hb => ?_⟩
        by_cases e : b = k
        · rw [e]; exact q
        · exact h b (by omega)
      · have q1 : gf_ph a j (B k) = true := by
          cases z : gf_ph a j (B k)
          · exact absurd z q
          · rfl
        refine ⟨a ^^^ 2 ^ k, Nat.xor_lt_two_pow (by omega) h2, fun b hb => ?_⟩
        rw [gf_ph_a, gf_par_bit (by omega), gf_hi]
        by_cases e : b = k
        · subst e
          rw [q1]
          rcases E b (by omega) with z | z
          · rw [z, gf_ph_0] at q
            exact absurd rfl q
          · rw [z.1]; rfl
        · rw [h b (by omega), gf_ech_hi E (by omega) (by omega)]
          rfl
  obtain ⟨a, ha, h⟩ := key n hn
  refine ⟨a, ha, fun b hb => ?_⟩
  by_cases e : b < n
  · exact h b e
  · rcases E b hb with z | z
    · rw [z, gf_ph_0]
    · have h1 := Nat.ge_two_pow_of_testBit z.1
      have h2 := hB b hb
      have h3 : 2 ^ (8 + n) ≤ 2 ^ (8 + b) := Nat.pow_le_pow_right (by decide) (by omega)
      omega
theorem gf_tops {q : Nat} (h : q < 65536) (h0 : ¬ q < 256) : ∃ p, p < 8 ∧ q.testBit (8 + p) = true ∧ ∀ c, p < c → q.testBit (8 + c) = false := by
  have hq : q ≠ 0 := by omega
  have h1 : 8 ≤ q.log2 := (Nat.le_log2 hq).mpr (by omega)
  have h2 : q.log2 < 16 := (Nat.log2_lt hq).mpr (by omega)
  have h3 := Nat.testBit_log2 hq
  have h4 : q < 2 ^ (q.log2 + 1) := Nat.lt_log2_self
  refine ⟨q.log2 - 8, by omega, ?_, fun c hc => ?_⟩
  · rw [show 8 + (q.log2 - 8) = q.log2 by omega]
    exact h3
  · have h5 : 2 ^ (q.log2 + 1) ≤ 2 ^ (8 + c) := Nat.pow_le_pow_right (by decide) (by omega)
    exact Nat.testBit_lt_two_pow (by omega)
def gf_upd (B : Nat → Nat) (p q : Nat) : Nat → Nat := fun i => if i = p then q else B i
theorem gf_upd_s (B : Nat → Nat) (p q : Nat) : gf_upd B p q p = q := if_pos rfl
theorem gf_upd_n (B : Nat → Nat) {p i : Nat} (q : Nat) (h : i ≠ p) : gf_upd B p q i = B i := if_neg h
theorem gf_ech_upd {B : Nat → Nat} (E : gf_Ech B) {p q : Nat} (h1 : q.testBit (8 + p) = true) (h2 : ∀ c, p < c → q.testBit (8 + c) = false) : gf_Ech (gf_upd B p q) := by
  intro b hb
  by_cases e : b = p
  · subst e
    rw [gf_upd_s]
    exact Or.inr ⟨h1, h2⟩
  · rw [gf_upd_n B q e]
    exact E b hb
theorem gf_top0 {B : Nat → Nat} (E : gf_Ech B) {r p : Nat} (hp : p < 8) (h : (gf_red B 8 r).testBit (8 + p) = true) : B p = 0 := by
  by_cases z : B p = 0
  · exact z
  · have := gf_red_clear E 8 r (by omega) p hp z
    rw [this] at h
    exact absurd h (by decide)
/-- not reduced to nothing: both sums occur -/
theorem gf_free {B : Nat → Nat} {n : Nat} (E : gf_Ech B) (hn : n ≤ 8) (hB : ∀ b, b < 8 → B b < 2 ^ (8 + n)) {r : Nat} (hr : r < 2 ^ (8 + n)) (h : ¬ gf_red B 8 r < 256) {j : Nat} (hj : j < 8) (c : Bool) : ∃ a, a < 2 ^ n ∧ (∀ b, b < 8 → gf_ph a j (B b) = false) ∧ gf_par (a &&& (r / 256)) = c := by
  have hq : gf_red B 8 r < 2 ^ (8 + n) := gf_red_lt 8 r hr hB
  have h16 : 2 ^ (8 + n) ≤ 65536 := gf_p16 hn
  obtain ⟨p, hp, h1, h2⟩ := gf_tops (by omega) h
  have hB0 := gf_top0 E hp h1
  have hph : ∀ a, (∀ b, b < 8 → gf_ph a j (B b) = false) → gf_ph a j (gf_red B 8 r) = gf_ph a j r := fun a ha => gf_red_ph 8 r ha
  generalize gf_red B 8 r = q at hq h1 h2 hph
  have h2j : 2 ^ j < 2 ^ (8 + n) := Nat.pow_lt_pow_right (by decide) (by omega)
  have hbj : ∀ c, (2 ^ j).testBit (8 + c) = false := fun c => Nat.testBit_two_pow_of_ne (by omega)
  have hpj : ∀ a, gf_ph a j (2 ^ j) = true := by
    intro a
    have z : 2 ^ j / 256 = 0 := Nat.div_eq_of_lt (by
      have : 2 ^ j < 2 ^ 8 := Nat.pow_lt_pow_right (by decide) hj
      omega)
    unfold gf_ph
    rw [z, Nat.and_zero, gf_par_0, Nat.testBit_two_pow_self]
    rfl
  obtain ⟨q', hq', h1', h2', hx⟩ : ∃ q', q' < 2 ^ (8 + n) ∧ q'.testBit (8 + p) = true ∧ (∀ c, p < c → q'.testBit (8 + c) = false) ∧ ∀ a, gf_ph a j q' = (gf_ph a j q ^^ (c ^^ r.testBit j)) := by
    cases z : (c ^^ r.testBit j)
    · exact ⟨q, hq, h1, h2, fun a => (Bool.xor_false _).symm⟩
    · refine ⟨q ^^^ 2 ^ j, Nat.xor_lt_two_pow hq h2j, ?_, fun c hc => ?_, fun a => ?_⟩
      · rw [Nat.testBit_xor, h1, hbj]; rfl
      · rw [Nat.testBit_xor, h2 c hc, hbj]; rfl
      · rw [gf_ph_xor, hpj]
  obtain ⟨a, ha, hs⟩ := gf_solv (gf_ech_upd E h1' h2') hn (fun b hb => by
    by_cases e : b = p
    · subst e
      rw [gf_upd_s]
      exact hq'
    · rw [gf_upd_n B q' e]
      exact hB b hb) j
  have hsol : ∀ b, b < 8 → gf_ph a j (B b) = false := by
    intro b hb
    by_cases e : b = p
    · rw [e, hB0, gf_ph_0]
    · have := hs b hb
      rw [gf_upd_n B q' e] at this
      exact this
  refine ⟨a, ha, hsol, ?_⟩
  have w := hs p hp
  rw [gf_upd_s, hx a, hph a hsol] at w
  unfold gf_ph at w
  revert w
  cases gf_par (a &&& (r / 256)) <;> cases r.testBit j <;> cases c <;> simp
/-- reduced to nothing: one sum alone occurs -/
theorem gf_fix {B : Nat → Nat} {r a j : Nat} (h : gf_red B 8 r < 256) (hs : ∀ b, b < 8 → gf_ph a j (B b) = false) : gf_par (a &&& (r / 256)) = ((gf_red B 8 r).testBit j ^^ r.testBit j) := by
  have w := gf_red_ph 8 r hs
  have z : gf_red B 8 r / 256 = 0 := Nat.div_eq_of_lt h
  unfold gf_ph at w
  rw [z, Nat.and_zero, gf_par_0] at w
  rw [Bool.false_xor] at w
  rw [w]
  cases gf_par (a &&& (r / 256)) <;> cases r.testBit j <;> rfl
end
section
/-! which sums are fixed by the solutions of a basis; affine sets; counting; the invariant of the elimination -/
def gf_Sol (B : Nat → Nat) (j a : Nat) : Prop := ∀ b, b < 8 → gf_ph a j (B b) = false
def gf_Q (B : Nat → Nat) (n j a : Nat) : Prop := a < 2 ^ n ∧ gf_Sol B j a
def gf_Con (Q : Nat → Prop) (t : Nat) : Prop := ∀ a a', Q a → Q a' → gf_par (a &&& t) = gf_par (a' &&& t)
theorem gf_Q_3 {B : Nat → Nat} {n j : Nat} (a b c : Nat) (ha : gf_Q B n j a) (hb : gf_Q B n j b) (hc : gf_Q B n j c) : gf_Q B n j (a ^^^ b ^^^ c) := by
  refine ⟨Nat.xor_lt_two_pow (Nat.xor_lt_two_pow ha.1 hb.1) hc.1, fun k hk => ?_⟩
  rw [gf_ph_3, ha.2 k hk, hb.2 k hk, hc.2 k hk]
  rfl
theorem gf_con_red {B : Nat → Nat} {n : Nat} (E : gf_Ech B) (hn : n ≤ 8) (hB : ∀ b, b < 8 → B b < 2 ^ (8 + n)) {r : Nat} (hr : r < 2 ^ (8 + n)) {j : Nat} (hj : j < 8) : gf_red B 8 r < 256 ↔ gf_Con (gf_Q B n j) (r / 256) := by
  constructor
  · intro h a a' ha ha'
    rw [gf_fix h ha.2, gf_fix h ha'.2]
  · intro h
    by_cases z : gf_red B 8 r < 256
    · exact z
    · obtain ⟨a, la, ha, ea⟩ := gf_free E hn hB hr z hj false
      obtain ⟨a', la', ha', ea'⟩ := gf_free E hn hB hr z hj true
      have w := h a a' ⟨la, ha⟩ ⟨la', ha'⟩
      rw [ea, ea'] at w
      exact absurd w (by decide)
theorem gf_par_t (a t x : Nat) : gf_par (a &&& (t ^^^ x)) = (gf_par (a &&& t) ^^ gf_par (a &&& x)) := by
  rw [Nat.and_xor_distrib_left, gf_par_xor]
theorem gf_con_x {Q : Nat → Prop} {t x : Nat} (h1 : gf_Con Q t) (h2 : gf_Con Q x) : gf_Con Q (t ^^^ x) := by
  intro a a' ha ha'
  rw [gf_par_t, gf_par_t, h1 a a' ha ha', h2 a a' ha ha']
theorem gf_xx (t x : Nat) : t ^^^ x ^^^ x = t := by rw [Nat.xor_assoc, Nat.xor_self, Nat.xor_zero]
theorem gf_con_x1 {Q : Nat → Prop} {t x : Nat} (h1 : gf_Con Q (t ^^^ x)) (h2 : gf_Con Q x) : gf_Con Q t := by
  have h := gf_con_x h1 h2
  rw [gf_xx] at h
  exact h
theorem gf_con_x2 {Q : Nat → Prop} {t x : Nat} (h1 : gf_Con Q (t ^^^ x)) (h2 : gf_Con Q t) : gf_Con Q x := by
  rw [Nat.xor_comm] at h1
  exact gf_con_x1 h1 h2
theorem gf_aff {Q : Nat → Prop} (h3 : ∀ a b c, Q a → Q b → Q c → Q (a ^^^ b ^^^ c)) {x t : Nat} {c : Bool} (hx : ∀ d : Bool, ∃ a, Q a ∧ gf_par (a &&& x) = d) : gf_Con (fun a => Q a ∧ gf_par (a &&& x) = c) t ↔ (gf_Con Q t ∨ gf_Con Q (t ^^^ x)) := by
  constructor
  · intro h
    obtain ⟨a0, q0, e0⟩ := hx c
    obtain ⟨a1, q1, e1⟩ := hx (!c)
    have hc : ∀ a, Q a → gf_par (a &&& x) = c → gf_par (a &&& t) = gf_par (a0 &&& t) := fun a qa ea => h a a0 ⟨qa, ea⟩ ⟨q0, e0⟩
    have hd : ∀ a, Q a → gf_par (a &&& x) = (!c) → gf_par (a &&& t) = gf_par (a1 &&& t) := by
      intro a qa ea
      have w := hc _ (h3 a a1 a0 qa q1 q0) (by rw [gf_par_3, ea, e1, e0]; cases c <;> rfl)
      rw [gf_par_3] at w
      revert w
      cases gf_par (a &&& t) <;> cases gf_par (a1 &&& t) <;> cases gf_par (a0 &&& t) <;> simp
    have tot : ∀ a, Q a → (gf_par (a &&& x) = c ∧ gf_par (a &&& t) = gf_par (a0 &&& t)) ∨ (gf_par (a &&& x) = (!c) ∧ gf_par (a &&& t) = gf_par (a1 &&& t)) := by
      intro a qa
      by_cases z : gf_par (a &&& x) = c
      · exact Or.inl ⟨z, hc a qa z⟩
      · have z' : gf_par (a &&& x) = (!c) := by
          revert z
          cases gf_par (a &&& x) <;> cases c <;> simp
        exact Or.inr ⟨z', hd a qa z'⟩
    by_cases e : gf_par (a0 &&& t) = gf_par (a1 &&& t)
    · left
      intro a a' qa qa'
      rcases tot a qa with ⟨_, u⟩ | ⟨_, u⟩ <;> rcases tot a' qa' with ⟨_, w⟩ | ⟨_, w⟩
      · exact u.trans w.symm
      · exact u.trans (e.trans w.symm)
      · exact u.trans (e.symm.trans w.symm)
      · exact u.trans w.symm
    · right
      intro a a' qa qa'
      rw [gf_par_t, gf_par_t]
      rcases tot a qa with u | u <;> rcases tot a' qa' with w | w <;> rw [u.1, u.2, w.1, w.2] <;> revert e <;> cases gf_par (a0 &&& t) <;> cases gf_par (a1 &&& t) <;> cases c <;> simp
  · intro h a a' ha ha'
    rcases h with h | h
    · exact h a a' ha.1 ha'.1
    · have w := h a a' ha.1 ha'.1
      rw [gf_par_t, gf_par_t, ha.2, ha'.2] at w
      revert w
      cases gf_par (a &&& t) <;> cases gf_par (a' &&& t) <;> cases c <;> simp
/-! counting -/
def gf_ct (P : Nat → Bool) : Nat → Nat
  | 0 => 0
  | k + 1 => gf_ct P k + (if P k = true then 1 else 0)
theorem gf_ct_s (P : Nat → Bool) (k : Nat) : gf_ct P (k + 1) = gf_ct P k + (if P k = true then 1 else 0) := rfl
theorem gf_ct_congr {P Q : Nat → Bool} {k : Nat} (h : ∀ t, t < k → P t = Q t) : gf_ct P k = gf_ct Q k := by
  induction k with
  | zero => rfl
  | succ k ih => rw [gf_ct_s, gf_ct_s, ih (fun t ht => h t (by omega)), h k (by omega)]
theorem gf_ct_le (P : Nat → Bool) (k : Nat) : gf_ct P k ≤ k := by
  induction k with
  | zero => exact Nat.le_refl 0
  | succ k ih =>
    rw [gf_ct_s]
    split <;> omega
theorem gf_ct_or {P Q : Nat → Bool} {k : Nat} (h : ∀ t, t < k → ¬ (P t = true ∧ Q t = true)) : gf_ct (fun t => (P t || Q t)) k = gf_ct P k + gf_ct Q k := by
  induction k with
  | zero => rfl
  | succ k ih =>
    have hk := h k (by omega)
    rw [gf_ct_s, gf_ct_s, gf_ct_s, ih (fun t ht => h t (by omega))]
    revert hk
    cases P k <;> cases Q k <;> simp <;> omega
theorem gf_ct_add (P : Nat → Bool) (m l : Nat) : gf_ct P (m + l) = gf_ct P m + gf_ct (fun t => P (m + t)) l := by
  induction l with
  | zero => rfl
  | succ l ih =>
    show gf_ct P ((m + l) + 1) = _
    rw [gf_ct_s, gf_ct_s, ih]
    exact Nat.add_assoc _ _ _
theorem gf_x1 : ∀ k, k < 8 → ∀ t, t < 256 → t < 2 ^ k → 2 ^ k + t = 2 ^ k ^^^ t := by decide +kernel
theorem gf_ct_xor : ∀ k, k ≤ 8 → ∀ (P : Nat → Bool) (x : Nat), x < 2 ^ k → gf_ct (fun t => P (t ^^^ x)) (2 ^ k) = gf_ct P (2 ^ k) := by
  intro k
  induction k with
  | zero =>
    intro _ P x hx
    have e : x = 0 := by
      have : x < 1 := hx
      omega
    subst e
    exact gf_ct_congr (fun t _ => by rw [Nat.xor_zero])
  | succ k ih =>
    intro hk P x hx
    have e2 : 2 ^ (k + 1) = 2 ^ k + 2 ^ k := by rw [Nat.pow_succ]; omega
    have le : 2 ^ k ≤ 256 := gf_p8 (by omega)
    have x1 : ∀ t, t < 2 ^ k → 2 ^ k + t = 2 ^ k ^^^ t := fun t ht => gf_x1 k (by omega) t (by omega) ht
    rw [e2] at hx ⊢
    rw [gf_ct_add, gf_ct_add]
    have u2 : gf_ct (fun t => P (2 ^ k + t)) (2 ^ k) = gf_ct (fun t => P (2 ^ k ^^^ t)) (2 ^ k) := gf_ct_congr (fun t ht => by rw [x1 t ht])
    by_cases z : x < 2 ^ k
    · have w0 := ih (by omega) P x z
      have w := ih (by omega) (fun t => P (2 ^ k ^^^ t)) x z
      have u1 : gf_ct (fun t => P ((2 ^ k + t) ^^^ x)) (2 ^ k) = gf_ct (fun t => P (2 ^ k ^^^ (t ^^^ x))) (2 ^ k) := gf_ct_congr (fun t ht => by rw [x1 t ht, Nat.xor_assoc])
      have u3 := u1.trans (w.trans u2.symm)
      show gf_ct (fun t => P (t ^^^ x)) (2 ^ k) + gf_ct (fun t => P ((2 ^ k + t) ^^^ x)) (2 ^ k) = _
      rw [w0, u3]
    · obtain ⟨y, hy, rfl⟩ : ∃ y, y < 2 ^ k ∧ x = 2 ^ k + y := ⟨x - 2 ^ k, by omega, by omega⟩
      have w0 := ih (by omega) P y hy
      have w := ih (by omega) (fun t => P (2 ^ k ^^^ t)) y hy
      have u1 : gf_ct (fun t => P ((2 ^ k + t) ^^^ (2 ^ k + y))) (2 ^ k) = gf_ct (fun t => P (t ^^^ y)) (2 ^ k) := gf_ct_congr (fun t ht => by
        rw [x1 t ht, x1 y hy, Nat.xor_comm (2 ^ k) t, Nat.xor_assoc, ← Nat.xor_assoc (2 ^ k) (2 ^ k) y, Nat.xor_self, Nat.zero_xor])
      have u4 : gf_ct (fun t => P (t ^^^ (2 ^ k + y))) (2 ^ k) = gf_ct (fun t => P (2 ^ k ^^^ (t ^^^ y))) (2 ^ k) := gf_ct_congr (fun t ht => by
        rw [x1 y hy, ← Nat.xor_assoc, Nat.xor_comm t (2 ^ k), Nat.xor_assoc])
      show gf_ct (fun t => P (t ^^^ (2 ^ k + y))) (2 ^ k) + gf_ct (fun t => P ((2 ^ k + t) ^^^ (2 ^ k + y))) (2 ^ k) = _
      rw [u1, w0, u4, w, u2, Nat.add_comm]
/-! the invariant: the first m rows R, of them those that are in -/
def gf_Hold (R : Nat → Nat) (inn : Nat → Bool) (m j a : Nat) : Prop := ∀ i, i < m → inn i = true → gf_ph a j (R i) = false
def gf_sp (R : Nat → Nat) (inn : Nat → Bool) : Nat → Nat → Bool
  | 0 => fun t => decide (t = 0)
  | i + 1 => fun t => if inn i = true then (gf_sp R inn i t || gf_sp R inn i (t ^^^ (R i / 256))) else gf_sp R inn i t
def gf_Inv (n : Nat) (R : Nat → Nat) (inn : Nat → Bool) (m : Nat) (B : Nat → Nat) (z : Nat) (con : Bool) : Prop :=
  (∀ b, b < 8 → B b < 2 ^ (8 + n)) ∧ gf_Ech B ∧ (∀ a j, gf_Hold R inn m j a → gf_Sol B j a) ∧ (con = false → ∀ a j, j < 8 → gf_Sol B j a → gf_Hold R inn m j a) ∧ (con = true → ∃ j, j < 8 ∧ ∀ a, ¬ gf_Hold R inn m j a) ∧ (∀ t, t < 256 → (gf_sp R inn m t = true ↔ gf_Con (gf_Q B 8 0) t)) ∧ gf_ct (gf_sp R inn m) 256 = 2 ^ z
theorem gf_hold_s {R : Nat → Nat} {inn : Nat → Bool} {m j a : Nat} (h : gf_Hold R inn (m + 1) j a) : gf_Hold R inn m j a := fun i hi => h i (by omega)
theorem gf_hold_m {R : Nat → Nat} {inn : Nat → Bool} {m j a : Nat} (h : gf_Hold R inn m j a) (h1 : inn m = true → gf_ph a j (R m) = false) : gf_Hold R inn (m + 1) j a := by
  intro i hi hin
  by_cases e : i = m
  · subst e
    exact h1 hin
  · exact h i (by omega) hin
theorem gf_b16 {n x : Nat} (hn : n ≤ 8) (h : x < 2 ^ (8 + n)) : x < 2 ^ (8 + 8) := Nat.lt_of_lt_of_le h (Nat.pow_le_pow_right (by decide) (by omega))
theorem gf_inv_0 {n : Nat} {R : Nat → Nat} {inn : Nat → Bool} {B : Nat → Nat} (hB : ∀ b, b < 8 → B b = 0) : gf_Inv n R inn 0 B 0 false := by
  have hs : ∀ a j, gf_Sol B j a := fun a j b hb => by rw [hB b hb, gf_ph_0]
  refine ⟨fun b hb => by rw [hB b hb]; exact Nat.two_pow_pos _, fun b hb => Or.inl (hB b hb), fun a j _ => hs a j, fun _ a j _ _ i hi => absurd hi (Nat.not_lt_zero i), fun h => absurd h (by decide), fun t ht => ?_, ?_⟩
  · show decide (t = 0) = true ↔ _
    rw [decide_eq_true_iff]
    constructor
    · intro e
      subst e
      intro a a' _ _
      rw [Nat.and_zero, Nat.and_zero]
    · intro h
      by_cases e : t = 0
      · exact e
      · exfalso
        obtain ⟨k, hk⟩ := Nat.exists_testBit_of_ne_zero e
        have hk8 : k < 8 := by
          by_cases q : k < 8
          · exact q
          · have h1 := Nat.ge_two_pow_of_testBit hk
            have h2 : 2 ^ 8 ≤ 2 ^ k := Nat.pow_le_pow_right (by decide) (by omega)
            omega
        have h2 : 2 ^ k < 2 ^ 8 := Nat.pow_lt_pow_right (by decide) hk8
        have w := h (2 ^ k) 0 ⟨h2, hs _ _⟩ ⟨by decide, hs _ _⟩
        rw [gf_par_bit hk8, Nat.zero_and, gf_par_0, hk] at w
        exact absurd w (by decide)
  · have h : gf_ct (fun t => decide (t = 0)) 256 = 2 ^ 0 := by decide +kernel
    rw [← h]
    exact gf_ct_congr (fun t _ => rfl)
theorem gf_inv_skip {n : Nat} {R : Nat → Nat} {inn : Nat → Bool} {m : Nat} {B : Nat → Nat} {z : Nat} {con : Bool} (I : gf_Inv n R inn m B z con) (hi : inn m = false) : gf_Inv n R inn (m + 1) B z con := by
  obtain ⟨h1, h2, h3, h4, h5, h6, h7⟩ := I
  have e : gf_sp R inn (m + 1) = gf_sp R inn m := by
    funext t
    show (if inn m = true then (gf_sp R inn m t || gf_sp R inn m (t ^^^ (R m / 256))) else gf_sp R inn m t) = gf_sp R inn m t
    rw [if_neg (by rw [hi]; decide)]
  refine ⟨h1, h2, fun a j h => h3 a j (gf_hold_s h), fun hc a j hj hs => gf_hold_m (h4 hc a j hj hs) (fun h => absurd (hi.symm.trans h) (by decide)), fun hc => ?_, ?_, ?_⟩
  · obtain ⟨j, hj, h⟩ := h5 hc
    exact ⟨j, hj, fun a ha => h a (gf_hold_s ha)⟩
  · rw [e]; exact h6
  · rw [e]; exact h7
theorem gf_sp_s {R : Nat → Nat} {inn : Nat → Bool} {m : Nat} (hi : inn m = true) (t : Nat) : gf_sp R inn (m + 1) t = (gf_sp R inn m t || gf_sp R inn m (t ^^^ (R m / 256))) := by
  show (if inn m = true then (gf_sp R inn m t || gf_sp R inn m (t ^^^ (R m / 256))) else gf_sp R inn m t) = _
  rw [if_pos hi]
theorem gf_bit8 {q : Nat} (h : q < 256) (h0 : q ≠ 0) : ∃ j, j < 8 ∧ q.testBit j = true := by
  obtain ⟨k, hk⟩ := Nat.exists_testBit_of_ne_zero h0
  refine ⟨k, ?_, hk⟩
  by_cases z : k < 8
  · exact z
  · have h1 := Nat.ge_two_pow_of_testBit hk
    have h2 : 2 ^ 8 ≤ 2 ^ k := Nat.pow_le_pow_right (by decide) (by omega)
    omega
theorem gf_inv_zero {n : Nat} {R : Nat → Nat} {inn : Nat → Bool} {m : Nat} {B : Nat → Nat} {z : Nat} {con : Bool} (hn : n ≤ 8) (I : gf_Inv n R inn m B z con) (hi : inn m = true) (hR : R m < 2 ^ (8 + n)) (hq : gf_red B 8 (R m) < 256) : gf_Inv n R inn (m + 1) B z (con || decide (gf_red B 8 (R m) ≠ 0)) := by
  obtain ⟨h1, h2, h3, h4, h5, h6, h7⟩ := I
  have h1' : ∀ b, b < 8 → B b < 2 ^ (8 + 8) := fun b hb => gf_b16 hn (h1 b hb)
  have hR' := gf_b16 hn hR
  have hx : R m / 256 < 256 := by
    have : R m < 65536 := hR'
    omega
  have cx : gf_Con (gf_Q B 8 0) (R m / 256) := (gf_con_red h2 (by omega) h1' hR' (by omega)).mp hq
  have hsp : ∀ t, t < 256 → (gf_sp R inn (m + 1) t = true ↔ gf_Con (gf_Q B 8 0) t) := by
    intro t ht
    rw [gf_sp_s hi, Bool.or_eq_true, h6 t ht, h6 _ (Nat.xor_lt_two_pow (n := 8) ht hx)]
    exact ⟨fun h => h.elim id (fun w => gf_con_x1 w cx), fun h => Or.inl h⟩
  refine ⟨h1, h2, fun a j h => h3 a j (gf_hold_s h), fun hc a j hj hs => ?_, fun hc => ?_, hsp, ?_⟩
  · rw [Bool.or_eq_false_iff] at hc
    have hz : gf_red B 8 (R m) = 0 := by
      have := of_decide_eq_false hc.2
      omega
    refine gf_hold_m (h4 hc.1 a j hj hs) (fun _ => ?_)
    rw [← gf_red_ph 8 (R m) hs, hz, gf_ph_0]
  · rw [Bool.or_eq_true] at hc
    rcases hc with hc | hc
    · obtain ⟨j, hj, h⟩ := h5 hc
      exact ⟨j, hj, fun a ha => h a (gf_hold_s ha)⟩
    · obtain ⟨j, hj, hb⟩ := gf_bit8 hq (of_decide_eq_true hc)
      refine ⟨j, hj, fun a ha => ?_⟩
      have w := gf_red_ph 8 (R m) (h3 a j (gf_hold_s ha))
      rw [ha m (by omega) hi] at w
      unfold gf_ph at w
      rw [Nat.div_eq_of_lt hq, Nat.and_zero, gf_par_0, hb] at w
      exact absurd w (by decide)
  · rw [← h7]
    exact gf_ct_congr (fun t ht => by rw [Bool.eq_iff_iff, hsp t ht, h6 t ht])
theorem gf_inv_new {n : Nat} {R : Nat → Nat} {inn : Nat → Bool} {m : Nat} {B : Nat → Nat} {z : Nat} {con : Bool} (hn : n ≤ 8) (I : gf_Inv n R inn m B z con) (hi : inn m = true) (hR : R m < 2 ^ (8 + n)) {p : Nat} (hp : p < 8) (hq1 : (gf_red B 8 (R m)).testBit (8 + p) = true) (hq2 : ∀ c, p < c → (gf_red B 8 (R m)).testBit (8 + c) = false) : gf_Inv n R inn (m + 1) (gf_upd B p (gf_red B 8 (R m))) (z + 1) con := by
  obtain ⟨h1, h2, h3, h4, h5, h6, h7⟩ := I
  have h1' : ∀ b, b < 8 → B b < 2 ^ (8 + 8) := fun b hb => gf_b16 hn (h1 b hb)
  have hR' := gf_b16 hn hR
  have hx : R m / 256 < 256 := by
    have : R m < 65536 := hR'
    omega
  have hB0 := gf_top0 h2 hp hq1
  have hql : gf_red B 8 (R m) < 2 ^ (8 + n) := gf_red_lt 8 (R m) hR h1
  have hnq : ¬ gf_red B 8 (R m) < 256 := by
    intro z
    have w := Nat.ge_two_pow_of_testBit hq1
    have w2 : 2 ^ 8 ≤ 2 ^ (8 + p) := Nat.pow_le_pow_right (by decide) (by omega)
    omega
  have hS : ∀ a j, gf_Sol (gf_upd B p (gf_red B 8 (R m))) j a ↔ (gf_Sol B j a ∧ gf_ph a j (R m) = false) := by
    intro a j
    constructor
    · intro h
      have hs : gf_Sol B j a := by
        intro b hb
        by_cases e : b = p
        · rw [e, hB0, gf_ph_0]
        · have w := h b hb
          rw [gf_upd_n B _ e] at w
          exact w
      refine ⟨hs, ?_⟩
      have w := h p hp
      rw [gf_upd_s, gf_red_ph 8 (R m) hs] at w
      exact w
    · intro h b hb
      by_cases e : b = p
      · rw [e, gf_upd_s, gf_red_ph 8 (R m) h.1]
        exact h.2
      · rw [gf_upd_n B _ e]
        exact h.1 b hb
  have hfree : ∀ d : Bool, ∃ a, gf_Q B 8 0 a ∧ gf_par (a &&& (R m / 256)) = d := by
    intro d
    obtain ⟨a, la, ha, ea⟩ := gf_free (n := 8) h2 (by omega) h1' hR' hnq (j := 0) (by omega) d
    exact ⟨a, ⟨la, ha⟩, ea⟩
  have hQ : ∀ a, gf_Q (gf_upd B p (gf_red B 8 (R m))) 8 0 a ↔ (gf_Q B 8 0 a ∧ gf_par (a &&& (R m / 256)) = (R m).testBit 0) := by
    intro a
    unfold gf_Q
    rw [hS a 0]
    have w : gf_ph a 0 (R m) = false ↔ gf_par (a &&& (R m / 256)) = (R m).testBit 0 := by
      unfold gf_ph
      cases gf_par (a &&& (R m / 256)) <;> cases (R m).testBit 0 <;> simp
    rw [w, and_assoc]
  have hC : ∀ t, gf_Con (gf_Q (gf_upd B p (gf_red B 8 (R m))) 8 0) t ↔ (gf_Con (gf_Q B 8 0) t ∨ gf_Con (gf_Q B 8 0) (t ^^^ (R m / 256))) := by
    intro t
    rw [← gf_aff (c := (R m).testBit 0) gf_Q_3 hfree]
    exact ⟨fun h a a' ha ha' => h a a' ((hQ a).mpr ha) ((hQ a').mpr ha'), fun h a a' ha ha' => h a a' ((hQ a).mp ha) ((hQ a').mp ha')⟩
  have hsp : ∀ t, t < 256 → (gf_sp R inn (m + 1) t = true ↔ gf_Con (gf_Q (gf_upd B p (gf_red B 8 (R m))) 8 0) t) := by
    intro t ht
    rw [gf_sp_s hi, Bool.or_eq_true, h6 t ht, h6 _ (Nat.xor_lt_two_pow (n := 8) ht hx), hC]
  refine ⟨fun b hb => ?_, gf_ech_upd h2 hq1 hq2, fun a j h => (hS a j).mpr ⟨h3 a j (gf_hold_s h), h m (by omega) hi⟩, fun hc a j hj hs => ?_, fun hc => ?_, hsp, ?_⟩
  · by_cases e : b = p
    · rw [e, gf_upd_s]
      exact hql
    · rw [gf_upd_n B _ e]
      exact h1 b hb
  · have w := (hS a j).mp hs
    exact gf_hold_m (h4 hc a j hj w.1) (fun _ => w.2)
  · obtain ⟨j, hj, h⟩ := h5 hc
    exact ⟨j, hj, fun a ha => h a (gf_hold_s ha)⟩
  · have e1 : gf_ct (gf_sp R inn (m + 1)) 256 = gf_ct (fun t => (gf_sp R inn m t || gf_sp R inn m (t ^^^ (R m / 256)))) 256 := gf_ct_congr (fun t _ => gf_sp_s hi t)
    have e2 := gf_ct_xor 8 (by omega) (gf_sp R inn m) (R m / 256) hx
    have e3 : gf_ct (fun t => (gf_sp R inn m t || gf_sp R inn m (t ^^^ (R m / 256)))) 256 = gf_ct (gf_sp R inn m) 256 + gf_ct (fun t => gf_sp R inn m (t ^^^ (R m / 256))) 256 := by
      refine gf_ct_or (P := gf_sp R inn m) (Q := fun t => gf_sp R inn m (t ^^^ (R m / 256))) (fun t ht h => ?_)
      have c1 := (h6 t ht).mp h.1
      have c2 := (h6 _ (Nat.xor_lt_two_pow (n := 8) ht hx)).mp h.2
      have c3 := gf_con_x2 c2 c1
      obtain ⟨a, qa, ea⟩ := hfree false
      obtain ⟨a', qa', ea'⟩ := hfree true
      have w := c3 a a' qa qa'
      rw [ea, ea'] at w
      exact absurd w (by decide)
    have e4 : gf_ct (fun t => gf_sp R inn m (t ^^^ (R m / 256))) 256 = gf_ct (gf_sp R inn m) 256 := e2
    rw [e1, e3, e4, h7, Nat.pow_succ]
    omega
end
section
/-! what the brute force over all assignments finds, and that the elimination finds the same -/
def gf_al (Q : Nat → Bool) : Nat → Bool
  | 0 => true
  | k + 1 => (gf_al Q k && Q k)
theorem gf_al_iff {Q : Nat → Bool} {k : Nat} : gf_al Q k = true ↔ ∀ i, i < k → Q i = true := by
  induction k with
  | zero => exact ⟨fun _ i hi => absurd hi (Nat.not_lt_zero i), fun _ => rfl⟩
  | succ k ih =>
    show (gf_al Q k && Q k) = true ↔ _
    rw [Bool.and_eq_true, ih]
    constructor
    · intro h i hi
      by_cases e : i = k
      · rw [e]; exact h.2
      · exact h.1 i (by omega)
    · intro h
      exact ⟨fun i hi => h i (by omega), h k (by omega)⟩
theorem gf_al_no {Q : Nat → Bool} {k i : Nat} (hi : i < k) (h : Q i = false) : gf_al Q k = false := by
  cases z : gf_al Q k
  · rfl
  · rw [gf_al_iff.mp z i hi] at h
    exact absurd h (by decide)
def gf_ok (R : Nat → Nat) (inn : Nat → Bool) (j a i : Nat) : Bool := (!(inn i) || !(gf_ph a j (R i)))
def gf_sv (R : Nat → Nat) (inn : Nat → Bool) (m j a : Nat) : Bool := gf_al (gf_ok R inn j a) m
theorem gf_sv_iff {R : Nat → Nat} {inn : Nat → Bool} {m j a : Nat} : gf_sv R inn m j a = true ↔ gf_Hold R inn m j a := by
  unfold gf_sv
  rw [gf_al_iff]
  constructor
  · intro h i hi hin
    have w := h i hi
    unfold gf_ok at w
    rw [hin] at w
    revert w
    cases gf_ph a j (R i) <;> simp
  · intro h i hi
    unfold gf_ok
    cases z : inn i
    · rfl
    · rw [h i hi z]; rfl
def gf_ex (P : Nat → Bool) : Nat → Bool
  | 0 => false
  | k + 1 => (gf_ex P k || P k)
theorem gf_ex_iff {P : Nat → Bool} {k : Nat} : gf_ex P k = true ↔ ∃ a, a < k ∧ P a = true := by
  induction k with
  | zero => exact ⟨fun h => absurd (show false = true from h) (by decide), fun ⟨a, h, _⟩ => absurd h (Nat.not_lt_zero a)⟩
  | succ k ih =>
    show (gf_ex P k || P k) = true ↔ _
    rw [Bool.or_eq_true, ih]
    constructor
    · rintro (⟨a, h, p⟩ | p)
      · exact ⟨a, by omega, p⟩
      · exact ⟨k, by omega, p⟩
    · rintro ⟨a, h, p⟩
      by_cases e : a = k
      · subst e
        exact Or.inr p
      · exact Or.inl ⟨a, by omega, p⟩
theorem gf_ex_no {P : Nat → Bool} {k : Nat} (h : ∀ a, a < k → P a = false) : gf_ex P k = false := by
  cases z : gf_ex P k
  · rfl
  · obtain ⟨a, ha, p⟩ := gf_ex_iff.mp z
    rw [h a ha] at p
    exact absurd p (by decide)
theorem gf_ex_congr {P Q : Nat → Bool} {k : Nat} (h : ∀ a, a < k → P a = Q a) : gf_ex P k = gf_ex Q k := by
  induction k with
  | zero => rfl
  | succ k ih =>
    show (gf_ex P k || P k) = (gf_ex Q k || Q k)
    rw [ih (fun a ha => h a (by omega)), h k (by omega)]
def gf_or (P : Nat → Bool) : Nat → Nat
  | 0 => 0
  | k + 1 => if P k = true then gf_or P k ||| k else gf_or P k
def gf_an (P : Nat → Bool) (m : Nat) : Nat → Nat
  | 0 => m
  | k + 1 => if P k = true then gf_an P m k &&& k else gf_an P m k
theorem gf_or_s (P : Nat → Bool) (k : Nat) : gf_or P (k + 1) = if P k = true then gf_or P k ||| k else gf_or P k := rfl
theorem gf_an_s (P : Nat → Bool) (m k : Nat) : gf_an P m (k + 1) = if P k = true then gf_an P m k &&& k else gf_an P m k := rfl
theorem gf_or_lt {P : Nat → Bool} {n : Nat} : ∀ k, k ≤ 2 ^ n → gf_or P k < 2 ^ n := by
  intro k
  induction k with
  | zero => intro _; exact Nat.two_pow_pos n
  | succ k ih =>
    intro h
    rw [gf_or_s]
    split
    · exact Nat.or_lt_two_pow (ih (by omega)) (by omega)
    · exact ih (by omega)
theorem gf_an_lt {P : Nat → Bool} {m n : Nat} (hm : m < 2 ^ n) : ∀ k, gf_an P m k < 2 ^ n := by
  intro k
  induction k with
  | zero => exact hm
  | succ k ih =>
    rw [gf_an_s]
    split
    · exact Nat.lt_of_le_of_lt Nat.and_le_left ih
    · exact ih
theorem gf_or_bit {P : Nat → Bool} {b : Nat} : ∀ k, (gf_or P k).testBit b = true ↔ ∃ a, a < k ∧ P a = true ∧ a.testBit b = true := by
  intro k
  induction k with
  | zero =>
    show (0 : Nat).testBit b = true ↔ _
    rw [Nat.zero_testBit]
    exact ⟨fun h => absurd h (by decide), fun ⟨a, h, _⟩ => absurd h (Nat.not_lt_zero a)⟩
  | succ k ih =>
    rw [gf_or_s]
    by_cases hp : P k = true
    · rw [if_pos hp, Nat.testBit_or, Bool.or_eq_true, ih]
      constructor
      · rintro (⟨a, h, p⟩ | p)
        · exact ⟨a, by omega, p⟩
        · exact ⟨k, by omega, hp, p⟩
      · rintro ⟨a, h, p⟩
        by_cases e : a = k
        · subst e
          exact Or.inr p.2
        · exact Or.inl ⟨a, by omega, p⟩
    · rw [if_neg hp, ih]
      constructor
      · rintro ⟨a, h, p⟩
        exact ⟨a, by omega, p⟩
      · rintro ⟨a, h, p⟩
        by_cases e : a = k
        · subst e
          exact absurd p.1 hp
        · exact ⟨a, by omega, p⟩
theorem gf_an_bit {P : Nat → Bool} {m b : Nat} : ∀ k, (gf_an P m k).testBit b = true ↔ (m.testBit b = true ∧ ∀ a, a < k → P a = true → a.testBit b = true) := by
  intro k
  induction k with
  | zero => exact ⟨fun h => ⟨h, fun a h => absurd h (Nat.not_lt_zero a)⟩, fun h => h.1⟩
  | succ k ih =>
    rw [gf_an_s]
    by_cases hp : P k = true
    · rw [if_pos hp, Nat.testBit_and, Bool.and_eq_true, ih]
      constructor
      · rintro ⟨⟨h1, h2⟩, h3⟩
        refine ⟨h1, fun a ha pa => ?_⟩
        by_cases e : a = k
        · rw [e]; exact h3
        · exact h2 a (by omega) pa
      · rintro ⟨h1, h2⟩
        exact ⟨⟨h1, fun a ha pa => h2 a (by omega) pa⟩, h2 k (by omega) hp⟩
    · rw [if_neg hp, ih]
      constructor
      · rintro ⟨h1, h2⟩
        refine ⟨h1, fun a ha pa => ?_⟩
        by_cases e : a = k
        · subst e
          exact absurd pa hp
        · exact h2 a (by omega) pa
      · rintro ⟨h1, h2⟩
        exact ⟨h1, fun a ha pa => h2 a (by omega) pa⟩
def gf_D (P : Nat → Bool) (n : Nat) : Nat := gf_or P (2 ^ n) ^^^ gf_an P (2 ^ n - 1) (2 ^ n)
theorem gf_D_lt (P : Nat → Bool) (n : Nat) : gf_D P n < 2 ^ n := Nat.xor_lt_two_pow (gf_or_lt _ (Nat.le_refl _)) (gf_an_lt (by have := Nat.two_pow_pos n; omega) _)
theorem gf_D_bit {P : Nat → Bool} {n : Nat} (hex : gf_ex P (2 ^ n) = true) {b : Nat} (hb : b < n) : (gf_D P n).testBit b = false ↔ ∀ a a', a < 2 ^ n → P a = true → a' < 2 ^ n → P a' = true → a.testBit b = a'.testBit b := by
  have h1 := @gf_or_bit P b (2 ^ n)
  have h2 := @gf_an_bit P (2 ^ n - 1) b (2 ^ n)
  have hm : (2 ^ n - 1).testBit b = true := by rw [Nat.testBit_two_pow_sub_one]; exact decide_eq_true hb
  unfold gf_D
  rw [Nat.testBit_xor]
  constructor
  · intro h a a' ha pa ha' pa'
    have key : ∀ x y, x < 2 ^ n → P x = true → y < 2 ^ n → P y = true → x.testBit b = true → y.testBit b = true := by
      intro x y hx px hy py ex
      have w1 := h1.mpr ⟨x, hx, px, ex⟩
      rw [w1] at h
      have w2 : (gf_an P (2 ^ n - 1) (2 ^ n)).testBit b = true := by
        revert h
        cases (gf_an P (2 ^ n - 1) (2 ^ n)).testBit b <;> simp
      exact (h2.mp w2).2 y hy py
    rw [Bool.eq_iff_iff]
    exact ⟨key a a' ha pa ha' pa', key a' a ha' pa' ha pa⟩
  · intro h
    obtain ⟨a0, l0, p0⟩ := gf_ex_iff.mp hex
    cases z : a0.testBit b
    · have w1 : (gf_or P (2 ^ n)).testBit b = false := by
        cases y : (gf_or P (2 ^ n)).testBit b
        · rfl
        · obtain ⟨a, ha, pa, ea⟩ := h1.mp y
          rw [h a a0 ha pa l0 p0, z] at ea
          exact absurd ea (by decide)
      have w2 : (gf_an P (2 ^ n - 1) (2 ^ n)).testBit b = false := by
        cases y : (gf_an P (2 ^ n - 1) (2 ^ n)).testBit b
        · rfl
        · have ea := (h2.mp y).2 a0 l0 p0
          rw [z] at ea
          exact absurd ea (by decide)
      rw [w1, w2]; rfl
    · have w1 := h1.mpr ⟨a0, l0, p0, z⟩
      have w2 := h2.mpr ⟨hm, fun a ha pa => by rw [h a a0 ha pa l0 p0]; exact z⟩
      rw [w1, w2]; rfl
theorem gf_comp {x n : Nat} (h : x < 2 ^ n) (b : Nat) : (2 ^ n - 1 - x).testBit b = (decide (b < n) && !x.testBit b) := by
  have e : 2 ^ n - 1 - x = 2 ^ n - (x + 1) := by omega
  rw [e]
  exact Nat.testBit_two_pow_sub_succ h b
def gf_mk (P : Nat → Bool) : Nat → Nat
  | 0 => 0
  | k + 1 => if P k = true then gf_mk P k ||| 2 ^ k else gf_mk P k
theorem gf_mk_s (P : Nat → Bool) (k : Nat) : gf_mk P (k + 1) = if P k = true then gf_mk P k ||| 2 ^ k else gf_mk P k := rfl
theorem gf_mk_bit {P : Nat → Bool} {b : Nat} : ∀ k, (gf_mk P k).testBit b = (decide (b < k) && P b) := by
  intro k
  induction k with
  | zero =>
    show (0 : Nat).testBit b = _
    rw [Nat.zero_testBit, decide_eq_false (Nat.not_lt_zero b)]
    rfl
  | succ k ih =>
    rw [gf_mk_s]
    by_cases hp : P k = true
    · rw [if_pos hp, Nat.testBit_or, ih, Nat.testBit_two_pow]
      by_cases e : b = k
      · subst e
        rw [hp]; simp
      · have e' : ¬ k = b := fun z => e z.symm
        by_cases l : b < k
        · simp [l, e', show b < k + 1 by omega]
        · simp [l, e', show ¬ b < k + 1 by omega]
    · rw [if_neg hp, ih]
      by_cases e : b = k
      · subst e
        have hp' : P b = false := Bool.eq_false_iff.mpr hp
        rw [hp']; simp
      · by_cases l : b < k
        · simp [l, show b < k + 1 by omega]
        · simp [l, show ¬ b < k + 1 by omega]
theorem gf_mk_lt (P : Nat → Bool) (k : Nat) : gf_mk P k < 2 ^ k := by
  apply Nat.lt_pow_two_of_testBit
  intro i hi
  rw [gf_mk_bit, decide_eq_false (by omega)]
  rfl
/-! the elimination's answers -/
def gf_spn (B : Nat → Nat) (t : Nat) : Bool := decide (gf_red B 8 (t * 256) < 256)
def gf_kn (B : Nat → Nat) (n : Nat) : Nat := gf_mk (fun b => gf_spn B (2 ^ b)) n
def gf_rv (B : Nat → Nat) (n s : Nat) : Bool := gf_ex (fun b => (!(gf_spn B (2 ^ b)) && gf_spn B (s ^^^ 2 ^ b))) n
theorem gf_t256 {t n : Nat} (h : t < 2 ^ n) : t * 256 < 2 ^ (8 + n) := by
  rw [Nat.pow_add]
  show t * 256 < 256 * 2 ^ n
  omega
theorem gf_t_div (t : Nat) : t * 256 / 256 = t := Nat.mul_div_cancel t (by decide)
theorem gf_t_bit {t j : Nat} (hj : j < 8) : (t * 256).testBit j = false := by
  have h := gf_row_bit (s := t) (v := 0) (by decide) hj
  rw [Nat.zero_testBit] at h
  exact h
theorem gf_f_sol {n : Nat} {R : Nat → Nat} {inn : Nat → Bool} {m : Nat} {B : Nat → Nat} {z : Nat} (I : gf_Inv n R inn m B z false) {j : Nat} (hj : j < 8) (a : Nat) : gf_sv R inn m j a = true ↔ gf_Sol B j a := by
  rw [gf_sv_iff]
  exact ⟨I.2.2.1 a j, I.2.2.2.1 rfl a j hj⟩
theorem gf_f_no {n : Nat} {R : Nat → Nat} {inn : Nat → Bool} {m : Nat} {B : Nat → Nat} {z : Nat} (I : gf_Inv n R inn m B z true) : ∃ j, j < 8 ∧ gf_ex (gf_sv R inn m j) (2 ^ n) = false := by
  obtain ⟨j, hj, h⟩ := I.2.2.2.2.1 rfl
  refine ⟨j, hj, gf_ex_no (fun a _ => ?_)⟩
  cases w : gf_sv R inn m j a
  · rfl
  · exact absurd (gf_sv_iff.mp w) (h a)
theorem gf_f_ex {n : Nat} {R : Nat → Nat} {inn : Nat → Bool} {m : Nat} {B : Nat → Nat} {z : Nat} (hn : n ≤ 8) (I : gf_Inv n R inn m B z false) {j : Nat} (hj : j < 8) : gf_ex (gf_sv R inn m j) (2 ^ n) = true := by
  obtain ⟨a, ha, hs⟩ := gf_solv I.2.1 hn I.1 j
  exact gf_ex_iff.mpr ⟨a, ha, (gf_f_sol I hj a).mpr hs⟩
theorem gf_f_fix {n : Nat} {R : Nat → Nat} {inn : Nat → Bool} {m : Nat} {B : Nat → Nat} {z : Nat} (I : gf_Inv n R inn m B z false) {t j a : Nat} (hj : j < 8) (hs : gf_spn B t = true) (ha : gf_sv R inn m j a = true) : gf_par (a &&& t) = (gf_red B 8 (t * 256)).testBit j := by
  have w := gf_fix (of_decide_eq_true hs) ((gf_f_sol I hj a).mp ha)
  rw [gf_t_div, gf_t_bit hj, Bool.xor_false] at w
  exact w
theorem gf_f_free {n : Nat} {R : Nat → Nat} {inn : Nat → Bool} {m : Nat} {B : Nat → Nat} {z : Nat} (hn : n ≤ 8) (I : gf_Inv n R inn m B z false) {t j : Nat} (ht : t < 2 ^ n) (hj : j < 8) (hs : gf_spn B t = false) (c : Bool) : ∃ a, a < 2 ^ n ∧ gf_sv R inn m j a = true ∧ gf_par (a &&& t) = c := by
  obtain ⟨a, ha, h, e⟩ := gf_free I.2.1 hn I.1 (gf_t256 ht) (of_decide_eq_false hs) hj c
  rw [gf_t_div] at e
  exact ⟨a, ha, (gf_f_sol I hj a).mpr h, e⟩
theorem gf_f_D {n : Nat} {R : Nat → Nat} {inn : Nat → Bool} {m : Nat} {B : Nat → Nat} {z : Nat} (hn : n ≤ 8) (I : gf_Inv n R inn m B z false) {j : Nat} (hj : j < 8) : gf_D (gf_sv R inn m j) n = gf_mk (fun b => !(gf_spn B (2 ^ b))) n := by
  apply Nat.eq_of_testBit_eq
  intro b
  rw [gf_mk_bit]
  by_cases hb : b < n
  · rw [decide_eq_true hb, Bool.true_and]
    have hD := gf_D_bit (gf_f_ex hn I hj) hb
    have hb2 : 2 ^ b < 2 ^ n := Nat.pow_lt_pow_right (by decide) hb
    cases w : gf_spn B (2 ^ b)
    · cases y : (gf_D (gf_sv R inn m j) n).testBit b
      · exfalso
        obtain ⟨a, ha, pa, ea⟩ := gf_f_free hn I hb2 hj w false
        obtain ⟨a', ha', pa', ea'⟩ := gf_f_free hn I hb2 hj w true
        have q := hD.mp y a a' ha pa ha' pa'
        rw [gf_par_bit' (by omega)] at ea ea'
        rw [ea, ea'] at q
        exact absurd q (by decide)
      · rfl
    · refine hD.mpr (fun a a' _ pa _ pa' => ?_)
      have e1 := gf_f_fix I hj w pa
      have e2 := gf_f_fix I hj w pa'
      rw [gf_par_bit' (by omega)] at e1 e2
      rw [e1, e2]
  · rw [decide_eq_false hb, Bool.false_and]
    have h1 := gf_D_lt (gf_sv R inn m j) n
    have h2 : 2 ^ n ≤ 2 ^ b := Nat.pow_le_pow_right (by decide) (by omega)
    exact Nat.testBit_lt_two_pow (by omega)
/-! known -/
def gf_op (R : Nat → Nat) (inn : Nat → Bool) (m n : Nat) : Nat → Nat
  | 0 => 0
  | k + 1 => gf_op R inn m n k ||| gf_D (gf_sv R inn m k) n
def gf_cs (R : Nat → Nat) (inn : Nat → Bool) (m n : Nat) : Bool := gf_al (fun j => gf_ex (gf_sv R inn m j) (2 ^ n)) 8
def gf_yk (R : Nat → Nat) (inn : Nat → Bool) (m n : Nat) : Nat := if gf_cs R inn m n = true then 2 ^ n - 1 - gf_op R inn m n 8 else 0
theorem gf_op_lt (R : Nat → Nat) (inn : Nat → Bool) (m n : Nat) : ∀ k, gf_op R inn m n k < 2 ^ n := by
  intro k
  induction k with
  | zero => exact Nat.two_pow_pos n
  | succ k ih => exact Nat.or_lt_two_pow ih (gf_D_lt _ n)
theorem gf_yk_lt (R : Nat → Nat) (inn : Nat → Bool) (m n : Nat) : gf_yk R inn m n < 2 ^ n := by
  have h := Nat.two_pow_pos n
  unfold gf_yk
  split <;> omega
theorem gf_cs_con {n : Nat} {R : Nat → Nat} {inn : Nat → Bool} {m : Nat} {B : Nat → Nat} {z : Nat} {con : Bool} (hn : n ≤ 8) (I : gf_Inv n R inn m B z con) : gf_cs R inn m n = !con := by
  cases con
  · exact gf_al_iff.mpr (fun j hj => gf_f_ex hn I hj)
  · obtain ⟨j, hj, h⟩ := gf_f_no I
    exact gf_al_no (Q := fun j => gf_ex (gf_sv R inn m j) (2 ^ n)) hj h
theorem gf_op_M {n : Nat} {R : Nat → Nat} {inn : Nat → Bool} {m : Nat} {B : Nat → Nat} {z : Nat} (hn : n ≤ 8) (I : gf_Inv n R inn m B z false) : ∀ k, k < 8 → gf_op R inn m n (k + 1) = gf_mk (fun b => !(gf_spn B (2 ^ b))) n := by
  intro k
  induction k with
  | zero =>
    intro _
    show 0 ||| gf_D (gf_sv R inn m 0) n = _
    rw [Nat.zero_or]
    exact gf_f_D hn I (by omega)
  | succ k ih =>
    intro hk
    show gf_op R inn m n (k + 1) ||| gf_D (gf_sv R inn m (k + 1)) n = _
    rw [ih (by omega), gf_f_D hn I hk, Nat.or_self]
theorem gf_yk_kn {n : Nat} {R : Nat → Nat} {inn : Nat → Bool} {m : Nat} {B : Nat → Nat} {z : Nat} {con : Bool} (hn : n ≤ 8) (I : gf_Inv n R inn m B z con) : gf_yk R inn m n = if con = true then 0 else gf_kn B n := by
  unfold gf_yk
  rw [gf_cs_con hn I]
  cases con
  · show 2 ^ n - 1 - gf_op R inn m n 8 = gf_kn B n
    have e : gf_op R inn m n 8 = gf_mk (fun b => !(gf_spn B (2 ^ b))) n := gf_op_M hn I 7 (by omega)
    rw [e]
    apply Nat.eq_of_testBit_eq
    intro b
    unfold gf_kn
    rw [gf_comp (gf_mk_lt _ n), gf_mk_bit, gf_mk_bit]
    cases decide (b < n) <;> cases gf_spn B (2 ^ b) <;> rfl
  · rfl
/-! sumOf -/
def gf_kd (P : Nat → Bool) (s : Nat) : Nat → Nat
  | 0 => 0
  | k + 1 => if P k = true then gf_kd P s k ||| (if gf_par (k &&& s) = true then 2 else 1) else gf_kd P s k
theorem gf_kd_s (P : Nat → Bool) (s k : Nat) : gf_kd P s (k + 1) = if P k = true then gf_kd P s k ||| (if gf_par (k &&& s) = true then 2 else 1) else gf_kd P s k := rfl
theorem gf_kd_eq (P : Nat → Bool) (s : Nat) : ∀ k, gf_kd P s k = (if gf_ex (fun a => (P a && !(gf_par (a &&& s)))) k = true then 1 else 0) + (if gf_ex (fun a => (P a && gf_par (a &&& s))) k = true then 2 else 0) := by
  intro k
  induction k with
  | zero => rfl
  | succ k ih =>
    rw [gf_kd_s, ih]
    show _ = (if (gf_ex (fun a => (P a && !(gf_par (a &&& s)))) k || (P k && !(gf_par (k &&& s)))) = true then 1 else 0) + (if (gf_ex (fun a => (P a && gf_par (a &&& s))) k || (P k && gf_par (k &&& s))) = true then 2 else 0)
    generalize gf_ex (fun a => (P a && !(gf_par (a &&& s)))) k = e1
    generalize gf_ex (fun a => (P a && gf_par (a &&& s))) k = e2
    generalize P k = e3
    generalize gf_par (k &&& s) = e4
    revert e1 e2 e3 e4
    decide
theorem gf_kd_le (P : Nat → Bool) (s k : Nat) : gf_kd P s k ≤ 3 := by
  rw [gf_kd_eq]
  split <;> split <;> omega
theorem gf_kd_no {n : Nat} {R : Nat → Nat} {inn : Nat → Bool} {m : Nat} {B : Nat → Nat} {z : Nat} (I : gf_Inv n R inn m B z true) (s : Nat) : ∃ j, j < 8 ∧ gf_kd (gf_sv R inn m j) s (2 ^ n) = 0 := by
  obtain ⟨j, hj, h⟩ := gf_f_no I
  refine ⟨j, hj, ?_⟩
  have hP : ∀ a, a < 2 ^ n → gf_sv R inn m j a = false := by
    intro a ha
    cases w : gf_sv R inn m j a
    · rfl
    · rw [gf_ex_iff.mpr ⟨a, ha, w⟩] at h
      exact absurd h (by decide)
  rw [gf_kd_eq, gf_ex_no (fun a ha => by rw [hP a ha]; rfl), gf_ex_no (fun a ha => by rw [hP a ha]; rfl)]
  rfl
theorem gf_kd_free {n : Nat} {R : Nat → Nat} {inn : Nat → Bool} {m : Nat} {B : Nat → Nat} {z : Nat} (hn : n ≤ 8) (I : gf_Inv n R inn m B z false) {s : Nat} (hs : s < 2 ^ n) (h : gf_spn B s = false) : gf_kd (gf_sv R inn m 0) s (2 ^ n) = 3 := by
  obtain ⟨a, ha, pa, ea⟩ := gf_f_free hn I hs (j := 0) (by omega) h false
  obtain ⟨a', ha', pa', ea'⟩ := gf_f_free hn I hs (j := 0) (by omega) h true
  have e1 : gf_ex (fun a => (gf_sv R inn m 0 a && !(gf_par (a &&& s)))) (2 ^ n) = true := gf_ex_iff.mpr ⟨a, ha, by show (gf_sv R inn m 0 a && !(gf_par (a &&& s))) = true; rw [pa, ea]; rfl⟩
  have e2 : gf_ex (fun a => (gf_sv R inn m 0 a && gf_par (a &&& s))) (2 ^ n) = true := gf_ex_iff.mpr ⟨a', ha', by show (gf_sv R inn m 0 a' && gf_par (a' &&& s)) = true; rw [pa', ea']; rfl⟩
  rw [gf_kd_eq, e1, e2]
  rfl
theorem gf_kd_fix {n : Nat} {R : Nat → Nat} {inn : Nat → Bool} {m : Nat} {B : Nat → Nat} {z : Nat} (hn : n ≤ 8) (I : gf_Inv n R inn m B z false) {s j : Nat} (hj : j < 8) (h : gf_spn B s = true) : gf_kd (gf_sv R inn m j) s (2 ^ n) = if (gf_red B 8 (s * 256)).testBit j = true then 2 else 1 := by
  obtain ⟨a0, h0, p0⟩ := gf_ex_iff.mp (gf_f_ex hn I hj)
  have hf : ∀ a, gf_sv R inn m j a = true → gf_par (a &&& s) = (gf_red B 8 (s * 256)).testBit j := fun a pa => gf_f_fix I hj h pa
  rw [gf_kd_eq]
  cases v : (gf_red B 8 (s * 256)).testBit j
  · rw [v] at hf
    have e1 : gf_ex (fun a => (gf_sv R inn m j a && !(gf_par (a &&& s)))) (2 ^ n) = true := gf_ex_iff.mpr ⟨a0, h0, by show (gf_sv R inn m j a0 && !(gf_par (a0 &&& s))) = true; rw [p0, hf a0 p0]; rfl⟩
    have e2 : gf_ex (fun a => (gf_sv R inn m j a && gf_par (a &&& s))) (2 ^ n) = false := gf_ex_no (fun a _ => by
      cases w : gf_sv R inn m j a
      · rfl
      · rw [hf a w]; rfl)
    rw [e1, e2]
    rfl
  · rw [v] at hf
    have e1 : gf_ex (fun a => (gf_sv R inn m j a && !(gf_par (a &&& s)))) (2 ^ n) = false := gf_ex_no (fun a _ => by
      cases w : gf_sv R inn m j a
      · rfl
      · rw [hf a w]; rfl)
    have e2 : gf_ex (fun a => (gf_sv R inn m j a && gf_par (a &&& s))) (2 ^ n) = true := gf_ex_iff.mpr ⟨a0, h0, by show (gf_sv R inn m j a0 && gf_par (a0 &&& s)) = true; rw [p0, hf a0 p0]; rfl⟩
    rw [e1, e2]
    rfl
/-! useful -/
def gf_hP (R : Nat → Nat) (inn : Nat → Bool) (m s a : Nat) : Bool := (!(gf_par (a &&& s)) && gf_sv R inn m 0 a)
def gf_hl (R : Nat → Nat) (inn : Nat → Bool) (m n s : Nat) : Bool := (gf_ex (gf_hP R inn m s) (2 ^ n) && decide (2 ^ n - 1 - gf_D (gf_hP R inn m s) n ≠ gf_yk R inn m n))
theorem gf_spn_con {n : Nat} {R : Nat → Nat} {inn : Nat → Bool} {m : Nat} {B : Nat → Nat} {z : Nat} (hn : n ≤ 8) (I : gf_Inv n R inn m B z false) {t : Nat} (ht : t < 2 ^ n) : gf_spn B t = true ↔ gf_Con (gf_Q B n 0) t := by
  have h := gf_con_red (j := 0) I.2.1 hn I.1 (gf_t256 ht) (by omega)
  rw [gf_t_div] at h
  unfold gf_spn
  rw [decide_eq_true_iff]
  exact h
theorem gf_help {n : Nat} {R : Nat → Nat} {inn : Nat → Bool} {m : Nat} {B : Nat → Nat} {z : Nat} (hn : n ≤ 8) (I : gf_Inv n R inn m B z false) {s : Nat} (hs : s < 2 ^ n) : gf_hl R inn m n s = gf_rv B n s := by
  have hP : ∀ a, a < 2 ^ n → (gf_hP R inn m s a = true ↔ (gf_Q B n 0 a ∧ gf_par (a &&& s) = false)) := by
    intro a ha
    unfold gf_hP
    rw [Bool.and_eq_true, gf_f_sol I (by omega) a, Bool.not_eq_true']
    exact ⟨fun h => ⟨⟨ha, h.2⟩, h.1⟩, fun h => ⟨h.2, h.1.2⟩⟩
  have hyk : gf_yk R inn m n = gf_kn B n := by
    have h := gf_yk_kn hn I
    rw [if_neg Bool.false_ne_true] at h
    exact h
  have hkn : ∀ b, b < n → ((gf_kn B n).testBit b = true ↔ gf_Con (gf_Q B n 0) (2 ^ b)) := by
    intro b hb
    unfold gf_kn
    rw [gf_mk_bit, decide_eq_true hb, Bool.true_and]
    exact gf_spn_con hn I (Nat.pow_lt_pow_right (by decide) hb)
  have hnow : gf_ex (gf_hP R inn m s) (2 ^ n) = true → ∀ b, b < n → ((2 ^ n - 1 - gf_D (gf_hP R inn m s) n).testBit b = true ↔ gf_Con (fun a => gf_Q B n 0 a ∧ gf_par (a &&& s) = false) (2 ^ b)) := by
    intro hex b hb
    rw [gf_comp (gf_D_lt _ n), decide_eq_true hb, Bool.true_and, Bool.not_eq_true', gf_D_bit hex hb]
    constructor
    · intro h a a' ha ha'
      rw [gf_par_bit' (by omega), gf_par_bit' (by omega)]
      exact h a a' ha.1.1 ((hP a ha.1.1).mpr ha) ha'.1.1 ((hP a' ha'.1.1).mpr ha')
    · intro h a a' ha pa ha' pa'
      have w := h a a' ((hP a ha).mp pa) ((hP a' ha').mp pa')
      rw [gf_par_bit' (by omega), gf_par_bit' (by omega)] at w
      exact w
  have hfree : gf_spn B s = false → ∀ d : Bool, ∃ a, gf_Q B n 0 a ∧ gf_par (a &&& s) = d := by
    intro h d
    obtain ⟨a, ha, pa, ea⟩ := gf_f_free hn I hs (j := 0) (by omega) h d
    exact ⟨a, ⟨ha, (gf_f_sol I (by omega) a).mp pa⟩, ea⟩
  have hsx : ∀ b, b < n → (gf_spn B (s ^^^ 2 ^ b) = true ↔ gf_Con (gf_Q B n 0) (2 ^ b ^^^ s)) := by
    intro b hb
    rw [Nat.xor_comm (2 ^ b) s]
    exact gf_spn_con hn I (Nat.xor_lt_two_pow hs (Nat.pow_lt_pow_right (by decide) hb))
  have hsb : ∀ b, b < n → (gf_spn B (2 ^ b) = true ↔ gf_Con (gf_Q B n 0) (2 ^ b)) := fun b hb => gf_spn_con hn I (Nat.pow_lt_pow_right (by decide) hb)
  rw [Bool.eq_iff_iff]
  unfold gf_hl gf_rv
  rw [Bool.and_eq_true, decide_eq_true_iff, hyk, gf_ex_iff (k := n)]
  constructor
  · rintro ⟨hex, hne⟩
    have hlt : 2 ^ n - 1 - gf_D (gf_hP R inn m s) n < 2 ^ n := by
      have := Nat.two_pow_pos n
      omega
    obtain ⟨b, hb⟩ := Nat.exists_testBit_ne_of_ne hne
    have hbn : b < n := by
      by_cases q : b < n
      · exact q
      · exfalso
        have h2 : 2 ^ n ≤ 2 ^ b := Nat.pow_le_pow_right (by decide) (by omega)
        have h3 : gf_kn B n < 2 ^ n := gf_mk_lt _ n
        rw [Nat.testBit_lt_two_pow (show 2 ^ n - 1 - gf_D (gf_hP R inn m s) n < 2 ^ b by omega), Nat.testBit_lt_two_pow (show gf_kn B n < 2 ^ b by omega)] at hb
        exact hb rfl
    have k1 := hkn b hbn
    have k2 := hnow hex b hbn
    have nc : ¬ gf_Con (gf_Q B n 0) (2 ^ b) := by
      intro hc
      have w1 := k1.mpr hc
      have w2 := k2.mpr (fun a a' ha ha' => hc a a' ha.1 ha'.1)
      rw [w1, w2] at hb
      exact hb rfl
    have rc : gf_Con (fun a => gf_Q B n 0 a ∧ gf_par (a &&& s) = false) (2 ^ b) := by
      apply k2.mp
      cases w : (2 ^ n - 1 - gf_D (gf_hP R inn m s) n).testBit b
      · exfalso
        cases w2 : (gf_kn B n).testBit b
        · rw [w, w2] at hb
          exact hb rfl
        · exact nc (k1.mp w2)
      · rfl
    refine ⟨b, hbn, ?_⟩
    have f1 : gf_spn B (2 ^ b) = false := by
      cases w : gf_spn B (2 ^ b)
      · rfl
      · exact absurd ((hsb b hbn).mp w) nc
    have f2 : gf_spn B s = false := by
      cases w : gf_spn B s
      · rfl
      · exfalso
        have cs := (gf_spn_con hn I hs).mp w
        obtain ⟨a0, l0, p0⟩ := gf_ex_iff.mp hex
        have q0 := (hP a0 l0).mp p0
        apply nc
        intro a a' ha ha'
        exact rc a a' ⟨ha, (cs a a0 ha q0.1).trans q0.2⟩ ⟨ha', (cs a' a0 ha' q0.1).trans q0.2⟩
    have f3 : gf_spn B (s ^^^ 2 ^ b) = true := by
      rcases (gf_aff gf_Q_3 (hfree f2)).mp rc with h | h
      · exact absurd h nc
      · exact (hsx b hbn).mpr h
    show (!(gf_spn B (2 ^ b)) && gf_spn B (s ^^^ 2 ^ b)) = true
    rw [f1, f3]
    rfl
  · rintro ⟨b, hbn, hb⟩
    have hb' : (!(gf_spn B (2 ^ b)) && gf_spn B (s ^^^ 2 ^ b)) = true := hb
    rw [Bool.and_eq_true, Bool.not_eq_true'] at hb'
    have nc : ¬ gf_Con (gf_Q B n 0) (2 ^ b) := by
      intro hc
      rw [(hsb b hbn).mpr hc] at hb'
      exact absurd hb'.1 (by decide)
    have cx := (hsx b hbn).mp hb'.2
    have f2 : gf_spn B s = false := by
      cases w : gf_spn B s
      · rfl
      · exact absurd (gf_con_x1 cx ((gf_spn_con hn I hs).mp w)) nc
    obtain ⟨a0, q0, e0⟩ := hfree f2 false
    have hex : gf_ex (gf_hP R inn m s) (2 ^ n) = true := gf_ex_iff.mpr ⟨a0, q0.1, (hP a0 q0.1).mpr ⟨q0, e0⟩⟩
    refine ⟨hex, fun e => nc ?_⟩
    apply (hkn b hbn).mp
    rw [← e]
    exact (hnow hex b hbn).mpr ((gf_aff gf_Q_3 (hfree f2)).mpr (Or.inr cx))
end
section
/-! numbers: rows pasted from the kit's rows to paste, then my own -/
theorem pk_us {f : Nat → Int32} {k : Nat} {x : Int32} : upd f k x k = x := if_pos rfl
theorem pk_un {f : Nat → Int32} {k j : Nat} {x : Int32} (h : j ≠ k) : upd f k x j = f j := if_neg h
theorem pk_sub {a b : Nat} (h : b ≤ a) : nI a - nI b = nI (a - b) := by
  obtain ⟨c, rfl⟩ : ∃ c, a = c + b := ⟨a - b, by omega⟩
  rw [← nI_add, Int32.add_sub_cancel, Nat.add_sub_cancel]
theorem pk_m1 (n : Nat) : nI (n + 1) + (-1) = nI n := by
  rw [← nI_1, Int32.add_assoc, show (1 : Int32) + (-1) = 0 from rfl, Int32.add_zero]
theorem pk_mul (a b : Nat) : nI a * nI b = nI (a * b) := (Int32.ofNat_mul a b).symm
theorem pk_div {a d : Nat} (ha : a < 2 ^ 31) (h0 : 0 < d) (hd : d < 2 ^ 31) : nI a / nI d = nI (a / d) := by
  apply Int32.toInt_inj.mp
  rw [lg_idiv_nonneg (by rw [nI_toInt ha]; omega) (by rw [nI_toInt hd]; omega), nI_toInt ha, nI_toInt hd, nI_toInt (Nat.lt_of_le_of_lt (Nat.div_le_self a d) ha)]
  first | rfl | exact (Int.natCast_ediv _ _).symm
theorem pk_rem {a d : Nat} (ha : a < 2 ^ 31) (h0 : 0 < d) (hd : d < 2 ^ 31) : nI a - nI a / nI d * nI d = nI (a % d) := by
  rw [pk_div ha h0 hd, pk_mul, pk_sub (Nat.div_mul_le_self a d)]
  exact congrArg nI (by have := Nat.div_add_mod' a d; omega)
theorem pk_ix (x : Int32) {n : Nat} (hn : n < 2 ^ 31) : x < 0 ∨ nI n ≤ x ∨ ∃ j : Nat, j < n ∧ x = nI j := by
  by_cases h : x < 0
  · exact Or.inl h
  · obtain ⟨j, hj, rfl⟩ := nI_of h
    by_cases h2 : j < n
    · exact Or.inr (Or.inr ⟨j, h2, rfl⟩)
    · exact Or.inr (Or.inl (nI_le (by omega) hj))
theorem pk_le {x y : Int32} {A B : Prop} (a b : Nat) (f : a ≤ b → A) (g : b < a → B) (hx : x = nI a := by rfl) (hy : y = nI b := by rfl) (ha : a < 2 ^ 31 := by omega) (hb : b < 2 ^ 31 := by omega) : (x ≤ y → A) ∧ (¬ x ≤ y → B) := by
  subst hx hy
  rw [nI_leI ha hb]
  exact ⟨f, fun z => g (by omega)⟩
theorem pk_lt {x y : Int32} {A B : Prop} (a b : Nat) (f : a < b → A) (g : b ≤ a → B) (hx : x = nI a := by rfl) (hy : y = nI b := by rfl) (ha : a < 2 ^ 31 := by omega) (hb : b < 2 ^ 31 := by omega) : (x < y → A) ∧ (¬ x < y → B) := by
  subst hx hy
  rw [nI_ltI ha hb]
  exact ⟨f, fun z => g (by omega)⟩
theorem pk_eq {x y : Int32} {A B : Prop} (a b : Nat) (f : a = b → A) (g : a ≠ b → B) (hx : x = nI a := by rfl) (hy : y = nI b := by rfl) (ha : a < 2 ^ 31 := by omega) (hb : b < 2 ^ 31 := by omega) : (x = y → A) ∧ (¬ x = y → B) := by
  subst hx hy
  rw [nI_eq ha hb]
  exact ⟨f, g⟩
theorem pk_in {x : Int32} (n N : Nat) (h : n < N) (hx : x = nI n := by rfl) (hN : N < 2 ^ 31 := by omega) : vp_in x N := by
  subst hx
  exact vp_in_nI h hN
theorem pk_cl {x : Int32} (n : Nat) (hx : x = nI n := by rfl) (h : n < 2 ^ 31 := by omega) : x.toNatClampNeg = n := by
  subst hx
  exact nI_clamp h
theorem pk_tn {n : Nat} (h : n < 2 ^ 32) : (nI n).toBitVec.toNat = n := Nat.mod_eq_of_lt h
theorem pk_and (x : Int32) {m : Int32} (k : Nat) (hm : m.toBitVec.toNat = 2 ^ k - 1) : x &&& m = nI (x.toBitVec.toNat % 2 ^ k) := by
  apply Int32.toBitVec_inj.mp
  apply BitVec.eq_of_toNat_eq
  rw [Int32.toBitVec_and, BitVec.toNat_and, hm, Nat.and_two_pow_sub_one_eq_mod]
  show _ = (BitVec.ofNat 32 _).toNat
  rw [BitVec.toNat_ofNat]
  exact (Nat.mod_eq_of_lt (Nat.lt_of_le_of_lt (Nat.mod_le _ _) x.toBitVec.isLt)).symm
theorem pk_andN {n : Nat} (h : n < 2 ^ 32) {m : Int32} (k : Nat) (hm : m.toBitVec.toNat = 2 ^ k - 1) : nI n &&& m = nI (n % 2 ^ k) := by
  rw [pk_and _ k hm, pk_tn h]
theorem pk_shl (a s : Int32) (k : Nat) (hs : (s.toBitVec.smod 32).toNat = k) : (a <<< s).toBitVec.toNat = a.toBitVec.toNat * 2 ^ k % 2 ^ 32 := by
  show (a.toBitVec <<< (s.toBitVec.smod 32).toNat).toNat = _
  rw [hs, BitVec.toNat_shiftLeft, Nat.shiftLeft_eq]
theorem pk_shlN {n : Nat} (s : Int32) (k : Nat) (hs : (s.toBitVec.smod 32).toNat = k) (h : n * 2 ^ k < 2 ^ 32) : nI n <<< s = nI (n * 2 ^ k) := by
  apply Int32.toBitVec_inj.mp
  apply BitVec.eq_of_toNat_eq
  have hn : n < 2 ^ 32 := Nat.lt_of_le_of_lt (Nat.le_mul_of_pos_right n (Nat.two_pow_pos k)) h
  rw [pk_shl _ _ k hs, pk_tn hn, pk_tn h, Nat.mod_eq_of_lt h]
theorem pk_shr (a s : Int32) (k : Nat) (hs : (s.toBitVec.smod 32).toNat = k) : (a >>> s).toInt = a.toInt >>> k := by
  show (a.toBitVec.sshiftRight (s.toBitVec.smod 32).toNat).toInt = _
  rw [hs, BitVec.toInt_sshiftRight]
  rfl
theorem pk_shrN {n : Nat} (h : n < 2 ^ 31) (s : Int32) (k : Nat) (hs : (s.toBitVec.smod 32).toNat = k) : nI n >>> s = nI (n / 2 ^ k) := by
  apply Int32.toInt_inj.mp
  have h2 : n / 2 ^ k ≤ n := Nat.div_le_self _ _
  rw [pk_shr _ _ k hs, nI_toInt h, nI_toInt (by omega), Int.shiftRight_eq_div_pow]
  rfl
theorem pk_loop {σ : Type} (W : Nat → Nat → σ → Prop) (I : Nat → σ → Prop) (e i0 : Nat) (s : σ) (hi : i0 ≤ e) (h0 : I i0 s) (hx : ∀ n s, I e s → W (n + 1) e s)
    (hs : ∀ n i s, i < e → I i s → (∀ s', I (i + 1) s' → W n (i + 1) s') → W (n + 1) i s) : ∃ n, W n i0 s :=
  ⟨e + 1, loop_i W I e hx hs (e + 1) i0 s hi (by omega) h0⟩
theorem pk_loopD {σ : Type} (W : Nat → Nat → σ → Prop) (I : Nat → σ → Prop) (hx : ∀ n s, I 0 s → W (n + 1) 0 s)
    (hs : ∀ n i s, I (i + 1) s → (∀ s', I i s' → W n i s') → W (n + 1) (i + 1) s) : ∀ (e : Nat) (s : σ), I e s → W (e + 1) e s := by
  intro e
  induction e with
  | zero => exact fun s h => hx 0 s h
  | succ e ih => exact fun s h => hs (e + 1) e s h (fun s' h' => ih s' h')
theorem ek_if {c d A B : Prop} (e : c ↔ d) (f : d → A) (g : ¬ d → B) : (c → A) ∧ (¬ c → B) :=
  ⟨fun z => f (e.mp z), fun z => g (fun y => z (e.mpr y))⟩
def bt (x : Int32) (i : Nat) : Bool := x.toBitVec.getLsbD i
theorem b_ext {x y : Int32} (h : ∀ i, i < 32 → bt x i = bt y i) : x = y := Int32.toBitVec_inj.mp (BitVec.eq_of_getLsbD_eq (fun i hi => h i hi))
theorem b_or (x y : Int32) (i : Nat) : bt (x ||| y) i = (bt x i || bt y i) := by unfold bt; rw [Int32.toBitVec_or, BitVec.getLsbD_or]
theorem b_and (x y : Int32) (i : Nat) : bt (x &&& y) i = (bt x i && bt y i) := by unfold bt; rw [Int32.toBitVec_and, BitVec.getLsbD_and]
theorem b_xor (x y : Int32) (i : Nat) : bt (x ^^^ y) i = (bt x i ^^ bt y i) := by unfold bt; rw [Int32.toBitVec_xor, BitVec.getLsbD_xor]
theorem b_big {x : Int32} {i : Nat} (h : 32 ≤ i) : bt x i = false := BitVec.getLsbD_of_ge _ _ h
theorem b_m1 : ∀ i, i < 32 → bt (-1) i = true := by decide +kernel
theorem b_0 (i : Nat) : bt 0 i = false := BitVec.getLsbD_zero
theorem s_l : ∀ n, n < 32 → ((nI n &&& 31).toBitVec.smod 32).toNat = n := by decide +kernel
theorem nx_and (a b : Nat) : nI a &&& nI b = nI (a &&& b) := by
  apply Int32.toBitVec_inj.1
  show BitVec.ofNat 32 a &&& BitVec.ofNat 32 b = BitVec.ofNat 32 (a &&& b)
  apply BitVec.eq_of_getLsbD_eq
  intro i hi
  simp [hi]
theorem nx_xor (a b : Nat) : nI a ^^^ nI b = nI (a ^^^ b) := by
  apply Int32.toBitVec_inj.1
  show BitVec.ofNat 32 a ^^^ BitVec.ofNat 32 b = BitVec.ofNat 32 (a ^^^ b)
  apply BitVec.eq_of_getLsbD_eq
  intro i hi
  simp [hi]
theorem wb_of32 (x : Int32) : ∃ n, n < 2 ^ 32 ∧ x = nI n := ⟨x.toBitVec.toNat, x.toBitVec.isLt, Int32.toBitVec_inj.mp (by show _ = BitVec.ofNat 32 _; simp)⟩
theorem fz_or (a b : Nat) : nI a ||| nI b = nI (a ||| b) := by
  apply Int32.toBitVec_inj.1
  show BitVec.ofNat 32 a ||| BitVec.ofNat 32 b = BitVec.ofNat 32 (a ||| b)
  apply BitVec.eq_of_getLsbD_eq
  intro i hi
  simp [hi]
theorem fz_shl1 : ∀ l, l < 31 → (1 : Int32) <<< (nI l &&& 31) = nI (2 ^ l) := by decide +kernel
theorem fz_shl8 {s : Nat} (h : s < 65536) : nI s <<< ((8 : Int32) &&& 31) = nI (s * 256) := pk_shlN _ 8 (by decide) (by omega)
theorem fz_shr8 {r : Nat} (h : r < 2 ^ 31) : nI r >>> ((8 : Int32) &&& 31) = nI (r / 256) := pk_shrN h _ 8 (by decide)
theorem fz_shrN {v b : Nat} (h : v < 2 ^ 31) (hb : b < 32) : nI v >>> (nI b &&& 31) = nI (v / 2 ^ b) := pk_shrN h _ b (s_l b hb)
theorem fz_and1 (a : Nat) : nI a &&& 1 = nI (a % 2) := by
  show nI a &&& nI 1 = _
  rw [nx_and, Nat.and_one_is_mod]
theorem fz_and2 (r k : Nat) : r &&& 2 ^ k = if r.testBit k = true then 2 ^ k else 0 := by
  apply Nat.eq_of_testBit_eq
  intro i
  rw [Nat.testBit_and, Nat.testBit_two_pow]
  by_cases e : k = i
  · subst e
    rw [decide_eq_true rfl, Bool.and_true]
    cases z : r.testBit k
    · rw [if_neg (by decide), Nat.zero_testBit]
    · rw [if_pos rfl, Nat.testBit_two_pow_self]
  · rw [decide_eq_false e, Bool.and_false]
    split
    · exact (Nat.testBit_two_pow_of_ne e).symm
    · exact (Nat.zero_testBit i).symm
theorem fz_tb {r k : Nat} (hk : k < 31) : nI r &&& nI (2 ^ k) = 0 ↔ r.testBit k = false := by
  have hp : 0 < 2 ^ k := Nat.two_pow_pos k
  have hl : 2 ^ k < 2 ^ 31 := Nat.pow_lt_pow_right (by decide) hk
  rw [nx_and, fz_and2]
  cases r.testBit k
  · rw [if_neg (by decide)]
    exact ⟨fun _ => rfl, fun _ => nI_0⟩
  · rw [if_pos rfl]
    exact ⟨fun h => absurd h (nI_ne0 hp hl), fun h => absurd h (by decide)⟩
/-- the bit b of v, as Java asks for it -/
theorem fz_vb {v b : Nat} (h : v < 2 ^ 31) (hb : b < 32) : (nI v >>> (nI b &&& 31)) &&& 1 = (if v.testBit b = true then 1 else 0) := by
  rw [fz_shrN h hb, fz_and1, Nat.testBit_eq_decide_div_mod_eq]
  rcases Nat.mod_two_eq_zero_or_one (v / 2 ^ b) with e | e
  · rw [e]; rfl
  · rw [e]; rfl
theorem fz_sub (x y : Int32) : (x &&& (y ^^^ (-1)) = 0) ↔ (y &&& x = x) := by
  constructor
  · intro h
    apply b_ext
    intro i hi
    have e := congrArg (fun z => bt z i) h
    simp only [b_and, b_xor, b_m1 i hi, b_0] at e
    rw [b_and]
    revert e
    cases bt x i <;> cases bt y i <;> simp
  · intro h
    apply b_ext
    intro i hi
    have e := congrArg (fun z => bt z i) h
    simp only [b_and] at e
    rw [b_and, b_xor, b_m1 i hi, b_0]
    revert e
    cases bt x i <;> cases bt y i <;> simp
/-! members, peeling, seeds, drawn sets: the same on both sides -/
def fz_mc (x : Int32) : Nat → Int32
  | 0 => 0
  | b + 1 => fz_mc x b + ((x >>> (nI b &&& 31)) &&& 1)
theorem fz_mc_s (x : Int32) (b : Nat) : fz_mc x (b + 1) = fz_mc x b + ((x >>> (nI b &&& 31)) &&& 1) := rfl
theorem fz_odd : ∀ s, s < 256 → ((fz_mc (nI s) 8 - fz_mc (nI s) 8 / 2 * 2 = 1) ↔ gf_par s = true) := by decide +kernel
def fz_ps (S : Nat → Nat) (d : Int32) (i : Nat) : Int32 := if (nI (S i) &&& (d ^^^ (-1))) &&& ((nI (S i) &&& (d ^^^ (-1))) - 1) = 0 then d ||| (nI (S i) &&& (d ^^^ (-1))) else d
def fz_pi (S : Nat → Nat) (d : Int32) : Nat → Int32
  | 0 => d
  | i + 1 => fz_ps S (fz_pi S d i) i
def fz_pp (S : Nat → Nat) (h : Nat) (d : Int32) : Nat → Int32
  | 0 => d
  | k + 1 => fz_pi S (fz_pp S h d k) h
def fz_sd (S : Nat → Nat) (h n : Nat) : Nat → Int32 × Int32
  | 0 => (nI (2 ^ n - 1), nI n)
  | k + 1 => if fz_mc (nI k) 8 < (fz_sd S h n k).2 ∧ fz_pp S h (nI k) n = nI (2 ^ n - 1) then (nI k, fz_mc (nI k) 8) else fz_sd S h n k
theorem fz_sd_s (S : Nat → Nat) (h n k : Nat) : fz_sd S h n (k + 1) = if fz_mc (nI k) 8 < (fz_sd S h n k).2 ∧ fz_pp S h (nI k) n = nI (2 ^ n - 1) then (nI k, fz_mc (nI k) 8) else fz_sd S h n k := rfl
def fz_x (r : Nat) : Nat := r * 7919 + 104729
def fz_s1 (n r : Nat) : Nat := 2 ^ (fz_x r % n)
def fz_s2 (n r : Nat) : Nat := fz_s1 n r ^^^ 2 ^ (fz_x r / n % n)
def fz_s3 (n r : Nat) : Nat := fz_s2 n r ^^^ 2 ^ (fz_x r / (n * n) % n)
def fz_sx (n r : Nat) : Nat := if fz_x r / 7 % 3 = 0 then fz_s1 n r else if fz_x r / 7 % 3 = 1 then fz_s2 n r else fz_s3 n r
def fz_so (n r : Nat) : Nat := if fz_sx n r = 0 then 1 else fz_sx n r
theorem fz_pow {n : Nat} (hn : 1 ≤ n) (x : Nat) : 2 ^ (x % n) < 2 ^ n := Nat.pow_lt_pow_right (by decide) (Nat.mod_lt _ hn)
theorem fz_s1_lt {n : Nat} (hn : 1 ≤ n) (r : Nat) : fz_s1 n r < 2 ^ n := fz_pow hn _
theorem fz_s2_lt {n : Nat} (hn : 1 ≤ n) (r : Nat) : fz_s2 n r < 2 ^ n := Nat.xor_lt_two_pow (fz_s1_lt hn r) (fz_pow hn _)
theorem fz_s3_lt {n : Nat} (hn : 1 ≤ n) (r : Nat) : fz_s3 n r < 2 ^ n := Nat.xor_lt_two_pow (fz_s2_lt hn r) (fz_pow hn _)
theorem fz_sx_lt {n : Nat} (hn : 1 ≤ n) (r : Nat) : fz_sx n r < 2 ^ n := by
  unfold fz_sx
  split
  · exact fz_s1_lt hn r
  · split
    · exact fz_s2_lt hn r
    · exact fz_s3_lt hn r
theorem fz_so_lt {n : Nat} (hn : 1 ≤ n) (r : Nat) : fz_so n r < 2 ^ n := by
  have h := fz_sx_lt hn r
  have h2 : 2 ^ 1 ≤ 2 ^ n := Nat.pow_le_pow_right (by decide) hn
  unfold fz_so
  split <;> omega
theorem fz_x_lt {r : Nat} (h : r < 10000) : fz_x r < 2 ^ 31 := by
  unfold fz_x
  omega
theorem fz_n256 {n : Nat} (hn : n ≤ 8) : 2 ^ n ≤ 256 := gf_p8 hn
end
section
/-! X's elimination -/
def fx_R (S V : Nat → Nat) (i : Nat) : Nat := S i * 256 + V i
def fx_in (om : Int32) (i : Nat) : Bool := !decide (nI i = om)
def fx_cb (b : Bool) : Int32 := if b = true then 1 else 0
def fx_rw (S V : Nat → Nat) : Nat → Int32 := fun i => nI (fx_R S V i)
def fx_Ok (n h : Nat) (S V : Nat → Nat) : Prop := 1 ≤ n ∧ n ≤ 8 ∧ h ≤ 16 ∧ (∀ i, S i < 2 ^ n) ∧ (∀ i, V i < 256)
theorem fx_R_lt {n h : Nat} {S V : Nat → Nat} (K : fx_Ok n h S V) (i : Nat) : fx_R S V i < 2 ^ (8 + n) := by
  have h1 := K.2.2.2.1 i
  have h2 := K.2.2.2.2 i
  unfold fx_R
  rw [Nat.pow_add]
  show S i * 256 + V i < 256 * 2 ^ n
  omega
theorem fx_R16 {n h : Nat} {S V : Nat → Nat} (K : fx_Ok n h S V) (i : Nat) : fx_R S V i < 65536 := Nat.lt_of_lt_of_le (fx_R_lt K i) (gf_p16 K.2.1)
theorem fx_rw_i {n h : Nat} {S V : Nat → Nat} {i : Nat} (hi : i < 2 ^ 31) : fx_rw S V (nI i).toNatClampNeg = nI (fx_R S V i) := by
  rw [nI_clamp hi]
  rfl
theorem fx_7 : (7 : Int32) = nI 8 + (-1) := by decide
theorem fx_sh {k : Nat} (hk : k < 8) : (1 : Int32) <<< ((8 + nI k) &&& 31) = nI (2 ^ (8 + k)) := by
  have e : (8 : Int32) + nI k = nI (8 + k) := nI_add 8 k
  rw [e]
  exact fz_shl1 (8 + k) (by omega)
theorem fx_red5 {post : Int32 → Prop} {c al sc z ct : Int32} {ar ab : Nat → Int32} {B : Nat → Nat} (hB : ∀ b, b < 8 → ab b = nI (B b)) : ∀ (k r : Nat), k ≤ 8 → post (nI (gf_red B k r)) → wX_reduce_5 post c al sc z ct ar ab (k + 1) (nI r) (nI k + (-1)) := by
  intro k
  induction k with
  | zero =>
    intro r _ hp
    exact br_t (by decide) hp
  | succ k ih =>
    intro r hk hp
    rw [pk_m1]
    refine br_f (nI_pos (by omega)) (nm_r (fx_sh (by omega)) ?_)
    by_cases q : r.testBit (8 + k) = true
    · have e : gf_red B (k + 1) r = gf_red B k (r ^^^ B k) := by
        show gf_red B k (if r.testBit (8 + k) = true then r ^^^ B k else r) = _
        rw [if_pos q]
      rw [e] at hp
      refine br_f (fun w => ?_) ⟨vp_in_nI (by omega) (by omega), nm_r (e' := nI (r ^^^ B k)) ?_ (nm_e (ih _ (by omega) hp))⟩
      · have w2 := (fz_tb (by omega)).mp w
        rw [q] at w2
        exact absurd w2 (by decide)
      · rw [nI_clamp (by omega), hB k (by omega), nx_xor]
    · have e : gf_red B (k + 1) r = gf_red B k r := by
        show gf_red B k (if r.testBit (8 + k) = true then r ^^^ B k else r) = _
        rw [if_neg q]
      rw [e] at hp
      exact br_t ((fz_tb (by omega)).mpr (Bool.eq_false_iff.mpr q)) (nm_e (ih r (by omega) hp))
theorem fx_reduce {post : Int32 → Prop} {c al sc z ct : Int32} {ar ab : Nat → Int32} {B : Nat → Nat} (hB : ∀ b, b < 8 → ab b = nI (B b)) {r : Nat} (hp : post (nI (gf_red B 8 r))) : wpX_reduce post (c, al, sc, z, ct, ar, ab) (nI r) := by
  show ∃ n5 : Nat, wX_reduce_5 post c al sc z ct ar ab n5 (nI r) 7
  rw [fx_7]
  exact ⟨9, fx_red5 hB 8 r (by omega) hp⟩
theorem fx_add9 {post : SX → Prop} {c al sc ct : Int32} {z : Nat} {ar ab : Nat → Int32} {q : Nat} (hq : q < 65536)
    (H0 : (∀ b, b < 8 → q.testBit (8 + b) = false) → q = 0 → post (c, al, sc, nI z, ct, ar, ab))
    (H1 : (∀ b, b < 8 → q.testBit (8 + b) = false) → q ≠ 0 → post (c, al, sc, nI z, 1, ar, ab))
    (H2 : ∀ p, p < 8 → q.testBit (8 + p) = true → (∀ b, b < 8 → p < b → q.testBit (8 + b) = false) → post (c, al, sc, nI (z + 1), ct, ar, upd ab p (nI q))) :
    ∀ k, k ≤ 8 → (∀ b, b < 8 → k ≤ b → q.testBit (8 + b) = false) → wX_addToBasis_9 post (nI q) c al sc (nI z) ct ar ab (k + 1) (nI k + (-1)) := by
  intro k
  induction k with
  | zero =>
    intro _ hz
    have hz' : ∀ b, b < 8 → q.testBit (8 + b) = false := fun b hb => hz b hb (Nat.zero_le b)
    refine br_t (by decide) (pk_eq q 0 (fun e => H0 hz' e) (fun e => H1 hz' e))
  | succ k ih =>
    intro hk hz
    rw [pk_m1]
    refine br_f (nI_pos (by omega)) (nm_r (fx_sh (by omega)) ?_)
    by_cases w : q.testBit (8 + k) = true
    · refine br_f (fun w1 => ?_) ⟨vp_in_nI (by omega) (by omega), nm_r (e' := upd ab k (nI q)) ?_ (nm_r (nI_1 z) ?_)⟩
      · have w2 := (fz_tb (by omega)).mp w1
        rw [w] at w2
        exact absurd w2 (by decide)
      · rw [nI_clamp (by omega)]
      · exact H2 k (by omega) w (fun b hb hkb => hz b hb (by omega))
    · have w' : q.testBit (8 + k) = false := Bool.eq_false_iff.mpr w
      refine br_t ((fz_tb (by omega)).mpr w') (nm_e (ih (by omega) (fun b hb hkb => ?_)))
      by_cases e : b = k
      · rw [e]; exact w'
      · exact hz b hb (by omega)
theorem fx_addToBasis {post : SX → Prop} {c al sc ct : Int32} {z : Nat} {ar ab : Nat → Int32} {B : Nat → Nat} (hB : ∀ b, b < 8 → ab b = nI (B b)) {r : Nat} (hq : gf_red B 8 r < 65536)
    (H0 : (∀ b, b < 8 → (gf_red B 8 r).testBit (8 + b) = false) → gf_red B 8 r = 0 → post (c, al, sc, nI z, ct, ar, ab))
    (H1 : (∀ b, b < 8 → (gf_red B 8 r).testBit (8 + b) = false) → gf_red B 8 r ≠ 0 → post (c, al, sc, nI z, 1, ar, ab))
    (H2 : ∀ p, p < 8 → (gf_red B 8 r).testBit (8 + p) = true → (∀ b, b < 8 → p < b → (gf_red B 8 r).testBit (8 + b) = false) → post (c, al, sc, nI (z + 1), ct, ar, upd ab p (nI (gf_red B 8 r)))) :
    wpX_addToBasis post (c, al, sc, nI z, ct, ar, ab) (nI r) := by
  unfold wpX_addToBasis
  refine fx_reduce hB ?_
  show ∃ n9 : Nat, wX_addToBasis_9 post (nI (gf_red B 8 r)) c al sc (nI z) ct ar ab n9 7
  rw [fx_7]
  exact ⟨9, fx_add9 hq H0 H1 H2 8 (by omega) (fun b hb hk => absurd hb (by omega))⟩
theorem fx_hi16 {q : Nat} (h : q < 65536) {p : Nat} (h2 : ∀ b, b < 8 → p < b → q.testBit (8 + b) = false) : ∀ c, p < c → q.testBit (8 + c) = false := by
  intro c hc
  by_cases e : c < 8
  · exact h2 c e hc
  · have h3 : 2 ^ 16 ≤ 2 ^ (8 + c) := Nat.pow_le_pow_right (by decide) (by omega)
    exact Nat.testBit_lt_two_pow (by omega)
theorem fx_lo8 {q : Nat} (h : q < 65536) (h2 : ∀ b, b < 8 → q.testBit (8 + b) = false) : q < 256 := by
  by_cases e : q < 256
  · exact e
  · obtain ⟨p, hp, h3, _⟩ := gf_tops h e
    rw [h2 p hp] at h3
    exact absurd h3 (by decide)
theorem fx_b33 {post : SX → Prop} {n h : Nat} {S V : Nat → Nat} (K : fx_Ok n h S V) (om : Int32)
    (H : ∀ (B : Nat → Nat) (z : Nat) (con : Bool) (ab : Nat → Int32), (∀ b, b < 8 → ab b = nI (B b)) → gf_Inv n (fx_R S V) (fx_in om) h B z con → post (nI n, nI (2 ^ n - 1), nI h, nI z, fx_cb con, fx_rw S V, ab)) :
    ∀ d i, i + d = h → ∀ (B : Nat → Nat) (z : Nat) (con : Bool) (ab : Nat → Int32), (∀ b, b < 8 → ab b = nI (B b)) → gf_Inv n (fx_R S V) (fx_in om) i B z con → wX_buildBasisWithout_33 post om (d + 1) (nI i) (nI n) (nI (2 ^ n - 1)) (nI h) (nI z) (fx_cb con) (fx_rw S V) ab := by
  have hh := K.2.2.1
  intro d
  induction d with
  | zero =>
    intro i hi B z con ab hB I
    have e : i = h := by omega
    subst e
    exact br_t (Int32.le_refl _) (H B z con ab hB I)
  | succ d ih =>
    intro i hi B z con ab hB I
    refine br_f (nI_ge (by omega) (by omega)) ?_
    by_cases e : nI i = om
    · refine br_t e (nm_r (nI_1 i) (ih (i + 1) (by omega) B z con ab hB (gf_inv_skip I ?_)))
      unfold fx_in
      rw [decide_eq_true e]
      rfl
    · have hin : fx_in om i = true := by
        unfold fx_in
        rw [decide_eq_false e]
        rfl
      have hq : gf_red B 8 (fx_R S V i) < 65536 := Nat.lt_of_lt_of_le (gf_red_lt 8 _ (fx_R_lt K i) I.1) (gf_p16 K.2.1)
      refine br_f e ⟨vp_in_nI (by omega) (by omega), ?_⟩
      rw [fx_rw_i (n := n) (h := h) (by omega)]
      refine fx_addToBasis hB hq (fun h0 h1 => ?_) (fun h0 h1 => ?_) (fun p hp h1 h2 => ?_)
      · have I2 := gf_inv_zero K.2.1 I hin (fx_R_lt K i) (fx_lo8 hq h0)
        have e2 : (con || decide (gf_red B 8 (fx_R S V i) ≠ 0)) = con := by
          rw [h1]
          cases con <;> rfl
        rw [e2] at I2
        exact nm_r (nI_1 i) (ih (i + 1) (by omega) B z con ab hB I2)
      · have I2 := gf_inv_zero K.2.1 I hin (fx_R_lt K i) (fx_lo8 hq h0)
        have e2 : (con || decide (gf_red B 8 (fx_R S V i) ≠ 0)) = true := by
          rw [decide_eq_true h1]
          cases con <;> rfl
        rw [e2] at I2
        exact nm_r (nI_1 i) (ih (i + 1) (by omega) B z true ab hB I2)
      · have I2 := gf_inv_new K.2.1 I hin (fx_R_lt K i) hp h1 (fx_hi16 hq h2)
        refine nm_r (nI_1 i) (ih (i + 1) (by omega) _ (z + 1) con _ (fun b hb => ?_) I2)
        by_cases e3 : b = p
        · rw [e3, pk_us, gf_upd_s]
        · rw [pk_un e3, gf_upd_n B _ e3]
          exact hB b hb
theorem fx_b2 {post : SX → Prop} {n h : Nat} {S V : Nat → Nat} (K : fx_Ok n h S V) (om z ct : Int32)
    (H : ∀ (B : Nat → Nat) (z : Nat) (con : Bool) (ab : Nat → Int32), (∀ b, b < 8 → ab b = nI (B b)) → gf_Inv n (fx_R S V) (fx_in om) h B z con → post (nI n, nI (2 ^ n - 1), nI h, nI z, fx_cb con, fx_rw S V, ab)) :
    ∀ d b, b + d = 8 → ∀ ab : Nat → Int32, (∀ c, c < b → ab c = 0) → wX_buildBasisWithout_2 post om (nI n) (nI (2 ^ n - 1)) (nI h) z ct (d + 1) (nI b) (fx_rw S V) ab := by
  intro d
  induction d with
  | zero =>
    intro b hb ab hz
    have e : b = 8 := by omega
    subst e
    refine br_t (by decide) ⟨h + 1, ?_⟩
    exact fx_b33 K om H h 0 (by omega) (fun _ => 0) 0 false ab (fun b hb => (hz b hb).trans nI_0.symm) (gf_inv_0 (fun _ _ => rfl))
  | succ d ih =>
    intro b hb ab hz
    refine br_f (nI_ge (b := 8) (by omega) (by decide)) ⟨vp_in_nI (by omega) (by omega), nm_e (nm_r (nI_1 b) (ih (b + 1) (by omega) _ (fun c hc => ?_)))⟩
    rw [nI_clamp (by omega)]
    by_cases e : c = b
    · rw [e, pk_us]
    · rw [pk_un e]
      exact hz c (by omega)
theorem fx_build {post : SX → Prop} {n h : Nat} {S V : Nat → Nat} (K : fx_Ok n h S V) (om z ct : Int32) (ab : Nat → Int32)
    (H : ∀ (B : Nat → Nat) (z : Nat) (con : Bool) (ab : Nat → Int32), (∀ b, b < 8 → ab b = nI (B b)) → gf_Inv n (fx_R S V) (fx_in om) h B z con → post (nI n, nI (2 ^ n - 1), nI h, nI z, fx_cb con, fx_rw S V, ab)) :
    wpX_buildBasisWithout post (nI n, nI (2 ^ n - 1), nI h, z, ct, fx_rw S V, ab) om :=
  ⟨9, fx_b2 K om z ct H 8 0 (by omega) ab (fun c hc => absurd hc (Nat.not_lt_zero c))⟩
end
section
/-! X's questions over its basis -/
theorem fx_q16 {n : Nat} {R : Nat → Nat} {inn : Nat → Bool} {m : Nat} {B : Nat → Nat} {z : Nat} {con : Bool} (hn : n ≤ 8) (I : gf_Inv n R inn m B z con) {t : Nat} (ht : t < 2 ^ n) : gf_red B 8 (t * 256) < 65536 := Nat.lt_of_lt_of_le (gf_red_lt 8 _ (gf_t256 ht) I.1) (gf_p16 hn)
theorem fx_q8 {q : Nat} {A C : Prop} (hq : q < 65536) (h1 : q < 256 → A) (h0 : ¬ q < 256 → C) : (nI q >>> ((8 : Int32) &&& 31) = 0 → A) ∧ (¬ nI q >>> ((8 : Int32) &&& 31) = 0 → C) := by
  rw [fz_shr8 (by omega)]
  exact pk_eq (q / 256) 0 (fun e => h1 (by omega)) (fun e => h0 (by omega))
theorem fx_cb1 {b : Bool} {A C : Prop} (h1 : b = true → C) (h0 : b = false → A) : (fx_cb b = 0 → A) ∧ (¬ fx_cb b = 0 → C) := by
  cases b
  · exact br_t (by decide) (h0 rfl)
  · exact br_f (by decide) (h1 rfl)
theorem fx_span {post : Int32 → Prop} {c al sc z ct : Int32} {ar ab : Nat → Int32} {B : Nat → Nat} (hB : ∀ b, b < 8 → ab b = nI (B b)) {t : Nat} (ht : t < 65536) (hq : gf_red B 8 (t * 256) < 65536) (hp : post (fx_cb (gf_spn B t))) : wpX_isSpanned post (c, al, sc, z, ct, ar, ab) (nI t) := by
  unfold wpX_isSpanned
  show wpX_reduce _ (c, al, sc, z, ct, ar, ab) (nI t <<< ((8 : Int32) &&& 31))
  rw [fz_shl8 ht]
  refine fx_reduce hB (fx_q8 hq (fun e => ?_) (fun e => ?_))
  · have w : gf_spn B t = true := decide_eq_true e
    rw [w] at hp
    exact hp
  · have w : gf_spn B t = false := decide_eq_false e
    rw [w] at hp
    exact hp
theorem fx_bit {b n : Nat} (hn : n ≤ 8) (hb : b < n) : 2 ^ b < 2 ^ n ∧ 2 ^ b < 65536 := by
  have h1 : 2 ^ b < 2 ^ n := Nat.pow_lt_pow_right (by decide) hb
  have h2 := gf_p8 hn
  exact ⟨h1, by omega⟩
theorem fx_kn18 {post : Int32 → SX → Prop} {n : Nat} {al sc z ct : Int32} {ar ab : Nat → Int32} {R : Nat → Nat} {inn : Nat → Bool} {m : Nat} {B : Nat → Nat} {zz : Nat} {con : Bool} (hn : n ≤ 8) (I : gf_Inv n R inn m B zz con) (hB : ∀ b, b < 8 → ab b = nI (B b)) (hp : post (nI (gf_kn B n)) (nI n, al, sc, z, ct, ar, ab)) :
    ∀ d b, b + d = n → wX_knownWithout_18 post (nI n) al sc z ct ar ab (d + 1) (nI (gf_mk (fun b => gf_spn B (2 ^ b)) b)) (nI b) := by
  intro d
  induction d with
  | zero =>
    intro b hb
    have e : b = n := by omega
    subst e
    exact br_t (Int32.le_refl _) hp
  | succ d ih =>
    intro b hb
    have hb2 := fx_bit hn (show b < n by omega)
    refine br_f (nI_ge (by omega) (by omega)) ?_
    rw [fz_shl1 b (by omega)]
    refine fx_span hB hb2.2 (fx_q16 hn I hb2.1) (fx_cb1 (fun e => ?_) (fun e => ?_))
    · have w : gf_mk (fun b => gf_spn B (2 ^ b)) (b + 1) = gf_mk (fun b => gf_spn B (2 ^ b)) b ||| 2 ^ b := by
        rw [gf_mk_s, if_pos e]
      have ih2 := ih (b + 1) (by omega)
      rw [w] at ih2
      exact nm_r (fz_or _ _) (nm_r (nI_1 b) ih2)
    · have w : gf_mk (fun b => gf_spn B (2 ^ b)) (b + 1) = gf_mk (fun b => gf_spn B (2 ^ b)) b := by
        rw [gf_mk_s, if_neg (by rw [e]; decide)]
      have ih2 := ih (b + 1) (by omega)
      rw [w] at ih2
      exact nm_r (nI_1 b) ih2
theorem fx_knownWithout {post : Int32 → SX → Prop} {n h : Nat} {S V : Nat → Nat} (K : fx_Ok n h S V) (om z ct : Int32) (ab : Nat → Int32)
    (H : ∀ (B : Nat → Nat) (z : Nat) (con : Bool) (ab : Nat → Int32), (∀ b, b < 8 → ab b = nI (B b)) → gf_Inv n (fx_R S V) (fx_in om) h B z con → post (nI (gf_yk (fx_R S V) (fx_in om) h n)) (nI n, nI (2 ^ n - 1), nI h, nI z, fx_cb con, fx_rw S V, ab)) :
    wpX_knownWithout post (nI n, nI (2 ^ n - 1), nI h, z, ct, fx_rw S V, ab) om := by
  unfold wpX_knownWithout
  refine fx_build K om z ct ab (fun B z con ab hB I => ?_)
  have hp := H B z con ab hB I
  rw [gf_yk_kn K.2.1 I] at hp
  refine fx_cb1 (fun e => ?_) (fun e => ?_)
  · subst e
    exact hp
  · subst e
    exact ⟨n + 1, fx_kn18 K.2.1 I hB hp n 0 (by omega)⟩
/-- what sumOf answers for a good set -/
def fx_fs (B : Nat → Nat) (con : Bool) (t : Nat) : Int32 := if con = true then -2 else if gf_spn B t = true then nI (gf_red B 8 (t * 256)) else -2
theorem fx_fixedSum {post : Int32 → SX → Prop} {n h : Nat} {S V : Nat → Nat} (K : fx_Ok n h S V) (z ct : Int32) (ab : Nat → Int32) {t : Nat} (ht : t < 2 ^ n)
    (H : ∀ (B : Nat → Nat) (z : Nat) (con : Bool) (ab : Nat → Int32), gf_Inv n (fx_R S V) (fx_in (-1)) h B z con → post (fx_fs B con t) (nI n, nI (2 ^ n - 1), nI h, nI z, fx_cb con, fx_rw S V, ab)) :
    wpX_fixedSum post (nI n, nI (2 ^ n - 1), nI h, z, ct, fx_rw S V, ab) (nI t) := by
  have h8 := gf_p8 K.2.1
  unfold wpX_fixedSum
  refine fx_build K (-1) z ct ab (fun B z con ab hB I => ?_)
  have hp := H B z con ab I
  refine fx_cb1 (fun e => ?_) (fun e => ?_)
  · subst e
    exact hp
  · subst e
    show wpX_reduce _ (nI n, nI (2 ^ n - 1), nI h, nI z, fx_cb false, fx_rw S V, ab) (nI t <<< ((8 : Int32) &&& 31))
    rw [fz_shl8 (by omega)]
    refine fx_reduce hB (fx_q8 (fx_q16 K.2.1 I ht) (fun e => ?_) (fun e => ?_))
    · have w : gf_spn B t = true := decide_eq_true e
      unfold fx_fs at hp
      rw [if_neg (by decide), if_pos w] at hp
      exact hp
    · have w : gf_spn B t = false := decide_eq_false e
      unfold fx_fs at hp
      rw [if_neg (by decide), if_neg (by rw [w]; decide)] at hp
      exact hp
/-! spare -/
def fx_sc (S V : Nat → Nat) (h n : Nat) : Nat → Nat
  | 0 => 0
  | i + 1 => fx_sc S V h n i + (if nI (gf_yk (fx_R S V) (fx_in (nI i)) h n) &&& nI (gf_yk (fx_R S V) (fx_in (-1)) h n) = nI (gf_yk (fx_R S V) (fx_in (-1)) h n) then 1 else 0)
theorem fx_sc_s (S V : Nat → Nat) (h n i : Nat) : fx_sc S V h n (i + 1) = fx_sc S V h n i + (if nI (gf_yk (fx_R S V) (fx_in (nI i)) h n) &&& nI (gf_yk (fx_R S V) (fx_in (-1)) h n) = nI (gf_yk (fx_R S V) (fx_in (-1)) h n) then 1 else 0) := rfl
theorem fx_sp10 {post : Int32 → SX → Prop} {n h : Nat} {S V : Nat → Nat} (K : fx_Ok n h S V)
    (H : ∀ (z ct : Int32) (ab : Nat → Int32), post (nI (fx_sc S V h n h)) (nI n, nI (2 ^ n - 1), nI h, z, ct, fx_rw S V, ab)) :
    ∀ d i, i + d = h → ∀ (z ct : Int32) (ab : Nat → Int32), wX_spare_10 post (nI (gf_yk (fx_R S V) (fx_in (-1)) h n)) (d + 1) (nI (fx_sc S V h n i)) (nI i) (nI n) (nI (2 ^ n - 1)) (nI h) z ct (fx_rw S V) ab := by
  have hh := K.2.2.1
  intro d
  induction d with
  | zero =>
    intro i hi z ct ab
    have e : i = h := by omega
    subst e
    exact br_t (Int32.le_refl _) (H z ct ab)
  | succ d ih =>
    intro i hi z ct ab
    refine br_f (nI_ge (by omega) (by omega)) ?_
    refine fx_knownWithout K (nI i) z ct ab (fun B z con ab hB I => ?_)
    refine ek_if (fz_sub _ _) (fun e => ?_) (fun e => ?_)
    · have ih2 := ih (i + 1) (by omega) (nI z) (fx_cb con) ab
      rw [fx_sc_s, if_pos e] at ih2
      exact nm_r (nI_1 _) (nm_r (nI_1 i) ih2)
    · have ih2 := ih (i + 1) (by omega) (nI z) (fx_cb con) ab
      rw [fx_sc_s, if_neg e] at ih2
      exact nm_r (nI_1 i) ih2
theorem fx_spare {post : Int32 → SX → Prop} {n h : Nat} {S V : Nat → Nat} (K : fx_Ok n h S V) (z ct : Int32) (ab : Nat → Int32)
    (H : ∀ (z ct : Int32) (ab : Nat → Int32), post (nI (fx_sc S V h n h)) (nI n, nI (2 ^ n - 1), nI h, z, ct, fx_rw S V, ab)) :
    wpX_spare post (nI n, nI (2 ^ n - 1), nI h, z, ct, fx_rw S V, ab) := by
  unfold wpX_spare
  refine fx_knownWithout K (-1) z ct ab (fun B z con ab hB I => ?_)
  exact ⟨h + 1, fx_sp10 K H h 0 (by omega) (nI z) (fx_cb con) ab⟩
/-! drawn sets -/
theorem fx_0 {n : Nat} (h1 : 1 ≤ n) (h8 : n ≤ 8) : ¬ nI n = 0 := nI_ne0 h1 (by omega)
theorem fx_rot {n x : Nat} (h1 : 1 ≤ n) (h8 : n ≤ 8) (hx : x < 2 ^ 31) : (1 : Int32) <<< ((nI x - nI x / nI n * nI n) &&& 31) = nI (2 ^ (x % n)) := by
  rw [pk_rem hx h1 (by omega)]
  exact fz_shl1 (x % n) (by have := Nat.mod_lt x h1; omega)
theorem fx_x {r : Nat} : nI r * 7919 + 104729 = nI (fz_x r) := by
  have e : nI r * nI 7919 + nI 104729 = nI (r * 7919 + 104729) := by rw [pk_mul, nI_add]
  exact e
theorem fx_size {r : Nat} (h : r < 10000) : (1 : Int32) + ((nI (fz_x r) / 7) - (nI (fz_x r) / 7) / 3 * 3) = nI (1 + fz_x r / 7 % 3) := by
  have hx := fz_x_lt h
  have e1 : nI (fz_x r) / nI 7 = nI (fz_x r / 7) := pk_div hx (by decide) (by decide)
  have e2 : nI (fz_x r / 7) - nI (fz_x r / 7) / nI 3 * nI 3 = nI (fz_x r / 7 % 3) := pk_rem (by omega) (by decide) (by decide)
  have e3 : nI 1 + nI (fz_x r / 7 % 3) = nI (1 + fz_x r / 7 % 3) := nI_add _ _
  rw [← e3, ← e2, ← e1]
  rfl
theorem fx_so_end {post : Int32 → Prop} {s : Nat} (hs : s < 256) (hp : post (nI (if s = 0 then 1 else s))) : (nI s = 0 → post 1) ∧ (¬ nI s = 0 → post (nI s)) := by
  refine pk_eq s 0 (fun e => ?_) (fun e => ?_)
  · rw [if_pos e] at hp
    exact hp
  · rw [if_neg e] at hp
    exact hp
theorem fx_setOfNumber {post : Int32 → Prop} {n : Nat} {al sc z ct : Int32} {ar ab : Nat → Int32} (h1 : 1 ≤ n) (h8 : n ≤ 8) {r : Nat} (hr : r < 10000) (hp : post (nI (fz_so n r))) : wpX_setOfNumber post (nI n, al, sc, z, ct, ar, ab) (nI r) := by
  have hx := fz_x_lt hr
  have p8 := gf_p8 h8
  have d1 : fz_x r / n ≤ fz_x r := Nat.div_le_self _ _
  have d2 : fz_x r / n / n ≤ fz_x r / n := Nat.div_le_self _ _
  have hm : fz_x r / 7 % 3 < 3 := Nat.mod_lt _ (by decide)
  have b1 := fz_s1_lt h1 r
  have b2 := fz_s2_lt h1 r
  have b3 := fz_s3_lt h1 r
  have z0 : ¬ nI n = 0 := fx_0 h1 h8
  unfold fz_so fz_sx at hp
  unfold wpX_setOfNumber
  refine nm_r fx_x ⟨by decide, by decide, nm_r (fx_size hr) ⟨5, ?_⟩⟩
  have step1 : (0 : Int32) ^^^ ((1 : Int32) <<< ((nI (fz_x r) - nI (fz_x r) / nI n * nI n) &&& 31)) = nI (fz_s1 n r) := by
    rw [fx_rot h1 h8 hx, ← nI_0, nx_xor, Nat.zero_xor]
    rfl
  have step2 : nI (fz_s1 n r) ^^^ ((1 : Int32) <<< ((nI (fz_x r / n) - nI (fz_x r / n) / nI n * nI n) &&& 31)) = nI (fz_s2 n r) := by
    rw [fx_rot h1 h8 (by omega), nx_xor]
    rfl
  have step3 : nI (fz_s2 n r) ^^^ ((1 : Int32) <<< ((nI (fz_x r / n / n) - nI (fz_x r / n / n) / nI n * nI n) &&& 31)) = nI (fz_s3 n r) := by
    rw [fx_rot h1 h8 (by omega), nx_xor, Nat.div_div_eq_div_mul]
    rfl
  have v1 : nI (fz_x r) / nI n = nI (fz_x r / n) := pk_div hx h1 (by omega)
  have v2 : nI (fz_x r / n) / nI n = nI (fz_x r / n / n) := pk_div (by omega) h1 (by omega)
  have v3 : nI (fz_x r / n / n) / nI n = nI (fz_x r / n / n / n) := pk_div (by omega) h1 (by omega)
  refine pk_le (1 + fz_x r / 7 % 3) 0 (fun e => absurd e (by omega)) (fun _ => ⟨z0, nm_r step1 ⟨z0, nm_r v1 (nm_r (nI_1 0) ?_)⟩⟩)
  refine pk_le (1 + fz_x r / 7 % 3) 1 (fun e => fx_so_end (by omega) ?_) (fun e1 => ⟨z0, nm_r step2 ⟨z0, nm_r v2 (nm_r (nI_1 1) ?_)⟩⟩)
  · rw [if_pos (show fz_x r / 7 % 3 = 0 by omega)] at hp
    exact hp
  refine pk_le (1 + fz_x r / 7 % 3) 2 (fun e => fx_so_end (by omega) ?_) (fun e2 => ⟨z0, nm_r step3 ⟨z0, nm_r v3 (nm_r (nI_1 2) ?_)⟩⟩)
  · rw [if_neg (show ¬ fz_x r / 7 % 3 = 0 by omega), if_pos (show fz_x r / 7 % 3 = 1 by omega)] at hp
    exact hp
  refine pk_le (1 + fz_x r / 7 % 3) 3 (fun e => fx_so_end (by omega) ?_) (fun e3 => absurd e3 (by omega))
  rw [if_neg (show ¬ fz_x r / 7 % 3 = 0 by omega), if_neg (show ¬ fz_x r / 7 % 3 = 1 by omega)] at hp
  exact hp
/-! useful -/
def fx_Ans (H : Nat → Bool) (x : Int32) : Prop := (x = -1 ∧ ∀ r, r < 10000 → H r = false) ∨ (∃ r, r < 10000 ∧ x = nI r ∧ H r = true ∧ ∀ s, s < r → H s = false)
theorem fx_Ans_1 {H : Nat → Bool} {x y : Int32} (hx : fx_Ans H x) (hy : fx_Ans H y) : y = x := by
  rcases hx with ⟨e, h⟩ | ⟨r, hr, e, h, hl⟩ <;> rcases hy with ⟨e', h'⟩ | ⟨r', hr', e', h', hl'⟩
  · rw [e, e']
  · rw [h r' hr'] at h'
    exact absurd h' (by decide)
  · rw [h' r hr] at h
    exact absurd h (by decide)
  · have : r = r' := by
      rcases Nat.lt_trichotomy r r' with q | q | q
      · rw [hl' r q] at h
        exact absurd h (by decide)
      · exact q
      · rw [hl r' q] at h'
        exact absurd h' (by decide)
    rw [e, e', this]
theorem fx_wr23 {post : Int32 → Prop} {J : Int32 → Prop} {al sc z ct kn : Int32} {ar ab : Nat → Int32} {R : Nat → Nat} {inn : Nat → Bool} {n m : Nat} {B : Nat → Nat} {zz : Nat} {con : Bool} (hn : n ≤ 8) (I : gf_Inv n R inn m B zz con) (hB : ∀ b, b < 8 → ab b = nI (B b)) {s b : Nat} (hs : s < 2 ^ n) (hb : b < n) {k : Bool}
    (H1 : (!k && gf_spn B (s ^^^ 2 ^ b)) = true → post 1) (H0 : (!k && gf_spn B (s ^^^ 2 ^ b)) = false → J (nI (b + 1))) : wX_wouldReveal_23 post J (nI s) kn (nI b) (fx_cb k) (nI n) al sc z ct ar ab := by
  have hb2 := fx_bit hn hb
  have hx : s ^^^ 2 ^ b < 2 ^ n := Nat.xor_lt_two_pow hs hb2.1
  have p8 := gf_p8 hn
  unfold wX_wouldReveal_23
  refine fx_cb1 (fun e => ?_) (fun e => ?_)
  · subst e
    exact nm_r (nI_1 b) (H0 rfl)
  · subst e
    rw [fz_shl1 b (by omega), nx_xor]
    refine fx_span hB (by omega) (fx_q16 hn I hx) (fx_cb1 (fun e => ?_) (fun e => ?_))
    · exact H1 (by rw [e]; rfl)
    · exact nm_r (nI_1 b) (H0 (by rw [e]; rfl))
theorem fx_wr2 {post : Int32 → Prop} {al sc z ct : Int32} {ar ab : Nat → Int32} {R : Nat → Nat} {inn : Nat → Bool} {n m : Nat} {B : Nat → Nat} {zz : Nat} {con : Bool} (hn : n ≤ 8) (I : gf_Inv n R inn m B zz con) (hB : ∀ b, b < 8 → ab b = nI (B b)) {s : Nat} (hs : s < 2 ^ n) (hp : post (fx_cb (gf_rv B n s))) :
    ∀ d b, b + d = n → (∀ c, c < b → (!(gf_spn B (2 ^ c)) && gf_spn B (s ^^^ 2 ^ c)) = false) → wX_wouldReveal_2 post (nI s) (nI (gf_kn B n)) (nI n) al sc z ct ar ab (d + 1) (nI b) := by
  have p8 := gf_p8 hn
  have hk : gf_kn B n < 2 ^ n := gf_mk_lt _ n
  intro d
  induction d with
  | zero =>
    intro b hb hz
    have e : b = n := by omega
    subst e
    have w : gf_rv B b s = false := gf_ex_no hz
    rw [w] at hp
    exact br_t (Int32.le_refl _) hp
  | succ d ih =>
    intro b hb hz
    refine br_f (nI_ge (by omega) (by omega)) ?_
    rw [fz_vb (by omega) (by omega)]
    have hbit : (gf_kn B n).testBit b = gf_spn B (2 ^ b) := by
      unfold gf_kn
      rw [gf_mk_bit, decide_eq_true (show b < n by omega), Bool.true_and]
    rw [hbit]
    have H1 : (!(gf_spn B (2 ^ b)) && gf_spn B (s ^^^ 2 ^ b)) = true → post 1 := by
      intro e
      have w : gf_rv B n s = true := gf_ex_iff.mpr ⟨b, by omega, e⟩
      rw [w] at hp
      exact hp
    have H0 : (!(gf_spn B (2 ^ b)) && gf_spn B (s ^^^ 2 ^ b)) = false → wX_wouldReveal_2 post (nI s) (nI (gf_kn B n)) (nI n) al sc z ct ar ab (d + 1) (nI (b + 1)) := by
      intro e
      refine ih (b + 1) (by omega) (fun c hc => ?_)
      by_cases q : c = b
      · rw [q]; exact e
      · exact hz c (by omega)
    cases w : gf_spn B (2 ^ b)
    · rw [w] at H1 H0
      exact br_t (by decide) (fx_wr23 (k := false) hn I hB hs (by omega) H1 H0)
    · rw [w] at H1 H0
      exact br_f (by decide) (fx_wr23 (k := true) hn I hB hs (by omega) H1 H0)
theorem fx_us17 {post : Int32 → SX → Prop} {al sc z ct : Int32} {ar ab : Nat → Int32} {R : Nat → Nat} {inn : Nat → Bool} {n m : Nat} {B : Nat → Nat} {zz : Nat} {con : Bool} (h1 : 1 ≤ n) (hn : n ≤ 8) (I : gf_Inv n R inn m B zz con) (hB : ∀ b, b < 8 → ab b = nI (B b)) (H : ∀ x, fx_Ans (fun r => gf_rv B n (fz_so n r)) x → post x (nI n, al, sc, z, ct, ar, ab)) :
    ∀ d r, r + d = 10000 → (∀ s, s < r → gf_rv B n (fz_so n s) = false) → wX_useful_17 post (nI (gf_kn B n)) (nI n) al sc z ct ar ab (d + 1) (nI r) := by
  intro d
  induction d with
  | zero =>
    intro r hr hz
    have e : r = 10000 := by omega
    subst e
    exact br_t (by decide) (H _ (Or.inl ⟨rfl, hz⟩))
  | succ d ih =>
    intro r hr hz
    refine br_f (nI_nlt (a := 9999) (by omega) (by decide)) ?_
    refine fx_setOfNumber h1 hn (by omega) ?_
    refine ⟨n + 1, fx_wr2 hn I hB (fz_so_lt h1 r) (fx_cb1 (fun e => ?_) (fun e => ?_)) n 0 (by omega) (fun c hc => absurd hc (Nat.not_lt_zero c))⟩
    · exact H _ (Or.inr ⟨r, by omega, rfl, e, hz⟩)
    · refine nm_r (nI_1 r) (ih (r + 1) (by omega) (fun s hs => ?_))
      by_cases q : s = r
      · rw [q]; exact e
      · exact hz s (by omega)
end
section
/-! X: members, peeling, seeds, losing -/
theorem fx_mc4 {post : Int32 → Prop} {x : Int32} (hp : post (fz_mc x 8)) : ∀ d b, b + d = 8 → wX_memberCount_4 post x (d + 1) (fz_mc x b) (nI b) := by
  intro d
  induction d with
  | zero =>
    intro b hb
    have e : b = 8 := by omega
    subst e
    exact br_t (by decide) hp
  | succ d ih =>
    intro b hb
    exact br_f (nI_ge (b := 8) (by omega) (by decide)) (nm_e (nm_r (nI_1 b) (ih (b + 1) (by omega))))
theorem fx_memberCount {post : Int32 → Prop} {x : Int32} (hp : post (fz_mc x 8)) : wpX_memberCount post x := ⟨9, fx_mc4 hp 8 0 (by omega)⟩
theorem fx_or0 (x : Int32) : x ||| 0 = x := by
  apply b_ext
  intro i hi
  rw [b_or, b_0, Bool.or_false]
theorem fx_row8 {n h : Nat} {S V : Nat → Nat} (K : fx_Ok n h S V) (i : Nat) : nI (fx_R S V i) >>> ((8 : Int32) &&& 31) = nI (S i) := by
  have h1 := fx_R16 K i
  rw [fz_shr8 (by omega)]
  unfold fx_R
  rw [gf_row_div (K.2.2.2.2 i)]
theorem fx_pf55 {post : Int32 → Prop} {J4 J15 : Int32 → Int32 → Prop} {x2 x3 x5 : Int32} {i : Nat} {z0 c al sc z ct : Int32} {ar ab : Nat → Int32} (H : J15 (if z0 = 0 then x2 else x2 ||| x5) (nI (i + 1))) : wX_peelFrom_55 post J4 J15 x2 x3 (nI i) x5 z0 c al sc z ct ar ab := by
  unfold wX_peelFrom_55
  by_cases e : z0 = 0
  · rw [if_pos e] at H
    exact br_t e (nm_r (nI_1 i) H)
  · rw [if_neg e] at H
    exact br_f e (nm_e (nm_r (nI_1 i) H))
theorem fx_pf15 {post : Int32 → Prop} {J4 : Int32 → Int32 → Prop} {n h : Nat} {S V : Nat → Nat} (K : fx_Ok n h S V) {k : Nat} {dn al z ct : Int32} {ab : Nat → Int32} (H : J4 (fz_pi S dn h) (nI (k + 1))) :
    ∀ d i, i + d = h → wX_peelFrom_15 post J4 (nI k) (nI n) al (nI h) z ct (fx_rw S V) ab (d + 1) (fz_pi S dn i) (nI i) := by
  have hh := K.2.2.1
  intro d
  induction d with
  | zero =>
    intro i hi
    have e : i = h := by omega
    subst e
    exact br_t (Int32.le_refl _) (nm_r (nI_1 k) H)
  | succ d ih =>
    intro i hi
    have ih2 := ih (i + 1) (by omega)
    have w : fz_pi S dn (i + 1) = fz_ps S (fz_pi S dn i) i := rfl
    rw [w] at ih2
    unfold fz_ps at ih2
    refine br_f (nI_ge (by omega) (by omega)) ⟨vp_in_nI (by omega) (by omega), ?_⟩
    rw [fx_rw_i (n := n) (h := h) (by omega), fx_row8 K i]
    refine nm_e (br_c (fun e => fx_pf55 ?_) (fun e => fx_pf55 ?_))
    · rw [if_pos e] at ih2
      rw [if_neg (show ¬ (1 : Int32) = 0 by decide)]
      exact ih2
    · rw [if_neg e] at ih2
      rw [if_pos rfl]
      exact ih2
theorem fx_pf4 {post : Int32 → Prop} {n h : Nat} {S V : Nat → Nat} (K : fx_Ok n h S V) {st al z ct : Int32} {ab : Nat → Int32} (hp : post (fz_pp S h st n)) :
    ∀ d k, k + d = n → wX_peelFrom_4 post (nI n) al (nI h) z ct (fx_rw S V) ab (d + 1) (fz_pp S h st k) (nI k) := by
  have hn := K.2.1
  intro d
  induction d with
  | zero =>
    intro k hk
    have e : k = n := by omega
    subst e
    exact br_t (Int32.le_refl _) hp
  | succ d ih =>
    intro k hk
    refine br_f (nI_ge (by omega) (by omega)) ⟨h + 1, ?_⟩
    exact fx_pf15 K (dn := fz_pp S h st k) (ih (k + 1) (by omega)) h 0 (by omega)
theorem fx_peelFrom {post : Int32 → Prop} {n h : Nat} {S V : Nat → Nat} (K : fx_Ok n h S V) {st al z ct : Int32} {ab : Nat → Int32} (hp : post (fz_pp S h st n)) : wpX_peelFrom post (nI n, al, nI h, z, ct, fx_rw S V, ab) st :=
  ⟨n + 1, fx_pf4 K hp n 0 (by omega)⟩
theorem fx_ls12 {post : Int32 → Prop} {n h : Nat} {S V : Nat → Nat} (K : fx_Ok n h S V) {z ct : Int32} {ab : Nat → Int32} (hp : post (fz_sd S h n (2 ^ n)).1) :
    ∀ d k, k + d = 2 ^ n → wX_leastSeed_12 post (nI n) (nI (2 ^ n - 1)) (nI h) z ct (fx_rw S V) ab (d + 1) (fz_sd S h n k).1 (fz_sd S h n k).2 (nI k) := by
  have p8 := gf_p8 K.2.1
  have pp := Nat.two_pow_pos n
  intro d
  induction d with
  | zero =>
    intro k hk
    have e : k = 2 ^ n := by omega
    subst e
    exact br_t (nI_lt (by omega) (by omega)) hp
  | succ d ih =>
    intro k hk
    have ih2 := ih (k + 1) (by omega)
    rw [fz_sd_s] at ih2
    refine br_f (nI_nlt (by omega) (by omega)) (fx_memberCount (br_c (fun e => ?_) (fun e => fx_peelFrom K (br_c (fun e2 => ?_) (fun e2 => ?_)))))
    · rw [if_neg (fun q => Int32.not_lt.mpr e q.1)] at ih2
      exact nm_r (nI_1 k) ih2
    · rw [if_pos ⟨Int32.not_le.mp e, e2⟩] at ih2
      exact nm_r (nI_1 k) ih2
    · rw [if_neg (fun q => e2 q.2)] at ih2
      exact nm_r (nI_1 k) ih2
theorem fx_leastSeed {post : Int32 → Prop} {n h : Nat} {S V : Nat → Nat} (K : fx_Ok n h S V) {z ct : Int32} {ab : Nat → Int32} (hp : post (fz_sd S h n (2 ^ n)).1) : wpX_leastSeed post (nI n, nI (2 ^ n - 1), nI h, z, ct, fx_rw S V, ab) :=
  ⟨2 ^ n + 1, fx_ls12 K hp (2 ^ n) 0 (by omega)⟩
theorem fx_isGoodSet {post : Int32 → Prop} {n : Nat} (hn : n ≤ 8) {c sc z ct : Int32} {ar ab : Nat → Int32} (x : Int32) (h1 : ∀ s, s < 2 ^ n → x = nI s → post 1) (h0 : (x < 0 ∨ nI (2 ^ n) ≤ x) → post 0) : wpX_isGoodSet post (c, nI (2 ^ n - 1), sc, z, ct, ar, ab) x := by
  have p8 := gf_p8 hn
  have pp := Nat.two_pow_pos n
  refine br_c (fun h => h0 (Or.inl h)) (fun h => ?_)
  obtain ⟨s, hs, rfl⟩ := nI_of h
  exact pk_lt (2 ^ n - 1) s (fun q => h0 (Or.inr (nI_le (by omega) hs))) (fun q => h1 s (by omega) rfl)
theorem fx_isGoodValue {post : Int32 → Prop} (x : Int32) (h1 : ∀ s, s < 256 → x = nI s → post 1) (h0 : (x < 0 ∨ nI 256 ≤ x) → post 0) : wpX_isGoodValue post x := by
  refine br_c (fun h => h0 (Or.inl h)) (fun h => ?_)
  obtain ⟨s, hs, rfl⟩ := nI_of h
  exact pk_lt 255 s (fun q => h0 (Or.inr (nI_le (by omega) hs))) (fun q => h1 s (by omega) rfl)
theorem fx_isGoodNumber {post : Int32 → Prop} (x : Int32) (h1 : ∀ s, s < 10000 → x = nI s → post 1) (h0 : (x < 0 ∨ nI 10000 ≤ x) → post 0) : wpX_isGoodNumber post x := by
  refine br_c (fun h => h0 (Or.inl h)) (fun h => ?_)
  obtain ⟨s, hs, rfl⟩ := nI_of h
  exact pk_lt 9999 s (fun q => h0 (Or.inr (nI_le (by omega) hs))) (fun q => h1 s (by omega) rfl)
/-! a new symbol, a lost symbol: the two lists change alike -/
def fx_put (S : Nat → Nat) (k x : Nat) : Nat → Nat := fun i => if i = k then x else S i
theorem fx_put_s (S : Nat → Nat) (k x : Nat) : fx_put S k x k = x := if_pos rfl
theorem fx_put_n (S : Nat → Nat) {k i : Nat} (x : Nat) (h : i ≠ k) : fx_put S k x i = S i := if_neg h
theorem fx_put_lt {S : Nat → Nat} {k x m : Nat} (h : ∀ i, S i < m) (hx : x < m) : ∀ i, fx_put S k x i < m := by
  intro i
  by_cases e : i = k
  · rw [e, fx_put_s]; exact hx
  · rw [fx_put_n S x e]; exact h i
theorem fx_put_rw {S V : Nat → Nat} {k s v : Nat} : upd (fx_rw S V) k (nI (s * 256 + v)) = fx_rw (fx_put S k s) (fx_put V k v) := by
  funext i
  by_cases e : i = k
  · rw [e, pk_us]
    show nI (s * 256 + v) = nI (fx_put S k s k * 256 + fx_put V k v k)
    rw [fx_put_s, fx_put_s]
  · rw [pk_un e]
    show nI (S i * 256 + V i) = nI (fx_put S k s i * 256 + fx_put V k v i)
    rw [fx_put_n S s e, fx_put_n V v e]
def fx_ni (S : Nat → Nat) : Nat → Int32 := fun i => nI (S i)
theorem fx_put_ni {S : Nat → Nat} {k s : Nat} : upd (fx_ni S) k (nI s) = fx_ni (fx_put S k s) := by
  funext i
  by_cases e : i = k
  · rw [e, pk_us]
    show nI s = nI (fx_put S k s k)
    rw [fx_put_s]
  · rw [pk_un e]
    show nI (S i) = nI (fx_put S k s i)
    rw [fx_put_n S s e]
theorem fx_pack {s v : Nat} (hs : s < 65536) (hv : v < 256) : (nI s <<< ((8 : Int32) &&& 31)) ||| nI v = nI (s * 256 + v) := by
  rw [fz_shl8 hs, fz_or]
  have h := Nat.two_pow_add_eq_or_of_lt (i := 8) (b := v) hv s
  have h2 : 2 ^ 8 * s = s * 256 := Nat.mul_comm _ _
  rw [h2] at h
  rw [h]
theorem fx_append {post : SX → Prop} {c al z ct : Int32} {h : Nat} {S V : Nat → Nat} {ab : Nat → Int32} (hh : h < 16) {s v : Nat} (hs : s < 65536) (hv : v < 256) (hp : post (c, al, nI (h + 1), z, ct, fx_rw (fx_put S h s) (fx_put V h v), ab)) : wpX_append post (c, al, nI h, z, ct, fx_rw S V, ab) (nI s) (nI v) := by
  refine ⟨vp_in_nI hh (by omega), nm_r (e' := fx_rw (fx_put S h s) (fx_put V h v)) ?_ (nm_r (nI_1 h) hp)⟩
  rw [nI_clamp (by omega), fx_pack hs hv, fx_put_rw]
/-- the list with the cells from j to i taken from the right -/
def fx_ls (S : Nat → Nat) (j : Nat) : Nat → (Nat → Nat)
  | 0 => S
  | d + 1 => fx_put (fx_ls S j d) (j + d) (fx_ls S j d (j + d + 1))
theorem fx_ls_lt {S : Nat → Nat} {m : Nat} (h : ∀ i, S i < m) (j : Nat) : ∀ d i, fx_ls S j d i < m := by
  intro d
  induction d with
  | zero => exact h
  | succ d ih => exact fx_put_lt ih (ih _)
theorem fx_lo18 {post : Int32 → SX → Prop} {c al z ct : Int32} {h j : Nat} {S V : Nat → Nat} {ab : Nat → Int32} (hh : h ≤ 16) (hj : j < h) (hp : post (nI (h - 1)) (c, al, nI (h - 1), z, ct, fx_rw (fx_ls S j (h - 1 - j)) (fx_ls V j (h - 1 - j)), ab)) :
    ∀ d i, j + 1 + i + d = h → wX_lose_18 post c al (nI h) z ct (d + 1) (nI (j + 1 + i)) (fx_rw (fx_ls S j i) (fx_ls V j i)) ab := by
  intro d
  induction d with
  | zero =>
    intro i hi
    have e : i = h - 1 - j := by omega
    subst e
    refine br_t (nI_le (by omega) (by omega)) ?_
    exact nm_r (pk_sub (a := h) (b := 1) (by omega)) hp
  | succ d ih =>
    intro i hi
    have e1 : nI (j + 1 + i) - 1 = nI (j + i) := by
      have w := nI_pred (j + i)
      rw [show j + i + 1 = j + 1 + i by omega] at w
      exact w
    refine br_f (nI_ge (by omega) (by omega)) ⟨vp_in_nI (by omega) (by omega), ?_⟩
    rw [e1]
    refine ⟨vp_in_nI (by omega) (by omega), nm_r (e' := fx_rw (fx_ls S j (i + 1)) (fx_ls V j (i + 1))) ?_ (nm_r (nI_1 _) (ih (i + 1) (by omega)))⟩
    rw [nI_clamp (by omega), fx_rw_i (n := 0) (h := 0) (by omega)]
    show upd (fx_rw (fx_ls S j i) (fx_ls V j i)) (j + i) (nI (fx_ls S j i (j + 1 + i) * 256 + fx_ls V j i (j + 1 + i))) = _
    rw [fx_put_rw, show j + 1 + i = j + i + 1 by omega]
    rfl
end
section
/-! Y: members, construction, drawn sets, solves -/
theorem fy_n1 : vp_nar .boolean 1 = 1 := rfl
theorem fy_n0 : vp_nar .boolean 0 = 0 := rfl
theorem fy_nb (b : Bool) : narrow .boolean (.int (fx_cb b)) = .int (fx_cb b) := by
  cases b <;> rfl
theorem fy_sh {n : Nat} (hn : n ≤ 8) : (1 : Int32) <<< (nI n &&& 31) = nI (2 ^ n) := fz_shl1 n (by omega)
theorem fy_sh1 {n : Nat} (hn : n ≤ 8) : ((1 : Int32) <<< (nI n &&& 31)) - 1 = nI (2 ^ n - 1) := by
  rw [fy_sh hn]
  exact pk_sub (b := 1) (Nat.two_pow_pos n)
theorem fy_mc4 {post : Int32 → Prop} {x n h so al : Int32} {a1 a2 od tr : Nat → Int32} (hp : post (fz_mc x 8)) : ∀ d b, b + d = 8 → wY_members_4 post x n h so al a1 a2 od tr (d + 1) (fz_mc x b) (nI b) := by
  intro d
  induction d with
  | zero =>
    intro b hb
    have e : b = 8 := by omega
    subst e
    exact br_t (by decide) hp
  | succ d ih =>
    intro b hb
    exact br_f (nI_ge (b := 8) (by omega) (by decide)) (nm_e (nm_r (nI_1 b) (ih (b + 1) (by omega))))
theorem fy_members {post : Int32 → Prop} {x n h so al : Int32} {a1 a2 od tr : Nat → Int32} (hp : post (fz_mc x 8)) : wpY_members post (n, h, so, al, a1, a2, od, tr) x := ⟨9, fy_mc4 hp 8 0 (by omega)⟩
def fy_Od (od : Nat → Int32) : Prop := ∀ s, s < 256 → od s = fx_cb (gf_par s)
theorem fy_i65 {post : SY → Prop} {n h so al : Int32} {a1 a2 tr : Nat → Int32} (H : ∀ od, fy_Od od → post (n, h, so, al, a1, a2, od, tr)) : ∀ d s, s + d = 256 → ∀ od : Nat → Int32, (∀ t, t < s → od t = fx_cb (gf_par t)) → wY_init_65 post n h so al (d + 1) (nI s) a1 a2 od tr := by
  intro d
  induction d with
  | zero =>
    intro s hs od ho
    have e : s = 256 := by omega
    subst e
    exact br_t (by decide) (H od ho)
  | succ d ih =>
    intro s hs od ho
    have key : ∀ v : Int32, v = fx_cb (gf_par s) → wY_init_65 post n h so al (d + 1) (nI (s + 1)) a1 a2 (upd od (nI s).toNatClampNeg v) tr := by
      intro v hv
      refine ih (s + 1) (by omega) _ (fun t ht => ?_)
      rw [nI_clamp (by omega)]
      by_cases e : t = s
      · rw [e, pk_us, hv]
      · rw [pk_un e]
        exact ho t (by omega)
    refine br_f (nI_ge (b := 256) (by omega) (by decide)) (fy_members ⟨by decide, ek_if (fz_odd s (by omega)) (fun e => ?_) (fun e => ?_)⟩)
    · exact ⟨vp_in_nI (by omega) (by omega), nm_e (nm_r (nI_1 s) (key _ (by rw [e]; rfl)))⟩
    · exact ⟨vp_in_nI (by omega) (by omega), nm_e (nm_r (nI_1 s) (key _ (by rw [Bool.eq_false_iff.mpr e]; rfl)))⟩
theorem fy_badSet {post : Int32 → Prop} {n : Nat} (hn : n ≤ 8) {h so al : Int32} {a1 a2 od tr : Nat → Int32} (x : Int32) (h0 : ∀ s, s < 2 ^ n → x = nI s → post 0) (h1 : (x < 0 ∨ nI (2 ^ n) ≤ x) → post 1) : wpY_badSet post (nI n, h, so, al, a1, a2, od, tr) x := by
  have p8 := gf_p8 hn
  unfold wpY_badSet
  refine br_c (fun h => h1 (Or.inl h)) (fun h => ?_)
  obtain ⟨s, hs, rfl⟩ := nI_of h
  rw [fy_sh hn]
  exact pk_lt s (2 ^ n) (fun q => h0 s q rfl) (fun q => h1 (Or.inr (nI_le q hs)))
theorem fy_place {post : Int32 → SY → Prop} {n so al : Int32} {h : Nat} {S V : Nat → Nat} {od tr : Nat → Int32} (hh : h < 16) {s v : Nat} (hp : post (nI h) (n, nI (h + 1), so, al, fx_ni (fx_put S h s), fx_ni (fx_put V h v), od, tr)) : wpY_place post (n, nI h, so, al, fx_ni S, fx_ni V, od, tr) (nI s) (nI v) := by
  refine ⟨vp_in_nI hh (by omega), nm_r (e' := fx_ni (fx_put S h s)) ?_ ⟨vp_in_nI hh (by omega), nm_r (e' := fx_ni (fx_put V h v)) ?_ (nm_r (nI_1 h) ?_)⟩⟩
  · rw [nI_clamp (by omega), fx_put_ni]
  · rw [nI_clamp (by omega), fx_put_ni]
  · rw [nI_pred]
    exact hp
theorem fy_setOf {post : Int32 → Prop} {n : Nat} {h so al : Int32} {a1 a2 od tr : Nat → Int32} (h1 : 1 ≤ n) (h8 : n ≤ 8) {r : Nat} (hr : r < 10000) (hp : post (nI (fz_so n r))) : wpY_setOf post (nI n, h, so, al, a1, a2, od, tr) (nI r) := by
  have hx := fz_x_lt hr
  have p8 := gf_p8 h8
  have d1 : fz_x r / n ≤ fz_x r := Nat.div_le_self _ _
  have d2 : fz_x r / (n * n) ≤ fz_x r := Nat.div_le_self _ _
  have hm : fz_x r / 7 % 3 < 3 := Nat.mod_lt _ (by decide)
  have b1 := fz_s1_lt h1 r
  have b2 := fz_s2_lt h1 r
  have b3 := fz_s3_lt h1 r
  have z0 : ¬ nI n = 0 := fx_0 h1 h8
  have nn1 : 0 < n * n := Nat.mul_pos h1 h1
  have nn2 : n * n ≤ 8 * 8 := Nat.mul_le_mul h8 h8
  have z2 : ¬ nI n * nI n = 0 := by
    rw [pk_mul]
    exact nI_ne0 nn1 (by omega)
  unfold fz_so fz_sx at hp
  have step2 : nI (fz_s1 n r) ^^^ ((1 : Int32) <<< (((nI (fz_x r) / nI n) - (nI (fz_x r) / nI n) / nI n * nI n) &&& 31)) = nI (fz_s2 n r) := by
    rw [pk_div hx h1 (by omega), fx_rot h1 h8 (by omega), nx_xor]
    rfl
  have step3 : nI (fz_s2 n r) ^^^ ((1 : Int32) <<< (((nI (fz_x r) / (nI n * nI n)) - (nI (fz_x r) / (nI n * nI n)) / nI n * nI n) &&& 31)) = nI (fz_s3 n r) := by
    rw [pk_mul, pk_div hx nn1 (by omega), fx_rot h1 h8 (by omega), nx_xor]
    rfl
  unfold wpY_setOf
  refine br_f (nI_pos (by omega)) (br_t (nI_le (b := 9999) (by omega) (by decide)) (nm_r fx_x ⟨by decide, by decide, nm_r (fx_size hr) ⟨z0, nm_r (fx_rot h1 h8 hx) ?_⟩⟩))
  refine pk_lt (1 + fz_x r / 7 % 3) 2 (fun e => ?_) (fun e => ⟨z0, z0, nm_r step2 ?_⟩)
  · refine pk_lt (1 + fz_x r / 7 % 3) 3 (fun e2 => fx_so_end (s := fz_s1 n r) (by omega) ?_) (fun e2 => absurd e2 (by omega))
    rw [if_pos (show fz_x r / 7 % 3 = 0 by omega)] at hp
    exact hp
  · refine pk_lt (1 + fz_x r / 7 % 3) 3 (fun e2 => fx_so_end (s := fz_s2 n r) (by omega) ?_) (fun e2 => ⟨z2, z0, nm_r step3 (fx_so_end (s := fz_s3 n r) (by omega) ?_)⟩)
    · rw [if_neg (show ¬ fz_x r / 7 % 3 = 0 by omega), if_pos (show fz_x r / 7 % 3 = 1 by omega)] at hp
      exact hp
    · rw [if_neg (show ¬ fz_x r / 7 % 3 = 0 by omega), if_neg (show ¬ fz_x r / 7 % 3 = 1 by omega)] at hp
      exact hp
theorem fy_setOf_bad {post : Int32 → Prop} {n h so al : Int32} {a1 a2 od tr : Nat → Int32} {x : Int32} (hx : x < 0 ∨ nI 10000 ≤ x) (hp : post (-1)) : wpY_setOf post (n, h, so, al, a1, a2, od, tr) x := by
  unfold wpY_setOf
  refine br_c (fun _ => hp) (fun h0 => ?_)
  obtain ⟨r, hr, rfl⟩ := nI_of h0
  refine pk_le r 9999 (fun e => ?_) (fun _ => hp)
  rcases hx with q | q
  · exact absurd q h0
  · rw [nI_leI (by omega) hr] at q
    exact absurd q (by omega)
theorem fy_and_i {a s m : Nat} (hs : s < m) (hm : m ≤ 256) : a &&& s < 256 := Nat.lt_of_le_of_lt Nat.and_le_right (by omega)
theorem fy_ok {S V : Nat → Nat} {om : Int32} {j a i : Nat} (hV : V i < 256) (hj : j < 8) : gf_ok (fx_R S V) (fx_in om) j a i = (decide (nI i = om) || (gf_par (a &&& S i) == (V i).testBit j)) := by
  unfold gf_ok fx_in fx_R
  rw [gf_ph_row hV hj]
  cases decide (nI i = om) <;> cases gf_par (a &&& S i) <;> cases (V i).testBit j <;> rfl
theorem fy_s32 {post : Int32 → Prop} {J : Int32 → Prop} {n h : Nat} {S V : Nat → Nat} (K : fx_Ok n h S V) {so al om x2 nn hh : Int32} {a2 od tr : Nat → Int32} (hod : fy_Od od) {a j i : Nat} (hj : j < 8) (hi : i < 16)
    (H1 : gf_ok (fx_R S V) (fx_in om) j a i = true → J (nI (i + 1))) (H0 : gf_ok (fx_R S V) (fx_in om) j a i = false → post 0) : wY_solves_32 post J (nI a) x2 om (nI i) (fx_cb ((V i).testBit j)) nn hh so al (fx_ni S) a2 od tr := by
  have p8 := gf_p8 K.2.1
  have ha := fy_and_i (a := a) (K.2.2.2.1 i) p8
  have e1 : nI a &&& fx_ni S (nI i).toNatClampNeg = nI (a &&& S i) := by
    rw [nI_clamp (by omega)]
    exact nx_and a (S i)
  rw [fy_ok (K.2.2.2.2 i) hj] at H1 H0
  unfold wY_solves_32
  refine br_c (fun e => nm_r (nI_1 i) (H1 (by rw [decide_eq_true e]; rfl))) (fun e => ⟨vp_in_nI hi (by omega), ?_⟩)
  rw [decide_eq_false e, Bool.false_or] at H1 H0
  rw [e1, nI_clamp (by omega), hod _ ha]
  refine ⟨vp_in_nI ha (by omega), ?_⟩
  revert H1 H0
  cases gf_par (a &&& S i) <;> cases (V i).testBit j <;> intro H1 H0
  · exact br_t rfl (nm_r (nI_1 i) (H1 rfl))
  · exact br_f (by decide) (H0 rfl)
  · exact br_f (by decide) (H0 rfl)
  · exact br_t rfl (nm_r (nI_1 i) (H1 rfl))
theorem fy_s3 {post : Int32 → Prop} {n h : Nat} {S V : Nat → Nat} (K : fx_Ok n h S V) {so al om nn : Int32} {od tr : Nat → Int32} (hod : fy_Od od) {a j : Nat} (hj : j < 8) (hp : post (fx_cb (gf_sv (fx_R S V) (fx_in om) h j a))) :
    ∀ d i, i + d = h → (∀ c, c < i → gf_ok (fx_R S V) (fx_in om) j a c = true) → wY_solves_3 post (nI a) (nI j) om nn (nI h) so al (fx_ni S) (fx_ni V) od tr (d + 1) (nI i) := by
  have hh := K.2.2.1
  intro d
  induction d with
  | zero =>
    intro i hi hc
    have e : i = h := by omega
    subst e
    have w : gf_sv (fx_R S V) (fx_in om) i j a = true := gf_al_iff.mpr hc
    rw [w] at hp
    exact br_t (Int32.le_refl _) hp
  | succ d ih =>
    intro i hi hc
    refine br_f (nI_ge (by omega) (by omega)) ⟨vp_in_nI (by omega) (by omega), ?_⟩
    have e1 : (fx_ni V (nI i).toNatClampNeg >>> (nI j &&& 31)) &&& 1 = fx_cb ((V i).testBit j) := by
      rw [nI_clamp (by omega)]
      have hv := K.2.2.2.2 i
      exact fz_vb (v := V i) (b := j) (by omega) (by omega)
    rw [e1]
    have H1 : gf_ok (fx_R S V) (fx_in om) j a i = true → wY_solves_3 post (nI a) (nI j) om nn (nI h) so al (fx_ni S) (fx_ni V) od tr (d + 1) (nI (i + 1)) := by
      intro e
      refine ih (i + 1) (by omega) (fun c hc2 => ?_)
      by_cases q : c = i
      · rw [q]; exact e
      · exact hc c (by omega)
    have H0 : gf_ok (fx_R S V) (fx_in om) j a i = false → post 0 := by
      intro e
      have w : gf_sv (fx_R S V) (fx_in om) h j a = false := gf_al_no (by omega) e
      rw [w] at hp
      exact hp
    have G := fy_s32 (post := post) (x2 := nI j) (nn := nn) (hh := nI h) (so := so) (al := al) (a2 := fx_ni V) (tr := tr) K hod hj (show i < 16 by omega) H1 H0
    revert G
    cases (V i).testBit j <;> intro G
    · exact br_f (by decide) G
    · exact br_t (by decide) G
theorem fy_solves {post : Int32 → Prop} {n h : Nat} {S V : Nat → Nat} (K : fx_Ok n h S V) {so al om nn : Int32} {od tr : Nat → Int32} (hod : fy_Od od) {a j : Nat} (hj : j < 8) (hp : post (fx_cb (gf_sv (fx_R S V) (fx_in om) h j a))) : wpY_solves post (nn, nI h, so, al, fx_ni S, fx_ni V, od, tr) (nI a) (nI j) om :=
  ⟨h + 1, fy_s3 K hod hj hp h 0 (by omega) (fun c hc => absurd hc (Nat.not_lt_zero c))⟩
end
section
/-! Y: solve, consistent, known, spare, sumOf -/
theorem fy_v22 {post : Int32 → SY → Prop} {n h : Nat} {S V : Nat → Nat} (K : fx_Ok n h S V) {om : Int32} {od tr : Nat → Int32} (hod : fy_Od od) {j : Nat} (hj : j < 8)
    (hp : post (fx_cb (gf_ex (gf_sv (fx_R S V) (fx_in om) h j) (2 ^ n))) (nI n, nI h, nI (gf_or (gf_sv (fx_R S V) (fx_in om) h j) (2 ^ n)), nI (gf_an (gf_sv (fx_R S V) (fx_in om) h j) (2 ^ n - 1) (2 ^ n)), fx_ni S, fx_ni V, od, tr)) :
    ∀ d a, a + d = 2 ^ n → wY_solve_22 post (nI j) om (nI n) (nI h) (fx_ni S) (fx_ni V) od tr (d + 1) (fx_cb (gf_ex (gf_sv (fx_R S V) (fx_in om) h j) a)) (nI a) (nI (gf_or (gf_sv (fx_R S V) (fx_in om) h j) a)) (nI (gf_an (gf_sv (fx_R S V) (fx_in om) h j) (2 ^ n - 1) a)) := by
  have p8 := gf_p8 K.2.1
  have hs := fy_sh K.2.1
  intro d
  induction d with
  | zero =>
    intro a ha
    have e : a = 2 ^ n := by omega
    subst e
    exact br_t (by rw [hs]; exact Int32.le_refl _) ⟨fy_nb _, hp⟩
  | succ d ih =>
    intro a ha
    have ih2 := ih (a + 1) (by omega)
    have w1 : gf_ex (gf_sv (fx_R S V) (fx_in om) h j) (a + 1) = (gf_ex (gf_sv (fx_R S V) (fx_in om) h j) a || gf_sv (fx_R S V) (fx_in om) h j a) := rfl
    rw [gf_or_s, gf_an_s, w1] at ih2
    refine br_f (by rw [hs]; exact nI_ge (by omega) (by omega)) (fy_solves K hod hj (fx_cb1 (fun e => ?_) (fun e => ?_)))
    · rw [if_pos e, if_pos e, e, Bool.or_true] at ih2
      exact nm_r (fz_or _ _) (nm_r (nx_and _ _) (nm_r (nI_1 a) ih2))
    · rw [if_neg (by rw [e]; decide), if_neg (by rw [e]; decide), e, Bool.or_false] at ih2
      exact nm_r (nI_1 a) ih2
theorem fy_solve {post : Int32 → SY → Prop} {n h : Nat} {S V : Nat → Nat} (K : fx_Ok n h S V) {so al om : Int32} {od tr : Nat → Int32} (hod : fy_Od od) {j : Nat} (hj : j < 8)
    (hp : post (fx_cb (gf_ex (gf_sv (fx_R S V) (fx_in om) h j) (2 ^ n))) (nI n, nI h, nI (gf_or (gf_sv (fx_R S V) (fx_in om) h j) (2 ^ n)), nI (gf_an (gf_sv (fx_R S V) (fx_in om) h j) (2 ^ n - 1) (2 ^ n)), fx_ni S, fx_ni V, od, tr)) :
    wpY_solve post (nI n, nI h, so, al, fx_ni S, fx_ni V, od, tr) (nI j) om := by
  unfold wpY_solve
  exact nm_r (fy_sh1 K.2.1) ⟨2 ^ n + 1, fy_v22 K hod hj hp (2 ^ n) 0 (by omega)⟩
theorem fy_c2 {post : Int32 → SY → Prop} {n h : Nat} {S V : Nat → Nat} (K : fx_Ok n h S V) {od tr : Nat → Int32} (hod : fy_Od od)
    (H : ∀ so al : Int32, post (fx_cb (gf_cs (fx_R S V) (fx_in (-1)) h n)) (nI n, nI h, so, al, fx_ni S, fx_ni V, od, tr)) :
    ∀ d j, j + d = 8 → (∀ i, i < j → gf_ex (gf_sv (fx_R S V) (fx_in (-1)) h i) (2 ^ n) = true) → ∀ so al : Int32, wY_consistent_2 post (d + 1) (nI j) (nI n) (nI h) so al (fx_ni S) (fx_ni V) od tr := by
  intro d
  induction d with
  | zero =>
    intro j hj hz so al
    have e : j = 8 := by omega
    subst e
    have w : gf_cs (fx_R S V) (fx_in (-1)) h n = true := gf_al_iff.mpr hz
    have hp := H so al
    rw [w] at hp
    exact br_t (by decide) hp
  | succ d ih =>
    intro j hj hz so al
    refine br_f (nI_ge (b := 8) (by omega) (by decide)) (fy_solve K hod (by omega) (fx_cb1 (fun e => ?_) (fun e => ?_)))
    · refine nm_r (nI_1 j) (ih (j + 1) (by omega) (fun i hi => ?_) _ _)
      by_cases q : i = j
      · rw [q]; exact e
      · exact hz i (by omega)
    · have w : gf_cs (fx_R S V) (fx_in (-1)) h n = false := gf_al_no (Q := fun j => gf_ex (gf_sv (fx_R S V) (fx_in (-1)) h j) (2 ^ n)) (show j < 8 by omega) e
      have hp := H (nI (gf_or (gf_sv (fx_R S V) (fx_in (-1)) h j) (2 ^ n))) (nI (gf_an (gf_sv (fx_R S V) (fx_in (-1)) h j) (2 ^ n - 1) (2 ^ n)))
      rw [w] at hp
      exact hp
theorem fy_consistent {post : Int32 → SY → Prop} {n h : Nat} {S V : Nat → Nat} (K : fx_Ok n h S V) {so al : Int32} {od tr : Nat → Int32} (hod : fy_Od od)
    (H : ∀ so al : Int32, post (fx_cb (gf_cs (fx_R S V) (fx_in (-1)) h n)) (nI n, nI h, so, al, fx_ni S, fx_ni V, od, tr)) : wpY_consistent post (nI n, nI h, so, al, fx_ni S, fx_ni V, od, tr) :=
  ⟨9, fy_c2 K hod H 8 0 (by omega) (fun i hi => absurd hi (Nat.not_lt_zero i)) so al⟩
theorem fy_k4 {post : Int32 → SY → Prop} {n h : Nat} {S V : Nat → Nat} (K : fx_Ok n h S V) (om : Int32) {od tr : Nat → Int32} (hod : fy_Od od)
    (H : ∀ so al : Int32, post (nI (gf_yk (fx_R S V) (fx_in om) h n)) (nI n, nI h, so, al, fx_ni S, fx_ni V, od, tr)) :
    ∀ d j, j + d = 8 → (∀ i, i < j → gf_ex (gf_sv (fx_R S V) (fx_in om) h i) (2 ^ n) = true) → ∀ so al : Int32, wY_knownWithout_4 post om (d + 1) (nI (gf_op (fx_R S V) (fx_in om) h n j)) (nI j) (nI n) (nI h) so al (fx_ni S) (fx_ni V) od tr := by
  intro d
  induction d with
  | zero =>
    intro j hj hz so al
    have e : j = 8 := by omega
    subst e
    have w : gf_cs (fx_R S V) (fx_in om) h n = true := gf_al_iff.mpr hz
    have hp := H so al
    unfold gf_yk at hp
    rw [if_pos w] at hp
    have hl := gf_op_lt (fx_R S V) (fx_in om) h n 8
    have e2 : ((1 : Int32) <<< (nI n &&& 31)) - 1 - nI (gf_op (fx_R S V) (fx_in om) h n 8) = nI (2 ^ n - 1 - gf_op (fx_R S V) (fx_in om) h n 8) := by
      rw [fy_sh1 K.2.1]
      exact pk_sub (by omega)
    refine br_t (by decide) ?_
    rw [e2]
    exact hp
  | succ d ih =>
    intro j hj hz so al
    refine br_f (nI_ge (b := 8) (by omega) (by decide)) (fy_solve K hod (by omega) (fx_cb1 (fun e => ?_) (fun e => ?_)))
    · refine nm_r (e' := nI (gf_op (fx_R S V) (fx_in om) h n (j + 1))) ?_ (nm_r (nI_1 j) (ih (j + 1) (by omega) (fun i hi => ?_) _ _))
      · rw [nx_xor, fz_or]
        rfl
      · by_cases q : i = j
        · rw [q]; exact e
        · exact hz i (by omega)
    · have w : gf_cs (fx_R S V) (fx_in om) h n = false := gf_al_no (Q := fun j => gf_ex (gf_sv (fx_R S V) (fx_in om) h j) (2 ^ n)) (show j < 8 by omega) e
      have hp := H (nI (gf_or (gf_sv (fx_R S V) (fx_in om) h j) (2 ^ n))) (nI (gf_an (gf_sv (fx_R S V) (fx_in om) h j) (2 ^ n - 1) (2 ^ n)))
      unfold gf_yk at hp
      rw [if_neg (by rw [w]; decide)] at hp
      exact hp
theorem fy_knownWithout {post : Int32 → SY → Prop} {n h : Nat} {S V : Nat → Nat} (K : fx_Ok n h S V) (om : Int32) {so al : Int32} {od tr : Nat → Int32} (hod : fy_Od od)
    (H : ∀ so al : Int32, post (nI (gf_yk (fx_R S V) (fx_in om) h n)) (nI n, nI h, so, al, fx_ni S, fx_ni V, od, tr)) : wpY_knownWithout post (nI n, nI h, so, al, fx_ni S, fx_ni V, od, tr) om :=
  ⟨9, fy_k4 K om hod H 8 0 (by omega) (fun i hi => absurd hi (Nat.not_lt_zero i)) so al⟩
theorem fy_known {post : Int32 → SY → Prop} {n h : Nat} {S V : Nat → Nat} (K : fx_Ok n h S V) {so al : Int32} {od tr : Nat → Int32} (hod : fy_Od od)
    (H : ∀ so al : Int32, post (nI (gf_yk (fx_R S V) (fx_in (-1)) h n)) (nI n, nI h, so, al, fx_ni S, fx_ni V, od, tr)) : wpY_known post (nI n, nI h, so, al, fx_ni S, fx_ni V, od, tr) := by
  unfold wpY_known
  exact fy_knownWithout K (-1) hod H
theorem fy_sp9 {post : Int32 → SY → Prop} {n h : Nat} {S V : Nat → Nat} (K : fx_Ok n h S V) {od tr : Nat → Int32} (hod : fy_Od od)
    (H : ∀ so al : Int32, post (nI (fx_sc S V h n h)) (nI n, nI h, so, al, fx_ni S, fx_ni V, od, tr)) :
    ∀ d i, i + d = h → ∀ so al : Int32, wY_spare_9 post (nI (gf_yk (fx_R S V) (fx_in (-1)) h n)) (d + 1) (nI (fx_sc S V h n i)) (nI i) (nI n) (nI h) so al (fx_ni S) (fx_ni V) od tr := by
  have hh := K.2.2.1
  intro d
  induction d with
  | zero =>
    intro i hi so al
    have e : i = h := by omega
    subst e
    exact br_t (Int32.le_refl _) (H so al)
  | succ d ih =>
    intro i hi so al
    refine br_f (nI_ge (by omega) (by omega)) (fy_knownWithout K (nI i) hod (fun so al => br_c (fun e => ?_) (fun e => ?_)))
    · have ih2 := ih (i + 1) (by omega) so al
      rw [fx_sc_s, if_pos e] at ih2
      exact nm_r (nI_1 _) (nm_r (nI_1 i) ih2)
    · have ih2 := ih (i + 1) (by omega) so al
      rw [fx_sc_s, if_neg e] at ih2
      exact nm_r (nI_1 i) ih2
theorem fy_spare {post : Int32 → SY → Prop} {n h : Nat} {S V : Nat → Nat} (K : fx_Ok n h S V) {so al : Int32} {od tr : Nat → Int32} (hod : fy_Od od)
    (H : ∀ so al : Int32, post (nI (fx_sc S V h n h)) (nI n, nI h, so, al, fx_ni S, fx_ni V, od, tr)) : wpY_spare post (nI n, nI h, so, al, fx_ni S, fx_ni V, od, tr) := by
  unfold wpY_spare
  exact fy_known K hod (fun so al => ⟨h + 1, fy_sp9 K hod H h 0 (by omega) so al⟩)
/-! sumOf -/
theorem fy_od {od : Nat → Int32} (hod : fy_Od od) {a s n : Nat} (hs : s < 2 ^ n) (hn : n ≤ 8) {A C : Prop} (h1 : gf_par (a &&& s) = true → C) (h0 : gf_par (a &&& s) = false → A) : vp_in (nI a &&& nI s) 256 ∧ ((od (nI a &&& nI s).toNatClampNeg = 0 → A) ∧ (¬ od (nI a &&& nI s).toNatClampNeg = 0 → C)) := by
  have ha := fy_and_i (a := a) hs (gf_p8 hn)
  rw [nx_and, nI_clamp (by omega), hod _ ha]
  exact ⟨vp_in_nI ha (by omega), fx_cb1 h1 h0⟩
theorem fy_m26 {post : Int32 → Prop} {J : Int32 → Int32 → Prop} {n h : Nat} {S V : Nat → Nat} (K : fx_Ok n h S V) {so al : Int32} {od tr : Nat → Int32} (hod : fy_Od od) {s j : Nat} (hs : s < 2 ^ n) (hj : j < 8) {x2 : Int32}
    (H0 : gf_kd (gf_sv (fx_R S V) (fx_in (-1)) h j) s (2 ^ n) = 0 → post (-2)) (H3 : gf_kd (gf_sv (fx_R S V) (fx_in (-1)) h j) s (2 ^ n) = 3 → post (-2))
    (H2 : gf_kd (gf_sv (fx_R S V) (fx_in (-1)) h j) s (2 ^ n) = 2 → J (x2 ||| nI (2 ^ j)) (nI (j + 1))) (H1 : gf_kd (gf_sv (fx_R S V) (fx_in (-1)) h j) s (2 ^ n) = 1 → J x2 (nI (j + 1))) :
    ∀ d a, a + d = 2 ^ n → wY_sumOf_26 post J (nI s) x2 (nI j) (nI n) (nI h) so al (fx_ni S) (fx_ni V) od tr (d + 1) (nI (gf_kd (gf_sv (fx_R S V) (fx_in (-1)) h j) s a)) (nI a) := by
  have p8 := gf_p8 K.2.1
  have hsh := fy_sh K.2.1
  intro d
  induction d with
  | zero =>
    intro a ha
    have e : a = 2 ^ n := by omega
    subst e
    have hk := gf_kd_le (gf_sv (fx_R S V) (fx_in (-1)) h j) s (2 ^ n)
    refine br_t (by rw [hsh]; exact Int32.le_refl _) ?_
    generalize gf_kd (gf_sv (fx_R S V) (fx_in (-1)) h j) s (2 ^ n) = kd at H0 H1 H2 H3 hk
    refine pk_eq kd 0 H0 (fun n0 => pk_eq kd 3 H3 (fun n3 => pk_eq kd 2 (fun e => nm_r (e' := x2 ||| nI (2 ^ j)) ?_ (nm_r (nI_1 j) (H2 e))) (fun n2 => nm_r (nI_1 j) (H1 (by omega)))))
    rw [fz_shl1 j (by omega)]
  | succ d ih =>
    intro a ha
    have ih2 := ih (a + 1) (by omega)
    rw [gf_kd_s] at ih2
    refine br_f (by rw [hsh]; exact nI_ge (by omega) (by omega)) (fy_solves K hod hj (fx_cb1 (fun e => fy_od hod hs K.2.1 (fun e2 => ?_) (fun e2 => ?_)) (fun e => ?_)))
    · rw [if_pos e, if_pos e2] at ih2
      exact nm_r (fz_or _ 2) (nm_r (nI_1 a) ih2)
    · rw [if_pos e, if_neg (by rw [e2]; decide)] at ih2
      exact nm_r (fz_or _ 1) (nm_r (nI_1 a) ih2)
    · rw [if_neg (by rw [e]; decide)] at ih2
      exact nm_r (nI_1 a) ih2
theorem fy_m14b {post : Int32 → Prop} {n h : Nat} {S V : Nat → Nat} (K : fx_Ok n h S V) {so al : Int32} {od tr : Nat → Int32} (hod : fy_Od od) {s : Nat} (hs : s < 2 ^ n) (hp : post (-2)) :
    ∀ d j, j + d = 8 → (∃ i, j ≤ i ∧ i < 8 ∧ (gf_kd (gf_sv (fx_R S V) (fx_in (-1)) h i) s (2 ^ n) = 0 ∨ gf_kd (gf_sv (fx_R S V) (fx_in (-1)) h i) s (2 ^ n) = 3)) → ∀ x2 : Int32, wY_sumOf_14 post (nI s) (nI n) (nI h) so al (fx_ni S) (fx_ni V) od tr (d + 1) x2 (nI j) := by
  intro d
  induction d with
  | zero =>
    intro j hj hx x2
    obtain ⟨i, h1, h2, _⟩ := hx
    omega
  | succ d ih =>
    intro j hj hx x2
    obtain ⟨i, h1, h2, h3⟩ := hx
    have nx : ∀ c, gf_kd (gf_sv (fx_R S V) (fx_in (-1)) h j) s (2 ^ n) = c → c ≠ 0 → c ≠ 3 → ∃ i, j + 1 ≤ i ∧ i < 8 ∧ (gf_kd (gf_sv (fx_R S V) (fx_in (-1)) h i) s (2 ^ n) = 0 ∨ gf_kd (gf_sv (fx_R S V) (fx_in (-1)) h i) s (2 ^ n) = 3) := by
      intro c hc c0 c3
      by_cases e : i = j
      · subst e
        rw [hc] at h3
        exact absurd h3 (fun q => q.elim c0 c3)
      · exact ⟨i, by omega, h2, h3⟩
    refine br_f (nI_ge (b := 8) (by omega) (by decide)) ⟨2 ^ n + 1, ?_⟩
    exact fy_m26 K hod hs (by omega) (fun _ => hp) (fun _ => hp) (fun e => ih (j + 1) (by omega) (nx 2 e (by decide) (by decide)) _) (fun e => ih (j + 1) (by omega) (nx 1 e (by decide) (by decide)) _) (2 ^ n) 0 (by omega)
theorem fy_m14g {post : Int32 → Prop} {n h : Nat} {S V : Nat → Nat} (K : fx_Ok n h S V) {so al : Int32} {od tr : Nat → Int32} (hod : fy_Od od) {s q : Nat} (hs : s < 2 ^ n) (hq : q < 256) (hk : ∀ j, j < 8 → gf_kd (gf_sv (fx_R S V) (fx_in (-1)) h j) s (2 ^ n) = if q.testBit j = true then 2 else 1) (hp : post (nI q)) :
    ∀ d j, j + d = 8 → wY_sumOf_14 post (nI s) (nI n) (nI h) so al (fx_ni S) (fx_ni V) od tr (d + 1) (nI (gf_mk (fun b => q.testBit b) j)) (nI j) := by
  intro d
  induction d with
  | zero =>
    intro j hj
    have e : j = 8 := by omega
    subst e
    have w : gf_mk (fun b => q.testBit b) 8 = q := by
      apply Nat.eq_of_testBit_eq
      intro i
      rw [gf_mk_bit]
      by_cases e : i < 8
      · rw [decide_eq_true e, Bool.true_and]
      · rw [decide_eq_false e, Bool.false_and]
        have h2 : 2 ^ 8 ≤ 2 ^ i := Nat.pow_le_pow_right (by decide) (by omega)
        exact (Nat.testBit_lt_two_pow (by omega)).symm
    rw [w]
    exact br_t (by decide) hp
  | succ d ih =>
    intro j hj
    have ih2 := ih (j + 1) (by omega)
    rw [gf_mk_s] at ih2
    have hkj := hk j (by omega)
    refine br_f (nI_ge (b := 8) (by omega) (by decide)) ⟨2 ^ n + 1, ?_⟩
    refine fy_m26 K hod hs (by omega) (fun e => ?_) (fun e => ?_) (fun e => ?_) (fun e => ?_) (2 ^ n) 0 (by omega)
    · exfalso
      rw [e] at hkj
      split at hkj <;> omega
    · exfalso
      rw [e] at hkj
      split at hkj <;> omega
    · by_cases w : q.testBit j = true
      · rw [if_pos w] at ih2
        rw [fz_or]
        exact ih2
      · exfalso
        rw [e, if_neg w] at hkj
        omega
    · by_cases w : q.testBit j = true
      · exfalso
        rw [e, if_pos w] at hkj
        omega
      · rw [if_neg w] at ih2
        exact ih2
theorem fy_sum {post : Int32 → Prop} {n h : Nat} {S V : Nat → Nat} (K : fx_Ok n h S V) {so al : Int32} {od tr : Nat → Int32} (hod : fy_Od od) {s : Nat} (hs : s < 2 ^ n) {B : Nat → Nat} {z : Nat} {con : Bool} (I : gf_Inv n (fx_R S V) (fx_in (-1)) h B z con) (hp : post (fx_fs B con s)) : ∃ m, wY_sumOf_14 post (nI s) (nI n) (nI h) so al (fx_ni S) (fx_ni V) od tr m 0 0 := by
  refine ⟨9, ?_⟩
  unfold fx_fs at hp
  cases con
  · rw [if_neg (by decide)] at hp
    cases w : gf_spn B s
    · rw [if_neg (by rw [w]; decide)] at hp
      exact fy_m14b K hod hs hp 8 0 (by omega) ⟨0, by omega, by omega, Or.inr (gf_kd_free K.2.1 I hs w)⟩ 0
    · rw [if_pos w] at hp
      exact fy_m14g K hod hs (of_decide_eq_true w) (fun j hj => gf_kd_fix K.2.1 I hj w) hp 8 0 (by omega)
  · rw [if_pos rfl] at hp
    obtain ⟨j, hj, e⟩ := gf_kd_no I s
    exact fy_m14b K hod hs hp 8 0 (by omega) ⟨j, by omega, hj, Or.inl e⟩ 0
theorem fy_sumOf {post : Int32 → Prop} {n h : Nat} {S V : Nat → Nat} (K : fx_Ok n h S V) {so al : Int32} {od tr : Nat → Int32} (hod : fy_Od od) {s : Nat} (hs : s < 2 ^ n) {B : Nat → Nat} {z : Nat} {con : Bool} (I : gf_Inv n (fx_R S V) (fx_in (-1)) h B z con) (hp : post (fx_fs B con s)) : wpY_sumOf post (nI n, nI h, so, al, fx_ni S, fx_ni V, od, tr) (nI s) := by
  have p8 := gf_p8 K.2.1
  unfold wpY_sumOf
  refine fy_badSet K.2.1 (nI s) (fun _ _ _ => ?_) (fun e => ?_)
  · exact br_t rfl (fy_sum K hod hs I hp)
  · exfalso
    rcases e with e | e
    · exact nI_pos (by omega) e
    · rw [nI_leI (by omega) (by omega)] at e
      omega
theorem fy_sumOf_bad {post : Int32 → Prop} {n : Nat} (hn : n ≤ 8) {h so al : Int32} {a1 a2 od tr : Nat → Int32} {x : Int32} (hx : x < 0 ∨ nI (2 ^ n) ≤ x) (hp : post (-1)) : wpY_sumOf post (nI n, h, so, al, a1, a2, od, tr) x := by
  have p8 := gf_p8 hn
  unfold wpY_sumOf
  refine fy_badSet hn x (fun s hs e => ?_) (fun _ => br_f (by decide) hp)
  exfalso
  subst e
  rcases hx with e | e
  · exact nI_pos (by omega) e
  · rw [nI_leI (by omega) (by omega)] at e
    omega
end
section
/-! Y: peeling, seeds, rank, helps, useful, lose -/
theorem fy_single {post : Int32 → Prop} {v : SY} {x : Int32} (H1 : ¬ x = 0 → x &&& (x - 1) = 0 → post 1) (H0 : x = 0 ∨ ¬ x &&& (x - 1) = 0 → post 0) : wpY_single post v x := by
  obtain ⟨n, h, so, al, a1, a2, od, tr⟩ := v
  unfold wpY_single
  exact br_c (fun e => H0 (Or.inl e)) (fun e => br_c (fun e2 => H1 e e2) (fun e2 => H0 (Or.inr e2)))
theorem fy_pf15 {post : Int32 → Prop} {J4 : Int32 → Int32 → Prop} {n h : Nat} {S V : Nat → Nat} (K : fx_Ok n h S V) {k : Nat} {dn so al : Int32} {a2 od tr : Nat → Int32} (H : J4 (fz_pi S dn h) (nI (k + 1))) :
    ∀ d i, i + d = h → wY_peelFrom_15 post J4 (nI k) (nI n) (nI h) so al (fx_ni S) a2 od tr (d + 1) (fz_pi S dn i) (nI i) := by
  have hh := K.2.2.1
  intro d
  induction d with
  | zero =>
    intro i hi
    have e : i = h := by omega
    subst e
    exact br_t (Int32.le_refl _) (nm_r (nI_1 k) H)
  | succ d ih =>
    intro i hi
    have ih2 := ih (i + 1) (by omega)
    have w : fz_pi S dn (i + 1) = fz_ps S (fz_pi S dn i) i := rfl
    rw [w] at ih2
    unfold fz_ps at ih2
    refine br_f (nI_ge (by omega) (by omega)) ⟨vp_in_nI (by omega) (by omega), ?_⟩
    have e1 : fx_ni S (nI i).toNatClampNeg = nI (S i) := by
      rw [nI_clamp (by omega)]
      rfl
    rw [e1]
    refine nm_e (fy_single (fun e e2 => ?_) (fun e => ?_))
    · rw [if_pos e2] at ih2
      exact br_f (by decide) (nm_e (nm_r (nI_1 i) ih2))
    · refine br_t rfl (nm_r (nI_1 i) ?_)
      by_cases e2 : (nI (S i) &&& (fz_pi S dn i ^^^ (-1))) &&& ((nI (S i) &&& (fz_pi S dn i ^^^ (-1))) - 1) = 0
      · rw [if_pos e2] at ih2
        rcases e with e | e
        · rw [e, fx_or0] at ih2
          exact ih2
        · exact absurd e2 e
      · rw [if_neg e2] at ih2
        exact ih2
theorem fy_pf4 {post : Int32 → Prop} {n h : Nat} {S V : Nat → Nat} (K : fx_Ok n h S V) {st so al : Int32} {a2 od tr : Nat → Int32} (hp : post (fz_pp S h st n)) :
    ∀ d k, k + d = n → wY_peelFrom_4 post (nI n) (nI h) so al (fx_ni S) a2 od tr (d + 1) (fz_pp S h st k) (nI k) := by
  have hn := K.2.1
  intro d
  induction d with
  | zero =>
    intro k hk
    have e : k = n := by omega
    subst e
    exact br_t (Int32.le_refl _) hp
  | succ d ih =>
    intro k hk
    refine br_f (nI_ge (by omega) (by omega)) ⟨h + 1, ?_⟩
    exact fy_pf15 K (dn := fz_pp S h st k) (ih (k + 1) (by omega)) h 0 (by omega)
theorem fy_peelFrom {post : Int32 → Prop} {n h : Nat} {S V : Nat → Nat} (K : fx_Ok n h S V) {st so al : Int32} {a2 od tr : Nat → Int32} (hp : post (fz_pp S h st n)) : wpY_peelFrom post (nI n, nI h, so, al, fx_ni S, a2, od, tr) st :=
  ⟨n + 1, fy_pf4 K hp n 0 (by omega)⟩
theorem fy_isSeed {post : Int32 → Prop} {n h : Nat} {S V : Nat → Nat} (K : fx_Ok n h S V) {so al : Int32} {a2 od tr : Nat → Int32} {s : Nat} (hs : s < 2 ^ n) (H1 : fz_pp S h (nI s) n = nI (2 ^ n - 1) → post 1) (H0 : ¬ fz_pp S h (nI s) n = nI (2 ^ n - 1) → post 0) : wpY_isSeed post (nI n, nI h, so, al, fx_ni S, a2, od, tr) (nI s) := by
  have p8 := gf_p8 K.2.1
  unfold wpY_isSeed
  refine fy_badSet K.2.1 (nI s) (fun _ _ _ => br_t rfl (fy_peelFrom K ?_)) (fun e => ?_)
  · rw [fy_sh1 K.2.1]
    exact br_c H1 H0
  · exfalso
    rcases e with e | e
    · exact nI_pos (by omega) e
    · rw [nI_leI (by omega) (by omega)] at e
      omega
theorem fy_sd16 {post : Int32 → Prop} {n h : Nat} {S V : Nat → Nat} (K : fx_Ok n h S V) {so al : Int32} {a2 od tr : Nat → Int32} (hp : post (fz_sd S h n (2 ^ n)).1) :
    ∀ d k, k + d = 2 ^ n → wY_seed_16 post (nI n) (nI h) so al (fx_ni S) a2 od tr (d + 1) (fz_sd S h n k).1 (fz_sd S h n k).2 (nI k) := by
  have p8 := gf_p8 K.2.1
  have hsh := fy_sh K.2.1
  intro d
  induction d with
  | zero =>
    intro k hk
    have e : k = 2 ^ n := by omega
    subst e
    exact br_t (by rw [hsh]; exact Int32.le_refl _) hp
  | succ d ih =>
    intro k hk
    have ih2 := ih (k + 1) (by omega)
    rw [fz_sd_s] at ih2
    refine br_f (by rw [hsh]; exact nI_ge (by omega) (by omega)) (fy_members (br_c (fun e => ?_) (fun e => fy_isSeed K (by omega) (fun e2 => ?_) (fun e2 => ?_))))
    · rw [if_neg (fun q => Int32.not_lt.mpr e q.1)] at ih2
      exact nm_r (nI_1 k) ih2
    · rw [if_pos ⟨Int32.not_le.mp e, e2⟩] at ih2
      exact br_t rfl (nm_r (nI_1 k) ih2)
    · rw [if_neg (fun q => e2 q.2)] at ih2
      exact br_f (by decide) (nm_r (nI_1 k) ih2)
theorem fy_seed {post : Int32 → Prop} {n h : Nat} {S V : Nat → Nat} (K : fx_Ok n h S V) {so al : Int32} {a2 od tr : Nat → Int32} (hp : post (fz_sd S h n (2 ^ n)).1) : wpY_seed post (nI n, nI h, so, al, fx_ni S, a2, od, tr) := by
  unfold wpY_seed
  exact nm_r (fy_sh1 K.2.1) ⟨2 ^ n + 1, fy_sd16 K hp (2 ^ n) 0 (by omega)⟩
/-! rank -/
def fy_cur (P : Nat → Bool) (x i t : Nat) : Bool := (P t || (P (t ^^^ x) && decide (t ^^^ x < i)))
theorem fy_sp2 {post : SY → Prop} {n h so al : Int32} {a1 a2 od : Nat → Int32} {P : Nat → Bool} {x : Nat} (hx : x < 256)
    (H : ∀ tr : Nat → Int32, (∀ t, t < 256 → tr t = fx_cb (P t || P (t ^^^ x))) → post (n, h, so, al, a1, a2, od, tr)) :
    ∀ d i, i + d = 256 → ∀ tr : Nat → Int32, (∀ t, t < 256 → tr t = fx_cb (fy_cur P x i t)) → wY_spread_2 post (nI x) n h so al (d + 1) (nI i) a1 a2 od tr := by
  intro d
  induction d with
  | zero =>
    intro i hi tr ht
    have e : i = 256 := by omega
    subst e
    refine br_t (by decide) (H tr (fun t h1 => ?_))
    have hl : t ^^^ x < 256 := Nat.xor_lt_two_pow (n := 8) h1 hx
    rw [ht t h1]
    unfold fy_cur
    rw [decide_eq_true hl, Bool.and_true]
  | succ d ih =>
    intro i hi tr ht
    have hl : i ^^^ x < 256 := Nat.xor_lt_two_pow (n := 8) (show i < 256 by omega) hx
    have same : ∀ t, t ≠ i ^^^ x → fy_cur P x (i + 1) t = fy_cur P x i t := by
      intro t hne
      have hne2 : t ^^^ x ≠ i := by
        intro e
        apply hne
        rw [← e, gf_xx]
      unfold fy_cur
      by_cases q : t ^^^ x < i
      · rw [decide_eq_true q, decide_eq_true (show t ^^^ x < i + 1 by omega)]
      · rw [decide_eq_false q, decide_eq_false (show ¬ t ^^^ x < i + 1 by omega)]
    have at1 : fy_cur P x (i + 1) (i ^^^ x) = (P (i ^^^ x) || P i) := by
      unfold fy_cur
      rw [gf_xx, decide_eq_true (show i < i + 1 by omega), Bool.and_true]
    have at0 : fy_cur P x i (i ^^^ x) = P (i ^^^ x) := by
      unfold fy_cur
      rw [gf_xx, decide_eq_false (show ¬ i < i by omega), Bool.and_false, Bool.or_false]
    refine br_f (nI_ge (b := 256) (by omega) (by decide)) ⟨vp_in_nI (by omega) (by omega), ?_⟩
    rw [nI_clamp (by omega), ht i (by omega)]
    refine fx_cb1 (fun e => ?_) (fun e => ?_)
    · rw [nx_xor]
      refine ⟨vp_in_nI hl (by omega), nm_e (nm_r (nI_1 i) (ih (i + 1) (by omega) _ (fun t h1 => ?_)))⟩
      rw [nI_clamp (by omega)]
      by_cases q : t = i ^^^ x
      · rw [q, pk_us, at1, fy_n1]
        have w : (P (i ^^^ x) || P i) = true := by
          unfold fy_cur at e
          revert e
          cases P i <;> cases P (i ^^^ x) <;> simp
        rw [w]
        rfl
      · rw [pk_un q, same t q]
        exact ht t h1
    · refine nm_r (nI_1 i) (ih (i + 1) (by omega) tr (fun t h1 => ?_))
      by_cases q : t = i ^^^ x
      · rw [ht t h1, q, at1, at0]
        have w : P i = false := by
          unfold fy_cur at e
          revert e
          cases P i <;> simp
        rw [w, Bool.or_false]
      · rw [same t q]
        exact ht t h1
theorem fy_spread {post : SY → Prop} {n h so al : Int32} {a1 a2 od tr : Nat → Int32} {P : Nat → Bool} {x : Nat} (hx : x < 256) (ht : ∀ t, t < 256 → tr t = fx_cb (P t))
    (H : ∀ tr : Nat → Int32, (∀ t, t < 256 → tr t = fx_cb (P t || P (t ^^^ x))) → post (n, h, so, al, a1, a2, od, tr)) : wpY_spread post (n, h, so, al, a1, a2, od, tr) (nI x) := by
  refine ⟨257, fy_sp2 hx H 256 0 (by omega) tr (fun t h1 => ?_)⟩
  rw [ht t h1]
  unfold fy_cur
  rw [decide_eq_false (Nat.not_lt_zero _), Bool.and_false, Bool.or_false]
theorem fy_r87 {post : Int32 → SY → Prop} {n h so al : Int32} {a1 a2 od tr : Nat → Int32} {z : Nat} (hz : z ≤ 8) (hp : post (nI z) (n, h, so, al, a1, a2, od, tr)) :
    ∀ d r, r + d = z → wY_rank_87 post (nI (2 ^ z)) n h so al a1 a2 od tr (d + 1) (nI r) := by
  have p8 := gf_p8 hz
  intro d
  induction d with
  | zero =>
    intro r hr
    have e : r = z := by omega
    subst e
    refine pk_le 8 r (fun _ => hp) (fun e => br_t ?_ hp)
    rw [fz_shl1 r (by omega)]
    exact Int32.le_refl _
  | succ d ih =>
    intro r hr
    have h2 : 2 ^ r < 2 ^ z := Nat.pow_lt_pow_right (by decide) (by omega)
    refine br_f (nI_ge (b := 8) (by omega) (by decide)) (br_f ?_ (nm_r (nI_1 r) (ih (r + 1) (by omega))))
    rw [fz_shl1 r (by omega)]
    exact nI_ge h2 (by omega)
theorem fy_r60 {post : Int32 → SY → Prop} {n h so al : Int32} {a1 a2 od tr : Nat → Int32} {P : Nat → Bool} (ht : ∀ t, t < 256 → tr t = fx_cb (P t)) {z : Nat} (hc : gf_ct P 256 = 2 ^ z) (hp : post (nI z) (n, h, so, al, a1, a2, od, tr)) :
    ∀ d s, s + d = 256 → wY_rank_60 post n h so al a1 a2 od tr (d + 1) (nI (gf_ct P s)) (nI s) := by
  have hz : z ≤ 8 := by
    by_cases q : z ≤ 8
    · exact q
    · have h1 := gf_ct_le P 256
      have h2 : 2 ^ 9 ≤ 2 ^ z := Nat.pow_le_pow_right (by decide) (by omega)
      omega
  intro d
  induction d with
  | zero =>
    intro s hs
    have e : s = 256 := by omega
    subst e
    rw [hc]
    exact br_t (by decide) ⟨z + 1, fy_r87 hz hp z 0 (by omega)⟩
  | succ d ih =>
    intro s hs
    have ih2 := ih (s + 1) (by omega)
    rw [gf_ct_s] at ih2
    refine br_f (nI_ge (b := 256) (by omega) (by decide)) ⟨vp_in_nI (by omega) (by omega), ?_⟩
    rw [nI_clamp (by omega), ht s (by omega)]
    refine fx_cb1 (fun e => ?_) (fun e => ?_)
    · rw [if_pos e] at ih2
      exact nm_r (nI_1 _) (nm_r (nI_1 s) ih2)
    · rw [if_neg (by rw [e]; decide)] at ih2
      exact nm_r (nI_1 s) ih2
theorem fy_m1 {i : Nat} (hi : i < 2 ^ 31) : ¬ nI i = -1 := by
  intro e
  have h := nI_pos hi
  rw [e] at h
  exact h (by decide)
theorem fy_r34 {post : Int32 → SY → Prop} {n h : Nat} {S V : Nat → Nat} (K : fx_Ok n h S V) {so al : Int32} {od : Nat → Int32} {z : Nat} (hc : gf_ct (gf_sp (fx_R S V) (fx_in (-1)) h) 256 = 2 ^ z)
    (H : ∀ tr : Nat → Int32, post (nI z) (nI n, nI h, so, al, fx_ni S, fx_ni V, od, tr)) :
    ∀ d i, i + d = h → ∀ tr : Nat → Int32, (∀ t, t < 256 → tr t = fx_cb (gf_sp (fx_R S V) (fx_in (-1)) i t)) → wY_rank_34 post 0 (d + 1) (nI i) (nI n) (nI h) so al (fx_ni S) (fx_ni V) od tr := by
  have hh := K.2.2.1
  have p8 := gf_p8 K.2.1
  intro d
  induction d with
  | zero =>
    intro i hi tr ht
    have e : i = h := by omega
    subst e
    exact br_t (Int32.le_refl _) ⟨257, fy_r60 ht hc (H tr) 256 0 (by omega)⟩
  | succ d ih =>
    intro i hi tr ht
    have hin : fx_in (-1) i = true := by
      unfold fx_in
      rw [decide_eq_false (fy_m1 (by omega))]
      rfl
    have hS := K.2.2.2.1 i
    have e1 : fx_ni S (nI i).toNatClampNeg = nI (S i) := by
      rw [nI_clamp (by omega)]
      rfl
    refine br_f (nI_ge (by omega) (by omega)) ⟨vp_in_nI (by omega) (by omega), ?_⟩
    rw [e1]
    refine fy_spread (show S i < 256 by omega) ht (fun tr2 ht2 => nm_r (nI_1 i) (ih (i + 1) (by omega) tr2 (fun t h1 => ?_)))
    have e2 : fx_R S V i / 256 = S i := gf_row_div (K.2.2.2.2 i)
    rw [gf_sp_s hin, e2]
    exact ht2 t h1
theorem fy_r4 {post : Int32 → SY → Prop} {n h : Nat} {S V : Nat → Nat} (K : fx_Ok n h S V) {so al : Int32} {od : Nat → Int32} {z : Nat} (hc : gf_ct (gf_sp (fx_R S V) (fx_in (-1)) h) 256 = 2 ^ z)
    (H : ∀ tr : Nat → Int32, post (nI z) (nI n, nI h, so, al, fx_ni S, fx_ni V, od, tr)) :
    ∀ d s, s + d = 256 → ∀ tr : Nat → Int32, (∀ t, t < s → tr t = fx_cb (decide (t = 0))) → wY_rank_4 post 0 (nI n) (nI h) so al (d + 1) (nI s) (fx_ni S) (fx_ni V) od tr := by
  intro d
  induction d with
  | zero =>
    intro s hs tr ht
    have e : s = 256 := by omega
    subst e
    exact br_t (by decide) ⟨h + 1, fy_r34 K hc H h 0 (by omega) tr ht⟩
  | succ d ih =>
    intro s hs tr ht
    have key : ∀ v : Int32, v = fx_cb (decide (s = 0)) → wY_rank_4 post 0 (nI n) (nI h) so al (d + 1) (nI (s + 1)) (fx_ni S) (fx_ni V) od (upd tr (nI s).toNatClampNeg v) := by
      intro v hv
      refine ih (s + 1) (by omega) _ (fun t h1 => ?_)
      rw [nI_clamp (by omega)]
      by_cases e : t = s
      · rw [e, pk_us, hv]
      · rw [pk_un e]
        exact ht t (by omega)
    refine br_f (nI_ge (b := 256) (by omega) (by decide)) (pk_eq s 0 (fun e => ?_) (fun e => ?_))
    · exact ⟨vp_in_nI (by omega) (by omega), nm_e (nm_r (nI_1 s) (key _ (by rw [decide_eq_true e]; rfl)))⟩
    · exact ⟨vp_in_nI (by omega) (by omega), nm_e (nm_r (nI_1 s) (key _ (by rw [decide_eq_false e]; rfl)))⟩
theorem fy_rank {post : Int32 → SY → Prop} {n h : Nat} {S V : Nat → Nat} (K : fx_Ok n h S V) {so al : Int32} {od tr : Nat → Int32} {z : Nat} (hc : gf_ct (gf_sp (fx_R S V) (fx_in (-1)) h) 256 = 2 ^ z)
    (H : ∀ tr : Nat → Int32, post (nI z) (nI n, nI h, so, al, fx_ni S, fx_ni V, od, tr)) : wpY_rank post (nI n, nI h, so, al, fx_ni S, fx_ni V, od, tr) :=
  ⟨257, fy_r4 K hc H 256 0 (by omega) tr (fun t h1 => absurd h1 (Nat.not_lt_zero t))⟩
/-! useful -/
theorem fy_h18 {post : Int32 → Prop} {n h : Nat} {S V : Nat → Nat} (K : fx_Ok n h S V) {so al : Int32} {od tr : Nat → Int32} (hod : fy_Od od) {s : Nat} (hs : s < 2 ^ n) (hp : post (fx_cb (gf_hl (fx_R S V) (fx_in (-1)) h n s))) :
    ∀ d a, a + d = 2 ^ n → wY_helps_18 post (nI s) (nI (gf_yk (fx_R S V) (fx_in (-1)) h n)) (nI n) (nI h) so al (fx_ni S) (fx_ni V) od tr (d + 1) (nI (gf_or (gf_hP (fx_R S V) (fx_in (-1)) h s) a)) (nI (gf_an (gf_hP (fx_R S V) (fx_in (-1)) h s) (2 ^ n - 1) a)) (fx_cb (gf_ex (gf_hP (fx_R S V) (fx_in (-1)) h s) a)) (nI a) := by
  have p8 := gf_p8 K.2.1
  have hsh := fy_sh K.2.1
  intro d
  induction d with
  | zero =>
    intro a ha
    have e : a = 2 ^ n := by omega
    subst e
    have hD := gf_D_lt (gf_hP (fx_R S V) (fx_in (-1)) h s) n
    have hy := gf_yk_lt (fx_R S V) (fx_in (-1)) h n
    refine br_t (by rw [hsh]; exact Int32.le_refl _) (nm_r (e' := nI (2 ^ n - 1 - gf_D (gf_hP (fx_R S V) (fx_in (-1)) h s) n)) ?_ (fx_cb1 (fun e => ?_) (fun e => ?_)))
    · rw [fy_sh1 K.2.1, nx_xor]
      exact pk_sub (show gf_D (gf_hP (fx_R S V) (fx_in (-1)) h s) n ≤ 2 ^ n - 1 by omega)
    · unfold gf_hl at hp
      rw [e, Bool.true_and] at hp
      refine pk_eq (2 ^ n - 1 - gf_D (gf_hP (fx_R S V) (fx_in (-1)) h s) n) (gf_yk (fx_R S V) (fx_in (-1)) h n) (fun q => ?_) (fun q => ?_)
      · rw [decide_eq_false (fun w => w q)] at hp
        exact hp
      · rw [decide_eq_true q] at hp
        exact hp
    · unfold gf_hl at hp
      rw [e, Bool.false_and] at hp
      exact hp
  | succ d ih =>
    intro a ha
    have ih2 := ih (a + 1) (by omega)
    have w1 : gf_ex (gf_hP (fx_R S V) (fx_in (-1)) h s) (a + 1) = (gf_ex (gf_hP (fx_R S V) (fx_in (-1)) h s) a || gf_hP (fx_R S V) (fx_in (-1)) h s a) := rfl
    rw [gf_or_s, gf_an_s, w1] at ih2
    have no : gf_hP (fx_R S V) (fx_in (-1)) h s a = false → wY_helps_18 post (nI s) (nI (gf_yk (fx_R S V) (fx_in (-1)) h n)) (nI n) (nI h) so al (fx_ni S) (fx_ni V) od tr (d + 1) (nI (gf_or (gf_hP (fx_R S V) (fx_in (-1)) h s) a)) (nI (gf_an (gf_hP (fx_R S V) (fx_in (-1)) h s) (2 ^ n - 1) a)) (fx_cb (gf_ex (gf_hP (fx_R S V) (fx_in (-1)) h s) a)) (nI (a + 1)) := by
      intro e
      rw [e, if_neg Bool.false_ne_true, if_neg Bool.false_ne_true, Bool.or_false] at ih2
      exact ih2
    refine br_f (by rw [hsh]; exact nI_ge (by omega) (by omega)) (fy_od hod hs K.2.1 (fun e => ?_) (fun e => ?_))
    · refine nm_r (nI_1 a) (no ?_)
      unfold gf_hP
      rw [e]
      rfl
    · refine fy_solves (j := 0) K hod (by omega) (fx_cb1 (fun e2 => ?_) (fun e2 => ?_))
      · have w : gf_hP (fx_R S V) (fx_in (-1)) h s a = true := by
          unfold gf_hP
          rw [e, e2]
          rfl
        rw [w, if_pos rfl, if_pos rfl, Bool.or_true] at ih2
        exact nm_r (fz_or _ _) (nm_r (nx_and _ _) (nm_r (nI_1 a) ih2))
      · refine nm_r (nI_1 a) (no ?_)
        unfold gf_hP
        rw [e, e2]
        rfl
theorem fy_helps {post : Int32 → Prop} {n h : Nat} {S V : Nat → Nat} (K : fx_Ok n h S V) {so al : Int32} {od tr : Nat → Int32} (hod : fy_Od od) {s : Nat} (hs : s < 2 ^ n) (hp : post (fx_cb (gf_hl (fx_R S V) (fx_in (-1)) h n s))) : wpY_helps post (nI n, nI h, so, al, fx_ni S, fx_ni V, od, tr) (nI s) (nI (gf_yk (fx_R S V) (fx_in (-1)) h n)) := by
  unfold wpY_helps
  exact nm_r (fy_sh1 K.2.1) ⟨2 ^ n + 1, fy_h18 K hod hs hp (2 ^ n) 0 (by omega)⟩
theorem fy_u38 {post : Int32 → SY → Prop} {n h : Nat} {S V : Nat → Nat} (K : fx_Ok n h S V) {so al : Int32} {od : Nat → Int32} (hod : fy_Od od)
    (H : ∀ (x : Int32) (tr : Nat → Int32), fx_Ans (fun r => gf_hl (fx_R S V) (fx_in (-1)) h n (fz_so n r)) x → post x (nI n, nI h, so, al, fx_ni S, fx_ni V, od, tr)) :
    ∀ d r, r + d = 10000 → (∀ s, s < r → gf_hl (fx_R S V) (fx_in (-1)) h n (fz_so n s) = false) → ∀ tr : Nat → Int32, (∀ t, t < 256 → tr t = 0 ∨ gf_hl (fx_R S V) (fx_in (-1)) h n t = false) → wY_useful_38 post (nI (gf_yk (fx_R S V) (fx_in (-1)) h n)) (nI n) (nI h) so al (d + 1) (nI r) (fx_ni S) (fx_ni V) od tr := by
  have p8 := gf_p8 K.2.1
  intro d
  induction d with
  | zero =>
    intro r hr hz tr ht
    have e : r = 10000 := by omega
    subst e
    exact br_t (by decide) (H _ tr (Or.inl ⟨rfl, hz⟩))
  | succ d ih =>
    intro r hr hz tr ht
    have hs := fz_so_lt K.1 r
    have hz2 : gf_hl (fx_R S V) (fx_in (-1)) h n (fz_so n r) = false → ∀ s, s < r + 1 → gf_hl (fx_R S V) (fx_in (-1)) h n (fz_so n s) = false := by
      intro e s h1
      by_cases q : s = r
      · rw [q]; exact e
      · exact hz s (by omega)
    refine br_f (nI_ge (b := 10000) (by omega) (by decide)) (fy_setOf K.1 K.2.1 (by omega) ⟨vp_in_nI (show fz_so n r < 256 by omega) (by omega), ?_⟩)
    refine br_c (fun e => ⟨vp_in_nI (show fz_so n r < 256 by omega) (by omega), nm_e (fy_helps K hod hs (fx_cb1 (fun e2 => ?_) (fun e2 => ?_)))⟩) (fun e => ?_)
    · exact H _ _ (Or.inr ⟨r, by omega, rfl, e2, hz⟩)
    · refine nm_r (nI_1 r) (ih (r + 1) (by omega) (hz2 e2) _ (fun t h1 => ?_))
      rw [nI_clamp (by omega)]
      by_cases q : t = fz_so n r
      · rw [q]; exact Or.inr e2
      · rw [pk_un q]
        exact ht t h1
    · rw [nI_clamp (by omega)] at e
      have e2 : gf_hl (fx_R S V) (fx_in (-1)) h n (fz_so n r) = false := (ht _ (by omega)).elim (fun q => absurd q e) id
      exact nm_r (nI_1 r) (ih (r + 1) (by omega) (hz2 e2) tr ht)
theorem fy_u16 {post : Int32 → SY → Prop} {n h : Nat} {S V : Nat → Nat} (K : fx_Ok n h S V) {so al : Int32} {od : Nat → Int32} (hod : fy_Od od)
    (H : ∀ (x : Int32) (tr : Nat → Int32), fx_Ans (fun r => gf_hl (fx_R S V) (fx_in (-1)) h n (fz_so n r)) x → post x (nI n, nI h, so, al, fx_ni S, fx_ni V, od, tr)) :
    ∀ d s, s + d = 256 → ∀ tr : Nat → Int32, (∀ t, t < s → tr t = 0) → wY_useful_16 post (nI (gf_yk (fx_R S V) (fx_in (-1)) h n)) (nI n) (nI h) so al (d + 1) (nI s) (fx_ni S) (fx_ni V) od tr := by
  intro d
  induction d with
  | zero =>
    intro s hs tr ht
    have e : s = 256 := by omega
    subst e
    exact br_t (by decide) ⟨10001, fy_u38 K hod H 10000 0 (by omega) (fun s h1 => absurd h1 (Nat.not_lt_zero s)) tr (fun t h1 => Or.inl (ht t h1))⟩
  | succ d ih =>
    intro s hs tr ht
    refine br_f (nI_ge (b := 256) (by omega) (by decide)) ⟨vp_in_nI (by omega) (by omega), nm_e (nm_r (nI_1 s) (ih (s + 1) (by omega) _ (fun t h1 => ?_)))⟩
    rw [nI_clamp (by omega)]
    by_cases e : t = s
    · rw [e, pk_us]
      exact fy_n0
    · rw [pk_un e]
      exact ht t (by omega)
theorem fy_useful {post : Int32 → SY → Prop} {n h : Nat} {S V : Nat → Nat} (K : fx_Ok n h S V) {so al : Int32} {od tr : Nat → Int32} (hod : fy_Od od)
    (H0 : gf_cs (fx_R S V) (fx_in (-1)) h n = false → ∀ (so al : Int32), post (-1) (nI n, nI h, so, al, fx_ni S, fx_ni V, od, tr))
    (H : gf_cs (fx_R S V) (fx_in (-1)) h n = true → ∀ (x so al : Int32) (tr : Nat → Int32), fx_Ans (fun r => gf_hl (fx_R S V) (fx_in (-1)) h n (fz_so n r)) x → post x (nI n, nI h, so, al, fx_ni S, fx_ni V, od, tr)) :
    wpY_useful post (nI n, nI h, so, al, fx_ni S, fx_ni V, od, tr) := by
  unfold wpY_useful
  refine fy_consistent K hod (fun so al => fx_cb1 (fun e => ?_) (fun e => H0 e so al))
  exact fy_known K hod (fun so al => ⟨257, fy_u16 K hod (fun x tr hA => H e x so al tr hA) 256 0 (by omega) tr (fun t h1 => absurd h1 (Nat.not_lt_zero t))⟩)
theorem fy_lo16 {post : Int32 → SY → Prop} {n so al : Int32} {h j : Nat} {S V : Nat → Nat} {od tr : Nat → Int32} (hh : h ≤ 16) (hj : j < h) (hp : post (nI (h - 1)) (n, nI (h - 1), so, al, fx_ni (fx_ls S j (h - 1 - j)), fx_ni (fx_ls V j (h - 1 - j)), od, tr)) :
    ∀ d i, j + 1 + i + d = h → wY_lose_16 post n (nI h) so al (d + 1) (nI (j + i)) (fx_ni (fx_ls S j i)) (fx_ni (fx_ls V j i)) od tr := by
  intro d
  induction d with
  | zero =>
    intro i hi
    have e : i = h - 1 - j := by omega
    subst e
    refine br_t ?_ ?_
    · rw [nI_1]
      exact nI_le (by omega) (by omega)
    · exact nm_r (pk_sub (a := h) (b := 1) (by omega)) hp
  | succ d ih =>
    intro i hi
    have st : ∀ T : Nat → Nat, upd (fx_ni (fx_ls T j i)) (nI (j + i)).toNatClampNeg (fx_ni (fx_ls T j i) (nI (j + i + 1)).toNatClampNeg) = fx_ni (fx_ls T j (i + 1)) := by
      intro T
      rw [nI_clamp (by omega), nI_clamp (by omega)]
      exact fx_put_ni
    refine br_f ?_ ?_
    · rw [nI_1]
      exact nI_ge (by omega) (by omega)
    · rw [nI_1]
      exact ⟨vp_in_nI (by omega) (by omega), vp_in_nI (by omega) (by omega), nm_r (st S) ⟨vp_in_nI (by omega) (by omega), vp_in_nI (by omega) (by omega), nm_r (st V) (nm_e (ih (i + 1) (by omega)))⟩⟩
end
section
/-! the relation, and what is owed -/
def i_Rel (_ : Nat) (u : SX) (v : SY) : Prop := ∃ (n h : Nat) (S V : Nat → Nat) (z ct so al : Int32) (ab od tr : Nat → Int32), fx_Ok n h S V ∧ fy_Od od ∧ u = (nI n, nI (2 ^ n - 1), nI h, z, ct, fx_rw S V, ab) ∧ v = (nI n, nI h, so, al, fx_ni S, fx_ni V, od, tr)
theorem fw_rel (k : Nat) {n h : Nat} {S V : Nat → Nat} (K : fx_Ok n h S V) {od : Nat → Int32} (hod : fy_Od od) (z ct so al : Int32) (ab tr : Nat → Int32) : i_Rel k (nI n, nI (2 ^ n - 1), nI h, z, ct, fx_rw S V, ab) (nI n, nI h, so, al, fx_ni S, fx_ni V, od, tr) :=
  ⟨n, h, S, V, z, ct, so, al, ab, od, tr, K, hod, rfl, rfl⟩
theorem i_up {k : Nat} {u : SX} {v : SY} (h : i_Rel k u v) : i_Rel (k + 3) u v := h
theorem fw_new {n : Nat} (h1 : 1 ≤ n) (h8 : n ≤ 8) : fx_Ok n 0 (fun _ => 0) (fun _ => 0) := ⟨h1, h8, by omega, fun _ => Nat.two_pow_pos n, fun _ => show 0 < 256 by decide⟩
theorem fw_init {n : Nat} (h1 : 1 ≤ n) (h8 : n ≤ 8) {Q : SX → Prop} (H : ∀ u, u = (nI n, nI (2 ^ n - 1), nI 0, (0 : Int32), (0 : Int32), fx_rw (fun _ => 0) (fun _ => 0), (fun _ => (0 : Int32))) → Q u) : wX_init_57 Q (nI n) 0 0 0 0 0 (fun _ => 0) (fun _ => 0) := by
  unfold wX_init_57
  exact nm_r (fy_sh1 h8) (H _ rfl)
theorem fw_yinit {n : Nat} (h1 : 1 ≤ n) (h8 : n ≤ 8) {u : SX} (hu : u = (nI n, nI (2 ^ n - 1), nI 0, (0 : Int32), (0 : Int32), fx_rw (fun _ => 0) (fun _ => 0), (fun _ => (0 : Int32)))) : ∃ m, wY_init_65 (fun v => i_Rel 1 u v) (nI n) 0 0 0 m 0 (fun _ => 0) (fun _ => 0) (fun _ => 0) (fun _ => 0) := by
  refine ⟨257, fy_i65 (fun od hod => ?_) 256 0 (by omega) _ (fun t h => absurd h (Nat.not_lt_zero t))⟩
  rw [hu]
  exact fw_rel 1 (fw_new h1 h8) hod 0 0 0 0 _ _
theorem i_vc0 (k0 : Int32) : wpX_init (fun u => wpY_init (fun v => i_Rel 1 u v) k0) k0 := by
  unfold wpX_init
  refine br_c (fun e1 => br_c (fun e2 => ?_) (fun e2 => ?_)) (fun e1 => ?_)
  · obtain ⟨n, hn, rfl⟩ := nI_of (x := k0) (fun q => Int32.not_lt.mpr (Int32.le_trans (by decide) e1) q)
    have a1 : 1 ≤ n := (nI_leI (a := 1) (by decide) hn).mp e1
    have a2 : n ≤ 8 := (nI_leI (b := 8) hn (by decide)).mp e2
    exact fw_init a1 a2 (fun u hu => br_t e1 (br_t e2 (fw_yinit a1 a2 hu)))
  · exact fw_init (n := 8) (by decide) (by decide) (fun u hu => br_t e1 (br_f e2 (fw_yinit (n := 8) (by decide) (by decide) hu)))
  · exact fw_init (n := 1) (by decide) (by decide) (fun u hu => br_f e1 (fw_yinit (n := 1) (by decide) (by decide) hu))
theorem i_vc_blocks {k : Nat} {u : SX} {v : SY} (I : i_Rel k u v) (hk : k + 3 ≤ 1537) : wpX_blocks (fun r => wpY_blocks (fun r' => r' = r ∧ i_Rel (k + 3) u v) v) u := by
  obtain ⟨n, h, S, V, z, ct, so, al, ab, od, tr, K, hod, rfl, rfl⟩ := I
  exact ⟨rfl, fw_rel _ K hod z ct so al ab tr⟩
theorem i_vc_symbols {k : Nat} {u : SX} {v : SY} (I : i_Rel k u v) (hk : k + 3 ≤ 1537) : wpX_symbols (fun r => wpY_symbols (fun r' => r' = r ∧ i_Rel (k + 3) u v) v) u := by
  obtain ⟨n, h, S, V, z, ct, so, al, ab, od, tr, K, hod, rfl, rfl⟩ := I
  exact ⟨rfl, fw_rel _ K hod z ct so al ab tr⟩
theorem fw_put {n h : Nat} {S V : Nat → Nat} (K : fx_Ok n h S V) (hh : h < 16) {s v : Nat} (hs : s < 2 ^ n) (hv : v < 256) : fx_Ok n (h + 1) (fx_put S h s) (fx_put V h v) :=
  ⟨K.1, K.2.1, hh, fx_put_lt K.2.2.2.1 hs, fx_put_lt K.2.2.2.2 hv⟩
/-- Y's branches on a value -/
theorem fw_val {x : Int32} {A C : Prop} (h1 : ∀ s, s < 256 → x = nI s → A) (h0 : (x < 0 ∨ nI 256 ≤ x) → C) : (x < 0 → C) ∧ (¬ x < 0 → ((x ≤ 255 → A) ∧ (¬ x ≤ 255 → C))) := by
  refine br_c (fun e => h0 (Or.inl e)) (fun e => ?_)
  obtain ⟨s, hs, rfl⟩ := nI_of e
  exact pk_le s 255 (fun q => h1 s (by omega) rfl) (fun q => h0 (Or.inr (nI_le (by omega) hs)))
theorem fw_num {x : Int32} {A C : Prop} (h1 : ∀ s, s < 10000 → x = nI s → A) (h0 : (x < 0 ∨ nI 10000 ≤ x) → C) : (x < 0 → C) ∧ (¬ x < 0 → ((x ≤ 9999 → A) ∧ (¬ x ≤ 9999 → C))) := by
  refine br_c (fun e => h0 (Or.inl e)) (fun e => ?_)
  obtain ⟨s, hs, rfl⟩ := nI_of e
  exact pk_le s 9999 (fun q => h1 s (by omega) rfl) (fun q => h0 (Or.inr (nI_le (by omega) hs)))
theorem fw_no {x : Int32} {s m : Nat} (hs : s < m) (hm : m < 2 ^ 31) (e : x = nI s) (q : x < 0 ∨ nI m ≤ x) : False := by
  subst e
  rcases q with q | q
  · exact nI_pos (by omega) q
  · rw [nI_leI hm (by omega)] at q
    omega
theorem i_vc_receive {k : Nat} {u : SX} {v : SY} (I : i_Rel k u v) (hk : k + 3 ≤ 1537) (v1 : Int32) (v2 : Int32) : wpX_receive (fun r u' => wpY_receive (fun r' v' => r' = r ∧ i_Rel (k + 3) u' v') v v1 v2) u v1 v2 := by
  obtain ⟨n, h, S, V, z, ct, so, al, ab, od, tr, K, hod, rfl, rfl⟩ := I
  have p8 := gf_p8 K.2.1
  have hh := K.2.2.1
  have R := fw_rel (k + 3) K hod z ct so al ab tr
  unfold wpX_receive
  refine fx_isGoodSet K.2.1 v1 (fun s hs e => br_f (by decide) (br_c (fun z0 => ?_) (fun z0 => ?_))) (fun bad => br_t rfl ?_)
  · unfold wpY_receive
    exact fy_badSet K.2.1 v1 (fun _ _ _ => br_t rfl (br_t z0 ⟨rfl, R⟩)) (fun q => (fw_no hs (by omega) e q).elim)
  · refine fx_isGoodValue v2 (fun w hw e2 => br_f (by decide) ?_) (fun bad2 => br_t rfl ?_)
    · subst e
      subst e2
      refine pk_lt h 16 (fun q => fx_append q (by omega) hw ?_) (fun q => ?_)
      · unfold wpY_receive
        refine fy_badSet K.2.1 _ (fun _ _ _ => br_t rfl (br_f z0 (fw_val (fun _ _ _ => br_t (nI_lt (b := 16) q (by decide)) (fy_place q ⟨?_, fw_rel _ (fw_put K q hs hw) hod z ct so al ab tr⟩)) (fun q2 => (fw_no hw (by decide) rfl q2).elim)))) (fun q2 => (fw_no hs (by omega) rfl q2).elim)
        exact (nI_pred h).symm
      · unfold wpY_receive
        exact fy_badSet K.2.1 _ (fun _ _ _ => br_t rfl (br_f z0 (fw_val (fun _ _ _ => br_f (nI_nlt (b := 16) q (by omega)) ⟨rfl, R⟩) (fun q2 => (fw_no hw (by decide) rfl q2).elim)))) (fun q2 => (fw_no hs (by omega) rfl q2).elim)
    · unfold wpY_receive
      exact fy_badSet K.2.1 _ (fun _ _ _ => br_t rfl (br_f z0 (fw_val (fun w hw e2 => (fw_no hw (by decide) e2 bad2).elim) (fun _ => ⟨rfl, R⟩)))) (fun q2 => (fw_no hs (by omega) e q2).elim)
  · unfold wpY_receive
    exact fy_badSet K.2.1 _ (fun s hs e => (fw_no hs (by omega) e bad).elim) (fun _ => br_f (by decide) ⟨rfl, R⟩)
theorem i_vc_draw {k : Nat} {u : SX} {v : SY} (I : i_Rel k u v) (hk : k + 3 ≤ 1537) (v1 : Int32) (v2 : Int32) : wpX_draw (fun r u' => wpY_draw (fun r' v' => r' = r ∧ i_Rel (k + 3) u' v') v v1 v2) u v1 v2 := by
  obtain ⟨n, h, S, V, z, ct, so, al, ab, od, tr, K, hod, rfl, rfl⟩ := I
  have p8 := gf_p8 K.2.1
  have hh := K.2.2.1
  have R := fw_rel (k + 3) K hod z ct so al ab tr
  unfold wpX_draw
  refine fx_isGoodNumber v1 (fun r hr e => br_f (by decide) ?_) (fun bad => br_t rfl ?_)
  · refine fx_isGoodValue v2 (fun w hw e2 => br_f (by decide) ?_) (fun bad2 => br_t rfl ?_)
    · subst e
      subst e2
      have hs := fz_so_lt K.1 r
      refine pk_lt h 16 (fun q => fx_setOfNumber K.1 K.2.1 hr (fx_append q (by omega) hw ?_)) (fun q => ?_)
      · unfold wpY_draw
        exact fw_num (fun _ _ _ => fw_val (fun _ _ _ => br_t (nI_lt (b := 16) q (by decide)) (fy_setOf K.1 K.2.1 hr (fy_place q ⟨rfl, fw_rel _ (fw_put K q hs hw) hod z ct so al ab tr⟩))) (fun q2 => (fw_no hw (by decide) rfl q2).elim)) (fun q2 => (fw_no hr (by decide) rfl q2).elim)
      · unfold wpY_draw
        exact fw_num (fun _ _ _ => fw_val (fun _ _ _ => br_f (nI_nlt (b := 16) q (by omega)) ⟨rfl, R⟩) (fun q2 => (fw_no hw (by decide) rfl q2).elim)) (fun q2 => (fw_no hr (by decide) rfl q2).elim)
    · unfold wpY_draw
      exact fw_num (fun _ _ _ => fw_val (fun w hw e2 => (fw_no hw (by decide) e2 bad2).elim) (fun _ => ⟨rfl, R⟩)) (fun q2 => (fw_no hr (by decide) e q2).elim)
  · unfold wpY_draw
    exact fw_num (fun s hs e => (fw_no hs (by decide) e bad).elim) (fun _ => ⟨rfl, R⟩)
theorem i_vc_lose {k : Nat} {u : SX} {v : SY} (I : i_Rel k u v) (hk : k + 3 ≤ 1537) (v1 : Int32) : wpX_lose (fun r u' => wpY_lose (fun r' v' => r' = r ∧ i_Rel (k + 3) u' v') v v1) u v1 := by
  obtain ⟨n, h, S, V, z, ct, so, al, ab, od, tr, K, hod, rfl, rfl⟩ := I
  have hh := K.2.2.1
  have R := fw_rel (k + 3) K hod z ct so al ab tr
  unfold wpX_lose
  refine br_c (fun e => ?_) (fun e => br_c (fun e2 => ?_) (fun e2 => ?_))
  · exact br_t e ⟨rfl, R⟩
  · obtain ⟨j, hj, rfl⟩ := nI_of e
    have hj2 : j < h := (nI_ltI hj (by omega)).mp e2
    have K2 : fx_Ok n (h - 1) (fx_ls S j (h - 1 - j)) (fx_ls V j (h - 1 - j)) := ⟨K.1, K.2.1, by omega, fx_ls_lt K.2.2.2.1 j _, fx_ls_lt K.2.2.2.2 j _⟩
    refine nm_r (nI_1 j) ⟨h - 1 - j + 1, fx_lo18 hh hj2 ?_ (h - 1 - j) 0 (by omega)⟩
    exact br_f e (br_t e2 ⟨h - 1 - j + 1, fy_lo16 hh hj2 ⟨rfl, fw_rel _ K2 hod z ct so al ab tr⟩ (h - 1 - j) 0 (by omega)⟩)
  · exact br_f e (br_f e2 ⟨rfl, R⟩)
theorem i_vc_setOf {k : Nat} {u : SX} {v : SY} (I : i_Rel k u v) (hk : k + 3 ≤ 1537) (v1 : Int32) : wpX_setOf (fun r => wpY_setOf (fun r' => r' = r ∧ i_Rel (k + 3) u v) v v1) u v1 := by
  obtain ⟨n, h, S, V, z, ct, so, al, ab, od, tr, K, hod, rfl, rfl⟩ := I
  have R := fw_rel (k + 3) K hod z ct so al ab tr
  unfold wpX_setOf
  refine fx_isGoodNumber v1 (fun r hr e => br_f (by decide) ?_) (fun bad => br_t rfl ?_)
  · subst e
    exact fx_setOfNumber K.1 K.2.1 hr (fy_setOf K.1 K.2.1 hr ⟨rfl, R⟩)
  · exact fy_setOf_bad bad ⟨rfl, R⟩
theorem i_vc_consistent {k : Nat} {u : SX} {v : SY} (I : i_Rel k u v) (hk : k + 3 ≤ 1537) : wpX_consistent (fun r u' => wpY_consistent (fun r' v' => r' = r ∧ i_Rel (k + 3) u' v') v) u := by
  obtain ⟨n, h, S, V, z, ct, so, al, ab, od, tr, K, hod, rfl, rfl⟩ := I
  unfold wpX_consistent
  refine fx_build K (-1) z ct ab (fun B z con ab hB I => ?_)
  have w := gf_cs_con K.2.1 I
  refine fx_cb1 (fun e => ?_) (fun e => ?_)
  · subst e
    exact fy_consistent K hod (fun so al => ⟨by rw [w]; rfl, fw_rel _ K hod _ _ so al ab tr⟩)
  · subst e
    exact fy_consistent K hod (fun so al => ⟨by rw [w]; rfl, fw_rel _ K hod _ _ so al ab tr⟩)
theorem i_vc_rank {k : Nat} {u : SX} {v : SY} (I : i_Rel k u v) (hk : k + 3 ≤ 1537) : wpX_rank (fun r u' => wpY_rank (fun r' v' => r' = r ∧ i_Rel (k + 3) u' v') v) u := by
  obtain ⟨n, h, S, V, z, ct, so, al, ab, od, tr, K, hod, rfl, rfl⟩ := I
  unfold wpX_rank
  refine fx_build K (-1) z ct ab (fun B z con ab hB I => ?_)
  exact fy_rank K I.2.2.2.2.2.2 (fun tr => ⟨rfl, fw_rel _ K hod _ _ so al ab tr⟩)
theorem i_vc_known {k : Nat} {u : SX} {v : SY} (I : i_Rel k u v) (hk : k + 3 ≤ 1537) : wpX_known (fun r u' => wpY_known (fun r' v' => r' = r ∧ i_Rel (k + 3) u' v') v) u := by
  obtain ⟨n, h, S, V, z, ct, so, al, ab, od, tr, K, hod, rfl, rfl⟩ := I
  unfold wpX_known
  refine fx_knownWithout K (-1) z ct ab (fun B z con ab hB I => ?_)
  exact fy_known K hod (fun so al => ⟨rfl, fw_rel _ K hod _ _ so al ab tr⟩)
theorem i_vc_value {k : Nat} {u : SX} {v : SY} (I : i_Rel k u v) (hk : k + 3 ≤ 1537) (v1 : Int32) : wpX_value (fun r u' => wpY_value (fun r' => r' = r ∧ i_Rel (k + 3) u' v) v v1) u v1 := by
  obtain ⟨n, h, S, V, z, ct, so, al, ab, od, tr, K, hod, rfl, rfl⟩ := I
  have h8 := K.2.1
  have R := fw_rel (k + 3) K hod z ct so al ab tr
  unfold wpX_value
  refine br_c (fun e => ?_) (fun e => br_c (fun e2 => ?_) (fun e2 => ?_))
  · exact br_t e ⟨rfl, R⟩
  · obtain ⟨j, hj, rfl⟩ := nI_of e
    have hj2 : j < n := (nI_ltI hj (by omega)).mp e2
    have hb := fx_bit h8 hj2
    have es := fz_shl1 j (by omega)
    rw [es]
    refine fx_fixedSum K z ct ab hb.1 (fun B z con ab I => ?_)
    refine br_f e (br_t e2 ?_)
    rw [es]
    exact fy_sumOf K hod hb.1 I ⟨rfl, fw_rel _ K hod _ _ so al ab tr⟩
  · exact br_f e (br_f e2 ⟨rfl, R⟩)
theorem i_vc_sumOf {k : Nat} {u : SX} {v : SY} (I : i_Rel k u v) (hk : k + 3 ≤ 1537) (v1 : Int32) : wpX_sumOf (fun r u' => wpY_sumOf (fun r' => r' = r ∧ i_Rel (k + 3) u' v) v v1) u v1 := by
  obtain ⟨n, h, S, V, z, ct, so, al, ab, od, tr, K, hod, rfl, rfl⟩ := I
  have R := fw_rel (k + 3) K hod z ct so al ab tr
  unfold wpX_sumOf
  refine fx_isGoodSet K.2.1 v1 (fun s hs e => br_f (by decide) ?_) (fun bad => br_t rfl ?_)
  · subst e
    exact fx_fixedSum K z ct ab hs (fun B z con ab I => fy_sumOf K hod hs I ⟨rfl, fw_rel _ K hod _ _ so al ab tr⟩)
  · exact fy_sumOf_bad K.2.1 bad ⟨rfl, R⟩
theorem i_vc_peeled {k : Nat} {u : SX} {v : SY} (I : i_Rel k u v) (hk : k + 3 ≤ 1537) : wpX_peeled (fun r => wpY_peeled (fun r' => r' = r ∧ i_Rel (k + 3) u v) v) u := by
  obtain ⟨n, h, S, V, z, ct, so, al, ab, od, tr, K, hod, rfl, rfl⟩ := I
  have R := fw_rel (k + 3) K hod z ct so al ab tr
  unfold wpX_peeled
  refine fx_peelFrom K ?_
  unfold wpY_peeled
  exact fy_peelFrom K ⟨rfl, R⟩
theorem i_vc_isSeed {k : Nat} {u : SX} {v : SY} (I : i_Rel k u v) (hk : k + 3 ≤ 1537) (v1 : Int32) : wpX_isSeed (fun r => wpY_isSeed (fun r' => r' = r ∧ i_Rel (k + 3) u v) v v1) u v1 := by
  obtain ⟨n, h, S, V, z, ct, so, al, ab, od, tr, K, hod, rfl, rfl⟩ := I
  have p8 := gf_p8 K.2.1
  have R := fw_rel (k + 3) K hod z ct so al ab tr
  unfold wpX_isSeed
  refine fx_isGoodSet K.2.1 v1 (fun s hs e => br_f (by decide) (fx_peelFrom K (br_c (fun e2 => ?_) (fun e2 => ?_)))) (fun bad => br_t rfl ?_)
  · subst e
    exact fy_isSeed K hs (fun _ => ⟨rfl, R⟩) (fun q => absurd e2 q)
  · subst e
    exact fy_isSeed K hs (fun q => absurd q e2) (fun _ => ⟨rfl, R⟩)
  · unfold wpY_isSeed
    exact fy_badSet K.2.1 v1 (fun s hs e => (fw_no hs (by omega) e bad).elim) (fun _ => br_f (by decide) ⟨rfl, R⟩)
theorem i_vc_seedSize {k : Nat} {u : SX} {v : SY} (I : i_Rel k u v) (hk : k + 3 ≤ 1537) : wpX_seedSize (fun r => wpY_seedSize (fun r' => r' = r ∧ i_Rel (k + 3) u v) v) u := by
  obtain ⟨n, h, S, V, z, ct, so, al, ab, od, tr, K, hod, rfl, rfl⟩ := I
  have R := fw_rel (k + 3) K hod z ct so al ab tr
  unfold wpX_seedSize
  refine fx_leastSeed K (fx_memberCount ?_)
  unfold wpY_seedSize
  exact fy_seed K (fy_members ⟨rfl, R⟩)
theorem i_vc_seed {k : Nat} {u : SX} {v : SY} (I : i_Rel k u v) (hk : k + 3 ≤ 1537) : wpX_seed (fun r => wpY_seed (fun r' => r' = r ∧ i_Rel (k + 3) u v) v) u := by
  obtain ⟨n, h, S, V, z, ct, so, al, ab, od, tr, K, hod, rfl, rfl⟩ := I
  have R := fw_rel (k + 3) K hod z ct so al ab tr
  unfold wpX_seed
  exact fx_leastSeed K (fy_seed K ⟨rfl, R⟩)
theorem i_vc_spare {k : Nat} {u : SX} {v : SY} (I : i_Rel k u v) (hk : k + 3 ≤ 1537) : wpX_spare (fun r u' => wpY_spare (fun r' v' => r' = r ∧ i_Rel (k + 3) u' v') v) u := by
  obtain ⟨n, h, S, V, z, ct, so, al, ab, od, tr, K, hod, rfl, rfl⟩ := I
  exact fx_spare K z ct ab (fun z ct ab => fy_spare K hod (fun so al => ⟨rfl, fw_rel _ K hod z ct so al ab tr⟩))
theorem i_vc_useful {k : Nat} {u : SX} {v : SY} (I : i_Rel k u v) (hk : k + 3 ≤ 1537) : wpX_useful (fun r u' => wpY_useful (fun r' v' => r' = r ∧ i_Rel (k + 3) u' v') v) u := by
  obtain ⟨n, h, S, V, z, ct, so, al, ab, od, tr, K, hod, rfl, rfl⟩ := I
  unfold wpX_useful
  refine fx_knownWithout K (-1) z ct ab (fun B z con ab hB I => ?_)
  have w := gf_cs_con K.2.1 I
  have y := gf_yk_kn K.2.1 I
  refine fx_cb1 (fun e => ?_) (fun e => ?_)
  · subst e
    exact fy_useful K hod (fun _ so al => ⟨rfl, fw_rel _ K hod _ _ so al ab tr⟩) (fun q => absurd (w.symm.trans q) (by decide))
  · subst e
    rw [if_neg Bool.false_ne_true] at y
    rw [y]
    refine ⟨10001, fx_us17 K.1 K.2.1 I hB (fun x hx => ?_) 10000 0 (by omega) (fun s h1 => absurd h1 (Nat.not_lt_zero s))⟩
    refine fy_useful K hod (fun q => absurd (w.symm.trans q) (by decide)) (fun _ x' so al tr hx' => ⟨?_, fw_rel _ K hod _ _ so al ab tr⟩)
    have e : (fun r => gf_hl (fx_R S V) (fx_in (-1)) h n (fz_so n r)) = (fun r => gf_rv B n (fz_so n r)) := funext (fun r => gf_help K.2.1 I (fz_so_lt K.1 r))
    rw [e] at hx'
    exact fx_Ans_1 hx hx'
end

/-! what the brute force over all assignments finds, and that the elimination finds the same -/
def gf_al (Q : Nat → Bool) : Nat → Bool
  | 0 => true
  | k + 1 => (gf_al Q k && Q k)
theorem gf_al_iff {Q : Nat → Bool} {k : Nat} : gf_al Q k = true ↔ ∀ i, i < k → Q i = true := by
  induction k with
  | zero => exact ⟨fun _ i hi => absurd hi (Nat.not_lt_zero i), fun _ => rfl⟩
  | succ k ih =>
    show (gf_al Q k && Q k) = true ↔ _
    rw [Bool.and_eq_true, ih]
    constructor
    · intro h i hi
      by_cases e : i = k
      · rw [e]; exact h.2
      · exact h.1 i (by omega)
    · intro h
      exact ⟨fun i hi => h i (by omega), h k (by omega)⟩
theorem gf_al_no {Q : Nat → Bool} {k i : Nat} (hi : i < k) (h : Q i = false) : gf_al Q k = false := by
  cases z : gf_al Q k
  · rfl
  · rw [gf_al_iff.mp z i hi] at h
    exact absurd h (by decide)
def gf_ok (R : Nat → Nat) (inn : Nat → Bool) (j a i : Nat) : Bool := (!(inn i) || !(gf_ph a j (R i)))
def gf_sv (R : Nat → Nat) (inn : Nat → Bool) (m j a : Nat) : Bool := gf_al (gf_ok R inn j a) m
theorem gf_sv_iff {R : Nat → Nat} {inn : Nat → Bool} {m j a : Nat} : gf_sv R inn m j a = true ↔ gf_Hold R inn m j a := by
  unfold gf_sv
  rw [gf_al_iff]
  constructor
  · intro h i hi hin
    have w := h i hi
    unfold gf_ok at w
    rw [hin] at w
    revert w
    cases gf_ph a j (R i) <;> simp
  · intro h i hi
    unfold gf_ok
    cases z : inn i
    · rfl
    · rw [h i hi z]; rfl
def gf_ex (P : Nat → Bool) : Nat → Bool
  | 0 => false
  | k + 1 => (gf_ex P k || P k)
theorem gf_ex_iff {P : Nat → Bool} {k : Nat} : gf_ex P k = true ↔ ∃ a, a < k ∧ P a = true := by
  induction k with
  | zero => exact ⟨fun h => absurd (show false = true from h) (by decide), fun ⟨a, h, _⟩ => absurd h (Nat.not_lt_zero a)⟩
  | succ k ih =>
    show (gf_ex P k || P k) = true ↔ _
    rw [Bool.or_eq_true, ih]
    constructor
    · rintro (⟨a, h, p⟩ | p)
      · exact ⟨a, by omega, p⟩
      · exact ⟨k, by omega, p⟩
    · rintro ⟨a, h, p⟩
      by_cases e : a = k
      · subst e
        exact Or.inr p
      · exact Or.inl ⟨a, by omega, p⟩
theorem gf_ex_no {P : Nat → Bool} {k : Nat} (h : ∀ a, a < k → P a = false) : gf_ex P k = false := by
  cases z : gf_ex P k
  · rfl
  · obtain ⟨a, ha, p⟩ := gf_ex_iff.mp z
    rw [h a ha] at p
    exact absurd p (by decide)
theorem gf_ex_congr {P Q : Nat → Bool} {k : Nat} (h : ∀ a, a < k → P a = Q a) : gf_ex P k = gf_ex Q k := by
  induction k with
  | zero => rfl
  | succ k ih =>
    show (gf_ex P k || P k) = (gf_ex Q k || Q k)
    rw [ih (fun a ha => h a (by omega)), h k (by omega)]
def gf_or (P : Nat → Bool) : Nat → Nat
  | 0 => 0
  | k + 1 => if P k = true then gf_or P k ||| k else gf_or P k
def gf_an (P : Nat → Bool) (m : Nat) : Nat → Nat
  | 0 => m
  | k + 1 => if P k = true then gf_an P m k &&& k else gf_an P m k
theorem gf_or_s (P : Nat → Bool) (k : Nat) : gf_or P (k + 1) = if P k = true then gf_or P k ||| k else gf_or P k := rfl
theorem gf_an_s (P : Nat → Bool) (m k : Nat) : gf_an P m (k + 1) = if P k = true then gf_an P m k &&& k else gf_an P m k := rfl
theorem gf_or_lt {P : Nat → Bool} {n : Nat} : ∀ k, k ≤ 2 ^ n → gf_or P k < 2 ^ n := by
  intro k
  induction k with
  | zero => intro _; exact Nat.two_pow_pos n
  | succ k ih =>
    intro h
    rw [gf_or_s]
    split
    · exact Nat.or_lt_two_pow (ih (by omega)) (by omega)
    · exact ih (by omega)
theorem gf_an_lt {P : Nat → Bool} {m n : Nat} (hm : m < 2 ^ n) : ∀ k, gf_an P m k < 2 ^ n := by
  intro k
  induction k with
  | zero => exact hm
  | succ k ih =>
    rw [gf_an_s]
    split
    · exact Nat.lt_of_le_of_lt Nat.and_le_left ih
    · exact ih
theorem gf_or_bit {P : Nat → Bool} {b : Nat} : ∀ k, (gf_or P k).testBit b = true ↔ ∃ a, a < k ∧ P a = true ∧ a.testBit b = true := by
  intro k
  induction k with
  | zero =>
    show (0 : Nat).testBit b = true ↔ _
    rw [Nat.zero_testBit]
    exact ⟨fun h => absurd h (by decide), fun ⟨a, h, _⟩ => absurd h (Nat.not_lt_zero a)⟩
  | succ k ih =>
    rw [gf_or_s]
    by_cases hp : P k = true
    · rw [if_pos hp, Nat.testBit_or, Bool.or_eq_true, ih]
      constructor
      · rintro (⟨a, h, p⟩ | p)
        · exact ⟨a, by omega, p⟩
        · exact ⟨k, by omega, hp, p⟩
      · rintro ⟨a, h, p⟩
        by_cases e : a = k
        · subst e
          exact Or.inr p.2
        · exact Or.inl ⟨a, by omega, p⟩
    · rw [if_neg hp, ih]
      constructor
      · rintro ⟨a, h, p⟩
        exact ⟨a, by omega, p⟩
      · rintro ⟨a, h, p⟩
        by_cases e : a = k
        · subst e
          exact absurd p.1 hp
        · exact ⟨a, by omega, p⟩
theorem gf_an_bit {P : Nat → Bool} {m b : Nat} : ∀ k, (gf_an P m k).testBit b = true ↔ (m.testBit b = true ∧ ∀ a, a < k → P a = true → a.testBit b = true) := by
  intro k
  induction k with
  | zero => exact ⟨fun h => ⟨h, fun a h => absurd h (Nat.not_lt_zero a)⟩, fun h => h.1⟩
  | succ k ih =>
    rw [gf_an_s]
    by_cases hp : P k = true
    · rw [if_pos hp, Nat.testBit_and, Bool.and_eq_true, ih]
      constructor
      · rintro ⟨⟨h1, h2⟩, h3⟩
        refine ⟨h1, fun a ha pa => ?_⟩
        by_cases e : a = k
        · rw [e]; exact h3
        · exact h2 a (by omega) pa
      · rintro ⟨h1, h2⟩
        exact ⟨⟨h1, fun a ha pa => h2 a (by omega) pa⟩, h2 k (by omega) hp⟩
    · rw [if_neg hp, ih]
      constructor
      · rintro ⟨h1, h2⟩
        refine ⟨h1, fun a ha pa => ?_⟩
        by_cases e : a = k
        · subst e
          exact absurd pa hp
        · exact h2 a (by omega) pa
      · rintro ⟨h1, h2⟩
        exact ⟨h1, fun a ha pa => h2 a (by omega) pa⟩
def gf_D (P : Nat → Bool) (n : Nat) : Nat := gf_or P (2 ^ n) ^^^ gf_an P (2 ^ n - 1) (2 ^ n)
theorem gf_D_lt (P : Nat → Bool) (n : Nat) : gf_D P n < 2 ^ n := Nat.xor_lt_two_pow (gf_or_lt _ (Nat.le_refl _)) (gf_an_lt (by have := Nat.two_pow_pos n; omega) _)
theorem gf_D_bit {P : Nat → Bool} {n : Nat} (hex : gf_ex P (2 ^ n) = true) {b : Nat} (hb : b < n) : (gf_D P n).testBit b = false ↔ ∀ a a', a < 2 ^ n → P a = true → a' < 2 ^ n → P a' = true → a.testBit b = a'.testBit b := by
  have h1 := @gf_or_bit P b (2 ^ n)
  have h2 := @gf_an_bit P (2 ^ n - 1) b (2 ^ n)
  have hm : (2 ^ n - 1).testBit b = true := by rw [Nat.testBit_two_pow_sub_one]; exact decide_eq_true hb
  unfold gf_D
  rw [Nat.testBit_xor]
  constructor
  · intro h a a' ha pa ha' pa'
    have key : ∀ x y, x < 2 ^ n → P x = true → y < 2 ^ n → P y = true → x.testBit b = true → y.testBit b = true := by
      intro x y hx px hy py ex
      have w1 := h1.mpr ⟨x, hx, px, ex⟩
      rw [w1] at h
      have w2 : (gf_an P (2 ^ n - 1) (2 ^ n)).testBit b = true := by
        revert h
        cases (gf_an P (2 ^ n - 1) (2 ^ n)).testBit b <;> simp
      exact (h2.mp w2).2 y hy py
    rw [Bool.eq_iff_iff]
    exact ⟨key a a' ha pa ha' pa', key a' a ha' pa' ha pa⟩
  · intro h
    obtain ⟨a0, l0, p0⟩ := gf_ex_iff.mp hex
    cases z : a0.testBit b
    · have w1 : (gf_or P (2 ^ n)).testBit b = false := by
        cases y : (gf_or P (2 ^ n)).testBit b
        · rfl
        · obtain ⟨a, ha, pa, ea⟩ := h1.mp y
          rw [h a a0 ha pa l0 p0, z] at ea
          exact absurd ea (by decide)
      have w2 : (gf_an P (2 ^ n - 1) (2 ^ n)).testBit b = false := by
        cases y : (gf_an P (2 ^ n - 1) (2 ^ n)).testBit b
        · rfl
        · have ea := (h2.mp y).2 a0 l0 p0
          rw [z] at ea
          exact absurd ea (by decide)
      rw [w1, w2]; rfl
    · have w1 := h1.mpr ⟨a0, l0, p0, z⟩
      have w2 := h2.mpr ⟨hm, fun a ha pa => by rw [h a a0 ha pa l0 p0]; exact z⟩
      rw [w1, w2]; rfl
theorem gf_comp {x n : Nat} (h : x < 2 ^ n) (b : Nat) : (2 ^ n - 1 - x).testBit b = (decide (b < n) && !x.testBit b) := by
  have e : 2 ^ n - 1 - x = 2 ^ n - (x + 1) := by omega
  rw [e]
  exact Nat.testBit_two_pow_sub_succ h b
def gf_mk (P : Nat → Bool) : Nat → Nat
  | 0 => 0
  | k + 1 => if P k = true then gf_mk P k ||| 2 ^ k else gf_mk P k
theorem gf_mk_s (P : Nat → Bool) (k : Nat) : gf_mk P (k + 1) = if P k = true then gf_mk P k ||| 2 ^ k else gf_mk P k := rfl
theorem gf_mk_bit {P : Nat → Bool} {b : Nat} : ∀ k, (gf_mk P k).testBit b = (decide (b < k) && P b) := by
  intro k
  induction k with
  | zero =>
    show (0 : Nat).testBit b = _
    rw [Nat.zero_testBit, decide_eq_false (Nat.not_lt_zero b)]
    rfl
  | succ k ih =>
    rw [gf_mk_s]
    by_cases hp : P k = true
    · rw [if_pos hp, Nat.testBit_or, ih, Nat.testBit_two_pow]
      by_cases e : b = k
      · subst e
        rw [hp]; simp
      · have e' : ¬ k = b := fun z => e z.symm
        by_cases l : b < k
        · simp [l, e', show b < k + 1 by omega]
        · simp [l, e', show ¬ b < k + 1 by omega]
    · rw [if_neg hp, ih]
      by_cases e : b = k
      · subst e
        have hp' : P b = false := Bool.eq_false_iff.mpr hp
        rw [hp']; simp
      · by_cases l : b < k
        · simp [l, show b < k + 1 by omega]
        · simp [l, show ¬ b < k + 1 by omega]
theorem gf_mk_lt (P : Nat → Bool) (k : Nat) : gf_mk P k < 2 ^ k := by
  apply Nat.lt_pow_two_of_testBit
  intro i hi
  rw [gf_mk_bit, decide_eq_false (by omega)]
  rfl
/-! the elimination's answers -/
def gf_spn (B : Nat → Nat) (t : Nat) : Bool := decide (gf_red B 8 (t * 256) < 256)
def gf_kn (B : Nat → Nat) (n : Nat) : Nat := gf_mk (fun b => gf_spn B (2 ^ b)) n
def gf_rv (B : Nat → Nat) (n s : Nat) : Bool := gf_ex (fun b => (!(gf_spn B (2 ^ b)) && gf_spn B (s ^^^ 2 ^ b))) n
theorem gf_t256 {t n : Nat} (h : t < 2 ^ n) : t * 256 < 2 ^ (8 + n) := by
  rw [Nat.pow_add]
  show t * 256 < 256 * 2 ^ n
  omega
theorem gf_t_div (t : Nat) : t * 256 / 256 = t := Nat.mul_div_cancel t (by decide)
theorem gf_t_bit {t j : Nat} (hj : j < 8) : (t * 256).testBit j = false := by
  have h := gf_row_bit (s := t) (v := 0) (by decide) hj
  rw [Nat.zero_testBit] at h
  exact h
theorem gf_f_sol {n : Nat} {R : Nat → Nat} {inn : Nat → Bool} {m : Nat} {B : Nat → Nat} {z : Nat} (I : gf_Inv n R inn m B z false) {j : Nat} (hj : j < 8) (a : Nat) : gf_sv R inn m j a = true ↔ gf_Sol B j a := by
  rw [gf_sv_iff]
  exact ⟨I.2.2.1 a j, I.2.2.2.1 rfl a j hj⟩
theorem gf_f_no {n : Nat} {R : Nat → Nat} {inn : Nat → Bool} {m : Nat} {B : Nat → Nat} {z : Nat} (I : gf_Inv n R inn m B z true) : ∃ j, j < 8 ∧ gf_ex (gf_sv R inn m j) (2 ^ n) = false := by
  obtain ⟨j, hj, h⟩ := I.2.2.2.2.1 rfl
  refine ⟨j, hj, gf_ex_no (fun a _ => ?_)⟩
  cases w : gf_sv R inn m j a
  · rfl
  · exact absurd (gf_sv_iff.mp w) (h a)
theorem gf_f_ex {n : Nat} {R : Nat → Nat} {inn : Nat → Bool} {m : Nat} {B : Nat → Nat} {z : Nat} (hn : n ≤ 8) (I : gf_Inv n R inn m B z false) {j : Nat} (hj : j < 8) : gf_ex (gf_sv R inn m j) (2 ^ n) = true := by
  obtain ⟨a, ha, hs⟩ := gf_solv I.2.1 hn I.1 j
  exact gf_ex_iff.mpr ⟨a, ha, (gf_f_sol I hj a).mpr hs⟩
theorem gf_f_fix {n : Nat} {R : Nat → Nat} {inn : Nat → Bool} {m : Nat} {B : Nat → Nat} {z : Nat} (I : gf_Inv n R inn m B z false) {t j a : Nat} (hj : j < 8) (hs : gf_spn B t = true) (ha : gf_sv R inn m j a = true) : gf_par (a &&& t) = (gf_red B 8 (t * 256)).testBit j := by
  have w := gf_fix (of_decide_eq_true hs) ((gf_f_sol I hj a).mp ha)
  rw [gf_t_div, gf_t_bit hj, Bool.xor_false] at w
  exact w
theorem gf_f_free {n : Nat} {R : Nat → Nat} {inn : Nat → Bool} {m : Nat} {B : Nat → Nat} {z : Nat} (hn : n ≤ 8) (I : gf_Inv n R inn m B z false) {t j : Nat} (ht : t < 2 ^ n) (hj : j < 8) (hs : gf_spn B t = false) (c : Bool) : ∃ a, a < 2 ^ n ∧ gf_sv R inn m j a = true ∧ gf_par (a &&& t) = c := by
  obtain ⟨a, ha, h, e⟩ := gf_free I.2.1 hn I.1 (gf_t256 ht) (of_decide_eq_false hs) hj c
  rw [gf_t_div] at e
  exact ⟨a, ha, (gf_f_sol I hj a).mpr h, e⟩
theorem gf_f_D {n : Nat} {R : Nat → Nat} {inn : Nat → Bool} {m : Nat} {B : Nat → Nat} {z : Nat} (hn : n ≤ 8) (I : gf_Inv n R inn m B z false) {j : Nat} (hj : j < 8) : gf_D (gf_sv R inn m j) n = gf_mk (fun b => !(gf_spn B (2 ^ b))) n := by
  apply Nat.eq_of_testBit_eq
  intro b
  rw [gf_mk_bit]
  by_cases hb : b < n
  · rw [decide_eq_true hb, Bool.true_and]
    have hD := gf_D_bit (gf_f_ex hn I hj) hb
    have hb2 : 2 ^ b < 2 ^ n := Nat.pow_lt_pow_right (by decide) hb
    cases w : gf_spn B (2 ^ b)
    · cases y : (gf_D (gf_sv R inn m j) n).testBit b
      · exfalso
        obtain ⟨a, ha, pa, ea⟩ := gf_f_free hn I hb2 hj w false
        obtain ⟨a', ha', pa', ea'⟩ := gf_f_free hn I hb2 hj w true
        have q := hD.mp y a a' ha pa ha' pa'
        rw [gf_par_bit' (by omega)] at ea ea'
        rw [ea, ea'] at q
        exact absurd q (by decide)
      · rfl
    · refine hD.mpr (fun a a' _ pa _ pa' => ?_)
      have e1 := gf_f_fix I hj w pa
      have e2 := gf_f_fix I hj w pa'
      rw [gf_par_bit' (by omega)] at e1 e2
      rw [e1, e2]
  · rw [decide_eq_false hb, Bool.false_and]
    have h1 := gf_D_lt (gf_sv R inn m j) n
    have h2 : 2 ^ n ≤ 2 ^ b := Nat.pow_le_pow_right (by decide) (by omega)
    exact Nat.testBit_lt_two_pow (by omega)
/-! known -/
def gf_op (R : Nat → Nat) (inn : Nat → Bool) (m n : Nat) : Nat → Nat
  | 0 => 0
  | k + 1 => gf_op R inn m n k ||| gf_D (gf_sv R inn m k) n
def gf_cs (R : Nat → Nat) (inn : Nat → Bool) (m n : Nat) : Bool := gf_al (fun j => gf_ex (gf_sv R inn m j) (2 ^ n)) 8
def gf_yk (R : Nat → Nat) (inn : Nat → Bool) (m n : Nat) : Nat := if gf_cs R inn m n = true then 2 ^ n - 1 - gf_op R inn m n 8 else 0
theorem gf_op_lt (R : Nat → Nat) (inn : Nat → Bool) (m n : Nat) : ∀ k, gf_op R inn m n k < 2 ^ n := by
  intro k
  induction k with
  | zero => exact Nat.two_pow_pos n
  | succ k ih => exact Nat.or_lt_two_pow ih (gf_D_lt _ n)
theorem gf_yk_lt (R : Nat → Nat) (inn : Nat → Bool) (m n : Nat) : gf_yk R inn m n < 2 ^ n := by
  have h := Nat.two_pow_pos n
  unfold gf_yk
  split <;> omega
theorem gf_cs_con {n : Nat} {R : Nat → Nat} {inn : Nat → Bool} {m : Nat} {B : Nat → Nat} {z : Nat} {con : Bool} (hn : n ≤ 8) (I : gf_Inv n R inn m B z con) : gf_cs R inn m n = !con := by
  cases con
  · exact gf_al_iff.mpr (fun j hj => gf_f_ex hn I hj)
  · obtain ⟨j, hj, h⟩ := gf_f_no I
    exact gf_al_no (Q := fun j => gf_ex (gf_sv R inn m j) (2 ^ n)) hj h
theorem gf_op_M {n : Nat} {R : Nat → Nat} {inn : Nat → Bool} {m : Nat} {B : Nat → Nat} {z : Nat} (hn : n ≤ 8) (I : gf_Inv n R inn m B z false) : ∀ k, k < 8 → gf_op R inn m n (k + 1) = gf_mk (fun b => !(gf_spn B (2 ^ b))) n := by
  intro k
  induction k with
  | zero =>
    intro _
    show 0 ||| gf_D (gf_sv R inn m 0) n = _
    rw [Nat.zero_or]
    exact gf_f_D hn I (by omega)
  | succ k ih =>
    intro hk
    show gf_op R inn m n (k + 1) ||| gf_D (gf_sv R inn m (k + 1)) n = _
    rw [ih (by omega), gf_f_D hn I hk, Nat.or_self]
theorem gf_yk_kn {n : Nat} {R : Nat → Nat} {inn : Nat → Bool} {m : Nat} {B : Nat → Nat} {z : Nat} {con : Bool} (hn : n ≤ 8) (I : gf_Inv n R inn m B z con) : gf_yk R inn m n = if con = true then 0 else gf_kn B n := by
  unfold gf_yk
  rw [gf_cs_con hn I]
  cases con
  · show 2 ^ n - 1 - gf_op R inn m n 8 = gf_kn B n
    have e : gf_op R inn m n 8 = gf_mk (fun b => !(gf_spn B (2 ^ b))) n := gf_op_M hn I 7 (by omega)
    rw [e]
    apply Nat.eq_of_testBit_eq
    intro b
    unfold gf_kn
    rw [gf_comp (gf_mk_lt _ n), gf_mk_bit, gf_mk_bit]
    cases decide (b < n) <;> cases gf_spn B (2 ^ b) <;> rfl
  · rfl
/-! sumOf -/
def gf_kd (P : Nat → Bool) (s : Nat) : Nat → Nat
  | 0 => 0
  | k + 1 => if P k = true then gf_kd P s k ||| (if gf_par (k &&& s) = true then 2 else 1) else gf_kd P s k
theorem gf_kd_s (P : Nat → Bool) (s k : Nat) : gf_kd P s (k + 1) = if P k = true then gf_kd P s k ||| (if gf_par (k &&& s) = true then 2 else 1) else gf_kd P s k := rfl
theorem gf_kd_eq (P : Nat → Bool) (s : Nat) : ∀ k, gf_kd P s k = (if gf_ex (fun a => (P a && !(gf_par (a &&& s)))) k = true then 1 else 0) + (if gf_ex (fun a => (P a && gf_par (a &&& s))) k = true then 2 else 0) := by
  intro k
  induction k with
  | zero => rfl
  | succ k ih =>
    rw [gf_kd_s, ih]
    show _ = (if (gf_ex (fun a => (P a && !(gf_par (a &&& s)))) k || (P k && !(gf_par (k &&& s)))) = true then 1 else 0) + (if (gf_ex (fun a => (P a && gf_par (a &&& s))) k || (P k && gf_par (k &&& s))) = true then 2 else 0)
    generalize gf_ex (fun a => (P a && !(gf_par (a &&& s)))) k = e1
    generalize gf_ex (fun a => (P a && gf_par (a &&& s))) k = e2
    generalize P k = e3
    generalize gf_par (k &&& s) = e4
    revert e1 e2 e3 e4
    decide
theorem gf_kd_le (P : Nat → Bool) (s k : Nat) : gf_kd P s k ≤ 3 := by
  rw [gf_kd_eq]
  split <;> split <;> omega
theorem gf_kd_no {n : Nat} {R : Nat → Nat} {inn : Nat → Bool} {m : Nat} {B : Nat → Nat} {z : Nat} (I : gf_Inv n R inn m B z true) (s : Nat) : ∃ j, j < 8 ∧ gf_kd (gf_sv R inn m j) s (2 ^ n) = 0 := by
  obtain ⟨j, hj, h⟩ := gf_f_no I
  refine ⟨j, hj, ?_⟩
  have hP : ∀ a, a < 2 ^ n → gf_sv R inn m j a = false := by
    intro a ha
    cases w : gf_sv R inn m j a
    · rfl
    · rw [gf_ex_iff.mpr ⟨a, ha, w⟩] at h
      exact absurd h (by decide)
  rw [gf_kd_eq, gf_ex_no (fun a ha => by rw [hP a ha]; rfl), gf_ex_no (fun a ha => by rw [hP a ha]; rfl)]
  rfl
theorem gf_kd_free {n : Nat} {R : Nat → Nat} {inn : Nat → Bool} {m : Nat} {B : Nat → Nat} {z : Nat} (hn : n ≤ 8) (I : gf_Inv n R inn m B z false) {s : Nat} (hs : s < 2 ^ n) (h : gf_spn B s = false) : gf_kd (gf_sv R inn m 0) s (2 ^ n) = 3 := by
  obtain ⟨a, ha, pa, ea⟩ := gf_f_free hn I hs (j := 0) (by omega) h false
  obtain ⟨a', ha', pa', ea'⟩ := gf_f_free hn I hs (j := 0) (by omega) h true
  have e1 : gf_ex (fun a => (gf_sv R inn m 0 a && !(gf_par (a &&& s)))) (2 ^ n) = true := gf_ex_iff.mpr ⟨a, ha, by show (gf_sv R inn m 0 a && !(gf_par (a &&& s))) = true; rw [pa, ea]; rfl⟩
  have e2 : gf_ex (fun a => (gf_sv R inn m 0 a && gf_par (a &&& s))) (2 ^ n) = true := gf_ex_iff.mpr ⟨a', ha', by show (gf_sv R inn m 0 a' && gf_par (a' &&& s)) = true; rw [pa', ea']; rfl⟩
  rw [gf_kd_eq, e1, e2]
  rfl
theorem gf_kd_fix {n : Nat} {R : Nat → Nat} {inn : Nat → Bool} {m : Nat} {B : Nat → Nat} {z : Nat} (hn : n ≤ 8) (I : gf_Inv n R inn m B z false) {s j : Nat} (hj : j < 8) (h : gf_spn B s = true) : gf_kd (gf_sv R inn m j) s (2 ^ n) = if (gf_red B 8 (s * 256)).testBit j = true then 2 else 1 := by
  obtain ⟨a0, h0, p0⟩ := gf_ex_iff.mp (gf_f_ex hn I hj)
  have hf : ∀ a, gf_sv R inn m j a = true → gf_par (a &&& s) = (gf_red B 8 (s * 256)).testBit j := fun a pa => gf_f_fix I hj h pa
  rw [gf_kd_eq]
  cases v : (gf_red B 8 (s * 256)).testBit j
  · rw [v] at hf
    have e1 : gf_ex (fun a => (gf_sv R inn m j a && !(gf_par (a &&& s)))) (2 ^ n) = true := gf_ex_iff.mpr ⟨a0, h0, by show (gf_sv R inn m j a0 && !(gf_par (a0 &&& s))) = true; rw [p0, hf a0 p0]; rfl⟩
    have e2 : gf_ex (fun a => (gf_sv R inn m j a && gf_par (a &&& s))) (2 ^ n) = false := gf_ex_no (fun a _ => by
      cases w : gf_sv R inn m j a
      · rfl
      · rw [hf a w]; rfl)
    rw [e1, e2]
    rfl
  · rw [v] at hf
    have e1 : gf_ex (fun a => (gf_sv R inn m j a && !(gf_par (a &&& s)))) (2 ^ n) = false := gf_ex_no (fun a _ => by
      cases w : gf_sv R inn m j a
      · rfl
      · rw [hf a w]; rfl)
    have e2 : gf_ex (fun a => (gf_sv R inn m j a && gf_par (a &&& s))) (2 ^ n) = true := gf_ex_iff.mpr ⟨a0, h0, by show (gf_sv R inn m j a0 && gf_par (a0 &&& s)) = true; rw [p0, hf a0 p0]; rfl⟩
    rw [e1, e2]
    rfl
/-! useful -/
def gf_hP (R : Nat → Nat) (inn : Nat → Bool) (m s a : Nat) : Bool := (!(gf_par (a &&& s)) && gf_sv R inn m 0 a)
def gf_hl (R : Nat → Nat) (inn : Nat → Bool) (m n s : Nat) : Bool := (gf_ex (gf_hP R inn m s) (2 ^ n) && decide (2 ^ n - 1 - gf_D (gf_hP R inn m s) n ≠ gf_yk R inn m n))
theorem gf_spn_con {n : Nat} {R : Nat → Nat} {inn : Nat → Bool} {m : Nat} {B : Nat → Nat} {z : Nat} (hn : n ≤ 8) (I : gf_Inv n R inn m B z false) {t : Nat} (ht : t < 2 ^ n) : gf_spn B t = true ↔ gf_Con (gf_Q B n 0) t := by
  have h := gf_con_red (j := 0) I.2.1 hn I.1 (gf_t256 ht) (by omega)
  rw [gf_t_div] at h
  unfold gf_spn
  rw [decide_eq_true_iff]
  exact h
theorem gf_help {n : Nat} {R : Nat → Nat} {inn : Nat → Bool} {m : Nat} {B : Nat → Nat} {z : Nat} (hn : n ≤ 8) (I : gf_Inv n R inn m B z false) {s : Nat} (hs : s < 2 ^ n) : gf_hl R inn m n s = gf_rv B n s := by
  have hP : ∀ a, a < 2 ^ n → (gf_hP R inn m s a = true ↔ (gf_Q B n 0 a ∧ gf_par (a &&& s) = false)) := by
    intro a ha
    unfold gf_hP
    rw [Bool.and_eq_true, gf_f_sol I (by omega) a, Bool.not_eq_true']
    exact ⟨fun h => ⟨⟨ha, h.2⟩, h.1⟩, fun h => ⟨h.2, h.1.2⟩⟩
  have hyk : gf_yk R inn m n = gf_kn B n := by
    have h := gf_yk_kn hn I
    rw [if_neg Bool.false_ne_true] at h
    exact h
  have hkn : ∀ b, b < n → ((gf_kn B n).testBit b = true ↔ gf_Con (gf_Q B n 0) (2 ^ b)) := by
    intro b hb
    unfold gf_kn
    rw [gf_mk_bit, decide_eq_true hb, Bool.true_and]
    exact gf_spn_con hn I (Nat.pow_lt_pow_right (by decide) hb)
  have hnow : gf_ex (gf_hP R inn m s) (2 ^ n) = true → ∀ b, b < n → ((2 ^ n - 1 - gf_D (gf_hP R inn m s) n).testBit b = true ↔ gf_Con (fun a => gf_Q B n 0 a ∧ gf_par (a &&& s) = false) (2 ^ b)) := by
    intro hex b hb
    rw [gf_comp (gf_D_lt _ n), decide_eq_true hb, Bool.true_and, Bool.not_eq_true', gf_D_bit hex hb]
    constructor
    · intro h a a' ha ha'
      rw [gf_par_bit' (by omega), gf_par_bit' (by omega)]
      exact h a a' ha.1.1 ((hP a ha.1.1).mpr ha) ha'.1.1 ((hP a' ha'.1.1).mpr ha')
    · intro h a a' ha pa ha' pa'
      have w := h a a' ((hP a ha).mp pa) ((hP a' ha').mp pa')
      rw [gf_par_bit' (by omega), gf_par_bit' (by omega)] at w
      exact w
  have hfree : gf_spn B s = false → ∀ d : Bool, ∃ a, gf_Q B n 0 a ∧ gf_par (a &&& s) = d := by
    intro h d
    obtain ⟨a, ha, pa, ea⟩ := gf_f_free hn I hs (j := 0) (by omega) h d
    exact ⟨a, ⟨ha, (gf_f_sol I (by omega) a).mp pa⟩, ea⟩
  have hsx : ∀ b, b < n → (gf_spn B (s ^^^ 2 ^ b) = true ↔ gf_Con (gf_Q B n 0) (2 ^ b ^^^ s)) := by
    intro b hb
    rw [Nat.xor_comm (2 ^ b) s]
    exact gf_spn_con hn I (Nat.xor_lt_two_pow hs (Nat.pow_lt_pow_right (by decide) hb))
  have hsb : ∀ b, b < n → (gf_spn B (2 ^ b) = true ↔ gf_Con (gf_Q B n 0) (2 ^ b)) := fun b hb => gf_spn_con hn I (Nat.pow_lt_pow_right (by decide) hb)
  rw [Bool.eq_iff_iff]
  unfold gf_hl gf_rv
  rw [Bool.and_eq_true, decide_eq_true_iff, hyk, gf_ex_iff (k := n)]
  constructor
  · rintro ⟨hex, hne⟩
    have hlt : 2 ^ n - 1 - gf_D (gf_hP R inn m s) n < 2 ^ n := by
      have := Nat.two_pow_pos n
      omega
    obtain ⟨b, hb⟩ := Nat.exists_testBit_ne_of_ne hne
    have hbn : b < n := by
      by_cases q : b < n
      · exact q
      · exfalso
        have h2 : 2 ^ n ≤ 2 ^ b := Nat.pow_le_pow_right (by decide) (by omega)
        have h3 : gf_kn B n < 2 ^ n := gf_mk_lt _ n
        rw [Nat.testBit_lt_two_pow (show 2 ^ n - 1 - gf_D (gf_hP R inn m s) n < 2 ^ b by omega), Nat.testBit_lt_two_pow (show gf_kn B n < 2 ^ b by omega)] at hb
        exact hb rfl
    have k1 := hkn b hbn
    have k2 := hnow hex b hbn
    have nc : ¬ gf_Con (gf_Q B n 0) (2 ^ b) := by
      intro hc
      have w1 := k1.mpr hc
      have w2 := k2.mpr (fun a a' ha ha' => hc a a' ha.1 ha'.1)
      rw [w1, w2] at hb
      exact hb rfl
    have rc : gf_Con (fun a => gf_Q B n 0 a ∧ gf_par (a &&& s) = false) (2 ^ b) := by
      apply k2.mp
      cases w : (2 ^ n - 1 - gf_D (gf_hP R inn m s) n).testBit b
      · exfalso
        cases w2 : (gf_kn B n).testBit b
        · rw [w, w2] at hb
          exact hb rfl
        · exact nc (k1.mp w2)
      · rfl
    refine ⟨b, hbn, ?_⟩
    have f1 : gf_spn B (2 ^ b) = false := by
      cases w : gf_spn B (2 ^ b)
      · rfl
      · exact absurd ((hsb b hbn).mp w) nc
    have f2 : gf_spn B s = false := by
      cases w : gf_spn B s
      · rfl
      · exfalso
        have cs := (gf_spn_con hn I hs).mp w
        obtain ⟨a0, l0, p0⟩ := gf_ex_iff.mp hex
        have q0 := (hP a0 l0).mp p0
        apply nc
        intro a a' ha ha'
        exact rc a a' ⟨ha, (cs a a0 ha q0.1).trans q0.2⟩ ⟨ha', (cs a' a0 ha' q0.1).trans q0.2⟩
    have f3 : gf_spn B (s ^^^ 2 ^ b) = true := by
      rcases (gf_aff gf_Q_3 (hfree f2)).mp rc with h | h
      · exact absurd h nc
      · exact (hsx b hbn).mpr h
    show (!(gf_spn B (2 ^ b)) && gf_spn B (s ^^^ 2 ^ b)) = true
    rw [f1, f3]
    rfl
  · rintro ⟨b, hbn, hb⟩
    have hb' : (!(gf_spn B (2 ^ b)) && gf_spn B (s ^^^ 2 ^ b)) = true := hb
    rw [Bool.and_eq_true, Bool.not_eq_true'] at hb'
    have nc : ¬ gf_Con (gf_Q B n 0) (2 ^ b) := by
      intro hc
      rw [(hsb b hbn).mpr hc] at hb'
      exact absurd hb'.1 (by decide)
    have cx := (hsx b hbn).mp hb'.2
    have f2 : gf_spn B s = false := by
      cases w : gf_spn B s
      · rfl
      · exact absurd (gf_con_x1 cx ((gf_spn_con hn I hs).mp w)) nc
    obtain ⟨a0, q0, e0⟩ := hfree f2 false
    have hex : gf_ex (gf_hP R inn m s) (2 ^ n) = true := gf_ex_iff.mpr ⟨a0, q0.1, (hP a0 q0.1).mpr ⟨q0, e0⟩⟩
    refine ⟨hex, fun e => nc ?_⟩
    apply (hkn b hbn).mp
    rw [← e]
    exact (hnow hex b hbn).mpr ((gf_aff gf_Q_3 (hfree f2)).mpr (Or.inr cx))

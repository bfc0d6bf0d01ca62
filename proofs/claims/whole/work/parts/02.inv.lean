/-! which sums are fixed by the solutions of a basis; affine sets; counting; the invariant of the elimination -/
def gf_Sol (B : Nat → Nat) (j a : Nat) : Prop := ∀ b, b < 8 → gf_ph a j (B b) = false
def gf_Q (B : Nat → Nat) (n j a : Nat) : Prop := a < 2 ^ n ∧ gf_Sol B j a
def gf_Con (Q : Nat → Prop) (t : Nat) : Prop := ∀ a a', Q a → Q a' → gf_par (a &&& t) = gf_par (a' &&& t)
theorem gf_Q_3 {B : Nat → Nat} {n j : Nat} (a b c : Nat) (ha : gf_Q B n j a) (hb : gf_Q B n j b) (hc : gf_Q B n j c) : gf_Q B n j (a ^^^ b ^^^ c) := by
  refine ⟨Nat.xor_lt_two_pow (Nat.xor_lt_two_pow ha.1 hb.1) hc.1, fun k hk => ?_⟩
  rw [gf_ph_3, ha.2 k hk, hb.2 k hk, hc.2 k hk]
  rfl
theorem gf_con_red {B : Nat → Nat} {n : Nat} (E : gf_Ech B) (hn : n ≤ 8) (hB : ∀ b, b < 8 → B b < 2 ^ (8 + n)) {r : Nat} (hr : r < 2 ^ (8 + n)) {j : Nat} (hj : j < 8) : gf_red B 8 r < 256 ↔ gf_Con (gf_Q B n j) (r / 256) := by
  constructor
  · intro h a a' ha ha'
    rw [gf_fix h ha.2, gf_fix h ha'.2]
  · intro h
    by_cases z : gf_red B 8 r < 256
    · exact z
    · obtain ⟨a, la, ha, ea⟩ := gf_free E hn hB hr z hj false
      obtain ⟨a', la', ha', ea'⟩ := gf_free E hn hB hr z hj true
      have w := h a a' ⟨la, ha⟩ ⟨la', ha'⟩
      rw [ea, ea'] at w
      exact absurd w (by decide)
theorem gf_par_t (a t x : Nat) : gf_par (a &&& (t ^^^ x)) = (gf_par (a &&& t) ^^ gf_par (a &&& x)) := by
  rw [Nat.and_xor_distrib_left, gf_par_xor]
theorem gf_con_x {Q : Nat → Prop} {t x : Nat} (h1 : gf_Con Q t) (h2 : gf_Con Q x) : gf_Con Q (t ^^^ x) := by
  intro a a' ha ha'
  rw [gf_par_t, gf_par_t, h1 a a' ha ha', h2 a a' ha ha']
theorem gf_xx (t x : Nat) : t ^^^ x ^^^ x = t := by rw [Nat.xor_assoc, Nat.xor_self, Nat.xor_zero]
theorem gf_con_x1 {Q : Nat → Prop} {t x : Nat} (h1 : gf_Con Q (t ^^^ x)) (h2 : gf_Con Q x) : gf_Con Q t := by
  have h := gf_con_x h1 h2
  rw [gf_xx] at h
  exact h
theorem gf_con_x2 {Q : Nat → Prop} {t x : Nat} (h1 : gf_Con Q (t ^^^ x)) (h2 : gf_Con Q t) : gf_Con Q x := by
  rw [Nat.xor_comm] at h1
  exact gf_con_x1 h1 h2
theorem gf_aff {Q : Nat → Prop} (h3 : ∀ a b c, Q a → Q b → Q c → Q (a ^^^ b ^^^ c)) {x t : Nat} {c : Bool} (hx : ∀ d : Bool, ∃ a, Q a ∧ gf_par (a &&& x) = d) : gf_Con (fun a => Q a ∧ gf_par (a &&& x) = c) t ↔ (gf_Con Q t ∨ gf_Con Q (t ^^^ x)) := by
  constructor
  · intro h
    obtain ⟨a0, q0, e0⟩ := hx c
    obtain ⟨a1, q1, e1⟩ := hx (!c)
    have hc : ∀ a, Q a → gf_par (a &&& x) = c → gf_par (a &&& t) = gf_par (a0 &&& t) := fun a qa ea => h a a0 ⟨qa, ea⟩ ⟨q0, e0⟩
    have hd : ∀ a, Q a → gf_par (a &&& x) = (!c) → gf_par (a &&& t) = gf_par (a1 &&& t) := by
      intro a qa ea
      have w := hc _ (h3 a a1 a0 qa q1 q0) (by rw [gf_par_3, ea, e1, e0]; cases c <;> rfl)
      rw [gf_par_3] at w
      revert w
      cases gf_par (a &&& t) <;> cases gf_par (a1 &&& t) <;> cases gf_par (a0 &&& t) <;> simp
    have tot : ∀ a, Q a → (gf_par (a &&& x) = c ∧ gf_par (a &&& t) = gf_par (a0 &&& t)) ∨ (gf_par (a &&& x) = (!c) ∧ gf_par (a &&& t) = gf_par (a1 &&& t)) := by
      intro a qa
      by_cases z : gf_par (a &&& x) = c
      · exact Or.inl ⟨z, hc a qa z⟩
      · have z' : gf_par (a &&& x) = (!c) := by
          revert z
          cases gf_par (a &&& x) <;> cases c <;> simp
        exact Or.inr ⟨z', hd a qa z'⟩
    by_cases e : gf_par (a0 &&& t) = gf_par (a1 &&& t)
    · left
      intro a a' qa qa'
      rcases tot a qa with ⟨_, u⟩ | ⟨_, u⟩ <;> rcases tot a' qa' with ⟨_, w⟩ | ⟨_, w⟩
      · exact u.trans w.symm
      · exact u.trans (e.trans w.symm)
      · exact u.trans (e.symm.trans w.symm)
      · exact u.trans w.symm
    · right
      intro a a' qa qa'
      rw [gf_par_t, gf_par_t]
      rcases tot a qa with u | u <;> rcases tot a' qa' with w | w <;> rw [u.1, u.2, w.1, w.2] <;> revert e <;> cases gf_par (a0 &&& t) <;> cases gf_par (a1 &&& t) <;> cases c <;> simp
  · intro h a a' ha ha'
    rcases h with h | h
    · exact h a a' ha.1 ha'.1
    · have w := h a a' ha.1 ha'.1
      rw [gf_par_t, gf_par_t, ha.2, ha'.2] at w
      revert w
      cases gf_par (a &&& t) <;> cases gf_par (a' &&& t) <;> cases c <;> simp
/-! counting -/
def gf_ct (P : Nat → Bool) : Nat → Nat
  | 0 => 0
  | k + 1 => gf_ct P k + (if P k = true then 1 else 0)
theorem gf_ct_s (P : Nat → Bool) (k : Nat) : gf_ct P (k + 1) = gf_ct P k + (if P k = true then 1 else 0) := rfl
theorem gf_ct_congr {P Q : Nat → Bool} {k : Nat} (h : ∀ t, t < k → P t = Q t) : gf_ct P k = gf_ct Q k := by
  induction k with
  | zero => rfl
  | succ k ih => rw [gf_ct_s, gf_ct_s, ih (fun t ht => h t (by omega)), h k (by omega)]
theorem gf_ct_le (P : Nat → Bool) (k : Nat) : gf_ct P k ≤ k := by
  induction k with
  | zero => exact Nat.le_refl 0
  | succ k ih =>
    rw [gf_ct_s]
    split <;> omega
theorem gf_ct_or {P Q : Nat → Bool} {k : Nat} (h : ∀ t, t < k → ¬ (P t = true ∧ Q t = true)) : gf_ct (fun t => (P t || Q t)) k = gf_ct P k + gf_ct Q k := by
  induction k with
  | zero => rfl
  | succ k ih =>
    have hk := h k (by omega)
    rw [gf_ct_s, gf_ct_s, gf_ct_s, ih (fun t ht => h t (by omega))]
    revert hk
    cases P k <;> cases Q k <;> simp <;> omega
theorem gf_ct_add (P : Nat → Bool) (m l : Nat) : gf_ct P (m + l) = gf_ct P m + gf_ct (fun t => P (m + t)) l := by
  induction l with
  | zero => rfl
  | succ l ih =>
    show gf_ct P ((m + l) + 1) = _
    rw [gf_ct_s, gf_ct_s, ih]
    exact Nat.add_assoc _ _ _
theorem gf_x1 : ∀ k, k < 8 → ∀ t, t < 256 → t < 2 ^ k → 2 ^ k + t = 2 ^ k ^^^ t := by decide +kernel
theorem gf_ct_xor : ∀ k, k ≤ 8 → ∀ (P : Nat → Bool) (x : Nat), x < 2 ^ k → gf_ct (fun t => P (t ^^^ x)) (2 ^ k) = gf_ct P (2 ^ k) := by
  intro k
  induction k with
  | zero =>
    intro _ P x hx
    have e : x = 0 := by
      have : x < 1 := hx
      omega
    subst e
    exact gf_ct_congr (fun t _ => by rw [Nat.xor_zero])
  | succ k ih =>
    intro hk P x hx
    have e2 : 2 ^ (k + 1) = 2 ^ k + 2 ^ k := by rw [Nat.pow_succ]; omega
    have le : 2 ^ k ≤ 256 := gf_p8 (by omega)
    have x1 : ∀ t, t < 2 ^ k → 2 ^ k + t = 2 ^ k ^^^ t := fun t ht => gf_x1 k (by omega) t (by omega) ht
    rw [e2] at hx ⊢
    rw [gf_ct_add, gf_ct_add]
    have u2 : gf_ct (fun t => P (2 ^ k + t)) (2 ^ k) = gf_ct (fun t => P (2 ^ k ^^^ t)) (2 ^ k) := gf_ct_congr (fun t ht => by rw [x1 t ht])
    by_cases z : x < 2 ^ k
    · have w0 := ih (by omega) P x z
      have w := ih (by omega) (fun t => P (2 ^ k ^^^ t)) x z
      have u1 : gf_ct (fun t => P ((2 ^ k + t) ^^^ x)) (2 ^ k) = gf_ct (fun t => P (2 ^ k ^^^ (t ^^^ x))) (2 ^ k) := gf_ct_congr (fun t ht => by rw [x1 t ht, Nat.xor_assoc])
      have u3 := u1.trans (w.trans u2.symm)
      show gf_ct (fun t => P (t ^^^ x)) (2 ^ k) + gf_ct (fun t => P ((2 ^ k + t) ^^^ x)) (2 ^ k) = _
      rw [w0, u3]
    · obtain ⟨y, hy, rfl⟩ : ∃ y, y < 2 ^ k ∧ x = 2 ^ k + y := ⟨x - 2 ^ k, by omega, by omega⟩
      have w0 := ih (by omega) P y hy
      have w := ih (by omega) (fun t => P (2 ^ k ^^^ t)) y hy
      have u1 : gf_ct (fun t => P ((2 ^ k + t) ^^^ (2 ^ k + y))) (2 ^ k) = gf_ct (fun t => P (t ^^^ y)) (2 ^ k) := gf_ct_congr (fun t ht => by
        rw [x1 t ht, x1 y hy, Nat.xor_comm (2 ^ k) t, Nat.xor_assoc, ← Nat.xor_assoc (2 ^ k) (2 ^ k) y, Nat.xor_self, Nat.zero_xor])
      have u4 : gf_ct (fun t => P (t ^^^ (2 ^ k + y))) (2 ^ k) = gf_ct (fun t => P (2 ^ k ^^^ (t ^^^ y))) (2 ^ k) := gf_ct_congr (fun t ht => by
        rw [x1 y hy, ← Nat.xor_assoc, Nat.xor_comm t (2 ^ k), Nat.xor_assoc])
      show gf_ct (fun t => P (t ^^^ (2 ^ k + y))) (2 ^ k) + gf_ct (fun t => P ((2 ^ k + t) ^^^ (2 ^ k + y))) (2 ^ k) = _
      rw [u1, w0, u4, w, u2, Nat.add_comm]
/-! the invariant: the first m rows R, of them those that are in -/
def gf_Hold (R : Nat → Nat) (inn : Nat → Bool) (m j a : Nat) : Prop := ∀ i, i < m → inn i = true → gf_ph a j (R i) = false
def gf_sp (R : Nat → Nat) (inn : Nat → Bool) : Nat → Nat → Bool
  | 0 => fun t => decide (t = 0)
  | i + 1 => fun t => if inn i = true then (gf_sp R inn i t || gf_sp R inn i (t ^^^ (R i / 256))) else gf_sp R inn i t
def gf_Inv (n : Nat) (R : Nat → Nat) (inn : Nat → Bool) (m : Nat) (B : Nat → Nat) (z : Nat) (con : Bool) : Prop :=
  (∀ b, b < 8 → B b < 2 ^ (8 + n)) ∧ gf_Ech B ∧ (∀ a j, gf_Hold R inn m j a → gf_Sol B j a) ∧ (con = false → ∀ a j, j < 8 → gf_Sol B j a → gf_Hold R inn m j a) ∧ (con = true → ∃ j, j < 8 ∧ ∀ a, ¬ gf_Hold R inn m j a) ∧ (∀ t, t < 256 → (gf_sp R inn m t = true ↔ gf_Con (gf_Q B 8 0) t)) ∧ gf_ct (gf_sp R inn m) 256 = 2 ^ z
theorem gf_hold_s {R : Nat → Nat} {inn : Nat → Bool} {m j a : Nat} (h : gf_Hold R inn (m + 1) j a) : gf_Hold R inn m j a := fun i hi => h i (by omega)
theorem gf_hold_m {R : Nat → Nat} {inn : Nat → Bool} {m j a : Nat} (h : gf_Hold R inn m j a) (h1 : inn m = true → gf_ph a j (R m) = false) : gf_Hold R inn (m + 1) j a := by
  intro i hi hin
  by_cases e : i = m
  · subst e
    exact h1 hin
  · exact h i (by omega) hin
theorem gf_b16 {n x : Nat} (hn : n ≤ 8) (h : x < 2 ^ (8 + n)) : x < 2 ^ (8 + 8) := Nat.lt_of_lt_of_le h (Nat.pow_le_pow_right (by decide) (by omega))
theorem gf_inv_0 {n : Nat} {R : Nat → Nat} {inn : Nat → Bool} {B : Nat → Nat} (hB : ∀ b, b < 8 → B b = 0) : gf_Inv n R inn 0 B 0 false := by
  have hs : ∀ a j, gf_Sol B j a := fun a j b hb => by rw [hB b hb, gf_ph_0]
  refine ⟨fun b hb => by rw [hB b hb]; exact Nat.two_pow_pos _, fun b hb => Or.inl (hB b hb), fun a j _ => hs a j, fun _ a j _ _ i hi => absurd hi (Nat.not_lt_zero i), fun h => absurd h (by decide), fun t ht => ?_, ?_⟩
  · show decide (t = 0) = true ↔ _
    rw [decide_eq_true_iff]
    constructor
    · intro e
      subst e
      intro a a' _ _
      rw [Nat.and_zero, Nat.and_zero]
    · intro h
      by_cases e : t = 0
      · exact e
      · exfalso
        obtain ⟨k, hk⟩ := Nat.exists_testBit_of_ne_zero e
        have hk8 : k < 8 := by
          by_cases q : k < 8
          · exact q
          · have h1 := Nat.ge_two_pow_of_testBit hk
            have h2 : 2 ^ 8 ≤ 2 ^ k := Nat.pow_le_pow_right (by decide) (by omega)
            omega
        have h2 : 2 ^ k < 2 ^ 8 := Nat.pow_lt_pow_right (by decide) hk8
        have w := h (2 ^ k) 0 ⟨h2, hs _ _⟩ ⟨by decide, hs _ _⟩
        rw [gf_par_bit hk8, Nat.zero_and, gf_par_0, hk] at w
        exact absurd w (by decide)
  · have h : gf_ct (fun t => decide (t = 0)) 256 = 2 ^ 0 := by decide +kernel
    rw [← h]
    exact gf_ct_congr (fun t _ => rfl)
theorem gf_inv_skip {n : Nat} {R : Nat → Nat} {inn : Nat → Bool} {m : Nat} {B : Nat → Nat} {z : Nat} {con : Bool} (I : gf_Inv n R inn m B z con) (hi : inn m = false) : gf_Inv n R inn (m + 1) B z con := by
  obtain ⟨h1, h2, h3, h4, h5, h6, h7⟩ := I
  have e : gf_sp R inn (m + 1) = gf_sp R inn m := by
    funext t
    show (if inn m = true then (gf_sp R inn m t || gf_sp R inn m (t ^^^ (R m / 256))) else gf_sp R inn m t) = gf_sp R inn m t
    rw [if_neg (by rw [hi]; decide)]
  refine ⟨h1, h2, fun a j h => h3 a j (gf_hold_s h), fun hc a j hj hs => gf_hold_m (h4 hc a j hj hs) (fun h => absurd (hi.symm.trans h) (by decide)), fun hc => ?_, ?_, ?_⟩
  · obtain ⟨j, hj, h⟩ := h5 hc
    exact ⟨j, hj, fun a ha => h a (gf_hold_s ha)⟩
  · rw [e]; exact h6
  · rw [e]; exact h7
theorem gf_sp_s {R : Nat → Nat} {inn : Nat → Bool} {m : Nat} (hi : inn m = true) (t : Nat) : gf_sp R inn (m + 1) t = (gf_sp R inn m t || gf_sp R inn m (t ^^^ (R m / 256))) := by
  show (if inn m = true then (gf_sp R inn m t || gf_sp R inn m (t ^^^ (R m / 256))) else gf_sp R inn m t) = _
  rw [if_pos hi]
theorem gf_bit8 {q : Nat} (h : q < 256) (h0 : q ≠ 0) : ∃ j, j < 8 ∧ q.testBit j = true := by
  obtain ⟨k, hk⟩ := Nat.exists_testBit_of_ne_zero h0
  refine ⟨k, ?_, hk⟩
  by_cases z : k < 8
  · exact z
  · have h1 := Nat.ge_two_pow_of_testBit hk
    have h2 : 2 ^ 8 ≤ 2 ^ k := Nat.pow_le_pow_right (by decide) (by omega)
    omega
theorem gf_inv_zero {n : Nat} {R : Nat → Nat} {inn : Nat → Bool} {m : Nat} {B : Nat → Nat} {z : Nat} {con : Bool} (hn : n ≤ 8) (I : gf_Inv n R inn m B z con) (hi : inn m = true) (hR : R m < 2 ^ (8 + n)) (hq : gf_red B 8 (R m) < 256) : gf_Inv n R inn (m + 1) B z (con || decide (gf_red B 8 (R m) ≠ 0)) := by
  obtain ⟨h1, h2, h3, h4, h5, h6, h7⟩ := I
  have h1' : ∀ b, b < 8 → B b < 2 ^ (8 + 8) := fun b hb => gf_b16 hn (h1 b hb)
  have hR' := gf_b16 hn hR
  have hx : R m / 256 < 256 := by
    have : R m < 65536 := hR'
    omega
  have cx : gf_Con (gf_Q B 8 0) (R m / 256) := (gf_con_red h2 (by omega) h1' hR' (by omega)).mp hq
  have hsp : ∀ t, t < 256 → (gf_sp R inn (m + 1) t = true ↔ gf_Con (gf_Q B 8 0) t) := by
    intro t ht
    rw [gf_sp_s hi, Bool.or_eq_true, h6 t ht, h6 _ (Nat.xor_lt_two_pow (n := 8) ht hx)]
    exact ⟨fun h => h.elim id (fun w => gf_con_x1 w cx), fun h => Or.inl h⟩
  refine ⟨h1, h2, fun a j h => h3 a j (gf_hold_s h), fun hc a j hj hs => ?_, fun hc => ?_, hsp, ?_⟩
  · rw [Bool.or_eq_false_iff] at hc
    have hz : gf_red B 8 (R m) = 0 := by
      have := of_decide_eq_false hc.2
      omega
    refine gf_hold_m (h4 hc.1 a j hj hs) (fun _ => ?_)
    rw [← gf_red_ph 8 (R m) hs, hz, gf_ph_0]
  · rw [Bool.or_eq_true] at hc
    rcases hc with hc | hc
    · obtain ⟨j, hj, h⟩ := h5 hc
      exact ⟨j, hj, fun a ha => h a (gf_hold_s ha)⟩
    · obtain ⟨j, hj, hb⟩ := gf_bit8 hq (of_decide_eq_true hc)
      refine ⟨j, hj, fun a ha => ?_⟩
      have w := gf_red_ph 8 (R m) (h3 a j (gf_hold_s ha))
      rw [ha m (by omega) hi] at w
      unfold gf_ph at w
      rw [Nat.div_eq_of_lt hq, Nat.and_zero, gf_par_0, hb] at w
      exact absurd w (by decide)
  · rw [← h7]
    exact gf_ct_congr (fun t ht => by rw [Bool.eq_iff_iff, hsp t ht, h6 t ht])
theorem gf_inv_new {n : Nat} {R : Nat → Nat} {inn : Nat → Bool} {m : Nat} {B : Nat → Nat} {z : Nat} {con : Bool} (hn : n ≤ 8) (I : gf_Inv n R inn m B z con) (hi : inn m = true) (hR : R m < 2 ^ (8 + n)) {p : Nat} (hp : p < 8) (hq1 : (gf_red B 8 (R m)).testBit (8 + p) = true) (hq2 : ∀ c, p < c → (gf_red B 8 (R m)).testBit (8 + c) = false) : gf_Inv n R inn (m + 1) (gf_upd B p (gf_red B 8 (R m))) (z + 1) con := by
  obtain ⟨h1, h2, h3, h4, h5, h6, h7⟩ := I
  have h1' : ∀ b, b < 8 → B b < 2 ^ (8 + 8) := fun b hb => gf_b16 hn (h1 b hb)
  have hR' := gf_b16 hn hR
  have hx : R m / 256 < 256 := by
    have : R m < 65536 := hR'
    omega
  have hB0 := gf_top0 h2 hp hq1
  have hql : gf_red B 8 (R m) < 2 ^ (8 + n) := gf_red_lt 8 (R m) hR h1
  have hnq : ¬ gf_red B 8 (R m) < 256 := by
    intro z
    have w := Nat.ge_two_pow_of_testBit hq1
    have w2 : 2 ^ 8 ≤ 2 ^ (8 + p) := Nat.pow_le_pow_right (by decide) (by omega)
    omega
  have hS : ∀ a j, gf_Sol (gf_upd B p (gf_red B 8 (R m))) j a ↔ (gf_Sol B j a ∧ gf_ph a j (R m) = false) := by
    intro a j
    constructor
    · intro h
      have hs : gf_Sol B j a := by
        intro b hb
        by_cases e : b = p
        · rw [e, hB0, gf_ph_0]
        · have w := h b hb
          rw [gf_upd_n B _ e] at w
          exact w
      refine ⟨hs, ?_⟩
      have w := h p hp
      rw [gf_upd_s, gf_red_ph 8 (R m) hs] at w
      exact w
    · intro h b hb
      by_cases e : b = p
      · rw [e, gf_upd_s, gf_red_ph 8 (R m) h.1]
        exact h.2
      · rw [gf_upd_n B _ e]
        exact h.1 b hb
  have hfree : ∀ d : Bool, ∃ a, gf_Q B 8 0 a ∧ gf_par (a &&& (R m / 256)) = d := by
    intro d
    obtain ⟨a, la, ha, ea⟩ := gf_free (n := 8) h2 (by omega) h1' hR' hnq (j := 0) (by omega) d
    exact ⟨a, ⟨la, ha⟩, ea⟩
  have hQ : ∀ a, gf_Q (gf_upd B p (gf_red B 8 (R m))) 8 0 a ↔ (gf_Q B 8 0 a ∧ gf_par (a &&& (R m / 256)) = (R m).testBit 0) := by
    intro a
    unfold gf_Q
    rw [hS a 0]
    have w : gf_ph a 0 (R m) = false ↔ gf_par (a &&& (R m / 256)) = (R m).testBit 0 := by
      unfold gf_ph
      cases gf_par (a &&& (R m / 256)) <;> cases (R m).testBit 0 <;> simp
    rw [w, and_assoc]
  have hC : ∀ t, gf_Con (gf_Q (gf_upd B p (gf_red B 8 (R m))) 8 0) t ↔ (gf_Con (gf_Q B 8 0) t ∨ gf_Con (gf_Q B 8 0) (t ^^^ (R m / 256))) := by
    intro t
    rw [← gf_aff (c := (R m).testBit 0) gf_Q_3 hfree]
    exact ⟨fun h a a' ha ha' => h a a' ((hQ a).mpr ha) ((hQ a').mpr ha'), fun h a a' ha ha' => h a a' ((hQ a).mp ha) ((hQ a').mp ha')⟩
  have hsp : ∀ t, t < 256 → (gf_sp R inn (m + 1) t = true ↔ gf_Con (gf_Q (gf_upd B p (gf_red B 8 (R m))) 8 0) t) := by
    intro t ht
    rw [gf_sp_s hi, Bool.or_eq_true, h6 t ht, h6 _ (Nat.xor_lt_two_pow (n := 8) ht hx), hC]
  refine ⟨fun b hb => ?_, gf_ech_upd h2 hq1 hq2, fun a j h => (hS a j).mpr ⟨h3 a j (gf_hold_s h), h m (by omega) hi⟩, fun hc a j hj hs => ?_, fun hc => ?_, hsp, ?_⟩
  · by_cases e : b = p
    · rw [e, gf_upd_s]
      exact hql
    · rw [gf_upd_n B _ e]
      exact h1 b hb
  · have w := (hS a j).mp hs
    exact gf_hold_m (h4 hc a j hj w.1) (fun _ => w.2)
  · obtain ⟨j, hj, h⟩ := h5 hc
    exact ⟨j, hj, fun a ha => h a (gf_hold_s ha)⟩
  · have e1 : gf_ct (gf_sp R inn (m + 1)) 256 = gf_ct (fun t => (gf_sp R inn m t || gf_sp R inn m (t ^^^ (R m / 256)))) 256 := gf_ct_congr (fun t _ => gf_sp_s hi t)
    have e2 := gf_ct_xor 8 (by omega) (gf_sp R inn m) (R m / 256) hx
    have e3 : gf_ct (fun t => (gf_sp R inn m t || gf_sp R inn m (t ^^^ (R m / 256)))) 256 = gf_ct (gf_sp R inn m) 256 + gf_ct (fun t => gf_sp R inn m (t ^^^ (R m / 256))) 256 := by
      refine gf_ct_or (P := gf_sp R inn m) (Q := fun t => gf_sp R inn m (t ^^^ (R m / 256))) (fun t ht h => ?_)
      have c1 := (h6 t ht).mp h.1
      have c2 := (h6 _ (Nat.xor_lt_two_pow (n := 8) ht hx)).mp h.2
      have c3 := gf_con_x2 c2 c1
      obtain ⟨a, qa, ea⟩ := hfree false
      obtain ⟨a', qa', ea'⟩ := hfree true
      have w := c3 a a' qa qa'
      rw [ea, ea'] at w
      exact absurd w (by decide)
    have e4 : gf_ct (fun t => gf_sp R inn m (t ^^^ (R m / 256))) 256 = gf_ct (gf_sp R inn m) 256 := e2
    rw [e1, e3, e4, h7, Nat.pow_succ]
    omega

/-! X's elimination -/
def fx_R (S V : Nat → Nat) (i : Nat) : Nat := S i * 256 + V i
def fx_in (om : Int32) (i : Nat) : Bool := !decide (nI i = om)
def fx_cb (b : Bool) : Int32 := if b = true then 1 else 0
def fx_rw (S V : Nat → Nat) : Nat → Int32 := fun i => nI (fx_R S V i)
def fx_Ok (n h : Nat) (S V : Nat → Nat) : Prop := 1 ≤ n ∧ n ≤ 8 ∧ h ≤ 16 ∧ (∀ i, S i < 2 ^ n) ∧ (∀ i, V i < 256)
theorem fx_R_lt {n h : Nat} {S V : Nat → Nat} (K : fx_Ok n h S V) (i : Nat) : fx_R S V i < 2 ^ (8 + n) := by
  have h1 := K.2.2.2.1 i
  have h2 := K.2.2.2.2 i
  unfold fx_R
  rw [Nat.pow_add]
  show S i * 256 + V i < 256 * 2 ^ n
  omega
theorem fx_R16 {n h : Nat} {S V : Nat → Nat} (K : fx_Ok n h S V) (i : Nat) : fx_R S V i < 65536 := Nat.lt_of_lt_of_le (fx_R_lt K i) (gf_p16 K.2.1)
theorem fx_rw_i {n h : Nat} {S V : Nat → Nat} {i : Nat} (hi : i < 2 ^ 31) : fx_rw S V (nI i).toNatClampNeg = nI (fx_R S V i) := by
  rw [nI_clamp hi]
  rfl
theorem fx_7 : (7 : Int32) = nI 8 + (-1) := by decide
theorem fx_sh {k : Nat} (hk : k < 8) : (1 : Int32) <<< ((8 + nI k) &&& 31) = nI (2 ^ (8 + k)) := by
  have e : (8 : Int32) + nI k = nI (8 + k) := nI_add 8 k
  rw [e]
  exact fz_shl1 (8 + k) (by omega)
theorem fx_red5 {post : Int32 → Prop} {c al sc z ct : Int32} {ar ab : Nat → Int32} {B : Nat → Nat} (hB : ∀ b, b < 8 → ab b = nI (B b)) : ∀ (k r : Nat), k ≤ 8 → post (nI (gf_red B k r)) → wX_reduce_5 post c al sc z ct ar ab (k + 1) (nI r) (nI k + (-1)) := by
  intro k
  induction k with
  | zero =>
    intro r _ hp
    exact br_t (by decide) hp
  | succ k ih =>
    intro r hk hp
    rw [pk_m1]
    refine br_f (nI_pos (by omega)) (nm_r (fx_sh (by omega)) ?_)
    by_cases q : r.testBit (8 + k) = true
    · have e : gf_red B (k + 1) r = gf_red B k (r ^^^ B k) := by
        show gf_red B k (if r.testBit (8 + k) = true then r ^^^ B k else r) = _
        rw [if_pos q]
      rw [e] at hp
      refine br_f (fun w => ?_) ⟨vp_in_nI (by omega) (by omega), nm_r (e' := nI (r ^^^ B k)) ?_ (nm_e (ih _ (by omega) hp))⟩
      · have w2 := (fz_tb (by omega)).mp w
        rw [q] at w2
        exact absurd w2 (by decide)
      · rw [nI_clamp (by omega), hB k (by omega), nx_xor]
    · have e : gf_red B (k + 1) r = gf_red B k r := by
        show gf_red B k (if r.testBit (8 + k) = true then r ^^^ B k else r) = _
        rw [if_neg q]
      rw [e] at hp
      exact br_t ((fz_tb (by omega)).mpr (Bool.eq_false_iff.mpr q)) (nm_e (ih r (by omega) hp))
theorem fx_reduce {post : Int32 → Prop} {c al sc z ct : Int32} {ar ab : Nat → Int32} {B : Nat → Nat} (hB : ∀ b, b < 8 → ab b = nI (B b)) {r : Nat} (hp : post (nI (gf_red B 8 r))) : wpX_reduce post (c, al, sc, z, ct, ar, ab) (nI r) := by
  show ∃ n5 : Nat, wX_reduce_5 post c al sc z ct ar ab n5 (nI r) 7
  rw [fx_7]
  exact ⟨9, fx_red5 hB 8 r (by omega) hp⟩
theorem fx_add9 {post : SX → Prop} {c al sc ct : Int32} {z : Nat} {ar ab : Nat → Int32} {q : Nat} (hq : q < 65536)
    (H0 : (∀ b, b < 8 → q.testBit (8 + b) = false) → q = 0 → post (c, al, sc, nI z, ct, ar, ab))
    (H1 : (∀ b, b < 8 → q.testBit (8 + b) = false) → q ≠ 0 → post (c, al, sc, nI z, 1, ar, ab))
    (H2 : ∀ p, p < 8 → q.testBit (8 + p) = true → (∀ b, b < 8 → p < b → q.testBit (8 + b) = false) → post (c, al, sc, nI (z + 1), ct, ar, upd ab p (nI q))) :
    ∀ k, k ≤ 8 → (∀ b, b < 8 → k ≤ b → q.testBit (8 + b) = false) → wX_addToBasis_9 post (nI q) c al sc (nI z) ct ar ab (k + 1) (nI k + (-1)) := by
  intro k
  induction k with
  | zero =>
    intro _ hz
    have hz' : ∀ b, b < 8 → q.testBit (8 + b) = false := fun b hb => hz b hb (Nat.zero_le b)
    refine br_t (by decide) (pk_eq q 0 (fun e => H0 hz' e) (fun e => H1 hz' e))
  | succ k ih =>
    intro hk hz
    rw [pk_m1]
    refine br_f (nI_pos (by omega)) (nm_r (fx_sh (by omega)) ?_)
    by_cases w : q.testBit (8 + k) = true
    · refine br_f (fun w1 => ?_) ⟨vp_in_nI (by omega) (by omega), nm_r (e' := upd ab k (nI q)) ?_ (nm_r (nI_1 z) ?_)⟩
      · have w2 := (fz_tb (by omega)).mp w1
        rw [w] at w2
        exact absurd w2 (by decide)
      · rw [nI_clamp (by omega)]
      · exact H2 k (by omega) w (fun b hb hkb => hz b hb (by omega))
    · have w' : q.testBit (8 + k) = false := Bool.eq_false_iff.mpr w
      refine br_t ((fz_tb (by omega)).mpr w') (nm_e (ih (by omega) (fun b hb hkb => ?_)))
      by_cases e : b = k
      · rw [e]; exact w'
      · exact hz b hb (by omega)
theorem fx_addToBasis {post : SX → Prop} {c al sc ct : Int32} {z : Nat} {ar ab : Nat → Int32} {B : Nat → Nat} (hB : ∀ b, b < 8 → ab b = nI (B b)) {r : Nat} (hq : gf_red B 8 r < 65536)
    (H0 : (∀ b, b < 8 → (gf_red B 8 r).testBit (8 + b) = false) → gf_red B 8 r = 0 → post (c, al, sc, nI z, ct, ar, ab))
    (H1 : (∀ b, b < 8 → (gf_red B 8 r).testBit (8 + b) = false) → gf_red B 8 r ≠ 0 → post (c, al, sc, nI z, 1, ar, ab))
    (H2 : ∀ p, p < 8 → (gf_red B 8 r).testBit (8 + p) = true → (∀ b, b < 8 → p < b → (gf_red B 8 r).testBit (8 + b) = false) → post (c, al, sc, nI (z + 1), ct, ar, upd ab p (nI (gf_red B 8 r)))) :
    wpX_addToBasis post (c, al, sc, nI z, ct, ar, ab) (nI r) := by
  unfold wpX_addToBasis
  refine fx_reduce hB ?_
  show ∃ n9 : Nat, wX_addToBasis_9 post (nI (gf_red B 8 r)) c al sc (nI z) ct ar ab n9 7
  rw [fx_7]
  exact ⟨9, fx_add9 hq H0 H1 H2 8 (by omega) (fun b hb hk => absurd hb (by omega))⟩
theorem fx_hi16 {q : Nat} (h : q < 65536) {p : Nat} (h2 : ∀ b, b < 8 → p < b → q.testBit (8 + b) = false) : ∀ c, p < c → q.testBit (8 + c) = false := by
  intro c hc
  by_cases e : c < 8
  · exact h2 c e hc
  · have h3 : 2 ^ 16 ≤ 2 ^ (8 + c) := Nat.pow_le_pow_right (by decide) (by omega)
    exact Nat.testBit_lt_two_pow (by omega)
theorem fx_lo8 {q : Nat} (h : q < 65536) (h2 : ∀ b, b < 8 → q.testBit (8 + b) = false) : q < 256 := by
  by_cases e : q < 256
  · exact e
  · obtain ⟨p, hp, h3, _⟩ := gf_tops h e
    rw [h2 p hp] at h3
    exact absurd h3 (by decide)
theorem fx_b33 {post : SX → Prop} {n h : Nat} {S V : Nat → Nat} (K : fx_Ok n h S V) (om : Int32)
    (H : ∀ (B : Nat → Nat) (z : Nat) (con : Bool) (ab : Nat → Int32), (∀ b, b < 8 → ab b = nI (B b)) → gf_Inv n (fx_R S V) (fx_in om) h B z con → post (nI n, nI (2 ^ n - 1), nI h, nI z, fx_cb con, fx_rw S V, ab)) :
    ∀ d i, i + d = h → ∀ (B : Nat → Nat) (z : Nat) (con : Bool) (ab : Nat → Int32), (∀ b, b < 8 → ab b = nI (B b)) → gf_Inv n (fx_R S V) (fx_in om) i B z con → wX_buildBasisWithout_33 post om (d + 1) (nI i) (nI n) (nI (2 ^ n - 1)) (nI h) (nI z) (fx_cb con) (fx_rw S V) ab := by
  have hh := K.2.2.1
  intro d
  induction d with
  | zero =>
    intro i hi B z con ab hB I
    have e : i = h := by omega
    subst e
    exact br_t (Int32.le_refl _) (H B z con ab hB I)
  | succ d ih =>
    intro i hi B z con ab hB I
    refine br_f (nI_ge (by omega) (by omega)) ?_
    by_cases e : nI i = om
    · refine br_t e (nm_r (nI_1 i) (ih (i + 1) (by omega) B z con ab hB (gf_inv_skip I ?_)))
      unfold fx_in
      rw [decide_eq_true e]
      rfl
    · have hin : fx_in om i = true := by
        unfold fx_in
        rw [decide_eq_false e]
        rfl
      have hq : gf_red B 8 (fx_R S V i) < 65536 := Nat.lt_of_lt_of_le (gf_red_lt 8 _ (fx_R_lt K i) I.1) (gf_p16 K.2.1)
      refine br_f e ⟨vp_in_nI (by omega) (by omega), ?_⟩
      rw [fx_rw_i (n := n) (h := h) (by omega)]
      refine fx_addToBasis hB hq (fun h0 h1 => ?_) (fun h0 h1 => ?_) (fun p hp h1 h2 => ?_)
      · have I2 := gf_inv_zero K.2.1 I hin (fx_R_lt K i) (fx_lo8 hq h0)
        have e2 : (con || decide (gf_red B 8 (fx_R S V i) ≠ 0)) = con := by
          rw [h1]
          cases con <;> rfl
        rw [e2] at I2
        exact nm_r (nI_1 i) (ih (i + 1) (by omega) B z con ab hB I2)
      · have I2 := gf_inv_zero K.2.1 I hin (fx_R_lt K i) (fx_lo8 hq h0)
        have e2 : (con || decide (gf_red B 8 (fx_R S V i) ≠ 0)) = true := by
          rw [decide_eq_true h1]
          cases con <;> rfl
        rw [e2] at I2
        exact nm_r (nI_1 i) (ih (i + 1) (by omega) B z true ab hB I2)
      · have I2 := gf_inv_new K.2.1 I hin (fx_R_lt K i) hp h1 (fx_hi16 hq h2)
        refine nm_r (nI_1 i) (ih (i + 1) (by omega) _ (z + 1) con _ (fun b hb => ?_) I2)
        by_cases e3 : b = p
        · rw [e3, pk_us, gf_upd_s]
        · rw [pk_un e3, gf_upd_n B _ e3]
          exact hB b hb
theorem fx_b2 {post : SX → Prop} {n h : Nat} {S V : Nat → Nat} (K : fx_Ok n h S V) (om z ct : Int32)
    (H : ∀ (B : Nat → Nat) (z : Nat) (con : Bool) (ab : Nat → Int32), (∀ b, b < 8 → ab b = nI (B b)) → gf_Inv n (fx_R S V) (fx_in om) h B z con → post (nI n, nI (2 ^ n - 1), nI h, nI z, fx_cb con, fx_rw S V, ab)) :
    ∀ d b, b + d = 8 → ∀ ab : Nat → Int32, (∀ c, c < b → ab c = 0) → wX_buildBasisWithout_2 post om (nI n) (nI (2 ^ n - 1)) (nI h) z ct (d + 1) (nI b) (fx_rw S V) ab := by
  intro d
  induction d with
  | zero =>
    intro b hb ab hz
    have e : b = 8 := by omega
    subst e
    refine br_t (by decide) ⟨h + 1, ?_⟩
    exact fx_b33 K om H h 0 (by omega) (fun _ => 0) 0 false ab (fun b hb => (hz b hb).trans nI_0.symm) (gf_inv_0 (fun _ _ => rfl))
  | succ d ih =>
    intro b hb ab hz
    refine br_f (nI_ge (b := 8) (by omega) (by decide)) ⟨vp_in_nI (by omega) (by omega), nm_e (nm_r (nI_1 b) (ih (b + 1) (by omega) _ (fun c hc => ?_)))⟩
    rw [nI_clamp (by omega)]
    by_cases e : c = b
    · rw [e, pk_us]
    · rw [pk_un e]
      exact hz c (by omega)
theorem fx_build {post : SX → Prop} {n h : Nat} {S V : Nat → Nat} (K : fx_Ok n h S V) (om z ct : Int32) (ab : Nat → Int32)
    (H : ∀ (B : Nat → Nat) (z : Nat) (con : Bool) (ab : Nat → Int32), (∀ b, b < 8 → ab b = nI (B b)) → gf_Inv n (fx_R S V) (fx_in om) h B z con → post (nI n, nI (2 ^ n - 1), nI h, nI z, fx_cb con, fx_rw S V, ab)) :
    wpX_buildBasisWithout post (nI n, nI (2 ^ n - 1), nI h, z, ct, fx_rw S V, ab) om :=
  ⟨9, fx_b2 K om z ct H 8 0 (by omega) ab (fun c hc => absurd hc (Nat.not_lt_zero c))⟩

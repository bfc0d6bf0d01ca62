/-! X's questions over its basis -/
theorem fx_q16 {n : Nat} {R : Nat → Nat} {inn : Nat → Bool} {m : Nat} {B : Nat → Nat} {z : Nat} {con : Bool} (hn : n ≤ 8) (I : gf_Inv n R inn m B z con) {t : Nat} (ht : t < 2 ^ n) : gf_red B 8 (t * 256) < 65536 := Nat.lt_of_lt_of_le (gf_red_lt 8 _ (gf_t256 ht) I.1) (gf_p16 hn)
theorem fx_q8 {q : Nat} {A C : Prop} (hq : q < 65536) (h1 : q < 256 → A) (h0 : ¬ q < 256 → C) : (nI q >>> ((8 : Int32) &&& 31) = 0 → A) ∧ (¬ nI q >>> ((8 : Int32) &&& 31) = 0 → C) := by
  rw [fz_shr8 (by omega)]
  exact pk_eq (q / 256) 0 (fun e => h1 (by omega)) (fun e => h0 (by omega))
theorem fx_cb1 {b : Bool} {A C : Prop} (h1 : b = true → C) (h0 : b = false → A) : (fx_cb b = 0 → A) ∧ (¬ fx_cb b = 0 → C) := by
  cases b
  · exact br_t (by decide) (h0 rfl)
  · exact br_f (by decide) (h1 rfl)
theorem fx_span {post : Int32 → Prop} {c al sc z ct : Int32} {ar ab : Nat → Int32} {B : Nat → Nat} (hB : ∀ b, b < 8 → ab b = nI (B b)) {t : Nat} (ht : t < 65536) (hq : gf_red B 8 (t * 256) < 65536) (hp : post (fx_cb (gf_spn B t))) : wpX_isSpanned post (c, al, sc, z, ct, ar, ab) (nI t) := by
  unfold wpX_isSpanned
  show wpX_reduce _ (c, al, sc, z, ct, ar, ab) (nI t <<< ((8 : Int32) &&& 31))
  rw [fz_shl8 ht]
  refine fx_reduce hB (fx_q8 hq (fun e => ?_) (fun e => ?_))
  · have w : gf_spn B t = true := decide_eq_true e
    rw [w] at hp
    exact hp
  · have w : gf_spn B t = false := decide_eq_false e
    rw [w] at hp
    exact hp
theorem fx_bit {b n : Nat} (hn : n ≤ 8) (hb : b < n) : 2 ^ b < 2 ^ n ∧ 2 ^ b < 65536 := by
  have h1 : 2 ^ b < 2 ^ n := Nat.pow_lt_pow_right (by decide) hb
  have h2 := gf_p8 hn
  exact ⟨h1, by omega⟩
theorem fx_kn18 {post : Int32 → SX → Prop} {n : Nat} {al sc z ct : Int32} {ar ab : Nat → Int32} {R : Nat → Nat} {inn : Nat → Bool} {m : Nat} {B : Nat → Nat} {zz : Nat} {con : Bool} (hn : n ≤ 8) (I : gf_Inv n R inn m B zz con) (hB : ∀ b, b < 8 → ab b = nI (B b)) (hp : post (nI (gf_kn B n)) (nI n, al, sc, z, ct, ar, ab)) :
    ∀ d b, b + d = n → wX_knownWithout_18 post (nI n) al sc z ct ar ab (d + 1) (nI (gf_mk (fun b => gf_spn B (2 ^ b)) b)) (nI b) := by
  intro d
  induction d with
  | zero =>
    intro b hb
    have e : b = n := by omega
    subst e
    exact br_t (Int32.le_refl _) hp
  | succ d ih =>
    intro b hb
    have hb2 := fx_bit hn (show b < n by omega)
    refine br_f (nI_ge (by omega) (by omega)) ?_
    rw [fz_shl1 b (by omega)]
    refine fx_span hB hb2.2 (fx_q16 hn I hb2.1) (fx_cb1 (fun e => ?_) (fun e => ?_))
    · have w : gf_mk (fun b => gf_spn B (2 ^ b)) (b + 1) = gf_mk (fun b => gf_spn B (2 ^ b)) b ||| 2 ^ b := by
        rw [gf_mk_s, if_pos e]
      have ih2 := ih (b + 1) (by omega)
      rw [w] at ih2
      exact nm_r (fz_or _ _) (nm_r (nI_1 b) ih2)
    · have w : gf_mk (fun b => gf_spn B (2 ^ b)) (b + 1) = gf_mk (fun b => gf_spn B (2 ^ b)) b := by
        rw [gf_mk_s, if_neg (by rw [e]; decide)]
      have ih2 := ih (b + 1) (by omega)
      rw [w] at ih2
      exact nm_r (nI_1 b) ih2
theorem fx_knownWithout {post : Int32 → SX → Prop} {n h : Nat} {S V : Nat → Nat} (K : fx_Ok n h S V) (om z ct : Int32) (ab : Nat → Int32)
    (H : ∀ (B : Nat → Nat) (z : Nat) (con : Bool) (ab : Nat → Int32), (∀ b, b < 8 → ab b = nI (B b)) → gf_Inv n (fx_R S V) (fx_in om) h B z con → post (nI (gf_yk (fx_R S V) (fx_in om) h n)) (nI n, nI (2 ^ n - 1), nI h, nI z, fx_cb con, fx_rw S V, ab)) :
    wpX_knownWithout post (nI n, nI (2 ^ n - 1), nI h, z, ct, fx_rw S V, ab) om := by
  unfold wpX_knownWithout
  refine fx_build K om z ct ab (fun B z con ab hB I => ?_)
  have hp := H B z con ab hB I
  rw [gf_yk_kn K.2.1 I] at hp
  refine fx_cb1 (fun e => ?_) (fun e => ?_)
  · subst e
    exact hp
  · subst e
    exact ⟨n + 1, fx_kn18 K.2.1 I hB hp n 0 (by omega)⟩
/-- what sumOf answers for a good set -/
def fx_fs (B : Nat → Nat) (con : Bool) (t : Nat) : Int32 := if con = true then -2 else if gf_spn B t = true then nI (gf_red B 8 (t * 256)) else -2
theorem fx_fixedSum {post : Int32 → SX → Prop} {n h : Nat} {S V : Nat → Nat} (K : fx_Ok n h S V) (z ct : Int32) (ab : Nat → Int32) {t : Nat} (ht : t < 2 ^ n)
    (H : ∀ (B : Nat → Nat) (z : Nat) (con : Bool) (ab : Nat → Int32), gf_Inv n (fx_R S V) (fx_in (-1)) h B z con → post (fx_fs B con t) (nI n, nI (2 ^ n - 1), nI h, nI z, fx_cb con, fx_rw S V, ab)) :
    wpX_fixedSum post (nI n, nI (2 ^ n - 1), nI h, z, ct, fx_rw S V, ab) (nI t) := by
  have h8 := gf_p8 K.2.1
  unfold wpX_fixedSum
  refine fx_build K (-1) z ct ab (fun B z con ab hB I => ?_)
  have hp := H B z con ab I
  refine fx_cb1 (fun e => ?_) (fun e => ?_)
  · subst e
    exact hp
  · subst e
    show wpX_reduce _ (nI n, nI (2 ^ n - 1), nI h, nI z, fx_cb false, fx_rw S V, ab) (nI t <<< ((8 : Int32) &&& 31))
    rw [fz_shl8 (by omega)]
    refine fx_reduce hB (fx_q8 (fx_q16 K.2.1 I ht) (fun e => ?_) (fun e => ?_))
    · have w : gf_spn B t = true := decide_eq_true e
      unfold fx_fs at hp
      rw [if_neg (by decide), if_pos w] at hp
      exact hp
    · have w : gf_spn B t = false := decide_eq_false e
      unfold fx_fs at hp
      rw [if_neg (by decide), if_neg (by rw [w]; decide)] at hp
      exact hp
/-! spare -/
def fx_sc (S V : Nat → Nat) (h n : Nat) : Nat → Nat
  | 0 => 0
  | i + 1 => fx_sc S V h n i + (if nI (gf_yk (fx_R S V) (fx_in (nI i)) h n) &&& nI (gf_yk (fx_R S V) (fx_in (-1)) h n) = nI (gf_yk (fx_R S V) (fx_in (-1)) h n) then 1 else 0)
theorem fx_sc_s (S V : Nat → Nat) (h n i : Nat) : fx_sc S V h n (i + 1) = fx_sc S V h n i + (if nI (gf_yk (fx_R S V) (fx_in (nI i)) h n) &&& nI (gf_yk (fx_R S V) (fx_in (-1)) h n) = nI (gf_yk (fx_R S V) (fx_in (-1)) h n) then 1 else 0) := rfl
theorem fx_sp10 {post : Int32 → SX → Prop} {n h : Nat} {S V : Nat → Nat} (K : fx_Ok n h S V)
    (H : ∀ (z ct : Int32) (ab : Nat → Int32), post (nI (fx_sc S V h n h)) (nI n, nI (2 ^ n - 1), nI h, z, ct, fx_rw S V, ab)) :
    ∀ d i, i + d = h → ∀ (z ct : Int32) (ab : Nat → Int32), wX_spare_10 post (nI (gf_yk (fx_R S V) (fx_in (-1)) h n)) (d + 1) (nI (fx_sc S V h n i)) (nI i) (nI n) (nI (2 ^ n - 1)) (nI h) z ct (fx_rw S V) ab := by
  have hh := K.2.2.1
  intro d
  induction d with
  | zero =>
    intro i hi z ct ab
    have e : i = h := by omega
    subst e
    exact br_t (Int32.le_refl _) (H z ct ab)
  | succ d ih =>
    intro i hi z ct ab
    refine br_f (nI_ge (by omega) (by omega)) ?_
    refine fx_knownWithout K (nI i) z ct ab (fun B z con ab hB I => ?_)
    refine ek_if (fz_sub _ _) (fun e => ?_) (fun e => ?_)
    · have ih2 := ih (i + 1) (by omega) (nI z) (fx_cb con) ab
      rw [fx_sc_s, if_pos e] at ih2
      exact nm_r (nI_1 _) (nm_r (nI_1 i) ih2)
    · have ih2 := ih (i + 1) (by omega) (nI z) (fx_cb con) ab
      rw [fx_sc_s, if_neg e] at ih2
      exact nm_r (nI_1 i) ih2
theorem fx_spare {post : Int32 → SX → Prop} {n h : Nat} {S V : Nat → Nat} (K : fx_Ok n h S V) (z ct : Int32) (ab : Nat → Int32)
    (H : ∀ (z ct : Int32) (ab : Nat → Int32), post (nI (fx_sc S V h n h)) (nI n, nI (2 ^ n - 1), nI h, z, ct, fx_rw S V, ab)) :
    wpX_spare post (nI n, nI (2 ^ n - 1), nI h, z, ct, fx_rw S V, ab) := by
  unfold wpX_spare
  refine fx_knownWithout K (-1) z ct ab (fun B z con ab hB I => ?_)
  exact ⟨h + 1, fx_sp10 K H h 0 (by omega) (nI z) (fx_cb con) ab⟩
/-! drawn sets -/
theorem fx_0 {n : Nat} (h1 : 1 ≤ n) (h8 : n ≤ 8) : ¬ nI n = 0 := nI_ne0 h1 (by omega)
theorem fx_rot {n x : Nat} (h1 : 1 ≤ n) (h8 : n ≤ 8) (hx : x < 2 ^ 31) : (1 : Int32) <<< ((nI x - nI x / nI n * nI n) &&& 31) = nI (2 ^ (x % n)) := by
  rw [pk_rem hx h1 (by omega)]
  exact fz_shl1 (x % n) (by have := Nat.mod_lt x h1; omega)
theorem fx_x {r : Nat} : nI r * 7919 + 104729 = nI (fz_x r) := by
  have e : nI r * nI 7919 + nI 104729 = nI (r * 7919 + 104729) := by rw [pk_mul, nI_add]
  exact e
theorem fx_size {r : Nat} (h : r < 10000) : (1 : Int32) + ((nI (fz_x r) / 7) - (nI (fz_x r) / 7) / 3 * 3) = nI (1 + fz_x r / 7 % 3) := by
  have hx := fz_x_lt h
  have e1 : nI (fz_x r) / nI 7 = nI (fz_x r / 7) := pk_div hx (by decide) (by decide)
  have e2 : nI (fz_x r / 7) - nI (fz_x r / 7) / nI 3 * nI 3 = nI (fz_x r / 7 % 3) := pk_rem (by omega) (by decide) (by decide)
  have e3 : nI 1 + nI (fz_x r / 7 % 3) = nI (1 + fz_x r / 7 % 3) := nI_add _ _
  rw [← e3, ← e2, ← e1]
  rfl
theorem fx_so_end {post : Int32 → Prop} {s : Nat} (hs : s < 256) (hp : post (nI (if s = 0 then 1 else s))) : (nI s = 0 → post 1) ∧ (¬ nI s = 0 → post (nI s)) := by
  refine pk_eq s 0 (fun e => ?_) (fun e => ?_)
  · rw [if_pos e] at hp
    exact hp
  · rw [if_neg e] at hp
    exact hp
theorem fx_setOfNumber {post : Int32 → Prop} {n : Nat} {al sc z ct : Int32} {ar ab : Nat → Int32} (h1 : 1 ≤ n) (h8 : n ≤ 8) {r : Nat} (hr : r < 10000) (hp : post (nI (fz_so n r))) : wpX_setOfNumber post (nI n, al, sc, z, ct, ar, ab) (nI r) := by
  have hx := fz_x_lt hr
  have p8 := gf_p8 h8
  have d1 : fz_x r / n ≤ fz_x r := Nat.div_le_self _ _
  have d2 : fz_x r / n / n ≤ fz_x r / n := Nat.div_le_self _ _
  have hm : fz_x r / 7 % 3 < 3 := Nat.mod_lt _ (by decide)
  have b1 := fz_s1_lt h1 r
  have b2 := fz_s2_lt h1 r
  have b3 := fz_s3_lt h1 r
  have z0 : ¬ nI n = 0 := fx_0 h1 h8
  unfold fz_so fz_sx at hp
  unfold wpX_setOfNumber
  refine nm_r fx_x ⟨by decide, by decide, nm_r (fx_size hr) ⟨5, ?_⟩⟩
  have step1 : (0 : Int32) ^^^ ((1 : Int32) <<< ((nI (fz_x r) - nI (fz_x r) / nI n * nI n) &&& 31)) = nI (fz_s1 n r) := by
    rw [fx_rot h1 h8 hx, ← nI_0, nx_xor, Nat.zero_xor]
    rfl
  have step2 : nI (fz_s1 n r) ^^^ ((1 : Int32) <<< ((nI (fz_x r / n) - nI (fz_x r / n) / nI n * nI n) &&& 31)) = nI (fz_s2 n r) := by
    rw [fx_rot h1 h8 (by omega), nx_xor]
    rfl
  have step3 : nI (fz_s2 n r) ^^^ ((1 : Int32) <<< ((nI (fz_x r / n / n) - nI (fz_x r / n / n) / nI n * nI n) &&& 31)) = nI (fz_s3 n r) := by
    rw [fx_rot h1 h8 (by omega), nx_xor, Nat.div_div_eq_div_mul]
    rfl
  have v1 : nI (fz_x r) / nI n = nI (fz_x r / n) := pk_div hx h1 (by omega)
  have v2 : nI (fz_x r / n) / nI n = nI (fz_x r / n / n) := pk_div (by omega) h1 (by omega)
  have v3 : nI (fz_x r / n / n) / nI n = nI (fz_x r / n / n / n) := pk_div (by omega) h1 (by omega)
  refine pk_le (1 + fz_x r / 7 % 3) 0 (fun e => absurd e (by omega)) (fun _ => ⟨z0, nm_r step1 ⟨z0, nm_r v1 (nm_r (nI_1 0) ?_)⟩⟩)
  refine pk_le (1 + fz_x r / 7 % 3) 1 (fun e => fx_so_end (by omega) ?_) (fun e1 => ⟨z0, nm_r step2 ⟨z0, nm_r v2 (nm_r (nI_1 1) ?_)⟩⟩)
  · rw [if_pos (show fz_x r / 7 % 3 = 0 by omega)] at hp
    exact hp
  refine pk_le (1 + fz_x r / 7 % 3) 2 (fun e => fx_so_end (by omega) ?_) (fun e2 => ⟨z0, nm_r step3 ⟨z0, nm_r v3 (nm_r (nI_1 2) ?_)⟩⟩)
  · rw [if_neg (show ¬ fz_x r / 7 % 3 = 0 by omega), if_pos (show fz_x r / 7 % 3 = 1 by omega)] at hp
    exact hp
  refine pk_le (1 + fz_x r / 7 % 3) 3 (fun e => fx_so_end (by omega) ?_) (fun e3 => absurd e3 (by omega))
  rw [if_neg (show ¬ fz_x r / 7 % 3 = 0 by omega), if_neg (show ¬ fz_x r / 7 % 3 = 1 by omega)] at hp
  exact hp
/-! useful -/
def fx_Ans (H : Nat → Bool) (x : Int32) : Prop := (x = -1 ∧ ∀ r, r < 10000 → H r = false) ∨ (∃ r, r < 10000 ∧ x = nI r ∧ H r = true ∧ ∀ s, s < r → H s = false)
theorem fx_Ans_1 {H : Nat → Bool} {x y : Int32} (hx : fx_Ans H x) (hy : fx_Ans H y) : y = x := by
  rcases hx with ⟨e, h⟩ | ⟨r, hr, e, h, hl⟩ <;> rcases hy with ⟨e', h'⟩ | ⟨r', hr', e', h', hl'⟩
  · rw [e, e']
  · rw [h r' hr'] at h'
    exact absurd h' (by decide)
  · rw [h' r hr] at h
    exact absurd h (by decide)
  · have : r = r' := by
      rcases Nat.lt_trichotomy r r' with q | q | q
      · rw [hl' r q] at h
        exact absurd h (by decide)
      · exact q
      · rw [hl r' q] at h'
        exact absurd h' (by decide)
    rw [e, e', this]
theorem fx_wr23 {post : Int32 → Prop} {J : Int32 → Prop} {al sc z ct kn : Int32} {ar ab : Nat → Int32} {R : Nat → Nat} {inn : Nat → Bool} {n m : Nat} {B : Nat → Nat} {zz : Nat} {con : Bool} (hn : n ≤ 8) (I : gf_Inv n R inn m B zz con) (hB : ∀ b, b < 8 → ab b = nI (B b)) {s b : Nat} (hs : s < 2 ^ n) (hb : b < n) {k : Bool}
    (H1 : (!k && gf_spn B (s ^^^ 2 ^ b)) = true → post 1) (H0 : (!k && gf_spn B (s ^^^ 2 ^ b)) = false → J (nI (b + 1))) : wX_wouldReveal_23 post J (nI s) kn (nI b) (fx_cb k) (nI n) al sc z ct ar ab := by
  have hb2 := fx_bit hn hb
  have hx : s ^^^ 2 ^ b < 2 ^ n := Nat.xor_lt_two_pow hs hb2.1
  have p8 := gf_p8 hn
  unfold wX_wouldReveal_23
  refine fx_cb1 (fun e => ?_) (fun e => ?_)
  · subst e
    exact nm_r (nI_1 b) (H0 rfl)
  · subst e
    rw [fz_shl1 b (by omega), nx_xor]
    refine fx_span hB (by omega) (fx_q16 hn I hx) (fx_cb1 (fun e => ?_) (fun e => ?_))
    · exact H1 (by rw [e]; rfl)
    · exact nm_r (nI_1 b) (H0 (by rw [e]; rfl))
theorem fx_wr2 {post : Int32 → Prop} {al sc z ct : Int32} {ar ab : Nat → Int32} {R : Nat → Nat} {inn : Nat → Bool} {n m : Nat} {B : Nat → Nat} {zz : Nat} {con : Bool} (hn : n ≤ 8) (I : gf_Inv n R inn m B zz con) (hB : ∀ b, b < 8 → ab b = nI (B b)) {s : Nat} (hs : s < 2 ^ n) (hp : post (fx_cb (gf_rv B n s))) :
    ∀ d b, b + d = n → (∀ c, c < b → (!(gf_spn B (2 ^ c)) && gf_spn B (s ^^^ 2 ^ c)) = false) → wX_wouldReveal_2 post (nI s) (nI (gf_kn B n)) (nI n) al sc z ct ar ab (d + 1) (nI b) := by
  have p8 := gf_p8 hn
  have hk : gf_kn B n < 2 ^ n := gf_mk_lt _ n
  intro d
  induction d with
  | zero =>
    intro b hb hz
    have e : b = n := by omega
    subst e
    have w : gf_rv B b s = false := gf_ex_no hz
    rw [w] at hp
    exact br_t (Int32.le_refl _) hp
  | succ d ih =>
    intro b hb hz
    refine br_f (nI_ge (by omega) (by omega)) ?_
    rw [fz_vb (by omega) (by omega)]
    have hbit : (gf_kn B n).testBit b = gf_spn B (2 ^ b) := by
      unfold gf_kn
      rw [gf_mk_bit, decide_eq_true (show b < n by omega), Bool.true_and]
    rw [hbit]
    have H1 : (!(gf_spn B (2 ^ b)) && gf_spn B (s ^^^ 2 ^ b)) = true → post 1 := by
      intro e
      have w : gf_rv B n s = true := gf_ex_iff.mpr ⟨b, by omega, e⟩
      rw [w] at hp
      exact hp
    have H0 : (!(gf_spn B (2 ^ b)) && gf_spn B (s ^^^ 2 ^ b)) = false → wX_wouldReveal_2 post (nI s) (nI (gf_kn B n)) (nI n) al sc z ct ar ab (d + 1) (nI (b + 1)) := by
      intro e
      refine ih (b + 1) (by omega) (fun c hc => ?_)
      by_cases q : c = b
      · rw [q]; exact e
      · exact hz c (by omega)
    cases w : gf_spn B (2 ^ b)
    · rw [w] at H1 H0
      exact br_t (by decide) (fx_wr23 (k := false) hn I hB hs (by omega) H1 H0)
    · rw [w] at H1 H0
      exact br_f (by decide) (fx_wr23 (k := true) hn I hB hs (by omega) H1 H0)
theorem fx_us17 {post : Int32 → SX → Prop} {al sc z ct : Int32} {ar ab : Nat → Int32} {R : Nat → Nat} {inn : Nat → Bool} {n m : Nat} {B : Nat → Nat} {zz : Nat} {con : Bool} (h1 : 1 ≤ n) (hn : n ≤ 8) (I : gf_Inv n R inn m B zz con) (hB : ∀ b, b < 8 → ab b = nI (B b)) (H : ∀ x, fx_Ans (fun r => gf_rv B n (fz_so n r)) x → post x (nI n, al, sc, z, ct, ar, ab)) :
    ∀ d r, r + d = 10000 → (∀ s, s < r → gf_rv B n (fz_so n s) = false) → wX_useful_17 post (nI (gf_kn B n)) (nI n) al sc z ct ar ab (d + 1) (nI r) := by
  intro d
  induction d with
  | zero =>
    intro r hr hz
    have e : r = 10000 := by omega
    subst e
    exact br_t (by decide) (H _ (Or.inl ⟨rfl, hz⟩))
  | succ d ih =>
    intro r hr hz
    refine br_f (nI_nlt (a := 9999) (by omega) (by decide)) ?_
    refine fx_setOfNumber h1 hn (by omega) ?_
    refine ⟨n + 1, fx_wr2 hn I hB (fz_so_lt h1 r) (fx_cb1 (fun e => ?_) (fun e => ?_)) n 0 (by omega) (fun c hc => absurd hc (Nat.not_lt_zero c))⟩
    · exact H _ (Or.inr ⟨r, by omega, rfl, e, hz⟩)
    · refine nm_r (nI_1 r) (ih (r + 1) (by omega) (fun s hs => ?_))
      by_cases q : s = r
      · rw [q]; exact e
      · exact hz s (by omega)

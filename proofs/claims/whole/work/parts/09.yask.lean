/-! Y: solve, consistent, known, spare, sumOf -/
theorem fy_v22 {post : Int32 → SY → Prop} {n h : Nat} {S V : Nat → Nat} (K : fx_Ok n h S V) {om : Int32} {od tr : Nat → Int32} (hod : fy_Od od) {j : Nat} (hj : j < 8)
    (hp : post (fx_cb (gf_ex (gf_sv (fx_R S V) (fx_in om) h j) (2 ^ n))) (nI n, nI h, nI (gf_or (gf_sv (fx_R S V) (fx_in om) h j) (2 ^ n)), nI (gf_an (gf_sv (fx_R S V) (fx_in om) h j) (2 ^ n - 1) (2 ^ n)), fx_ni S, fx_ni V, od, tr)) :
    ∀ d a, a + d = 2 ^ n → wY_solve_22 post (nI j) om (nI n) (nI h) (fx_ni S) (fx_ni V) od tr (d + 1) (fx_cb (gf_ex (gf_sv (fx_R S V) (fx_in om) h j) a)) (nI a) (nI (gf_or (gf_sv (fx_R S V) (fx_in om) h j) a)) (nI (gf_an (gf_sv (fx_R S V) (fx_in om) h j) (2 ^ n - 1) a)) := by
  have p8 := gf_p8 K.2.1
  have hs := fy_sh K.2.1
  intro d
  induction d with
  | zero =>
    intro a ha
    have e : a = 2 ^ n := by omega
    subst e
    exact br_t (by rw [hs]; exact Int32.le_refl _) ⟨fy_nb _, hp⟩
  | succ d ih =>
    intro a ha
    have ih2 := ih (a + 1) (by omega)
    have w1 : gf_ex (gf_sv (fx_R S V) (fx_in om) h j) (a + 1) = (gf_ex (gf_sv (fx_R S V) (fx_in om) h j) a || gf_sv (fx_R S V) (fx_in om) h j a) := rfl
    rw [gf_or_s, gf_an_s, w1] at ih2
    refine br_f (by rw [hs]; exact nI_ge (by omega) (by omega)) (fy_solves K hod hj (fx_cb1 (fun e => ?_) (fun e => ?_)))
    · rw [if_pos e, if_pos e, e, Bool.or_true] at ih2
      exact nm_r (fz_or _ _) (nm_r (nx_and _ _) (nm_r (nI_1 a) ih2))
    · rw [if_neg (by rw [e]; decide), if_neg (by rw [e]; decide), e, Bool.or_false] at ih2
      exact nm_r (nI_1 a) ih2
theorem fy_solve {post : Int32 → SY → Prop} {n h : Nat} {S V : Nat → Nat} (K : fx_Ok n h S V) {so al om : Int32} {od tr : Nat → Int32} (hod : fy_Od od) {j : Nat} (hj : j < 8)
    (hp : post (fx_cb (gf_ex (gf_sv (fx_R S V) (fx_in om) h j) (2 ^ n))) (nI n, nI h, nI (gf_or (gf_sv (fx_R S V) (fx_in om) h j) (2 ^ n)), nI (gf_an (gf_sv (fx_R S V) (fx_in om) h j) (2 ^ n - 1) (2 ^ n)), fx_ni S, fx_ni V, od, tr)) :
    wpY_solve post (nI n, nI h, so, al, fx_ni S, fx_ni V, od, tr) (nI j) om := by
  unfold wpY_solve
  exact nm_r (fy_sh1 K.2.1) ⟨2 ^ n + 1, fy_v22 K hod hj hp (2 ^ n) 0 (by omega)⟩
theorem fy_c2 {post : Int32 → SY → Prop} {n h : Nat} {S V : Nat → Nat} (K : fx_Ok n h S V) {od tr : Nat → Int32} (hod : fy_Od od)
    (H : ∀ so al : Int32, post (fx_cb (gf_cs (fx_R S V) (fx_in (-1)) h n)) (nI n, nI h, so, al, fx_ni S, fx_ni V, od, tr)) :
    ∀ d j, j + d = 8 → (∀ i, i < j → gf_ex (gf_sv (fx_R S V) (fx_in (-1)) h i) (2 ^ n) = true) → ∀ so al : Int32, wY_consistent_2 post (d + 1) (nI j) (nI n) (nI h) so al (fx_ni S) (fx_ni V) od tr := by
  intro d
  induction d with
  | zero =>
    intro j hj hz so al
    have e : j = 8 := by omega
    subst e
    have w : gf_cs (fx_R S V) (fx_in (-1)) h n = true := gf_al_iff.mpr hz
    have hp := H so al
    rw [w] at hp
    exact br_t (by decide) hp
  | succ d ih =>
    intro j hj hz so al
    refine br_f (nI_ge (b := 8) (by omega) (by decide)) (fy_solve K hod (by omega) (fx_cb1 (fun e => ?_) (fun e => ?_)))
    · refine nm_r (nI_1 j) (ih (j + 1) (by omega) (fun i hi => ?_) _ _)
      by_cases q : i = j
      · rw [q]; exact e
      · exact hz i (by omega)
    · have w : gf_cs (fx_R S V) (fx_in (-1)) h n = false := gf_al_no (Q := fun j => gf_ex (gf_sv (fx_R S V) (fx_in (-1)) h j) (2 ^ n)) (show j < 8 by omega) e
      have hp := H (nI (gf_or (gf_sv (fx_R S V) (fx_in (-1)) h j) (2 ^ n))) (nI (gf_an (gf_sv (fx_R S V) (fx_in (-1)) h j) (2 ^ n - 1) (2 ^ n)))
      rw [w] at hp
      exact hp
theorem fy_consistent {post : Int32 → SY → Prop} {n h : Nat} {S V : Nat → Nat} (K : fx_Ok n h S V) {so al : Int32} {od tr : Nat → Int32} (hod : fy_Od od)
    (H : ∀ so al : Int32, post (fx_cb (gf_cs (fx_R S V) (fx_in (-1)) h n)) (nI n, nI h, so, al, fx_ni S, fx_ni V, od, tr)) : wpY_consistent post (nI n, nI h, so, al, fx_ni S, fx_ni V, od, tr) :=
  ⟨9, fy_c2 K hod H 8 0 (by omega) (fun i hi => absurd hi (Nat.not_lt_zero i)) so al⟩
theorem fy_k4 {post : Int32 → SY → Prop} {n h : Nat} {S V : Nat → Nat} (K : fx_Ok n h S V) (om : Int32) {od tr : Nat → Int32} (hod : fy_Od od)
    (H : ∀ so al : Int32, post (nI (gf_yk (fx_R S V) (fx_in om) h n)) (nI n, nI h, so, al, fx_ni S, fx_ni V, od, tr)) :
    ∀ d j, j + d = 8 → (∀ i, i < j → gf_ex (gf_sv (fx_R S V) (fx_in om) h i) (2 ^ n) = true) → ∀ so al : Int32, wY_knownWithout_4 post om (d + 1) (nI (gf_op (fx_R S V) (fx_in om) h n j)) (nI j) (nI n) (nI h) so al (fx_ni S) (fx_ni V) od tr := by
  intro d
  induction d with
  | zero =>
    intro j hj hz so al
    have e : j = 8 := by omega
    subst e
    have w : gf_cs (fx_R S V) (fx_in om) h n = true := gf_al_iff.mpr hz
    have hp := H so al
    unfold gf_yk at hp
    rw [if_pos w] at hp
    have hl := gf_op_lt (fx_R S V) (fx_in om) h n 8
    have e2 : ((1 : Int32) <<< (nI n &&& 31)) - 1 - nI (gf_op (fx_R S V) (fx_in om) h n 8) = nI (2 ^ n - 1 - gf_op (fx_R S V) (fx_in om) h n 8) := by
      rw [fy_sh1 K.2.1]
      exact pk_sub (by omega)
    refine br_t (by decide) ?_
    rw [e2]
    exact hp
  | succ d ih =>
    intro j hj hz so al
    refine br_f (nI_ge (b := 8) (by omega) (by decide)) (fy_solve K hod (by omega) (fx_cb1 (fun e => ?_) (fun e => ?_)))
    · refine nm_r (e' := nI (gf_op (fx_R S V) (fx_in om) h n (j + 1))) ?_ (nm_r (nI_1 j) (ih (j + 1) (by omega) (fun i hi => ?_) _ _))
      · rw [nx_xor, fz_or]
        rfl
      · by_cases q : i = j
        · rw [q]; exact e
        · exact hz i (by omega)
    · have w : gf_cs (fx_R S V) (fx_in om) h n = false := gf_al_no (Q := fun j => gf_ex (gf_sv (fx_R S V) (fx_in om) h j) (2 ^ n)) (show j < 8 by omega) e
      have hp := H (nI (gf_or (gf_sv (fx_R S V) (fx_in om) h j) (2 ^ n))) (nI (gf_an (gf_sv (fx_R S V) (fx_in om) h j) (2 ^ n - 1) (2 ^ n)))
      unfold gf_yk at hp
      rw [if_neg (by rw [w]; decide)] at hp
      exact hp
theorem fy_knownWithout {post : Int32 → SY → Prop} {n h : Nat} {S V : Nat → Nat} (K : fx_Ok n h S V) (om : Int32) {so al : Int32} {od tr : Nat → Int32} (hod : fy_Od od)
    (H : ∀ so al : Int32, post (nI (gf_yk (fx_R S V) (fx_in om) h n)) (nI n, nI h, so, al, fx_ni S, fx_ni V, od, tr)) : wpY_knownWithout post (nI n, nI h, so, al, fx_ni S, fx_ni V, od, tr) om :=
  ⟨9, fy_k4 K om hod H 8 0 (by omega) (fun i hi => absurd hi (Nat.not_lt_zero i)) so al⟩
theorem fy_known {post : Int32 → SY → Prop} {n h : Nat} {S V : Nat → Nat} (K : fx_Ok n h S V) {so al : Int32} {od tr : Nat → Int32} (hod : fy_Od od)
    (H : ∀ so al : Int32, post (nI (gf_yk (fx_R S V) (fx_in (-1)) h n)) (nI n, nI h, so, al, fx_ni S, fx_ni V, od, tr)) : wpY_known post (nI n, nI h, so, al, fx_ni S, fx_ni V, od, tr) := by
  unfold wpY_known
  exact fy_knownWithout K (-1) hod H
theorem fy_sp9 {post : Int32 → SY → Prop} {n h : Nat} {S V : Nat → Nat} (K : fx_Ok n h S V) {od tr : Nat → Int32} (hod : fy_Od od)
    (H : ∀ so al : Int32, post (nI (fx_sc S V h n h)) (nI n, nI h, so, al, fx_ni S, fx_ni V, od, tr)) :
    ∀ d i, i + d = h → ∀ so al : Int32, wY_spare_9 post (nI (gf_yk (fx_R S V) (fx_in (-1)) h n)) (d + 1) (nI (fx_sc S V h n i)) (nI i) (nI n) (nI h) so al (fx_ni S) (fx_ni V) od tr := by
  have hh := K.2.2.1
  intro d
  induction d with
  | zero =>
    intro i hi so al
    have e : i = h := by omega
    subst e
    exact br_t (Int32.le_refl _) (H so al)
  | succ d ih =>
    intro i hi so al
    refine br_f (nI_ge (by omega) (by omega)) (fy_knownWithout K (nI i) hod (fun so al => br_c (fun e => ?_) (fun e => ?_)))
    · have ih2 := ih (i + 1) (by omega) so al
      rw [fx_sc_s, if_pos e] at ih2
      exact nm_r (nI_1 _) (nm_r (nI_1 i) ih2)
    · have ih2 := ih (i + 1) (by omega) so al
      rw [fx_sc_s, if_neg e] at ih2
      exact nm_r (nI_1 i) ih2
theorem fy_spare {post : Int32 → SY → Prop} {n h : Nat} {S V : Nat → Nat} (K : fx_Ok n h S V) {so al : Int32} {od tr : Nat → Int32} (hod : fy_Od od)
    (H : ∀ so al : Int32, post (nI (fx_sc S V h n h)) (nI n, nI h, so, al, fx_ni S, fx_ni V, od, tr)) : wpY_spare post (nI n, nI h, so, al, fx_ni S, fx_ni V, od, tr) := by
  unfold wpY_spare
  exact fy_known K hod (fun so al => ⟨h + 1, fy_sp9 K hod H h 0 (by omega) so al⟩)
/-! sumOf -/
theorem fy_od {od : Nat → Int32} (hod : fy_Od od) {a s n : Nat} (hs : s < 2 ^ n) (hn : n ≤ 8) {A C : Prop} (h1 : gf_par (a &&& s) = true → C) (h0 : gf_par (a &&& s) = false → A) : vp_in (nI a &&& nI s) 256 ∧ ((od (nI a &&& nI s).toNatClampNeg = 0 → A) ∧ (¬ od (nI a &&& nI s).toNatClampNeg = 0 → C)) := by
  have ha := fy_and_i (a := a) hs (gf_p8 hn)
  rw [nx_and, nI_clamp (by omega), hod _ ha]
  exact ⟨vp_in_nI ha (by omega), fx_cb1 h1 h0⟩
theorem fy_m26 {post : Int32 → Prop} {J : Int32 → Int32 → Prop} {n h : Nat} {S V : Nat → Nat} (K : fx_Ok n h S V) {so al : Int32} {od tr : Nat → Int32} (hod : fy_Od od) {s j : Nat} (hs : s < 2 ^ n) (hj : j < 8) {x2 : Int32}
    (H0 : gf_kd (gf_sv (fx_R S V) (fx_in (-1)) h j) s (2 ^ n) = 0 → post (-2)) (H3 : gf_kd (gf_sv (fx_R S V) (fx_in (-1)) h j) s (2 ^ n) = 3 → post (-2))
    (H2 : gf_kd (gf_sv (fx_R S V) (fx_in (-1)) h j) s (2 ^ n) = 2 → J (x2 ||| nI (2 ^ j)) (nI (j + 1))) (H1 : gf_kd (gf_sv (fx_R S V) (fx_in (-1)) h j) s (2 ^ n) = 1 → J x2 (nI (j + 1))) :
    ∀ d a, a + d = 2 ^ n → wY_sumOf_26 post J (nI s) x2 (nI j) (nI n) (nI h) so al (fx_ni S) (fx_ni V) od tr (d + 1) (nI (gf_kd (gf_sv (fx_R S V) (fx_in (-1)) h j) s a)) (nI a) := by
  have p8 := gf_p8 K.2.1
  have hsh := fy_sh K.2.1
  intro d
  induction d with
  | zero =>
    intro a ha
    have e : a = 2 ^ n := by omega
    subst e
    have hk := gf_kd_le (gf_sv (fx_R S V) (fx_in (-1)) h j) s (2 ^ n)
    refine br_t (by rw [hsh]; exact Int32.le_refl _) ?_
    generalize gf_kd (gf_sv (fx_R S V) (fx_in (-1)) h j) s (2 ^ n) = kd at H0 H1 H2 H3 hk
    refine pk_eq kd 0 H0 (fun n0 => pk_eq kd 3 H3 (fun n3 => pk_eq kd 2 (fun e => nm_r (e' := x2 ||| nI (2 ^ j)) ?_ (nm_r (nI_1 j) (H2 e))) (fun n2 => nm_r (nI_1 j) (H1 (by omega)))))
    rw [fz_shl1 j (by omega)]
  | succ d ih =>
    intro a ha
    have ih2 := ih (a + 1) (by omega)
    rw [gf_kd_s] at ih2
    refine br_f (by rw [hsh]; exact nI_ge (by omega) (by omega)) (fy_solves K hod hj (fx_cb1 (fun e => fy_od hod hs K.2.1 (fun e2 => ?_) (fun e2 => ?_)) (fun e => ?_)))
    · rw [if_pos e, if_pos e2] at ih2
      exact nm_r (fz_or _ 2) (nm_r (nI_1 a) ih2)
    · rw [if_pos e, if_neg (by rw [e2]; decide)] at ih2
      exact nm_r (fz_or _ 1) (nm_r (nI_1 a) ih2)
    · rw [if_neg (by rw [e]; decide)] at ih2
      exact nm_r (nI_1 a) ih2
theorem fy_m14b {post : Int32 → Prop} {n h : Nat} {S V : Nat → Nat} (K : fx_Ok n h S V) {so al : Int32} {od tr : Nat → Int32} (hod : fy_Od od) {s : Nat} (hs : s < 2 ^ n) (hp : post (-2)) :
    ∀ d j, j + d = 8 → (∃ i, j ≤ i ∧ i < 8 ∧ (gf_kd (gf_sv (fx_R S V) (fx_in (-1)) h i) s (2 ^ n) = 0 ∨ gf_kd (gf_sv (fx_R S V) (fx_in (-1)) h i) s (2 ^ n) = 3)) → ∀ x2 : Int32, wY_sumOf_14 post (nI s) (nI n) (nI h) so al (fx_ni S) (fx_ni V) od tr (d + 1) x2 (nI j) := by
  intro d
  induction d with
  | zero =>
    intro j hj hx x2
    obtain ⟨i, h1, h2, _⟩ := hx
    omega
  | succ d ih =>
    intro j hj hx x2
    obtain ⟨i, h1, h2, h3⟩ := hx
    have nx : ∀ c, gf_kd (gf_sv (fx_R S V) (fx_in (-1)) h j) s (2 ^ n) = c → c ≠ 0 → c ≠ 3 → ∃ i, j + 1 ≤ i ∧ i < 8 ∧ (gf_kd (gf_sv (fx_R S V) (fx_in (-1)) h i) s (2 ^ n) = 0 ∨ gf_kd (gf_sv (fx_R S V) (fx_in (-1)) h i) s (2 ^ n) = 3) := by
      intro c hc c0 c3
      by_cases e : i = j
      · subst e
        rw [hc] at h3
        exact absurd h3 (fun q => q.elim c0 c3)
      · exact ⟨i, by omega, h2, h3⟩
    refine br_f (nI_ge (b := 8) (by omega) (by decide)) ⟨2 ^ n + 1, ?_⟩
    exact fy_m26 K hod hs (by omega) (fun _ => hp) (fun _ => hp) (fun e => ih (j + 1) (by omega) (nx 2 e (by decide) (by decide)) _) (fun e => ih (j + 1) (by omega) (nx 1 e (by decide) (by decide)) _) (2 ^ n) 0 (by omega)
theorem fy_m14g {post : Int32 → Prop} {n h : Nat} {S V : Nat → Nat} (K : fx_Ok n h S V) {so al : Int32} {od tr : Nat → Int32} (hod : fy_Od od) {s q : Nat} (hs : s < 2 ^ n) (hq : q < 256) (hk : ∀ j, j < 8 → gf_kd (gf_sv (fx_R S V) (fx_in (-1)) h j) s (2 ^ n) = if q.testBit j = true then 2 else 1) (hp : post (nI q)) :
    ∀ d j, j + d = 8 → wY_sumOf_14 post (nI s) (nI n) (nI h) so al (fx_ni S) (fx_ni V) od tr (d + 1) (nI (gf_mk (fun b => q.testBit b) j)) (nI j) := by
  intro d
  induction d with
  | zero =>
    intro j hj
    have e : j = 8 := by omega
    subst e
    have w : gf_mk (fun b => q.testBit b) 8 = q := by
      apply Nat.eq_of_testBit_eq
      intro i
      rw [gf_mk_bit]
      by_cases e : i < 8
      · rw [decide_eq_true e, Bool.true_and]
      · rw [decide_eq_false e, Bool.false_and]
        have h2 : 2 ^ 8 ≤ 2 ^ i := Nat.pow_le_pow_right (by decide) (by omega)
        exact (Nat.testBit_lt_two_pow (by omega)).symm
    rw [w]
    exact br_t (by decide) hp
  | succ d ih =>
    intro j hj
    have ih2 := ih (j + 1) (by omega)
    rw [gf_mk_s] at ih2
    have hkj := hk j (by omega)
    refine br_f (nI_ge (b := 8) (by omega) (by decide)) ⟨2 ^ n + 1, ?_⟩
    refine fy_m26 K hod hs (by omega) (fun e => ?_) (fun e => ?_) (fun e => ?_) (fun e => ?_) (2 ^ n) 0 (by omega)
    · exfalso
      rw [e] at hkj
      split at hkj <;> omega
    · exfalso
      rw [e] at hkj
      split at hkj <;> omega
    · by_cases w : q.testBit j = true
      · rw [if_pos w] at ih2
        rw [fz_or]
        exact ih2
      · exfalso
        rw [e, if_neg w] at hkj
        omega
    · by_cases w : q.testBit j = true
      · exfalso
        rw [e, if_pos w] at hkj
        omega
      · rw [if_neg w] at ih2
        exact ih2
theorem fy_sum {post : Int32 → Prop} {n h : Nat} {S V : Nat → Nat} (K : fx_Ok n h S V) {so al : Int32} {od tr : Nat → Int32} (hod : fy_Od od) {s : Nat} (hs : s < 2 ^ n) {B : Nat → Nat} {z : Nat} {con : Bool} (I : gf_Inv n (fx_R S V) (fx_in (-1)) h B z con) (hp : post (fx_fs B con s)) : ∃ m, wY_sumOf_14 post (nI s) (nI n) (nI h) so al (fx_ni S) (fx_ni V) od tr m 0 0 := by
  refine ⟨9, ?_⟩
  unfold fx_fs at hp
  cases con
  · rw [if_neg (by decide)] at hp
    cases w : gf_spn B s
    · rw [if_neg (by rw [w]; decide)] at hp
      exact fy_m14b K hod hs hp 8 0 (by omega) ⟨0, by omega, by omega, Or.inr (gf_kd_free K.2.1 I hs w)⟩ 0
    · rw [if_pos w] at hp
      exact fy_m14g K hod hs (of_decide_eq_true w) (fun j hj => gf_kd_fix K.2.1 I hj w) hp 8 0 (by omega)
  · rw [if_pos rfl] at hp
    obtain ⟨j, hj, e⟩ := gf_kd_no I s
    exact fy_m14b K hod hs hp 8 0 (by omega) ⟨j, by omega, hj, Or.inl e⟩ 0
theorem fy_sumOf {post : Int32 → Prop} {n h : Nat} {S V : Nat → Nat} (K : fx_Ok n h S V) {so al : Int32} {od tr : Nat → Int32} (hod : fy_Od od) {s : Nat} (hs : s < 2 ^ n) {B : Nat → Nat} {z : Nat} {con : Bool} (I : gf_Inv n (fx_R S V) (fx_in (-1)) h B z con) (hp : post (fx_fs B con s)) : wpY_sumOf post (nI n, nI h, so, al, fx_ni S, fx_ni V, od, tr) (nI s) := by
  have p8 := gf_p8 K.2.1
  unfold wpY_sumOf
  refine fy_badSet K.2.1 (nI s) (fun _ _ _ => ?_) (fun e => ?_)
  · exact br_t rfl (fy_sum K hod hs I hp)
  · exfalso
    rcases e with e | e
    · exact nI_pos (by omega) e
    · rw [nI_leI (by omega) (by omega)] at e
      omega
theorem fy_sumOf_bad {post : Int32 → Prop} {n : Nat} (hn : n ≤ 8) {h so al : Int32} {a1 a2 od tr : Nat → Int32} {x : Int32} (hx : x < 0 ∨ nI (2 ^ n) ≤ x) (hp : post (-1)) : wpY_sumOf post (nI n, h, so, al, a1, a2, od, tr) x := by
  have p8 := gf_p8 hn
  unfold wpY_sumOf
  refine fy_badSet hn x (fun s hs e => ?_) (fun _ => br_f (by decide) hp)
  exfalso
  subst e
  rcases hx with e | e
  · exact nI_pos (by omega) e
  · rw [nI_leI (by omega) (by omega)] at e
    omega

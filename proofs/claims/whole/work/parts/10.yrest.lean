/-! Y: peeling, seeds, rank, helps, useful, lose -/
theorem fy_single {post : Int32 → Prop} {v : SY} {x : Int32} (H1 : ¬ x = 0 → x &&& (x - 1) = 0 → post 1) (H0 : x = 0 ∨ ¬ x &&& (x - 1) = 0 → post 0) : wpY_single post v x := by
  obtain ⟨n, h, so, al, a1, a2, od, tr⟩ := v
  unfold wpY_single
  exact br_c (fun e => H0 (Or.inl e)) (fun e => br_c (fun e2 => H1 e e2) (fun e2 => H0 (Or.inr e2)))
theorem fy_pf15 {post : Int32 → Prop} {J4 : Int32 → Int32 → Prop} {n h : Nat} {S V : Nat → Nat} (K : fx_Ok n h S V) {k : Nat} {dn so al : Int32} {a2 od tr : Nat → Int32} (H : J4 (fz_pi S dn h) (nI (k + 1))) :
    ∀ d i, i + d = h → wY_peelFrom_15 post J4 (nI k) (nI n) (nI h) so al (fx_ni S) a2 od tr (d + 1) (fz_pi S dn i) (nI i) := by
  have hh := K.2.2.1
  intro d
  induction d with
  | zero =>
    intro i hi
    have e : i = h := by omega
    subst e
    exact br_t (Int32.le_refl _) (nm_r (nI_1 k) H)
  | succ d ih =>
    intro i hi
    have ih2 := ih (i + 1) (by omega)
    have w : fz_pi S dn (i + 1) = fz_ps S (fz_pi S dn i) i := rfl
    rw [w] at ih2
    unfold fz_ps at ih2
    refine br_f (nI_ge (by omega) (by omega)) ⟨vp_in_nI (by omega) (by omega), ?_⟩
    have e1 : fx_ni S (nI i).toNatClampNeg = nI (S i) := by
      rw [nI_clamp (by omega)]
      rfl
    rw [e1]
    refine nm_e (fy_single (fun e e2 => ?_) (fun e => ?_))
    · rw [if_pos e2] at ih2
      exact br_f (by decide) (nm_e (nm_r (nI_1 i) ih2))
    · refine br_t rfl (nm_r (nI_1 i) ?_)
      by_cases e2 : (nI (S i) &&& (fz_pi S dn i ^^^ (-1))) &&& ((nI (S i) &&& (fz_pi S dn i ^^^ (-1))) - 1) = 0
      · rw [if_pos e2] at ih2
        rcases e with e | e
        · rw [e, fx_or0] at ih2
          exact ih2
        · exact absurd e2 e
      · rw [if_neg e2] at ih2
        exact ih2
theorem fy_pf4 {post : Int32 → Prop} {n h : Nat} {S V : Nat → Nat} (K : fx_Ok n h S V) {st so al : Int32} {a2 od tr : Nat → Int32} (hp : post (fz_pp S h st n)) :
    ∀ d k, k + d = n → wY_peelFrom_4 post (nI n) (nI h) so al (fx_ni S) a2 od tr (d + 1) (fz_pp S h st k) (nI k) := by
  have hn := K.2.1
  intro d
  induction d with
  | zero =>
    intro k hk
    have e : k = n := by omega
    subst e
    exact br_t (Int32.le_refl _) hp
  | succ d ih =>
    intro k hk
    refine br_f (nI_ge (by omega) (by omega)) ⟨h + 1, ?_⟩
    exact fy_pf15 K (dn := fz_pp S h st k) (ih (k + 1) (by omega)) h 0 (by omega)
theorem fy_peelFrom {post : Int32 → Prop} {n h : Nat} {S V : Nat → Nat} (K : fx_Ok n h S V) {st so al : Int32} {a2 od tr : Nat → Int32} (hp : post (fz_pp S h st n)) : wpY_peelFrom post (nI n, nI h, so, al, fx_ni S, a2, od, tr) st :=
  ⟨n + 1, fy_pf4 K hp n 0 (by omega)⟩
theorem fy_isSeed {post : Int32 → Prop} {n h : Nat} {S V : Nat → Nat} (K : fx_Ok n h S V) {so al : Int32} {a2 od tr : Nat → Int32} {s : Nat} (hs : s < 2 ^ n) (H1 : fz_pp S h (nI s) n = nI (2 ^ n - 1) → post 1) (H0 : ¬ fz_pp S h (nI s) n = nI (2 ^ n - 1) → post 0) : wpY_isSeed post (nI n, nI h, so, al, fx_ni S, a2, od, tr) (nI s) := by
  have p8 := gf_p8 K.2.1
  unfold wpY_isSeed
  refine fy_badSet K.2.1 (nI s) (fun _ _ _ => br_t rfl (fy_peelFrom K ?_)) (fun e => ?_)
  · rw [fy_sh1 K.2.1]
    exact br_c H1 H0
  · exfalso
    rcases e with e | e
    · exact nI_pos (by omega) e
    · rw [nI_leI (by omega) (by omega)] at e
      omega
theorem fy_sd16 {post : Int32 → Prop} {n h : Nat} {S V : Nat → Nat} (K : fx_Ok n h S V) {so al : Int32} {a2 od tr : Nat → Int32} (hp : post (fz_sd S h n (2 ^ n)).1) :
    ∀ d k, k + d = 2 ^ n → wY_seed_16 post (nI n) (nI h) so al (fx_ni S) a2 od tr (d + 1) (fz_sd S h n k).1 (fz_sd S h n k).2 (nI k) := by
  have p8 := gf_p8 K.2.1
  have hsh := fy_sh K.2.1
  intro d
  induction d with
  | zero =>
    intro k hk
    have e : k = 2 ^ n := by omega
    subst e
    exact br_t (by rw [hsh]; exact Int32.le_refl _) hp
  | succ d ih =>
    intro k hk
    have ih2 := ih (k + 1) (by omega)
    rw [fz_sd_s] at ih2
    refine br_f (by rw [hsh]; exact nI_ge (by omega) (by omega)) (fy_members (br_c (fun e => ?_) (fun e => fy_isSeed K (by omega) (fun e2 => ?_) (fun e2 => ?_))))
    · rw [if_neg (fun q => Int32.not_lt.mpr e q.1)] at ih2
      exact nm_r (nI_1 k) ih2
    · rw [if_pos ⟨Int32.not_le.mp e, e2⟩] at ih2
      exact br_t rfl (nm_r (nI_1 k) ih2)
    · rw [if_neg (fun q => e2 q.2)] at ih2
      exact br_f (by decide) (nm_r (nI_1 k) ih2)
theorem fy_seed {post : Int32 → Prop} {n h : Nat} {S V : Nat → Nat} (K : fx_Ok n h S V) {so al : Int32} {a2 od tr : Nat → Int32} (hp : post (fz_sd S h n (2 ^ n)).1) : wpY_seed post (nI n, nI h, so, al, fx_ni S, a2, od, tr) := by
  unfold wpY_seed
  exact nm_r (fy_sh1 K.2.1) ⟨2 ^ n + 1, fy_sd16 K hp (2 ^ n) 0 (by omega)⟩
/-! rank -/
def fy_cur (P : Nat → Bool) (x i t : Nat) : Bool := (P t || (P (t ^^^ x) && decide (t ^^^ x < i)))
theorem fy_sp2 {post : SY → Prop} {n h so al : Int32} {a1 a2 od : Nat → Int32} {P : Nat → Bool} {x : Nat} (hx : x < 256)
    (H : ∀ tr : Nat → Int32, (∀ t, t < 256 → tr t = fx_cb (P t || P (t ^^^ x))) → post (n, h, so, al, a1, a2, od, tr)) :
    ∀ d i, i + d = 256 → ∀ tr : Nat → Int32, (∀ t, t < 256 → tr t = fx_cb (fy_cur P x i t)) → wY_spread_2 post (nI x) n h so al (d + 1) (nI i) a1 a2 od tr := by
  intro d
  induction d with
  | zero =>
    intro i hi tr ht
    have e : i = 256 := by omega
    subst e
    refine br_t (by decide) (H tr (fun t h1 => ?_))
    have hl : t ^^^ x < 256 := Nat.xor_lt_two_pow (n := 8) h1 hx
    rw [ht t h1]
    unfold fy_cur
    rw [decide_eq_true hl, Bool.and_true]
  | succ d ih =>
    intro i hi tr ht
    have hl : i ^^^ x < 256 := Nat.xor_lt_two_pow (n := 8) (show i < 256 by omega) hx
    have same : ∀ t, t ≠ i ^^^ x → fy_cur P x (i + 1) t = fy_cur P x i t := by
      intro t hne
      have hne2 : t ^^^ x ≠ i := by
        intro e
        apply hne
        rw [← e, gf_xx]
      unfold fy_cur
      by_cases q : t ^^^ x < i
      · rw [decide_eq_true q, decide_eq_true (show t ^^^ x < i + 1 by omega)]
      · rw [decide_eq_false q, decide_eq_false (show ¬ t ^^^ x < i + 1 by omega)]
    have at1 : fy_cur P x (i + 1) (i ^^^ x) = (P (i ^^^ x) || P i) := by
      unfold fy_cur
      rw [gf_xx, decide_eq_true (show i < i + 1 by omega), Bool.and_true]
    have at0 : fy_cur P x i (i ^^^ x) = P (i ^^^ x) := by
      unfold fy_cur
      rw [gf_xx, decide_eq_false (show ¬ i < i by omega), Bool.and_false, Bool.or_false]
    refine br_f (nI_ge (b := 256) (by omega) (by decide)) ⟨vp_in_nI (by omega) (by omega), ?_⟩
    rw [nI_clamp (by omega), ht i (by omega)]
    refine fx_cb1 (fun e => ?_) (fun e => ?_)
    · rw [nx_xor]
      refine ⟨vp_in_nI hl (by omega), nm_e (nm_r (nI_1 i) (ih (i + 1) (by omega) _ (fun t h1 => ?_)))⟩
      rw [nI_clamp (by omega)]
      by_cases q : t = i ^^^ x
      · rw [q, pk_us, at1, fy_n1]
        have w : (P (i ^^^ x) || P i) = true := by
          unfold fy_cur at e
          revert e
          cases P i <;> cases P (i ^^^ x) <;> simp
        rw [w]
        rfl
      · rw [pk_un q, same t q]
        exact ht t h1
    · refine nm_r (nI_1 i) (ih (i + 1) (by omega) tr (fun t h1 => ?_))
      by_cases q : t = i ^^^ x
      · rw [ht t h1, q, at1, at0]
        have w : P i = false := by
          unfold fy_cur at e
          revert e
          cases P i <;> simp
        rw [w, Bool.or_false]
      · rw [same t q]
        exact ht t h1
theorem fy_spread {post : SY → Prop} {n h so al : Int32} {a1 a2 od tr : Nat → Int32} {P : Nat → Bool} {x : Nat} (hx : x < 256) (ht : ∀ t, t < 256 → tr t = fx_cb (P t))
    (H : ∀ tr : Nat → Int32, (∀ t, t < 256 → tr t = fx_cb (P t || P (t ^^^ x))) → post (n, h, so, al, a1, a2, od, tr)) : wpY_spread post (n, h, so, al, a1, a2, od, tr) (nI x) := by
  refine ⟨257, fy_sp2 hx H 256 0 (by omega) tr (fun t h1 => ?_)⟩
  rw [ht t h1]
  unfold fy_cur
  rw [decide_eq_false (Nat.not_lt_zero _), Bool.and_false, Bool.or_false]
theorem fy_r87 {post : Int32 → SY → Prop} {n h so al : Int32} {a1 a2 od tr : Nat → Int32} {z : Nat} (hz : z ≤ 8) (hp : post (nI z) (n, h, so, al, a1, a2, od, tr)) :
    ∀ d r, r + d = z → wY_rank_87 post (nI (2 ^ z)) n h so al a1 a2 od tr (d + 1) (nI r) := by
  have p8 := gf_p8 hz
  intro d
  induction d with
  | zero =>
    intro r hr
    have e : r = z := by omega
    subst e
    refine pk_le 8 r (fun _ => hp) (fun e => br_t ?_ hp)
    rw [fz_shl1 r (by omega)]
    exact Int32.le_refl _
  | succ d ih =>
    intro r hr
    have h2 : 2 ^ r < 2 ^ z := Nat.pow_lt_pow_right (by decide) (by omega)
    refine br_f (nI_ge (b := 8) (by omega) (by decide)) (br_f ?_ (nm_r (nI_1 r) (ih (r + 1) (by omega))))
    rw [fz_shl1 r (by omega)]
    exact nI_ge h2 (by omega)
theorem fy_r60 {post : Int32 → SY → Prop} {n h so al : Int32} {a1 a2 od tr : Nat → Int32} {P : Nat → Bool} (ht : ∀ t, t < 256 → tr t = fx_cb (P t)) {z : Nat} (hc : gf_ct P 256 = 2 ^ z) (hp : post (nI z) (n, h, so, al, a1, a2, od, tr)) :
    ∀ d s, s + d = 256 → wY_rank_60 post n h so al a1 a2 od tr (d + 1) (nI (gf_ct P s)) (nI s) := by
  have hz : z ≤ 8 := by
    by_cases q : z ≤ 8
    · exact q
    · have h1 := gf_ct_le P 256
      have h2 : 2 ^ 9 ≤ 2 ^ z := Nat.pow_le_pow_right (by decide) (by omega)
      omega
  intro d
  induction d with
  | zero =>
    intro s hs
    have e : s = 256 := by omega
    subst e
    rw [hc]
    exact br_t (by decide) ⟨z + 1, fy_r87 hz hp z 0 (by omega)⟩
  | succ d ih =>
    intro s hs
    have ih2 := ih (s + 1) (by omega)
    rw [gf_ct_s] at ih2
    refine br_f (nI_ge (b := 256) (by omega) (by decide)) ⟨vp_in_nI (by omega) (by omega), ?_⟩
    rw [nI_clamp (by omega), ht s (by omega)]
    refine fx_cb1 (fun e => ?_) (fun e => ?_)
    · rw [if_pos e] at ih2
      exact nm_r (nI_1 _) (nm_r (nI_1 s) ih2)
    · rw [if_neg (by rw [e]; decide)] at ih2
      exact nm_r (nI_1 s) ih2
theorem fy_m1 {i : Nat} (hi : i < 2 ^ 31) : ¬ nI i = -1 := by
  intro e
  have h := nI_pos hi
  rw [e] at h
  exact h (by decide)
theorem fy_r34 {post : Int32 → SY → Prop} {n h : Nat} {S V : Nat → Nat} (K : fx_Ok n h S V) {so al : Int32} {od : Nat → Int32} {z : Nat} (hc : gf_ct (gf_sp (fx_R S V) (fx_in (-1)) h) 256 = 2 ^ z)
    (H : ∀ tr : Nat → Int32, post (nI z) (nI n, nI h, so, al, fx_ni S, fx_ni V, od, tr)) :
    ∀ d i, i + d = h → ∀ tr : Nat → Int32, (∀ t, t < 256 → tr t = fx_cb (gf_sp (fx_R S V) (fx_in (-1)) i t)) → wY_rank_34 post 0 (d + 1) (nI i) (nI n) (nI h) so al (fx_ni S) (fx_ni V) od tr := by
  have hh := K.2.2.1
  have p8 := gf_p8 K.2.1
  intro d
  induction d with
  | zero =>
    intro i hi tr ht
    have e : i = h := by omega
    subst e
    exact br_t (Int32.le_refl _) ⟨257, fy_r60 ht hc (H tr) 256 0 (by omega)⟩
  | succ d ih =>
    intro i hi tr ht
    have hin : fx_in (-1) i = true := by
      unfold fx_in
      rw [decide_eq_false (fy_m1 (by omega))]
      rfl
    have hS := K.2.2.2.1 i
    have e1 : fx_ni S (nI i).toNatClampNeg = nI (S i) := by
      rw [nI_clamp (by omega)]
      rfl
    refine br_f (nI_ge (by omega) (by omega)) ⟨vp_in_nI (by omega) (by omega), ?_⟩
    rw [e1]
    refine fy_spread (show S i < 256 by omega) ht (fun tr2 ht2 => nm_r (nI_1 i) (ih (i + 1) (by omega) tr2 (fun t h1 => ?_)))
    have e2 : fx_R S V i / 256 = S i := gf_row_div (K.2.2.2.2 i)
    rw [gf_sp_s hin, e2]
    exact ht2 t h1
theorem fy_r4 {post : Int32 → SY → Prop} {n h : Nat} {S V : Nat → Nat} (K : fx_Ok n h S V) {so al : Int32} {od : Nat → Int32} {z : Nat} (hc : gf_ct (gf_sp (fx_R S V) (fx_in (-1)) h) 256 = 2 ^ z)
    (H : ∀ tr : Nat → Int32, post (nI z) (nI n, nI h, so, al, fx_ni S, fx_ni V, od, tr)) :
    ∀ d s, s + d = 256 → ∀ tr : Nat → Int32, (∀ t, t < s → tr t = fx_cb (decide (t = 0))) → wY_rank_4 post 0 (nI n) (nI h) so al (d + 1) (nI s) (fx_ni S) (fx_ni V) od tr := by
  intro d
  induction d with
  | zero =>
    intro s hs tr ht
    have e : s = 256 := by omega
    subst e
    exact br_t (by decide) ⟨h + 1, fy_r34 K hc H h 0 (by omega) tr ht⟩
  | succ d ih =>
    intro s hs tr ht
    have key : ∀ v : Int32, v = fx_cb (decide (s = 0)) → wY_rank_4 post 0 (nI n) (nI h) so al (d + 1) (nI (s + 1)) (fx_ni S) (fx_ni V) od (upd tr (nI s).toNatClampNeg v) := by
      intro v hv
      refine ih (s + 1) (by omega) _ (fun t h1 => ?_)
      rw [nI_clamp (by omega)]
      by_cases e : t = s
      · rw [e, pk_us, hv]
      · rw [pk_un e]
        exact ht t (by omega)
    refine br_f (nI_ge (b := 256) (by omega) (by decide)) (pk_eq s 0 (fun e => ?_) (fun e => ?_))
    · exact ⟨vp_in_nI (by omega) (by omega), nm_e (nm_r (nI_1 s) (key _ (by rw [decide_eq_true e]; rfl)))⟩
    · exact ⟨vp_in_nI (by omega) (by omega), nm_e (nm_r (nI_1 s) (key _ (by rw [decide_eq_false e]; rfl)))⟩
theorem fy_rank {post : Int32 → SY → Prop} {n h : Nat} {S V : Nat → Nat} (K : fx_Ok n h S V) {so al : Int32} {od tr : Nat → Int32} {z : Nat} (hc : gf_ct (gf_sp (fx_R S V) (fx_in (-1)) h) 256 = 2 ^ z)
    (H : ∀ tr : Nat → Int32, post (nI z) (nI n, nI h, so, al, fx_ni S, fx_ni V, od, tr)) : wpY_rank post (nI n, nI h, so, al, fx_ni S, fx_ni V, od, tr) :=
  ⟨257, fy_r4 K hc H 256 0 (by omega) tr (fun t h1 => absurd h1 (Nat.not_lt_zero t))⟩
/-! useful -/
theorem fy_h18 {post : Int32 → Prop} {n h : Nat} {S V : Nat → Nat} (K : fx_Ok n h S V) {so al : Int32} {od tr : Nat → Int32} (hod : fy_Od od) {s : Nat} (hs : s < 2 ^ n) (hp : post (fx_cb (gf_hl (fx_R S V) (fx_in (-1)) h n s))) :
    ∀ d a, a + d = 2 ^ n → wY_helps_18 post (nI s) (nI (gf_yk (fx_R S V) (fx_in (-1)) h n)) (nI n) (nI h) so al (fx_ni S) (fx_ni V) od tr (d + 1) (nI (gf_or (gf_hP (fx_R S V) (fx_in (-1)) h s) a)) (nI (gf_an (gf_hP (fx_R S V) (fx_in (-1)) h s) (2 ^ n - 1) a)) (fx_cb (gf_ex (gf_hP (fx_R S V) (fx_in (-1)) h s) a)) (nI a) := by
  have p8 := gf_p8 K.2.1
  have hsh := fy_sh K.2.1
  intro d
  induction d with
  | zero =>
    intro a ha
    have e : a = 2 ^ n := by omega
    subst e
    have hD := gf_D_lt (gf_hP (fx_R S V) (fx_in (-1)) h s) n
    have hy := gf_yk_lt (fx_R S V) (fx_in (-1)) h n
    refine br_t (by rw [hsh]; exact Int32.le_refl _) (nm_r (e' := nI (2 ^ n - 1 - gf_D (gf_hP (fx_R S V) (fx_in (-1)) h s) n)) ?_ (fx_cb1 (fun e => ?_) (fun e => ?_)))
    · rw [fy_sh1 K.2.1, nx_xor]
      exact pk_sub (show gf_D (gf_hP (fx_R S V) (fx_in (-1)) h s) n ≤ 2 ^ n - 1 by omega)
    · unfold gf_hl at hp
      rw [e, Bool.true_and] at hp
      refine pk_eq (2 ^ n - 1 - gf_D (gf_hP (fx_R S V) (fx_in (-1)) h s) n) (gf_yk (fx_R S V) (fx_in (-1)) h n) (fun q => ?_) (fun q => ?_)
      · rw [decide_eq_false (fun w => w q)] at hp
        exact hp
      · rw [decide_eq_true q] at hp
        exact hp
    · unfold gf_hl at hp
      rw [e, Bool.false_and] at hp
      exact hp
  | succ d ih =>
    intro a ha
    have ih2 := ih (a + 1) (by omega)
    have w1 : gf_ex (gf_hP (fx_R S V) (fx_in (-1)) h s) (a + 1) = (gf_ex (gf_hP (fx_R S V) (fx_in (-1)) h s) a || gf_hP (fx_R S V) (fx_in (-1)) h s a) := rfl
    rw [gf_or_s, gf_an_s, w1] at ih2
    have no : gf_hP (fx_R S V) (fx_in (-1)) h s a = false → wY_helps_18 post (nI s) (nI (gf_yk (fx_R S V) (fx_in (-1)) h n)) (nI n) (nI h) so al (fx_ni S) (fx_ni V) od tr (d + 1) (nI (gf_or (gf_hP (fx_R S V) (fx_in (-1)) h s) a)) (nI (gf_an (gf_hP (fx_R S V) (fx_in (-1)) h s) (2 ^ n - 1) a)) (fx_cb (gf_ex (gf_hP (fx_R S V) (fx_in (-1)) h s) a)) (nI (a + 1)) := by
      intro e
      rw [e, if_neg Bool.false_ne_true, if_neg Bool.false_ne_true, Bool.or_false] at ih2
      exact ih2
    refine br_f (by rw [hsh]; exact nI_ge (by omega) (by omega)) (fy_od hod hs K.2.1 (fun e => ?_) (fun e => ?_))
    · refine nm_r (nI_1 a) (no ?_)
      unfold gf_hP
      rw [e]
      rfl
    · refine fy_solves (j := 0) K hod (by omega) (fx_cb1 (fun e2 => ?_) (fun e2 => ?_))
      · have w : gf_hP (fx_R S V) (fx_in (-1)) h s a = true := by
          unfold gf_hP
          rw [e, e2]
          rfl
        rw [w, if_pos rfl, if_pos rfl, Bool.or_true] at ih2
        exact nm_r (fz_or _ _) (nm_r (nx_and _ _) (nm_r (nI_1 a) ih2))
      · refine nm_r (nI_1 a) (no ?_)
        unfold gf_hP
        rw [e, e2]
        rfl
theorem fy_helps {post : Int32 → Prop} {n h : Nat} {S V : Nat → Nat} (K : fx_Ok n h S V) {so al : Int32} {od tr : Nat → Int32} (hod : fy_Od od) {s : Nat} (hs : s < 2 ^ n) (hp : post (fx_cb (gf_hl (fx_R S V) (fx_in (-1)) h n s))) : wpY_helps post (nI n, nI h, so, al, fx_ni S, fx_ni V, od, tr) (nI s) (nI (gf_yk (fx_R S V) (fx_in (-1)) h n)) := by
  unfold wpY_helps
  exact nm_r (fy_sh1 K.2.1) ⟨2 ^ n + 1, fy_h18 K hod hs hp (2 ^ n) 0 (by omega)⟩
theorem fy_u38 {post : Int32 → SY → Prop} {n h : Nat} {S V : Nat → Nat} (K : fx_Ok n h S V) {so al : Int32} {od : Nat → Int32} (hod : fy_Od od)
    (H : ∀ (x : Int32) (tr : Nat → Int32), fx_Ans (fun r => gf_hl (fx_R S V) (fx_in (-1)) h n (fz_so n r)) x → post x (nI n, nI h, so, al, fx_ni S, fx_ni V, od, tr)) :
    ∀ d r, r + d = 10000 → (∀ s, s < r → gf_hl (fx_R S V) (fx_in (-1)) h n (fz_so n s) = false) → ∀ tr : Nat → Int32, (∀ t, t < 256 → tr t = 0 ∨ gf_hl (fx_R S V) (fx_in (-1)) h n t = false) → wY_useful_38 post (nI (gf_yk (fx_R S V) (fx_in (-1)) h n)) (nI n) (nI h) so al (d + 1) (nI r) (fx_ni S) (fx_ni V) od tr := by
  have p8 := gf_p8 K.2.1
  intro d
  induction d with
  | zero =>
    intro r hr hz tr ht
    have e : r = 10000 := by omega
    subst e
    exact br_t (by decide) (H _ tr (Or.inl ⟨rfl, hz⟩))
  | succ d ih =>
    intro r hr hz tr ht
    have hs := fz_so_lt K.1 r
    have hz2 : gf_hl (fx_R S V) (fx_in (-1)) h n (fz_so n r) = false → ∀ s, s < r + 1 → gf_hl (fx_R S V) (fx_in (-1)) h n (fz_so n s) = false := by
      intro e s h1
      by_cases q : s = r
      · rw [q]; exact e
      · exact hz s (by omega)
    refine br_f (nI_ge (b := 10000) (by omega) (by decide)) (fy_setOf K.1 K.2.1 (by omega) ⟨vp_in_nI (show fz_so n r < 256 by omega) (by omega), ?_⟩)
    refine br_c (fun e => ⟨vp_in_nI (show fz_so n r < 256 by omega) (by omega), nm_e (fy_helps K hod hs (fx_cb1 (fun e2 => ?_) (fun e2 => ?_)))⟩) (fun e => ?_)
    · exact H _ _ (Or.inr ⟨r, by omega, rfl, e2, hz⟩)
    · refine nm_r (nI_1 r) (ih (r + 1) (by omega) (hz2 e2) _ (fun t h1 => ?_))
      rw [nI_clamp (by omega)]
      by_cases q : t = fz_so n r
      · rw [q]; exact Or.inr e2
      · rw [pk_un q]
        exact ht t h1
    · rw [nI_clamp (by omega)] at e
      have e2 : gf_hl (fx_R S V) (fx_in (-1)) h n (fz_so n r) = false := (ht _ (by omega)).elim (fun q => absurd q e) id
      exact nm_r (nI_1 r) (ih (r + 1) (by omega) (hz2 e2) tr ht)
theorem fy_u16 {post : Int32 → SY → Prop} {n h : Nat} {S V : Nat → Nat} (K : fx_Ok n h S V) {so al : Int32} {od : Nat → Int32} (hod : fy_Od od)
    (H : ∀ (x : Int32) (tr : Nat → Int32), fx_Ans (fun r => gf_hl (fx_R S V) (fx_in (-1)) h n (fz_so n r)) x → post x (nI n, nI h, so, al, fx_ni S, fx_ni V, od, tr)) :
    ∀ d s, s + d = 256 → ∀ tr : Nat → Int32, (∀ t, t < s → tr t = 0) → wY_useful_16 post (nI (gf_yk (fx_R S V) (fx_in (-1)) h n)) (nI n) (nI h) so al (d + 1) (nI s) (fx_ni S) (fx_ni V) od tr := by
  intro d
  induction d with
  | zero =>
    intro s hs tr ht
    have e : s = 256 := by omega
    subst e
    exact br_t (by decide) ⟨10001, fy_u38 K hod H 10000 0 (by omega) (fun s h1 => absurd h1 (Nat.not_lt_zero s)) tr (fun t h1 => Or.inl (ht t h1))⟩
  | succ d ih =>
    intro s hs tr ht
    refine br_f (nI_ge (b := 256) (by omega) (by decide)) ⟨vp_in_nI (by omega) (by omega), nm_e (nm_r (nI_1 s) (ih (s + 1) (by omega) _ (fun t h1 => ?_)))⟩
    rw [nI_clamp (by omega)]
    by_cases e : t = s
    · rw [e, pk_us]
      exact fy_n0
    · rw [pk_un e]
      exact ht t (by omega)
theorem fy_useful {post : Int32 → SY → Prop} {n h : Nat} {S V : Nat → Nat} (K : fx_Ok n h S V) {so al : Int32} {od tr : Nat → Int32} (hod : fy_Od od)
    (H0 : gf_cs (fx_R S V) (fx_in (-1)) h n = false → ∀ (so al : Int32), post (-1) (nI n, nI h, so, al, fx_ni S, fx_ni V, od, tr))
    (H : gf_cs (fx_R S V) (fx_in (-1)) h n = true → ∀ (x so al : Int32) (tr : Nat → Int32), fx_Ans (fun r => gf_hl (fx_R S V) (fx_in (-1)) h n (fz_so n r)) x → post x (nI n, nI h, so, al, fx_ni S, fx_ni V, od, tr)) :
    wpY_useful post (nI n, nI h, so, al, fx_ni S, fx_ni V, od, tr) := by
  unfold wpY_useful
  refine fy_consistent K hod (fun so al => fx_cb1 (fun e => ?_) (fun e => H0 e so al))
  exact fy_known K hod (fun so al => ⟨257, fy_u16 K hod (fun x tr hA => H e x so al tr hA) 256 0 (by omega) tr (fun t h1 => absurd h1 (Nat.not_lt_zero t))⟩)
theorem fy_lo16 {post : Int32 → SY → Prop} {n so al : Int32} {h j : Nat} {S V : Nat → Nat} {od tr : Nat → Int32} (hh : h ≤ 16) (hj : j < h) (hp : post (nI (h - 1)) (n, nI (h - 1), so, al, fx_ni (fx_ls S j (h - 1 - j)), fx_ni (fx_ls V j (h - 1 - j)), od, tr)) :
    ∀ d i, j + 1 + i + d = h → wY_lose_16 post n (nI h) so al (d + 1) (nI (j + i)) (fx_ni (fx_ls S j i)) (fx_ni (fx_ls V j i)) od tr := by
  intro d
  induction d with
  | zero =>
    intro i hi
    have e : i = h - 1 - j := by omega
    subst e
    refine br_t ?_ ?_
    · rw [nI_1]
      exact nI_le (by omega) (by omega)
    · exact nm_r (pk_sub (a := h) (b := 1) (by omega)) hp
  | succ d ih =>
    intro i hi
    have st : ∀ T : Nat → Nat, upd (fx_ni (fx_ls T j i)) (nI (j + i)).toNatClampNeg (fx_ni (fx_ls T j i) (nI (j + i + 1)).toNatClampNeg) = fx_ni (fx_ls T j (i + 1)) := by
      intro T
      rw [nI_clamp (by omega), nI_clamp (by omega)]
      exact fx_put_ni
    refine br_f ?_ ?_
    · rw [nI_1]
      exact nI_ge (by omega) (by omega)
    · rw [nI_1]
      exact ⟨vp_in_nI (by omega) (by omega), vp_in_nI (by omega) (by omega), nm_r (st S) ⟨vp_in_nI (by omega) (by omega), vp_in_nI (by omega) (by omega), nm_r (st V) (nm_e (ih (i + 1) (by omega)))⟩⟩

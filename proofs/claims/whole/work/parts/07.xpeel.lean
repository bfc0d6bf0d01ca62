/-! X: members, peeling, seeds, losing -/
theorem fx_mc4 {post : Int32 → Prop} {x : Int32} (hp : post (fz_mc x 8)) : ∀ d b, b + d = 8 → wX_memberCount_4 post x (d + 1) (fz_mc x b) (nI b) := by
  intro d
  induction d with
  | zero =>
    intro b hb
    have e : b = 8 := by omega
    subst e
    exact br_t (by decide) hp
  | succ d ih =>
    intro b hb
    exact br_f (nI_ge (b := 8) (by omega) (by decide)) (nm_e (nm_r (nI_1 b) (ih (b + 1) (by omega))))
theorem fx_memberCount {post : Int32 → Prop} {x : Int32} (hp : post (fz_mc x 8)) : wpX_memberCount post x := ⟨9, fx_mc4 hp 8 0 (by omega)⟩
theorem fx_or0 (x : Int32) : x ||| 0 = x := by
  apply b_ext
  intro i hi
  rw [b_or, b_0, Bool.or_false]
theorem fx_row8 {n h : Nat} {S V : Nat → Nat} (K : fx_Ok n h S V) (i : Nat) : nI (fx_R S V i) >>> ((8 : Int32) &&& 31) = nI (S i) := by
  have h1 := fx_R16 K i
  rw [fz_shr8 (by omega)]
  unfold fx_R
  rw [gf_row_div (K.2.2.2.2 i)]
theorem fx_pf55 {post : Int32 → Prop} {J4 J15 : Int32 → Int32 → Prop} {x2 x3 x5 : Int32} {i : Nat} {z0 c al sc z ct : Int32} {ar ab : Nat → Int32} (H : J15 (if z0 = 0 then x2 else x2 ||| x5) (nI (i + 1))) : wX_peelFrom_55 post J4 J15 x2 x3 (nI i) x5 z0 c al sc z ct ar ab := by
  unfold wX_peelFrom_55
  by_cases e : z0 = 0
  · rw [if_pos e] at H
    exact br_t e (nm_r (nI_1 i) H)
  · rw [if_neg e] at H
    exact br_f e (nm_e (nm_r (nI_1 i) H))
theorem fx_pf15 {post : Int32 → Prop} {J4 : Int32 → Int32 → Prop} {n h : Nat} {S V : Nat → Nat} (K : fx_Ok n h S V) {k : Nat} {dn al z ct : Int32} {ab : Nat → Int32} (H : J4 (fz_pi S dn h) (nI (k + 1))) :
    ∀ d i, i + d = h → wX_peelFrom_15 post J4 (nI k) (nI n) al (nI h) z ct (fx_rw S V) ab (d + 1) (fz_pi S dn i) (nI i) := by
  have hh := K.2.2.1
  intro d
  induction d with
  | zero =>
    intro i hi
    have e : i = h := by omega
    subst e
    exact br_t (Int32.le_refl _) (nm_r (nI_1 k) H)
  | succ d ih =>
    intro i hi
    have ih2 := ih (i + 1) (by omega)
    have w : fz_pi S dn (i + 1) = fz_ps S (fz_pi S dn i) i := rfl
    rw [w] at ih2
    unfold fz_ps at ih2
    refine br_f (nI_ge (by omega) (by omega)) ⟨vp_in_nI (by omega) (by omega), ?_⟩
    rw [fx_rw_i (n := n) (h := h) (by omega), fx_row8 K i]
    refine nm_e (br_c (fun e => fx_pf55 ?_) (fun e => fx_pf55 ?_))
    · rw [if_pos e] at ih2
      rw [if_neg (show ¬ (1 : Int32) = 0 by decide)]
      exact ih2
    · rw [if_neg e] at ih2
      rw [if_pos rfl]
      exact ih2
theorem fx_pf4 {post : Int32 → Prop} {n h : Nat} {S V : Nat → Nat} (K : fx_Ok n h S V) {st al z ct : Int32} {ab : Nat → Int32} (hp : post (fz_pp S h st n)) :
    ∀ d k, k + d = n → wX_peelFrom_4 post (nI n) al (nI h) z ct (fx_rw S V) ab (d + 1) (fz_pp S h st k) (nI k) := by
  have hn := K.2.1
  intro d
  induction d with
  | zero =>
    intro k hk
    have e : k = n := by omega
    subst e
    exact br_t (Int32.le_refl _) hp
  | succ d ih =>
    intro k hk
    refine br_f (nI_ge (by omega) (by omega)) ⟨h + 1, ?_⟩
    exact fx_pf15 K (dn := fz_pp S h st k) (ih (k + 1) (by omega)) h 0 (by omega)
theorem fx_peelFrom {post : Int32 → Prop} {n h : Nat} {S V : Nat → Nat} (K : fx_Ok n h S V) {st al z ct : Int32} {ab : Nat → Int32} (hp : post (fz_pp S h st n)) : wpX_peelFrom post (nI n, al, nI h, z, ct, fx_rw S V, ab) st :=
  ⟨n + 1, fx_pf4 K hp n 0 (by omega)⟩
theorem fx_ls12 {post : Int32 → Prop} {n h : Nat} {S V : Nat → Nat} (K : fx_Ok n h S V) {z ct : Int32} {ab : Nat → Int32} (hp : post (fz_sd S h n (2 ^ n)).1) :
    ∀ d k, k + d = 2 ^ n → wX_leastSeed_12 post (nI n) (nI (2 ^ n - 1)) (nI h) z ct (fx_rw S V) ab (d + 1) (fz_sd S h n k).1 (fz_sd S h n k).2 (nI k) := by
  have p8 := gf_p8 K.2.1
  have pp := Nat.two_pow_pos n
  intro d
  induction d with
  | zero =>
    intro k hk
    have e : k = 2 ^ n := by omega
    subst e
    exact br_t (nI_lt (by omega) (by omega)) hp
  | succ d ih =>
    intro k hk
    have ih2 := ih (k + 1) (by omega)
    rw [fz_sd_s] at ih2
    refine br_f (nI_nlt (by omega) (by omega)) (fx_memberCount (br_c (fun e => ?_) (fun e => fx_peelFrom K (br_c (fun e2 => ?_) (fun e2 => ?_)))))
    · rw [if_neg (fun q => Int32.not_lt.mpr e q.1)] at ih2
      exact nm_r (nI_1 k) ih2
    · rw [if_pos ⟨Int32.not_le.mp e, e2⟩] at ih2
      exact nm_r (nI_1 k) ih2
    · rw [if_neg (fun q => e2 q.2)] at ih2
      exact nm_r (nI_1 k) ih2
theorem fx_leastSeed {post : Int32 → Prop} {n h : Nat} {S V : Nat → Nat} (K : fx_Ok n h S V) {z ct : Int32} {ab : Nat → Int32} (hp : post (fz_sd S h n (2 ^ n)).1) : wpX_leastSeed post (nI n, nI (2 ^ n - 1), nI h, z, ct, fx_rw S V, ab) :=
  ⟨2 ^ n + 1, fx_ls12 K hp (2 ^ n) 0 (by omega)⟩
theorem fx_isGoodSet {post : Int32 → Prop} {n : Nat} (hn : n ≤ 8) {c sc z ct : Int32} {ar ab : Nat → Int32} (x : Int32) (h1 : ∀ s, s < 2 ^ n → x = nI s → post 1) (h0 : (x < 0 ∨ nI (2 ^ n) ≤ x) → post 0) : wpX_isGoodSet post (c, nI (2 ^ n - 1), sc, z, ct, ar, ab) x := by
  have p8 := gf_p8 hn
  have pp := Nat.two_pow_pos n
  refine br_c (fun h => h0 (Or.inl h)) (fun h => ?_)
  obtain ⟨s, hs, rfl⟩ := nI_of h
  exact pk_lt (2 ^ n - 1) s (fun q => h0 (Or.inr (nI_le (by omega) hs))) (fun q => h1 s (by omega) rfl)
theorem fx_isGoodValue {post : Int32 → Prop} (x : Int32) (h1 : ∀ s, s < 256 → x = nI s → post 1) (h0 : (x < 0 ∨ nI 256 ≤ x) → post 0) : wpX_isGoodValue post x := by
  refine br_c (fun h => h0 (Or.inl h)) (fun h => ?_)
  obtain ⟨s, hs, rfl⟩ := nI_of h
  exact pk_lt 255 s (fun q => h0 (Or.inr (nI_le (by omega) hs))) (fun q => h1 s (by omega) rfl)
theorem fx_isGoodNumber {post : Int32 → Prop} (x : Int32) (h1 : ∀ s, s < 10000 → x = nI s → post 1) (h0 : (x < 0 ∨ nI 10000 ≤ x) → post 0) : wpX_isGoodNumber post x := by
  refine br_c (fun h => h0 (Or.inl h)) (fun h => ?_)
  obtain ⟨s, hs, rfl⟩ := nI_of h
  exact pk_lt 9999 s (fun q => h0 (Or.inr (nI_le (by omega) hs))) (fun q => h1 s (by omega) rfl)
/-! a new symbol, a lost symbol: the two lists change alike -/
def fx_put (S : Nat → Nat) (k x : Nat) : Nat → Nat := fun i => if i = k then x else S i
theorem fx_put_s (S : Nat → Nat) (k x : Nat) : fx_put S k x k = x := if_pos rfl
theorem fx_put_n (S : Nat → Nat) {k i : Nat} (x : Nat) (h : i ≠ k) : fx_put S k x i = S i := if_neg h
theorem fx_put_lt {S : Nat → Nat} {k x m : Nat} (h : ∀ i, S i < m) (hx : x < m) : ∀ i, fx_put S k x i < m := by
  intro i
  by_cases e : i = k
  · rw [e, fx_put_s]; exact hx
  · rw [fx_put_n S x e]; exact h i
theorem fx_put_rw {S V : Nat → Nat} {k s v : Nat} : upd (fx_rw S V) k (nI (s * 256 + v)) = fx_rw (fx_put S k s) (fx_put V k v) := by
  funext i
  by_cases e : i = k
  · rw [e, pk_us]
    show nI (s * 256 + v) = nI (fx_put S k s k * 256 + fx_put V k v k)
    rw [fx_put_s, fx_put_s]
  · rw [pk_un e]
    show nI (S i * 256 + V i) = nI (fx_put S k s i * 256 + fx_put V k v i)
    rw [fx_put_n S s e, fx_put_n V v e]
def fx_ni (S : Nat → Nat) : Nat → Int32 := fun i => nI (S i)
theorem fx_put_ni {S : Nat → Nat} {k s : Nat} : upd (fx_ni S) k (nI s) = fx_ni (fx_put S k s) := by
  funext i
  by_cases e : i = k
  · rw [e, pk_us]
    show nI s = nI (fx_put S k s k)
    rw [fx_put_s]
  · rw [pk_un e]
    show nI (S i) = nI (fx_put S k s i)
    rw [fx_put_n S s e]
theorem fx_pack {s v : Nat} (hs : s < 65536) (hv : v < 256) : (nI s <<< ((8 : Int32) &&& 31)) ||| nI v = nI (s * 256 + v) := by
  rw [fz_shl8 hs, fz_or]
  have h := Nat.two_pow_add_eq_or_of_lt (i := 8) (b := v) hv s
  have h2 : 2 ^ 8 * s = s * 256 := Nat.mul_comm _ _
  rw [h2] at h
  rw [h]
theorem fx_append {post : SX → Prop} {c al z ct : Int32} {h : Nat} {S V : Nat → Nat} {ab : Nat → Int32} (hh : h < 16) {s v : Nat} (hs : s < 65536) (hv : v < 256) (hp : post (c, al, nI (h + 1), z, ct, fx_rw (fx_put S h s) (fx_put V h v), ab)) : wpX_append post (c, al, nI h, z, ct, fx_rw S V, ab) (nI s) (nI v) := by
  refine ⟨vp_in_nI hh (by omega), nm_r (e' := fx_rw (fx_put S h s) (fx_put V h v)) ?_ (nm_r (nI_1 h) hp)⟩
  rw [nI_clamp (by omega), fx_pack hs hv, fx_put_rw]
/-- the list with the cells from j to i taken from the right -/
def fx_ls (S : Nat → Nat) (j : Nat) : Nat → (Nat → Nat)
  | 0 => S
  | d + 1 => fx_put (fx_ls S j d) (j + d) (fx_ls S j d (j + d + 1))
theorem fx_ls_lt {S : Nat → Nat} {m : Nat} (h : ∀ i, S i < m) (j : Nat) : ∀ d i, fx_ls S j d i < m := by
  intro d
  induction d with
  | zero => exact h
  | succ d ih => exact fx_put_lt ih (ih _)
theorem fx_lo18 {post : Int32 → SX → Prop} {c al z ct : Int32} {h j : Nat} {S V : Nat → Nat} {ab : Nat → Int32} (hh : h ≤ 16) (hj : j < h) (hp : post (nI (h - 1)) (c, al, nI (h - 1), z, ct, fx_rw (fx_ls S j (h - 1 - j)) (fx_ls V j (h - 1 - j)), ab)) :
    ∀ d i, j + 1 + i + d = h → wX_lose_18 post c al (nI h) z ct (d + 1) (nI (j + 1 + i)) (fx_rw (fx_ls S j i) (fx_ls V j i)) ab := by
  intro d
  induction d with
  | zero =>
    intro i hi
    have e : i = h - 1 - j := by omega
    subst e
    refine br_t (nI_le (by omega) (by omega)) ?_
    exact nm_r (pk_sub (a := h) (b := 1) (by omega)) hp
  | succ d ih =>
    intro i hi
    have e1 : nI (j + 1 + i) - 1 = nI (j + i) := by
      have w := nI_pred (j + i)
      rw [show j + i + 1 = j + 1 + i by omega] at w
      exact w
    refine br_f (nI_ge (by omega) (by omega)) ⟨vp_in_nI (by omega) (by omega), ?_⟩
    rw [e1]
    refine ⟨vp_in_nI (by omega) (by omega), nm_r (e' := fx_rw (fx_ls S j (i + 1)) (fx_ls V j (i + 1))) ?_ (nm_r (nI_1 _) (ih (i + 1) (by omega)))⟩
    rw [nI_clamp (by omega), fx_rw_i (n := 0) (h := 0) (by omega)]
    show upd (fx_rw (fx_ls S j i) (fx_ls V j i)) (j + i) (nI (fx_ls S j i (j + 1 + i) * 256 + fx_ls V j i (j + 1 + i))) = _
    rw [fx_put_rw, show j + 1 + i = j + i + 1 by omega]
    rfl

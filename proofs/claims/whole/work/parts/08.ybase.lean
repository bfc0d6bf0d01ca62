/-! Y: members, construction, drawn sets, solves -/
theorem fy_n1 : vp_nar .boolean 1 = 1 := rfl
theorem fy_n0 : vp_nar .boolean 0 = 0 := rfl
theorem fy_nb (b : Bool) : narrow .boolean (.int (fx_cb b)) = .int (fx_cb b) := by
  cases b <;> rfl
theorem fy_sh {n : Nat} (hn : n ≤ 8) : (1 : Int32) <<< (nI n &&& 31) = nI (2 ^ n) := fz_shl1 n (by omega)
theorem fy_sh1 {n : Nat} (hn : n ≤ 8) : ((1 : Int32) <<< (nI n &&& 31)) - 1 = nI (2 ^ n - 1) := by
  rw [fy_sh hn]
  exact pk_sub (b := 1) (Nat.two_pow_pos n)
theorem fy_mc4 {post : Int32 → Prop} {x n h so al : Int32} {a1 a2 od tr : Nat → Int32} (hp : post (fz_mc x 8)) : ∀ d b, b + d = 8 → wY_members_4 post x n h so al a1 a2 od tr (d + 1) (fz_mc x b) (nI b) := by
  intro d
  induction d with
  | zero =>
    intro b hb
    have e : b = 8 := by omega
    subst e
    exact br_t (by decide) hp
  | succ d ih =>
    intro b hb
    exact br_f (nI_ge (b := 8) (by omega) (by decide)) (nm_e (nm_r (nI_1 b) (ih (b + 1) (by omega))))
theorem fy_members {post : Int32 → Prop} {x n h so al : Int32} {a1 a2 od tr : Nat → Int32} (hp : post (fz_mc x 8)) : wpY_members post (n, h, so, al, a1, a2, od, tr) x := ⟨9, fy_mc4 hp 8 0 (by omega)⟩
def fy_Od (od : Nat → Int32) : Prop := ∀ s, s < 256 → od s = fx_cb (gf_par s)
theorem fy_i65 {post : SY → Prop} {n h so al : Int32} {a1 a2 tr : Nat → Int32} (H : ∀ od, fy_Od od → post (n, h, so, al, a1, a2, od, tr)) : ∀ d s, s + d = 256 → ∀ od : Nat → Int32, (∀ t, t < s → od t = fx_cb (gf_par t)) → wY_init_65 post n h so al (d + 1) (nI s) a1 a2 od tr := by
  intro d
  induction d with
  | zero =>
    intro s hs od ho
    have e : s = 256 := by omega
    subst e
    exact br_t (by decide) (H od ho)
  | succ d ih =>
    intro s hs od ho
    have key : ∀ v : Int32, v = fx_cb (gf_par s) → wY_init_65 post n h so al (d + 1) (nI (s + 1)) a1 a2 (upd od (nI s).toNatClampNeg v) tr := by
      intro v hv
      refine ih (s + 1) (by omega) _ (fun t ht => ?_)
      rw [nI_clamp (by omega)]
      by_cases e : t = s
      · rw [e, pk_us, hv]
      · rw [pk_un e]
        exact ho t (by omega)
    refine br_f (nI_ge (b := 256) (by omega) (by decide)) (fy_members ⟨by decide, ek_if (fz_odd s (by omega)) (fun e => ?_) (fun e => ?_)⟩)
    · exact ⟨vp_in_nI (by omega) (by omega), nm_e (nm_r (nI_1 s) (key _ (by rw [e]; rfl)))⟩
    · exact ⟨vp_in_nI (by omega) (by omega), nm_e (nm_r (nI_1 s) (key _ (by rw [Bool.eq_false_iff.mpr e]; rfl)))⟩
theorem fy_badSet {post : Int32 → Prop} {n : Nat} (hn : n ≤ 8) {h so al : Int32} {a1 a2 od tr : Nat → Int32} (x : Int32) (h0 : ∀ s, s < 2 ^ n → x = nI s → post 0) (h1 : (x < 0 ∨ nI (2 ^ n) ≤ x) → post 1) : wpY_badSet post (nI n, h, so, al, a1, a2, od, tr) x := by
  have p8 := gf_p8 hn
  unfold wpY_badSet
  refine br_c (fun h => h1 (Or.inl h)) (fun h => ?_)
  obtain ⟨s, hs, rfl⟩ := nI_of h
  rw [fy_sh hn]
  exact pk_lt s (2 ^ n) (fun q => h0 s q rfl) (fun q => h1 (Or.inr (nI_le q hs)))
theorem fy_place {post : Int32 → SY → Prop} {n so al : Int32} {h : Nat} {S V : Nat → Nat} {od tr : Nat → Int32} (hh : h < 16) {s v : Nat} (hp : post (nI h) (n, nI (h + 1), so, al, fx_ni (fx_put S h s), fx_ni (fx_put V h v), od, tr)) : wpY_place post (n, nI h, so, al, fx_ni S, fx_ni V, od, tr) (nI s) (nI v) := by
  refine ⟨vp_in_nI hh (by omega), nm_r (e' := fx_ni (fx_put S h s)) ?_ ⟨vp_in_nI hh (by omega), nm_r (e' := fx_ni (fx_put V h v)) ?_ (nm_r (nI_1 h) ?_)⟩⟩
  · rw [nI_clamp (by omega), fx_put_ni]
  · rw [nI_clamp (by omega), fx_put_ni]
  · rw [nI_pred]
    exact hp
theorem fy_setOf {post : Int32 → Prop} {n : Nat} {h so al : Int32} {a1 a2 od tr : Nat → Int32} (h1 : 1 ≤ n) (h8 : n ≤ 8) {r : Nat} (hr : r < 10000) (hp : post (nI (fz_so n r))) : wpY_setOf post (nI n, h, so, al, a1, a2, od, tr) (nI r) := by
  have hx := fz_x_lt hr
  have p8 := gf_p8 h8
  have d1 : fz_x r / n ≤ fz_x r := Nat.div_le_self _ _
  have d2 : fz_x r / (n * n) ≤ fz_x r := Nat.div_le_self _ _
  have hm : fz_x r / 7 % 3 < 3 := Nat.mod_lt _ (by decide)
  have b1 := fz_s1_lt h1 r
  have b2 := fz_s2_lt h1 r
  have b3 := fz_s3_lt h1 r
  have z0 : ¬ nI n = 0 := fx_0 h1 h8
  have nn1 : 0 < n * n := Nat.mul_pos h1 h1
  have nn2 : n * n ≤ 8 * 8 := Nat.mul_le_mul h8 h8
  have z2 : ¬ nI n * nI n = 0 := by
    rw [pk_mul]
    exact nI_ne0 nn1 (by omega)
  unfold fz_so fz_sx at hp
  have step2 : nI (fz_s1 n r) ^^^ ((1 : Int32) <<< (((nI (fz_x r) / nI n) - (nI (fz_x r) / nI n) / nI n * nI n) &&& 31)) = nI (fz_s2 n r) := by
    rw [pk_div hx h1 (by omega), fx_rot h1 h8 (by omega), nx_xor]
    rfl
  have step3 : nI (fz_s2 n r) ^^^ ((1 : Int32) <<< (((nI (fz_x r) / (nI n * nI n)) - (nI (fz_x r) / (nI n * nI n)) / nI n * nI n) &&& 31)) = nI (fz_s3 n r) := by
    rw [pk_mul, pk_div hx nn1 (by omega), fx_rot h1 h8 (by omega), nx_xor]
    rfl
  unfold wpY_setOf
  refine br_f (nI_pos (by omega)) (br_t (nI_le (b := 9999) (by omega) (by decide)) (nm_r fx_x ⟨by decide, by decide, nm_r (fx_size hr) ⟨z0, nm_r (fx_rot h1 h8 hx) ?_⟩⟩))
  refine pk_lt (1 + fz_x r / 7 % 3) 2 (fun e => ?_) (fun e => ⟨z0, z0, nm_r step2 ?_⟩)
  · refine pk_lt (1 + fz_x r / 7 % 3) 3 (fun e2 => fx_so_end (s := fz_s1 n r) (by omega) ?_) (fun e2 => absurd e2 (by omega))
    rw [if_pos (show fz_x r / 7 % 3 = 0 by omega)] at hp
    exact hp
  · refine pk_lt (1 + fz_x r / 7 % 3) 3 (fun e2 => fx_so_end (s := fz_s2 n r) (by omega) ?_) (fun e2 => ⟨z2, z0, nm_r step3 (fx_so_end (s := fz_s3 n r) (by omega) ?_)⟩)
    · rw [if_neg (show ¬ fz_x r / 7 % 3 = 0 by omega), if_pos (show fz_x r / 7 % 3 = 1 by omega)] at hp
      exact hp
    · rw [if_neg (show ¬ fz_x r / 7 % 3 = 0 by omega), if_neg (show ¬ fz_x r / 7 % 3 = 1 by omega)] at hp
      exact hp
theorem fy_setOf_bad {post : Int32 → Prop} {n h so al : Int32} {a1 a2 od tr : Nat → Int32} {x : Int32} (hx : x < 0 ∨ nI 10000 ≤ x) (hp : post (-1)) : wpY_setOf post (n, h, so, al, a1, a2, od, tr) x := by
  unfold wpY_setOf
  refine br_c (fun _ => hp) (fun h0 => ?_)
  obtain ⟨r, hr, rfl⟩ := nI_of h0
  refine pk_le r 9999 (fun e => ?_) (fun _ => hp)
  rcases hx with q | q
  · exact absurd q h0
  · rw [nI_leI (by omega) hr] at q
    exact absurd q (by omega)
theorem fy_and_i {a s m : Nat} (hs : s < m) (hm : m ≤ 256) : a &&& s < 256 := Nat.lt_of_le_of_lt Nat.and_le_right (by omega)
theorem fy_ok {S V : Nat → Nat} {om : Int32} {j a i : Nat} (hV : V i < 256) (hj : j < 8) : gf_ok (fx_R S V) (fx_in om) j a i = (decide (nI i = om) || (gf_par (a &&& S i) == (V i).testBit j)) := by
  unfold gf_ok fx_in fx_R
  rw [gf_ph_row hV hj]
  cases decide (nI i = om) <;> cases gf_par (a &&& S i) <;> cases (V i).testBit j <;> rfl
theorem fy_s32 {post : Int32 → Prop} {J : Int32 → Prop} {n h : Nat} {S V : Nat → Nat} (K : fx_Ok n h S V) {so al om x2 nn hh : Int32} {a2 od tr : Nat → Int32} (hod : fy_Od od) {a j i : Nat} (hj : j < 8) (hi : i < 16)
    (H1 : gf_ok (fx_R S V) (fx_in om) j a i = true → J (nI (i + 1))) (H0 : gf_ok (fx_R S V) (fx_in om) j a i = false → post 0) : wY_solves_32 post J (nI a) x2 om (nI i) (fx_cb ((V i).testBit j)) nn hh so al (fx_ni S) a2 od tr := by
  have p8 := gf_p8 K.2.1
  have ha := fy_and_i (a := a) (K.2.2.2.1 i) p8
  have e1 : nI a &&& fx_ni S (nI i).toNatClampNeg = nI (a &&& S i) := by
    rw [nI_clamp (by omega)]
    exact nx_and a (S i)
  rw [fy_ok (K.2.2.2.2 i) hj] at H1 H0
  unfold wY_solves_32
  refine br_c (fun e => nm_r (nI_1 i) (H1 (by rw [decide_eq_true e]; rfl))) (fun e => ⟨vp_in_nI hi (by omega), ?_⟩)
  rw [decide_eq_false e, Bool.false_or] at H1 H0
  rw [e1, nI_clamp (by omega), hod _ ha]
  refine ⟨vp_in_nI ha (by omega), ?_⟩
  revert H1 H0
  cases gf_par (a &&& S i) <;> cases (V i).testBit j <;> intro H1 H0
  · exact br_t rfl (nm_r (nI_1 i) (H1 rfl))
  · exact br_f (by decide) (H0 rfl)
  · exact br_f (by decide) (H0 rfl)
  · exact br_t rfl (nm_r (nI_1 i) (H1 rfl))
theorem fy_s3 {post : Int32 → Prop} {n h : Nat} {S V : Nat → Nat} (K : fx_Ok n h S V) {so al om nn : Int32} {od tr : Nat → Int32} (hod : fy_Od od) {a j : Nat} (hj : j < 8) (hp : post (fx_cb (gf_sv (fx_R S V) (fx_in om) h j a))) :
    ∀ d i, i + d = h → (∀ c, c < i → gf_ok (fx_R S V) (fx_in om) j a c = true) → wY_solves_3 post (nI a) (nI j) om nn (nI h) so al (fx_ni S) (fx_ni V) od tr (d + 1) (nI i) := by
  have hh := K.2.2.1
  intro d
  induction d with
  | zero =>
    intro i hi hc
    have e : i = h := by omega
    subst e
    have w : gf_sv (fx_R S V) (fx_in om) i j a = true := gf_al_iff.mpr hc
    rw [w] at hp
    exact br_t (Int32.le_refl _) hp
  | succ d ih =>
    intro i hi hc
    refine br_f (nI_ge (by omega) (by omega)) ⟨vp_in_nI (by omega) (by omega), ?_⟩
    have e1 : (fx_ni V (nI i).toNatClampNeg >>> (nI j &&& 31)) &&& 1 = fx_cb ((V i).testBit j) := by
      rw [nI_clamp (by omega)]
      have hv := K.2.2.2.2 i
      exact fz_vb (v := V i) (b := j) (by omega) (by omega)
    rw [e1]
    have H1 : gf_ok (fx_R S V) (fx_in om) j a i = true → wY_solves_3 post (nI a) (nI j) om nn (nI h) so al (fx_ni S) (fx_ni V) od tr (d + 1) (nI (i + 1)) := by
      intro e
      refine ih (i + 1) (by omega) (fun c hc2 => ?_)
      by_cases q : c = i
      · rw [q]; exact e
      · exact hc c (by omega)
    have H0 : gf_ok (fx_R S V) (fx_in om) j a i = false → post 0 := by
      intro e
      have w : gf_sv (fx_R S V) (fx_in om) h j a = false := gf_al_no (by omega) e
      rw [w] at hp
      exact hp
    have G := fy_s32 (post := post) (x2 := nI j) (nn := nn) (hh := nI h) (so := so) (al := al) (a2 := fx_ni V) (tr := tr) K hod hj (show i < 16 by omega) H1 H0
    revert G
    cases (V i).testBit j <;> intro G
    · exact br_f (by decide) G
    · exact br_t (by decide) G
theorem fy_solves {post : Int32 → Prop} {n h : Nat} {S V : Nat → Nat} (K : fx_Ok n h S V) {so al om nn : Int32} {od tr : Nat → Int32} (hod : fy_Od od) {a j : Nat} (hj : j < 8) (hp : post (fx_cb (gf_sv (fx_R S V) (fx_in om) h j a))) : wpY_solves post (nn, nI h, so, al, fx_ni S, fx_ni V, od, tr) (nI a) (nI j) om :=
  ⟨h + 1, fy_s3 K hod hj hp h 0 (by omega) (fun c hc => absurd hc (Nat.not_lt_zero c))⟩

/-! the relation, and what is owed -/
def i_Rel (_ : Nat) (u : SX) (v : SY) : Prop := ∃ (n h : Nat) (S V : Nat → Nat) (z ct so al : Int32) (ab od tr : Nat → Int32), fx_Ok n h S V ∧ fy_Od od ∧ u = (nI n, nI (2 ^ n - 1), nI h, z, ct, fx_rw S V, ab) ∧ v = (nI n, nI h, so, al, fx_ni S, fx_ni V, od, tr)
theorem fw_rel (k : Nat) {n h : Nat} {S V : Nat → Nat} (K : fx_Ok n h S V) {od : Nat → Int32} (hod : fy_Od od) (z ct so al : Int32) (ab tr : Nat → Int32) : i_Rel k (nI n, nI (2 ^ n - 1), nI h, z, ct, fx_rw S V, ab) (nI n, nI h, so, al, fx_ni S, fx_ni V, od, tr) :=
  ⟨n, h, S, V, z, ct, so, al, ab, od, tr, K, hod, rfl, rfl⟩
theorem i_up {k : Nat} {u : SX} {v : SY} (h : i_Rel k u v) : i_Rel (k + 3) u v := h
theorem fw_new {n : Nat} (h1 : 1 ≤ n) (h8 : n ≤ 8) : fx_Ok n 0 (fun _ => 0) (fun _ => 0) := ⟨h1, h8, by omega, fun _ => Nat.two_pow_pos n, fun _ => show 0 < 256 by decide⟩
theorem fw_init {n : Nat} (h1 : 1 ≤ n) (h8 : n ≤ 8) {Q : SX → Prop} (H : ∀ u, u = (nI n, nI (2 ^ n - 1), nI 0, (0 : Int32), (0 : Int32), fx_rw (fun _ => 0) (fun _ => 0), (fun _ => (0 : Int32))) → Q u) : wX_init_57 Q (nI n) 0 0 0 0 0 (fun _ => 0) (fun _ => 0) := by
  unfold wX_init_57
  exact nm_r (fy_sh1 h8) (H _ rfl)
theorem fw_yinit {n : Nat} (h1 : 1 ≤ n) (h8 : n ≤ 8) {u : SX} (hu : u = (nI n, nI (2 ^ n - 1), nI 0, (0 : Int32), (0 : Int32), fx_rw (fun _ => 0) (fun _ => 0), (fun _ => (0 : Int32)))) : ∃ m, wY_init_65 (fun v => i_Rel 1 u v) (nI n) 0 0 0 m 0 (fun _ => 0) (fun _ => 0) (fun _ => 0) (fun _ => 0) := by
  refine ⟨257, fy_i65 (fun od hod => ?_) 256 0 (by omega) _ (fun t h => absurd h (Nat.not_lt_zero t))⟩
  rw [hu]
  exact fw_rel 1 (fw_new h1 h8) hod 0 0 0 0 _ _
theorem i_vc0 (k0 : Int32) : wpX_init (fun u => wpY_init (fun v => i_Rel 1 u v) k0) k0 := by
  unfold wpX_init
  refine br_c (fun e1 => br_c (fun e2 => ?_) (fun e2 => ?_)) (fun e1 => ?_)
  · obtain ⟨n, hn, rfl⟩ := nI_of (x := k0) (fun q => Int32.not_lt.mpr (Int32.le_trans (by decide) e1) q)
    have a1 : 1 ≤ n := (nI_leI (a := 1) (by decide) hn).mp e1
    have a2 : n ≤ 8 := (nI_leI (b := 8) hn (by decide)).mp e2
    exact fw_init a1 a2 (fun u hu => br_t e1 (br_t e2 (fw_yinit a1 a2 hu)))
  · exact fw_init (n := 8) (by decide) (by decide) (fun u hu => br_t e1 (br_f e2 (fw_yinit (n := 8) (by decide) (by decide) hu)))
  · exact fw_init (n := 1) (by decide) (by decide) (fun u hu => br_f e1 (fw_yinit (n := 1) (by decide) (by decide) hu))
theorem i_vc_blocks {k : Nat} {u : SX} {v : SY} (I : i_Rel k u v) (hk : k + 3 ≤ 1537) : wpX_blocks (fun r => wpY_blocks (fun r' => r' = r ∧ i_Rel (k + 3) u v) v) u := by
  obtain ⟨n, h, S, V, z, ct, so, al, ab, od, tr, K, hod, rfl, rfl⟩ := I
  exact ⟨rfl, fw_rel _ K hod z ct so al ab tr⟩
theorem i_vc_symbols {k : Nat} {u : SX} {v : SY} (I : i_Rel k u v) (hk : k + 3 ≤ 1537) : wpX_symbols (fun r => wpY_symbols (fun r' => r' = r ∧ i_Rel (k + 3) u v) v) u := by
  obtain ⟨n, h, S, V, z, ct, so, al, ab, od, tr, K, hod, rfl, rfl⟩ := I
  exact ⟨rfl, fw_rel _ K hod z ct so al ab tr⟩
theorem fw_put {n h : Nat} {S V : Nat → Nat} (K : fx_Ok n h S V) (hh : h < 16) {s v : Nat} (hs : s < 2 ^ n) (hv : v < 256) : fx_Ok n (h + 1) (fx_put S h s) (fx_put V h v) :=
  ⟨K.1, K.2.1, hh, fx_put_lt K.2.2.2.1 hs, fx_put_lt K.2.2.2.2 hv⟩
/-- Y's branches on a value -/
theorem fw_val {x : Int32} {A C : Prop} (h1 : ∀ s, s < 256 → x = nI s → A) (h0 : (x < 0 ∨ nI 256 ≤ x) → C) : (x < 0 → C) ∧ (¬ x < 0 → ((x ≤ 255 → A) ∧ (¬ x ≤ 255 → C))) := by
  refine br_c (fun e => h0 (Or.inl e)) (fun e => ?_)
  obtain ⟨s, hs, rfl⟩ := nI_of e
  exact pk_le s 255 (fun q => h1 s (by omega) rfl) (fun q => h0 (Or.inr (nI_le (by omega) hs)))
theorem fw_num {x : Int32} {A C : Prop} (h1 : ∀ s, s < 10000 → x = nI s → A) (h0 : (x < 0 ∨ nI 10000 ≤ x) → C) : (x < 0 → C) ∧ (¬ x < 0 → ((x ≤ 9999 → A) ∧ (¬ x ≤ 9999 → C))) := by
  refine br_c (fun e => h0 (Or.inl e)) (fun e => ?_)
  obtain ⟨s, hs, rfl⟩ := nI_of e
  exact pk_le s 9999 (fun q => h1 s (by omega) rfl) (fun q => h0 (Or.inr (nI_le (by omega) hs)))
theorem fw_no {x : Int32} {s m : Nat} (hs : s < m) (hm : m < 2 ^ 31) (e : x = nI s) (q : x < 0 ∨ nI m ≤ x) : False := by
  subst e
  rcases q with q | q
  · exact nI_pos (by omega) q
  · rw [nI_leI hm (by omega)] at q
    omega
theorem i_vc_receive {k : Nat} {u : SX} {v : SY} (I : i_Rel k u v) (hk : k + 3 ≤ 1537) (v1 : Int32) (v2 : Int32) : wpX_receive (fun r u' => wpY_receive (fun r' v' => r' = r ∧ i_Rel (k + 3) u' v') v v1 v2) u v1 v2 := by
  obtain ⟨n, h, S, V, z, ct, so, al, ab, od, tr, K, hod, rfl, rfl⟩ := I
  have p8 := gf_p8 K.2.1
  have hh := K.2.2.1
  have R := fw_rel (k + 3) K hod z ct so al ab tr
  unfold wpX_receive
  refine fx_isGoodSet K.2.1 v1 (fun s hs e => br_f (by decide) (br_c (fun z0 => ?_) (fun z0 => ?_))) (fun bad => br_t rfl ?_)
  · unfold wpY_receive
    exact fy_badSet K.2.1 v1 (fun _ _ _ => br_t rfl (br_t z0 ⟨rfl, R⟩)) (fun q => (fw_no hs (by omega) e q).elim)
  · refine fx_isGoodValue v2 (fun w hw e2 => br_f (by decide) ?_) (fun bad2 => br_t rfl ?_)
    · subst e
      subst e2
      refine pk_lt h 16 (fun q => fx_append q (by omega) hw ?_) (fun q => ?_)
      · unfold wpY_receive
        refine fy_badSet K.2.1 _ (fun _ _ _ => br_t rfl (br_f z0 (fw_val (fun _ _ _ => br_t (nI_lt (b := 16) q (by decide)) (fy_place q ⟨?_, fw_rel _ (fw_put K q hs hw) hod z ct so al ab tr⟩)) (fun q2 => (fw_no hw (by decide) rfl q2).elim)))) (fun q2 => (fw_no hs (by omega) rfl q2).elim)
        exact (nI_pred h).symm
      · unfold wpY_receive
        exact fy_badSet K.2.1 _ (fun _ _ _ => br_t rfl (br_f z0 (fw_val (fun _ _ _ => br_f (nI_nlt (b := 16) q (by omega)) ⟨rfl, R⟩) (fun q2 => (fw_no hw (by decide) rfl q2).elim)))) (fun q2 => (fw_no hs (by omega) rfl q2).elim)
    · unfold wpY_receive
      exact fy_badSet K.2.1 _ (fun _ _ _ => br_t rfl (br_f z0 (fw_val (fun w hw e2 => (fw_no hw (by decide) e2 bad2).elim) (fun _ => ⟨rfl, R⟩)))) (fun q2 => (fw_no hs (by omega) e q2).elim)
  · unfold wpY_receive
    exact fy_badSet K.2.1 _ (fun s hs e => (fw_no hs (by omega) e bad).elim) (fun _ => br_f (by decide) ⟨rfl, R⟩)
theorem i_vc_draw {k : Nat} {u : SX} {v : SY} (I : i_Rel k u v) (hk : k + 3 ≤ 1537) (v1 : Int32) (v2 : Int32) : wpX_draw (fun r u' => wpY_draw (fun r' v' => r' = r ∧ i_Rel (k + 3) u' v') v v1 v2) u v1 v2 := by
  obtain ⟨n, h, S, V, z, ct, so, al, ab, od, tr, K, hod, rfl, rfl⟩ := I
  have p8 := gf_p8 K.2.1
  have hh := K.2.2.1
  have R := fw_rel (k + 3) K hod z ct so al ab tr
  unfold wpX_draw
  refine fx_isGoodNumber v1 (fun r hr e => br_f (by decide) ?_) (fun bad => br_t rfl ?_)
  · refine fx_isGoodValue v2 (fun w hw e2 => br_f (by decide) ?_) (fun bad2 => br_t rfl ?_)
    · subst e
      subst e2
      have hs := fz_so_lt K.1 r
      refine pk_lt h 16 (fun q => fx_setOfNumber K.1 K.2.1 hr (fx_append q (by omega) hw ?_)) (fun q => ?_)
      · unfold wpY_draw
        exact fw_num (fun _ _ _ => fw_val (fun _ _ _ => br_t (nI_lt (b := 16) q (by decide)) (fy_setOf K.1 K.2.1 hr (fy_place q ⟨rfl, fw_rel _ (fw_put K q hs hw) hod z ct so al ab tr⟩))) (fun q2 => (fw_no hw (by decide) rfl q2).elim)) (fun q2 => (fw_no hr (by decide) rfl q2).elim)
      · unfold wpY_draw
        exact fw_num (fun _ _ _ => fw_val (fun _ _ _ => br_f (nI_nlt (b := 16) q (by omega)) ⟨rfl, R⟩) (fun q2 => (fw_no hw (by decide) rfl q2).elim)) (fun q2 => (fw_no hr (by decide) rfl q2).elim)
    · unfold wpY_draw
      exact fw_num (fun _ _ _ => fw_val (fun w hw e2 => (fw_no hw (by decide) e2 bad2).elim) (fun _ => ⟨rfl, R⟩)) (fun q2 => (fw_no hr (by decide) e q2).elim)
  · unfold wpY_draw
    exact fw_num (fun s hs e => (fw_no hs (by decide) e bad).elim) (fun _ => ⟨rfl, R⟩)
theorem i_vc_lose {k : Nat} {u : SX} {v : SY} (I : i_Rel k u v) (hk : k + 3 ≤ 1537) (v1 : Int32) : wpX_lose (fun r u' => wpY_lose (fun r' v' => r' = r ∧ i_Rel (k + 3) u' v') v v1) u v1 := by
  obtain ⟨n, h, S, V, z, ct, so, al, ab, od, tr, K, hod, rfl, rfl⟩ := I
  have hh := K.2.2.1
  have R := fw_rel (k + 3) K hod z ct so al ab tr
  unfold wpX_lose
  refine br_c (fun e => ?_) (fun e => br_c (fun e2 => ?_) (fun e2 => ?_))
  · exact br_t e ⟨rfl, R⟩
  · obtain ⟨j, hj, rfl⟩ := nI_of e
    have hj2 : j < h := (nI_ltI hj (by omega)).mp e2
    have K2 : fx_Ok n (h - 1) (fx_ls S j (h - 1 - j)) (fx_ls V j (h - 1 - j)) := ⟨K.1, K.2.1, by omega, fx_ls_lt K.2.2.2.1 j _, fx_ls_lt K.2.2.2.2 j _⟩
    refine nm_r (nI_1 j) ⟨h - 1 - j + 1, fx_lo18 hh hj2 ?_ (h - 1 - j) 0 (by omega)⟩
    exact br_f e (br_t e2 ⟨h - 1 - j + 1, fy_lo16 hh hj2 ⟨rfl, fw_rel _ K2 hod z ct so al ab tr⟩ (h - 1 - j) 0 (by omega)⟩)
  · exact br_f e (br_f e2 ⟨rfl, R⟩)
theorem i_vc_setOf {k : Nat} {u : SX} {v : SY} (I : i_Rel k u v) (hk : k + 3 ≤ 1537) (v1 : Int32) : wpX_setOf (fun r => wpY_setOf (fun r' => r' = r ∧ i_Rel (k + 3) u v) v v1) u v1 := by
  obtain ⟨n, h, S, V, z, ct, so, al, ab, od, tr, K, hod, rfl, rfl⟩ := I
  have R := fw_rel (k + 3) K hod z ct so al ab tr
  unfold wpX_setOf
  refine fx_isGoodNumber v1 (fun r hr e => br_f (by decide) ?_) (fun bad => br_t rfl ?_)
  · subst e
    exact fx_setOfNumber K.1 K.2.1 hr (fy_setOf K.1 K.2.1 hr ⟨rfl, R⟩)
  · exact fy_setOf_bad bad ⟨rfl, R⟩
theorem i_vc_consistent {k : Nat} {u : SX} {v : SY} (I : i_Rel k u v) (hk : k + 3 ≤ 1537) : wpX_consistent (fun r u' => wpY_consistent (fun r' v' => r' = r ∧ i_Rel (k + 3) u' v') v) u := by
  obtain ⟨n, h, S, V, z, ct, so, al, ab, od, tr, K, hod, rfl, rfl⟩ := I
  unfold wpX_consistent
  refine fx_build K (-1) z ct ab (fun B z con ab hB I => ?_)
  have w := gf_cs_con K.2.1 I
  refine fx_cb1 (fun e => ?_) (fun e => ?_)
  · subst e
    exact fy_consistent K hod (fun so al => ⟨by rw [w]; rfl, fw_rel _ K hod _ _ so al ab tr⟩)
  · subst e
    exact fy_consistent K hod (fun so al => ⟨by rw [w]; rfl, fw_rel _ K hod _ _ so al ab tr⟩)
theorem i_vc_rank {k : Nat} {u : SX} {v : SY} (I : i_Rel k u v) (hk : k + 3 ≤ 1537) : wpX_rank (fun r u' => wpY_rank (fun r' v' => r' = r ∧ i_Rel (k + 3) u' v') v) u := by
  obtain ⟨n, h, S, V, z, ct, so, al, ab, od, tr, K, hod, rfl, rfl⟩ := I
  unfold wpX_rank
  refine fx_build K (-1) z ct ab (fun B z con ab hB I => ?_)
  exact fy_rank K I.2.2.2.2.2.2 (fun tr => ⟨rfl, fw_rel _ K hod _ _ so al ab tr⟩)
theorem i_vc_known {k : Nat} {u : SX} {v : SY} (I : i_Rel k u v) (hk : k + 3 ≤ 1537) : wpX_known (fun r u' => wpY_known (fun r' v' => r' = r ∧ i_Rel (k + 3) u' v') v) u := by
  obtain ⟨n, h, S, V, z, ct, so, al, ab, od, tr, K, hod, rfl, rfl⟩ := I
  unfold wpX_known
  refine fx_knownWithout K (-1) z ct ab (fun B z con ab hB I => ?_)
  exact fy_known K hod (fun so al => ⟨rfl, fw_rel _ K hod _ _ so al ab tr⟩)
theorem i_vc_value {k : Nat} {u : SX} {v : SY} (I : i_Rel k u v) (hk : k + 3 ≤ 1537) (v1 : Int32) : wpX_value (fun r u' => wpY_value (fun r' => r' = r ∧ i_Rel (k + 3) u' v) v v1) u v1 := by
  obtain ⟨n, h, S, V, z, ct, so, al, ab, od, tr, K, hod, rfl, rfl⟩ := I
  have h8 := K.2.1
  have R := fw_rel (k + 3) K hod z ct so al ab tr
  unfold wpX_value
  refine br_c (fun e => ?_) (fun e => br_c (fun e2 => ?_) (fun e2 => ?_))
  · exact br_t e ⟨rfl, R⟩
  · obtain ⟨j, hj, rfl⟩ := nI_of e
    have hj2 : j < n := (nI_ltI hj (by omega)).mp e2
    have hb := fx_bit h8 hj2
    have es := fz_shl1 j (by omega)
    rw [es]
    refine fx_fixedSum K z ct ab hb.1 (fun B z con ab I => ?_)
    refine br_f e (br_t e2 ?_)
    rw [es]
    exact fy_sumOf K hod hb.1 I ⟨rfl, fw_rel _ K hod _ _ so al ab tr⟩
  · exact br_f e (br_f e2 ⟨rfl, R⟩)
theorem i_vc_sumOf {k : Nat} {u : SX} {v : SY} (I : i_Rel k u v) (hk : k + 3 ≤ 1537) (v1 : Int32) : wpX_sumOf (fun r u' => wpY_sumOf (fun r' => r' = r ∧ i_Rel (k + 3) u' v) v v1) u v1 := by
  obtain ⟨n, h, S, V, z, ct, so, al, ab, od, tr, K, hod, rfl, rfl⟩ := I
  have R := fw_rel (k + 3) K hod z ct so al ab tr
  unfold wpX_sumOf
  refine fx_isGoodSet K.2.1 v1 (fun s hs e => br_f (by decide) ?_) (fun bad => br_t rfl ?_)
  · subst e
    exact fx_fixedSum K z ct ab hs (fun B z con ab I => fy_sumOf K hod hs I ⟨rfl, fw_rel _ K hod _ _ so al ab tr⟩)
  · exact fy_sumOf_bad K.2.1 bad ⟨rfl, R⟩
theorem i_vc_peeled {k : Nat} {u : SX} {v : SY} (I : i_Rel k u v) (hk : k + 3 ≤ 1537) : wpX_peeled (fun r => wpY_peeled (fun r' => r' = r ∧ i_Rel (k + 3) u v) v) u := by
  obtain ⟨n, h, S, V, z, ct, so, al, ab, od, tr, K, hod, rfl, rfl⟩ := I
  have R := fw_rel (k + 3) K hod z ct so al ab tr
  unfold wpX_peeled
  refine fx_peelFrom K ?_
  unfold wpY_peeled
  exact fy_peelFrom K ⟨rfl, R⟩
theorem i_vc_isSeed {k : Nat} {u : SX} {v : SY} (I : i_Rel k u v) (hk : k + 3 ≤ 1537) (v1 : Int32) : wpX_isSeed (fun r => wpY_isSeed (fun r' => r' = r ∧ i_Rel (k + 3) u v) v v1) u v1 := by
  obtain ⟨n, h, S, V, z, ct, so, al, ab, od, tr, K, hod, rfl, rfl⟩ := I
  have p8 := gf_p8 K.2.1
  have R := fw_rel (k + 3) K hod z ct so al ab tr
  unfold wpX_isSeed
  refine fx_isGoodSet K.2.1 v1 (fun s hs e => br_f (by decide) (fx_peelFrom K (br_c (fun e2 => ?_) (fun e2 => ?_)))) (fun bad => br_t rfl ?_)
  · subst e
    exact fy_isSeed K hs (fun _ => ⟨rfl, R⟩) (fun q => absurd e2 q)
  · subst e
    exact fy_isSeed K hs (fun q => absurd q e2) (fun _ => ⟨rfl, R⟩)
  · unfold wpY_isSeed
    exact fy_badSet K.2.1 v1 (fun s hs e => (fw_no hs (by omega) e bad).elim) (fun _ => br_f (by decide) ⟨rfl, R⟩)
theorem i_vc_seedSize {k : Nat} {u : SX} {v : SY} (I : i_Rel k u v) (hk : k + 3 ≤ 1537) : wpX_seedSize (fun r => wpY_seedSize (fun r' => r' = r ∧ i_Rel (k + 3) u v) v) u := by
  obtain ⟨n, h, S, V, z, ct, so, al, ab, od, tr, K, hod, rfl, rfl⟩ := I
  have R := fw_rel (k + 3) K hod z ct so al ab tr
  unfold wpX_seedSize
  refine fx_leastSeed K (fx_memberCount ?_)
  unfold wpY_seedSize
  exact fy_seed K (fy_members ⟨rfl, R⟩)
theorem i_vc_seed {k : Nat} {u : SX} {v : SY} (I : i_Rel k u v) (hk : k + 3 ≤ 1537) : wpX_seed (fun r => wpY_seed (fun r' => r' = r ∧ i_Rel (k + 3) u v) v) u := by
  obtain ⟨n, h, S, V, z, ct, so, al, ab, od, tr, K, hod, rfl, rfl⟩ := I
  have R := fw_rel (k + 3) K hod z ct so al ab tr
  unfold wpX_seed
  exact fx_leastSeed K (fy_seed K ⟨rfl, R⟩)
theorem i_vc_spare {k : Nat} {u : SX} {v : SY} (I : i_Rel k u v) (hk : k + 3 ≤ 1537) : wpX_spare (fun r u' => wpY_spare (fun r' v' => r' = r ∧ i_Rel (k + 3) u' v') v) u := by
  obtain ⟨n, h, S, V, z, ct, so, al, ab, od, tr, K, hod, rfl, rfl⟩ := I
  exact fx_spare K z ct ab (fun z ct ab => fy_spare K hod (fun so al => ⟨rfl, fw_rel _ K hod z ct so al ab tr⟩))
theorem i_vc_useful {k : Nat} {u : SX} {v : SY} (I : i_Rel k u v) (hk : k + 3 ≤ 1537) : wpX_useful (fun r u' => wpY_useful (fun r' v' => r' = r ∧ i_Rel (k + 3) u' v') v) u := by
  obtain ⟨n, h, S, V, z, ct, so, al, ab, od, tr, K, hod, rfl, rfl⟩ := I
  unfold wpX_useful
  refine fx_knownWithout K (-1) z ct ab (fun B z con ab hB I => ?_)
  have w := gf_cs_con K.2.1 I
  have y := gf_yk_kn K.2.1 I
  refine fx_cb1 (fun e => ?_) (fun e => ?_)
  · subst e
    exact fy_useful K hod (fun _ so al => ⟨rfl, fw_rel _ K hod _ _ so al ab tr⟩) (fun q => absurd (w.symm.trans q) (by decide))
  · subst e
    rw [if_neg Bool.false_ne_true] at y
    rw [y]
    refine ⟨10001, fx_us17 K.1 K.2.1 I hB (fun x hx => ?_) 10000 0 (by omega) (fun s h1 => absurd h1 (Nat.not_lt_zero s))⟩
    refine fy_useful K hod (fun q => absurd (w.symm.trans q) (by decide)) (fun _ x' so al tr hx' => ⟨?_, fw_rel _ K hod _ _ so al ab tr⟩)
    have e : (fun r => gf_hl (fx_R S V) (fx_in (-1)) h n (fz_so n r)) = (fun r => gf_rv B n (fz_so n r)) := funext (fun r => gf_help K.2.1 I (fz_so_lt K.1 r))
    rw [e] at hx'
    exact fx_Ans_1 hx hx'

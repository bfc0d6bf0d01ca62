/-! numbers: rows pasted from the kit's rows to paste, then my own -/
theorem pk_us {f : Nat → Int32} {k : Nat} {x : Int32} : upd f k x k = x := if_pos rfl
theorem pk_un {f : Nat → Int32} {k j : Nat} {x : Int32} (h : j ≠ k) : upd f k x j = f j := if_neg h
theorem pk_sub {a b : Nat} (h : b ≤ a) : nI a - nI b = nI (a - b) := by
  obtain ⟨c, rfl⟩ : ∃ c, a = c + b := ⟨a - b, by omega⟩
  rw [← nI_add, Int32.add_sub_cancel, Nat.add_sub_cancel]
theorem pk_m1 (n : Nat) : nI (n + 1) + (-1) = nI n := by
  rw [← nI_1, Int32.add_assoc, show (1 : Int32) + (-1) = 0 from rfl, Int32.add_zero]
theorem pk_mul (a b : Nat) : nI a * nI b = nI (a * b) := (Int32.ofNat_mul a b).symm
theorem pk_div {a d : Nat} (ha : a < 2 ^ 31) (h0 : 0 < d) (hd : d < 2 ^ 31) : nI a / nI d = nI (a / d) := by
  apply Int32.toInt_inj.mp
  rw [lg_idiv_nonneg (by rw [nI_toInt ha]; omega) (by rw [nI_toInt hd]; omega), nI_toInt ha, nI_toInt hd, nI_toInt (Nat.lt_of_le_of_lt (Nat.div_le_self a d) ha)]
  first | rfl | exact (Int.natCast_ediv _ _).symm
theorem pk_rem {a d : Nat} (ha : a < 2 ^ 31) (h0 : 0 < d) (hd : d < 2 ^ 31) : nI a - nI a / nI d * nI d = nI (a % d) := by
  rw [pk_div ha h0 hd, pk_mul, pk_sub (Nat.div_mul_le_self a d)]
  exact congrArg nI (by have := Nat.div_add_mod' a d; omega)
theorem pk_ix (x : Int32) {n : Nat} (hn : n < 2 ^ 31) : x < 0 ∨ nI n ≤ x ∨ ∃ j : Nat, j < n ∧ x = nI j := by
  by_cases h : x < 0
  · exact Or.inl h
  · obtain ⟨j, hj, rfl⟩ := nI_of h
    by_cases h2 : j < n
    · exact Or.inr (Or.inr ⟨j, h2, rfl⟩)
    · exact Or.inr (Or.inl (nI_le (by omega) hj))
theorem pk_le {x y : Int32} {A B : Prop} (a b : Nat) (f : a ≤ b → A) (g : b < a → B) (hx : x = nI a := by rfl) (hy : y = nI b := by rfl) (ha : a < 2 ^ 31 := by omega) (hb : b < 2 ^ 31 := by omega) : (x ≤ y → A) ∧ (¬ x ≤ y → B) := by
  subst hx hy
  rw [nI_leI ha hb]
  exact ⟨f, fun z => g (by omega)⟩
theorem pk_lt {x y : Int32} {A B : Prop} (a b : Nat) (f : a < b → A) (g : b ≤ a → B) (hx : x = nI a := by rfl) (hy : y = nI b := by rfl) (ha : a < 2 ^ 31 := by omega) (hb : b < 2 ^ 31 := by omega) : (x < y → A) ∧ (¬ x < y → B) := by
  subst hx hy
  rw [nI_ltI ha hb]
  exact ⟨f, fun z => g (by omega)⟩
theorem pk_eq {x y : Int32} {A B : Prop} (a b : Nat) (f : a = b → A) (g : a ≠ b → B) (hx : x = nI a := by rfl) (hy : y = nI b := by rfl) (ha : a < 2 ^ 31 := by omega) (hb : b < 2 ^ 31 := by omega) : (x = y → A) ∧ (¬ x = y → B) := by
  subst hx hy
  rw [nI_eq ha hb]
  exact ⟨f, g⟩
theorem pk_in {x : Int32} (n N : Nat) (h : n < N) (hx : x = nI n := by rfl) (hN : N < 2 ^ 31 := by omega) : vp_in x N := by
  subst hx
  exact vp_in_nI h hN
theorem pk_cl {x : Int32} (n : Nat) (hx : x = nI n := by rfl) (h : n < 2 ^ 31 := by omega) : x.toNatClampNeg = n := by
  subst hx
  exact nI_clamp h
theorem pk_tn {n : Nat} (h : n < 2 ^ 32) : (nI n).toBitVec.toNat = n := Nat.mod_eq_of_lt h
theorem pk_and (x : Int32) {m : Int32} (k : Nat) (hm : m.toBitVec.toNat = 2 ^ k - 1) : x &&& m = nI (x.toBitVec.toNat % 2 ^ k) := by
  apply Int32.toBitVec_inj.mp
  apply BitVec.eq_of_toNat_eq
  rw [Int32.toBitVec_and, BitVec.toNat_and, hm, Nat.and_two_pow_sub_one_eq_mod]
  show _ = (BitVec.ofNat 32 _).toNat
  rw [BitVec.toNat_ofNat]
  exact (Nat.mod_eq_of_lt (Nat.lt_of_le_of_lt (Nat.mod_le _ _) x.toBitVec.isLt)).symm
theorem pk_andN {n : Nat} (h : n < 2 ^ 32) {m : Int32} (k : Nat) (hm : m.toBitVec.toNat = 2 ^ k - 1) : nI n &&& m = nI (n % 2 ^ k) := by
  rw [pk_and _ k hm, pk_tn h]
theorem pk_shl (a s : Int32) (k : Nat) (hs : (s.toBitVec.smod 32).toNat = k) : (a <<< s).toBitVec.toNat = a.toBitVec.toNat * 2 ^ k % 2 ^ 32 := by
  show (a.toBitVec <<< (s.toBitVec.smod 32).toNat).toNat = _
  rw [hs, BitVec.toNat_shiftLeft, Nat.shiftLeft_eq]
theorem pk_shlN {n : Nat} (s : Int32) (k : Nat) (hs : (s.toBitVec.smod 32).toNat = k) (h : n * 2 ^ k < 2 ^ 32) : nI n <<< s = nI (n * 2 ^ k) := by
  apply Int32.toBitVec_inj.mp
  apply BitVec.eq_of_toNat_eq
  have hn : n < 2 ^ 32 := Nat.lt_of_le_of_lt (Nat.le_mul_of_pos_right n (Nat.two_pow_pos k)) h
  rw [pk_shl _ _ k hs, pk_tn hn, pk_tn h, Nat.mod_eq_of_lt h]
theorem pk_shr (a s : Int32) (k : Nat) (hs : (s.toBitVec.smod 32).toNat = k) : (a >>> s).toInt = a.toInt >>> k := by
  show (a.toBitVec.sshiftRight (s.toBitVec.smod 32).toNat).toInt = _
  rw [hs, BitVec.toInt_sshiftRight]
  rfl
theorem pk_shrN {n : Nat} (h : n < 2 ^ 31) (s : Int32) (k : Nat) (hs : (s.toBitVec.smod 32).toNat = k) : nI n >>> s = nI (n / 2 ^ k) := by
  apply Int32.toInt_inj.mp
  have h2 : n / 2 ^ k ≤ n := Nat.div_le_self _ _
  rw [pk_shr _ _ k hs, nI_toInt h, nI_toInt (by omega), Int.shiftRight_eq_div_pow]
  rfl
theorem pk_loop {σ : Type} (W : Nat → Nat → σ → Prop) (I : Nat → σ → Prop) (e i0 : Nat) (s : σ) (hi : i0 ≤ e) (h0 : I i0 s) (hx : ∀ n s, I e s → W (n + 1) e s)
    (hs : ∀ n i s, i < e → I i s → (∀ s', I (i + 1) s' → W n (i + 1) s') → W (n + 1) i s) : ∃ n, W n i0 s :=
  ⟨e + 1, loop_i W I e hx hs (e + 1) i0 s hi (by omega) h0⟩
theorem pk_loopD {σ : Type} (W : Nat → Nat → σ → Prop) (I : Nat → σ → Prop) (hx : ∀ n s, I 0 s → W (n + 1) 0 s)
    (hs : ∀ n i s, I (i + 1) s → (∀ s', I i s' → W n i s') → W (n + 1) (i + 1) s) : ∀ (e : Nat) (s : σ), I e s → W (e + 1) e s := by
  intro e
  induction e with
  | zero => exact fun s h => hx 0 s h
  | succ e ih => exact fun s h => hs (e + 1) e s h (fun s' h' => ih s' h')
theorem ek_if {c d A B : Prop} (e : c ↔ d) (f : d → A) (g : ¬ d → B) : (c → A) ∧ (¬ c → B) :=
  ⟨fun z => f (e.mp z), fun z => g (fun y => z (e.mpr y))⟩
def bt (x : Int32) (i : Nat) : Bool := x.toBitVec.getLsbD i
theorem b_ext {x y : Int32} (h : ∀ i, i < 32 → bt x i = bt y i) : x = y := Int32.toBitVec_inj.mp (BitVec.eq_of_getLsbD_eq (fun i hi => h i hi))
theorem b_or (x y : Int32) (i : Nat) : bt (x ||| y) i = (bt x i || bt y i) := by unfold bt; rw [Int32.toBitVec_or, BitVec.getLsbD_or]
theorem b_and (x y : Int32) (i : Nat) : bt (x &&& y) i = (bt x i && bt y i) := by unfold bt; rw [Int32.toBitVec_and, BitVec.getLsbD_and]
theorem b_xor (x y : Int32) (i : Nat) : bt (x ^^^ y) i = (bt x i ^^ bt y i) := by unfold bt; rw [Int32.toBitVec_xor, BitVec.getLsbD_xor]
theorem b_big {x : Int32} {i : Nat} (h : 32 ≤ i) : bt x i = false := BitVec.getLsbD_of_ge _ _ h
theorem b_m1 : ∀ i, i < 32 → bt (-1) i = true := by decide +kernel
theorem b_0 (i : Nat) : bt 0 i = false := BitVec.getLsbD_zero
theorem s_l : ∀ n, n < 32 → ((nI n &&& 31).toBitVec.smod 32).toNat = n := by decide +kernel
theorem nx_and (a b : Nat) : nI a &&& nI b = nI (a &&& b) := by
  apply Int32.toBitVec_inj.1
  show BitVec.ofNat 32 a &&& BitVec.ofNat 32 b = BitVec.ofNat 32 (a &&& b)
  apply BitVec.eq_of_getLsbD_eq
  intro i hi
  simp [hi]
theorem nx_xor (a b : Nat) : nI a ^^^ nI b = nI (a ^^^ b) := by
  apply Int32.toBitVec_inj.1
  show BitVec.ofNat 32 a ^^^ BitVec.ofNat 32 b = BitVec.ofNat 32 (a ^^^ b)
  apply BitVec.eq_of_getLsbD_eq
  intro i hi
  simp [hi]
theorem wb_of32 (x : Int32) : ∃ n, n < 2 ^ 32 ∧ x = nI n := ⟨x.toBitVec.toNat, x.toBitVec.isLt, Int32.toBitVec_inj.mp (by show _ = BitVec.ofNat 32 _; simp)⟩
theorem fz_or (a b : Nat) : nI a ||| nI b = nI (a ||| b) := by
  apply Int32.toBitVec_inj.1
  show BitVec.ofNat 32 a ||| BitVec.ofNat 32 b = BitVec.ofNat 32 (a ||| b)
  apply BitVec.eq_of_getLsbD_eq
  intro i hi
  simp [hi]
theorem fz_shl1 : ∀ l, l < 31 → (1 : Int32) <<< (nI l &&& 31) = nI (2 ^ l) := by decide +kernel
theorem fz_shl8 {s : Nat} (h : s < 65536) : nI s <<< ((8 : Int32) &&& 31) = nI (s * 256) := pk_shlN _ 8 (by decide) (by omega)
theorem fz_shr8 {r : Nat} (h : r < 2 ^ 31) : nI r >>> ((8 : Int32) &&& 31) = nI (r / 256) := pk_shrN h _ 8 (by decide)
theorem fz_shrN {v b : Nat} (h : v < 2 ^ 31) (hb : b < 32) : nI v >>> (nI b &&& 31) = nI (v / 2 ^ b) := pk_shrN h _ b (s_l b hb)
theorem fz_and1 (a : Nat) : nI a &&& 1 = nI (a % 2) := by
  show nI a &&& nI 1 = _
  rw [nx_and, Nat.and_one_is_mod]
theorem fz_and2 (r k : Nat) : r &&& 2 ^ k = if r.testBit k = true then 2 ^ k else 0 := by
  apply Nat.eq_of_testBit_eq
  intro i
  rw [Nat.testBit_and, Nat.testBit_two_pow]
  by_cases e : k = i
  · subst e
    rw [decide_eq_true rfl, Bool.and_true]
    cases z : r.testBit k
    · rw [if_neg (by decide), Nat.zero_testBit]
    · rw [if_pos rfl, Nat.testBit_two_pow_self]
  · rw [decide_eq_false e, Bool.and_false]
    split
    · exact (Nat.testBit_two_pow_of_ne e).symm
    · exact (Nat.zero_testBit i).symm
theorem fz_tb {r k : Nat} (hk : k < 31) : nI r &&& nI (2 ^ k) = 0 ↔ r.testBit k = false := by
  have hp : 0 < 2 ^ k := Nat.two_pow_pos k
  have hl : 2 ^ k < 2 ^ 31 := Nat.pow_lt_pow_right (by decide) hk
  rw [nx_and, fz_and2]
  cases r.testBit k
  · rw [if_neg (by decide)]
    exact ⟨fun _ => rfl, fun _ => nI_0⟩
  · rw [if_pos rfl]
    exact ⟨fun h => absurd h (nI_ne0 hp hl), fun h => absurd h (by decide)⟩
/-- the bit b of v, as Java asks for it -/
theorem fz_vb {v b : Nat} (h : v < 2 ^ 31) (hb : b < 32) : (nI v >>> (nI b &&& 31)) &&& 1 = (if v.testBit b = true then 1 else 0) := by
  rw [fz_shrN h hb, fz_and1, Nat.testBit_eq_decide_div_mod_eq]
  rcases Nat.mod_two_eq_zero_or_one (v / 2 ^ b) with e | e
  · rw [e]; rfl
  · rw [e]; rfl
theorem fz_sub (x y : Int32) : (x &&& (y ^^^ (-1)) = 0) ↔ (y &&& x = x) := by
  constructor
  · intro h
    apply b_ext
    intro i hi
    have e := congrArg (fun z => bt z i) h
    simp only [b_and, b_xor, b_m1 i hi, b_0] at e
    rw [b_and]
    revert e
    cases bt x i <;> cases bt y i <;> simp
  · intro h
    apply b_ext
    intro i hi
    have e := congrArg (fun z => bt z i) h
    simp only [b_and] at e
    rw [b_and, b_xor, b_m1 i hi, b_0]
    revert e
    cases bt x i <;> cases bt y i <;> simp
/-! members, peeling, seeds, drawn sets: the same on both sides -/
def fz_mc (x : Int32) : Nat → Int32
  | 0 => 0
  | b + 1 => fz_mc x b + ((x >>> (nI b &&& 31)) &&& 1)
theorem fz_mc_s (x : Int32) (b : Nat) : fz_mc x (b + 1) = fz_mc x b + ((x >>> (nI b &&& 31)) &&& 1) := rfl
theorem fz_odd : ∀ s, s < 256 → ((fz_mc (nI s) 8 - fz_mc (nI s) 8 / 2 * 2 = 1) ↔ gf_par s = true) := by decide +kernel
def fz_ps (S : Nat → Nat) (d : Int32) (i : Nat) : Int32 := if (nI (S i) &&& (d ^^^ (-1))) &&& ((nI (S i) &&& (d ^^^ (-1))) - 1) = 0 then d ||| (nI (S i) &&& (d ^^^ (-1))) else d
def fz_pi (S : Nat → Nat) (d : Int32) : Nat → Int32
  | 0 => d
  | i + 1 => fz_ps S (fz_pi S d i) i
def fz_pp (S : Nat → Nat) (h : Nat) (d : Int32) : Nat → Int32
  | 0 => d
  | k + 1 => fz_pi S (fz_pp S h d k) h
def fz_sd (S : Nat → Nat) (h n : Nat) : Nat → Int32 × Int32
  | 0 => (nI (2 ^ n - 1), nI n)
  | k + 1 => if fz_mc (nI k) 8 < (fz_sd S h n k).2 ∧ fz_pp S h (nI k) n = nI (2 ^ n - 1) then (nI k, fz_mc (nI k) 8) else fz_sd S h n k
theorem fz_sd_s (S : Nat → Nat) (h n k : Nat) : fz_sd S h n (k + 1) = if fz_mc (nI k) 8 < (fz_sd S h n k).2 ∧ fz_pp S h (nI k) n = nI (2 ^ n - 1) then (nI k, fz_mc (nI k) 8) else fz_sd S h n k := rfl
def fz_x (r : Nat) : Nat := r * 7919 + 104729
def fz_s1 (n r : Nat) : Nat := 2 ^ (fz_x r % n)
def fz_s2 (n r : Nat) : Nat := fz_s1 n r ^^^ 2 ^ (fz_x r / n % n)
def fz_s3 (n r : Nat) : Nat := fz_s2 n r ^^^ 2 ^ (fz_x r / (n * n) % n)
def fz_sx (n r : Nat) : Nat := if fz_x r / 7 % 3 = 0 then fz_s1 n r else if fz_x r / 7 % 3 = 1 then fz_s2 n r else fz_s3 n r
def fz_so (n r : Nat) : Nat := if fz_sx n r = 0 then 1 else fz_sx n r
theorem fz_pow {n : Nat} (hn : 1 ≤ n) (x : Nat) : 2 ^ (x % n) < 2 ^ n := Nat.pow_lt_pow_right (by decide) (Nat.mod_lt _ hn)
theorem fz_s1_lt {n : Nat} (hn : 1 ≤ n) (r : Nat) : fz_s1 n r < 2 ^ n := fz_pow hn _
theorem fz_s2_lt {n : Nat} (hn : 1 ≤ n) (r : Nat) : fz_s2 n r < 2 ^ n := Nat.xor_lt_two_pow (fz_s1_lt hn r) (fz_pow hn _)
theorem fz_s3_lt {n : Nat} (hn : 1 ≤ n) (r : Nat) : fz_s3 n r < 2 ^ n := Nat.xor_lt_two_pow (fz_s2_lt hn r) (fz_pow hn _)
theorem fz_sx_lt {n : Nat} (hn : 1 ≤ n) (r : Nat) : fz_sx n r < 2 ^ n := by
  unfold fz_sx
  split
  · exact fz_s1_lt hn r
  · split
    · exact fz_s2_lt hn r
    · exact fz_s3_lt hn r
theorem fz_so_lt {n : Nat} (hn : 1 ≤ n) (r : Nat) : fz_so n r < 2 ^ n := by
  have h := fz_sx_lt hn r
  have h2 : 2 ^ 1 ≤ 2 ^ n := Nat.pow_le_pow_right (by decide) hn
  unfold fz_so
  split <;> omega
theorem fz_x_lt {r : Nat} (h : r < 10000) : fz_x r < 2 ^ 31 := by
  unfold fz_x
  omega
theorem fz_n256 {n : Nat} (hn : n ≤ 8) : 2 ^ n ≤ 256 := gf_p8 hn

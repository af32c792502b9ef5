theorem pk_us {f : Nat → Int32} {k : Nat} {x : Int32} : upd f k x k = x := if_pos rfl
theorem pk_un {f : Nat → Int32} {k j : Nat} {x : Int32} (h : j ≠ k) : upd f k x j = f j := if_neg h
theorem pk_sub {a b : Nat} (h : b ≤ a) : nI a - nI b = nI (a - b) := by
  obtain ⟨c, rfl⟩ : ∃ c, a = c + b := ⟨a - b, by omega⟩
  rw [← nI_add, Int32.add_sub_cancel, Nat.add_sub_cancel]
theorem pk_m1 (n : Nat) : nI (n + 1) + (-1) = nI n := by
  rw [← nI_1, Int32.add_assoc, show (1 : Int32) + (-1) = 0 from rfl, Int32.add_zero]
theorem pk_mul (a b : Nat) : nI a * nI b = nI (a * b) := (Int32.ofNat_mul a b).symm
theorem pk_div {a d : Nat} (ha : a < 2 ^ 31) (h0 : 0 < d) (hd : d < 2 ^ 31) : nI a / nI d = nI (a / d) := by
  apply Int32.toInt_inj.mp
  rw [lg_idiv_nonneg (by rw [nI_toInt ha]; omega) (by rw [nI_toInt hd]; omega), nI_toInt ha, nI_toInt hd, nI_toInt (Nat.lt_of_le_of_lt (Nat.div_le_self a d) ha)]
  first | rfl | exact (Int.natCast_ediv _ _).symm
theorem pk_rem {a d : Nat} (ha : a < 2 ^ 31) (h0 : 0 < d) (hd : d < 2 ^ 31) : nI a - nI a / nI d * nI d = nI (a % d) := by
  rw [pk_div ha h0 hd, pk_mul, pk_sub (Nat.div_mul_le_self a d)]
  exact congrArg nI (by have := Nat.div_add_mod' a d; omega)
theorem pk_sub_toInt {a b : Nat} (ha : a < 2 ^ 30) (hb : b < 2 ^ 30) : (nI a - nI b).toInt = (a : Int) - b := by
  rw [Int32.toInt_sub, nI_toInt (by omega), nI_toInt (by omega)]
  exact Int.bmod_eq_of_le (by omega) (by omega)
theorem pk_sneg {a b : Nat} (hb : b < 2 ^ 30) (h : a < b) : nI a - nI b < 0 := by
  rw [Int32.lt_iff_toInt_lt, pk_sub_toInt (by omega) hb, show (0 : Int32).toInt = 0 from by decide]
  omega
theorem pk_ix (x : Int32) {n : Nat} (hn : n < 2 ^ 31) : x < 0 ∨ nI n ≤ x ∨ ∃ j : Nat, j < n ∧ x = nI j := by
  by_cases h : x < 0
  · exact Or.inl h
  · obtain ⟨j, hj, rfl⟩ := nI_of h
    by_cases h2 : j < n
    · exact Or.inr (Or.inr ⟨j, h2, rfl⟩)
    · exact Or.inr (Or.inl (nI_le (by omega) hj))
theorem pk_le {x y : Int32} {A B : Prop} (a b : Nat) (f : a ≤ b → A) (g : b < a → B) (hx : x = nI a := by rfl) (hy : y = nI b := by rfl) (ha : a < 2 ^ 31 := by omega) (hb : b < 2 ^ 31 := by omega) : (x ≤ y → A) ∧ (¬ x ≤ y → B) := by
  subst hx hy
  rw [nI_leI ha hb]
  exact ⟨f, fun z => g (by omega)⟩
theorem pk_lt {x y : Int32} {A B : Prop} (a b : Nat) (f : a < b → A) (g : b ≤ a → B) (hx : x = nI a := by rfl) (hy : y = nI b := by rfl) (ha : a < 2 ^ 31 := by omega) (hb : b < 2 ^ 31 := by omega) : (x < y → A) ∧ (¬ x < y → B) := by
  subst hx hy
  rw [nI_ltI ha hb]
  exact ⟨f, fun z => g (by omega)⟩
theorem pk_eq {x y : Int32} {A B : Prop} (a b : Nat) (f : a = b → A) (g : a ≠ b → B) (hx : x = nI a := by rfl) (hy : y = nI b := by rfl) (ha : a < 2 ^ 31 := by omega) (hb : b < 2 ^ 31 := by omega) : (x = y → A) ∧ (¬ x = y → B) := by
  subst hx hy
  rw [nI_eq ha hb]
  exact ⟨f, g⟩
theorem pk_in {x : Int32} (n N : Nat) (h : n < N) (hx : x = nI n := by rfl) (hN : N < 2 ^ 31 := by omega) : vp_in x N := by
  subst hx
  exact vp_in_nI h hN
theorem pk_cl {x : Int32} (n : Nat) (hx : x = nI n := by rfl) (h : n < 2 ^ 31 := by omega) : x.toNatClampNeg = n := by
  subst hx
  exact nI_clamp h
theorem pk_tn {n : Nat} (h : n < 2 ^ 32) : (nI n).toBitVec.toNat = n := Nat.mod_eq_of_lt h
theorem pk_and (x : Int32) {m : Int32} (k : Nat) (hm : m.toBitVec.toNat = 2 ^ k - 1) : x &&& m = nI (x.toBitVec.toNat % 2 ^ k) := by
  apply Int32.toBitVec_inj.mp
  apply BitVec.eq_of_toNat_eq
  rw [Int32.toBitVec_and, BitVec.toNat_and, hm, Nat.and_two_pow_sub_one_eq_mod]
  show _ = (BitVec.ofNat 32 _).toNat
  rw [BitVec.toNat_ofNat]
  exact (Nat.mod_eq_of_lt (Nat.lt_of_le_of_lt (Nat.mod_le _ _) x.toBitVec.isLt)).symm
theorem pk_andN {n : Nat} (h : n < 2 ^ 32) {m : Int32} (k : Nat) (hm : m.toBitVec.toNat = 2 ^ k - 1) : nI n &&& m = nI (n % 2 ^ k) := by
  rw [pk_and _ k hm, pk_tn h]
theorem pk_shl (a s : Int32) (k : Nat) (hs : (s.toBitVec.smod 32).toNat = k) : (a <<< s).toBitVec.toNat = a.toBitVec.toNat * 2 ^ k % 2 ^ 32 := by
  show (a.toBitVec <<< (s.toBitVec.smod 32).toNat).toNat = _
  rw [hs, BitVec.toNat_shiftLeft, Nat.shiftLeft_eq]
theorem pk_shlN {n : Nat} (s : Int32) (k : Nat) (hs : (s.toBitVec.smod 32).toNat = k) (h : n * 2 ^ k < 2 ^ 32) : nI n <<< s = nI (n * 2 ^ k) := by
  apply Int32.toBitVec_inj.mp
  apply BitVec.eq_of_toNat_eq
  have hn : n < 2 ^ 32 := Nat.lt_of_le_of_lt (Nat.le_mul_of_pos_right n (Nat.two_pow_pos k)) h
  rw [pk_shl _ _ k hs, pk_tn hn, pk_tn h, Nat.mod_eq_of_lt h]
theorem pk_shr (a s : Int32) (k : Nat) (hs : (s.toBitVec.smod 32).toNat = k) : (a >>> s).toInt = a.toInt >>> k := by
  show (a.toBitVec.sshiftRight (s.toBitVec.smod 32).toNat).toInt = _
  rw [hs, BitVec.toInt_sshiftRight]
  rfl
theorem pk_shrN {n : Nat} (h : n < 2 ^ 31) (s : Int32) (k : Nat) (hs : (s.toBitVec.smod 32).toNat = k) : nI n >>> s = nI (n / 2 ^ k) := by
  apply Int32.toInt_inj.mp
  have h2 : n / 2 ^ k ≤ n := Nat.div_le_self _ _
  rw [pk_shr _ _ k hs, nI_toInt h, nI_toInt (by omega), Int.shiftRight_eq_div_pow]
  rfl
theorem pk_loop {σ : Type} (W : Nat → Nat → σ → Prop) (I : Nat → σ → Prop) (e i0 : Nat) (s : σ) (hi : i0 ≤ e) (h0 : I i0 s) (hx : ∀ n s, I e s → W (n + 1) e s)
    (hs : ∀ n i s, i < e → I i s → (∀ s', I (i + 1) s' → W n (i + 1) s') → W (n + 1) i s) : ∃ n, W n i0 s :=
  ⟨e + 1, loop_i W I e hx hs (e + 1) i0 s hi (by omega) h0⟩
theorem pk_loopD {σ : Type} (W : Nat → Nat → σ → Prop) (I : Nat → σ → Prop) (hx : ∀ n s, I 0 s → W (n + 1) 0 s)
    (hs : ∀ n i s, I (i + 1) s → (∀ s', I i s' → W n i s') → W (n + 1) (i + 1) s) : ∀ (e : Nat) (s : σ), I e s → W (e + 1) e s := by
  intro e
  induction e with
  | zero => exact fun s h => hx 0 s h
  | succ e ih => exact fun s h => hs (e + 1) e s h (fun s' h' => ih s' h')
theorem s_l : ∀ n, n < 32 → ((nI n &&& 31).toBitVec.smod 32).toNat = n := by decide +kernel
theorem nx_and (a b : Nat) : nI a &&& nI b = nI (a &&& b) := by
  apply Int32.toBitVec_inj.1
  show BitVec.ofNat 32 a &&& BitVec.ofNat 32 b = BitVec.ofNat 32 (a &&& b)
  apply BitVec.eq_of_getLsbD_eq
  intro i hi
  simp [hi]
theorem nx_xor (a b : Nat) : nI a ^^^ nI b = nI (a ^^^ b) := by
  apply Int32.toBitVec_inj.1
  show BitVec.ofNat 32 a ^^^ BitVec.ofNat 32 b = BitVec.ofNat 32 (a ^^^ b)
  apply BitVec.eq_of_getLsbD_eq
  intro i hi
  simp [hi]
/-! own rows: bits, branches, loops -/
theorem gb_or (a b : Nat) : nI a ||| nI b = nI (a ||| b) := by
  apply Int32.toBitVec_inj.1
  show BitVec.ofNat 32 a ||| BitVec.ofNat 32 b = BitVec.ofNat 32 (a ||| b)
  apply BitVec.eq_of_getLsbD_eq
  intro i hi
  simp [hi]
theorem gb_sh : ∀ v, v < 31 → (1 : Int32) <<< (nI v &&& 31) = nI (2 ^ v) := by decide +kernel
def gb_lo (s : Nat) : Nat := s &&& (128 - s)
theorem gb_low : ∀ s, s < 128 → nI s &&& (-nI s) = nI (gb_lo s) := by decide +kernel
theorem gb_bitN {s v : Nat} (hs : s < 2 ^ 31) (hv : v < 32) : (nI s >>> (nI v &&& 31)) &&& 1 = nI (s / 2 ^ v % 2) := by
  rw [pk_shrN hs _ v (s_l v hv)]
  exact pk_andN (Nat.lt_of_le_of_lt (Nat.div_le_self _ _) (by omega)) 1 (by decide)
theorem gb_tb1 {s v : Nat} (h : s.testBit v = true) : s / 2 ^ v % 2 = 1 := by
  rw [Nat.testBit_eq_decide_div_mod_eq] at h
  exact of_decide_eq_true h
theorem gb_tb0 {s v : Nat} (h : s.testBit v = false) : s / 2 ^ v % 2 = 0 := by
  rw [Nat.testBit_eq_decide_div_mod_eq] at h
  have := of_decide_eq_false h
  omega
theorem gb_bt {s v : Nat} (hs : s < 2 ^ 31) (hv : v < 32) (h : s.testBit v = true) : (nI s >>> (nI v &&& 31)) &&& 1 = 1 := by
  rw [gb_bitN hs hv, gb_tb1 h]; rfl
theorem gb_bf {s v : Nat} (hs : s < 2 ^ 31) (hv : v < 32) (h : s.testBit v = false) : (nI s >>> (nI v &&& 31)) &&& 1 = 0 := by
  rw [gb_bitN hs hv, gb_tb0 h]; rfl
theorem gb_cpl {a b : Nat} (ha : a < 128) : nI a &&& (nI b ^^^ (-1)) = nI (a &&& (127 ^^^ b)) := by
  apply Int32.toBitVec_inj.1
  show BitVec.ofNat 32 a &&& (BitVec.ofNat 32 b ^^^ BitVec.allOnes 32) = BitVec.ofNat 32 (a &&& (127 ^^^ b))
  apply BitVec.eq_of_getLsbD_eq
  intro i hi
  have h7 : Nat.testBit 127 i = decide (i < 7) := Nat.testBit_two_pow_sub_one (n := 7) (i := i)
  rw [BitVec.getLsbD_and, BitVec.getLsbD_xor, BitVec.getLsbD_ofNat, BitVec.getLsbD_ofNat, BitVec.getLsbD_ofNat, BitVec.getLsbD_allOnes, Nat.testBit_and, Nat.testBit_xor, h7]
  by_cases h : i < 7
  · simp only [hi, h, decide_true, Bool.true_and, Bool.xor_true, Bool.true_xor]
  · have : a.testBit i = false := Nat.testBit_lt_two_pow (Nat.lt_of_lt_of_le ha (Nat.pow_le_pow_right (n := 2) (by decide) (Nat.le_of_not_lt h)))
    simp only [this, Bool.and_false, Bool.false_and]
/-- X's has, met with a branch -/
theorem gb_has {A B : Prop} (s v : Nat) (hs : s < 2 ^ 31) (hv : v < 32) (h1 : s.testBit v = true → B) (h0 : s.testBit v = false → A) : wpX_has (fun r => (r = 0 → A) ∧ (¬ r = 0 → B)) (nI s) (nI v) := by
  cases h : s.testBit v with
  | false => exact br_t (gb_bf hs hv h) (br_t rfl (h0 h))
  | true =>
    have e := gb_bt hs hv h
    exact br_f (by rw [e]; decide) (br_f (by decide) (h1 h))
/-- a bit tested against 1 -/
theorem gb_is1 {x y : Int32} {A B : Prop} (s v : Nat) (hs : s < 2 ^ 31) (hv : v < 32) (h1 : s.testBit v = true → A) (h0 : s.testBit v = false → B) (hx : x = nI s := by rfl) (hy : y = nI v := by rfl) : (((x >>> (y &&& 31)) &&& 1) = 1 → A) ∧ (¬ ((x >>> (y &&& 31)) &&& 1) = 1 → B) := by
  subst hx hy
  cases h : s.testBit v with
  | false =>
    have e := gb_bf hs hv h
    exact br_f (by rw [e]; decide) (h0 h)
  | true => exact br_t (gb_bt hs hv h) (h1 h)
theorem gb_is0 {x y : Int32} {A B : Prop} (s v : Nat) (hs : s < 2 ^ 31) (hv : v < 32) (h0 : s.testBit v = false → A) (h1 : s.testBit v = true → B) (hx : x = nI s := by rfl) (hy : y = nI v := by rfl) : (((x >>> (y &&& 31)) &&& 1) = 0 → A) ∧ (¬ ((x >>> (y &&& 31)) &&& 1) = 0 → B) := by
  subst hx hy
  cases h : s.testBit v with
  | false => exact br_t (gb_bf hs hv h) (h0 h)
  | true =>
    have e := gb_bt hs hv h
    exact br_f (by rw [e]; decide) (h1 h)
/-- a counted loop -/
theorem gb_lp (P : Nat → Nat → Prop) (e i0 : Nat) (hi : i0 ≤ e) (hx : ∀ n, P (n + 1) e) (hs : ∀ n i, i0 ≤ i → i < e → P n (i + 1) → P (n + 1) i) : ∃ n, P n i0 := by
  have key : ∀ d i, i0 ≤ i → i + d = e → P (d + 1) i := by
    intro d
    induction d with
    | zero => intro i _ h; cases h; exact hx 0
    | succ d ih => intro i h0 h; exact hs (d + 1) i h0 (by omega) (ih (i + 1) (by omega) (by omega))
  exact ⟨e - i0 + 1, key (e - i0) i0 (Nat.le_refl _) (by omega)⟩
def gb_fd {σ : Type} (f : Nat → σ → σ) (s : σ) : Nat → σ
  | 0 => s
  | i + 1 => f i (gb_fd f s i)
theorem gb_fd_add {σ : Type} (f : Nat → σ → σ) (s : σ) (m : Nat) : ∀ n, gb_fd f s (m + n) = gb_fd (fun i => f (m + i)) (gb_fd f s m) n
  | 0 => rfl
  | n + 1 => congrArg (f (m + n)) (gb_fd_add f s m n)
theorem gb_m7 (a b : Nat) : nI a * 7 + nI b = nI (7 * a + b) := by
  show nI a * nI 7 + nI b = _
  rw [pk_mul, nI_add, Nat.mul_comm]
theorem gb_7m (a b : Nat) : 7 * nI a + nI b = nI (7 * a + b) := by
  show nI 7 * nI a + nI b = _
  rw [pk_mul, nI_add]
theorem gb_m128 (a b : Nat) : nI a * 128 + nI b = nI (a * 128 + b) := by
  show nI a * nI 128 + nI b = _
  rw [pk_mul, nI_add]
theorem gb_d7 {a : Nat} (h : a < 2 ^ 31) : nI a / 7 = nI (a / 7) := pk_div (d := 7) h (by decide) (by decide)
theorem gb_r7 {a : Nat} (h : a < 2 ^ 31) : nI a - nI a / 7 * 7 = nI (a % 7) := pk_rem (d := 7) h (by decide) (by decide)
theorem gb_lt128 {a b : Nat} (ha : a < 128) (hb : b < 128) : a ||| b < 128 := Nat.or_lt_two_pow (n := 7) ha hb
theorem gb_p2 : ∀ v, v < 7 → 2 ^ v < 128 := by decide
/-- size -/
def gb_sz (s : Nat) : Nat → Nat
  | 0 => 0
  | i + 1 => gb_sz s i + s / 2 ^ i % 2
def gb_size (s : Nat) : Nat := gb_sz s 7
theorem gb_xsize {post : Int32 → Prop} (s : Nat) (hs : s < 2 ^ 31) (h : post (nI (gb_size s))) : wpX_size post (nI s) := by
  refine gb_lp (fun n i => wX_size_4 post (nI s) n (nI (gb_sz s i)) (nI i)) 7 0 (by omega) (fun n => br_t (nI_le (a := 7) (Nat.le_refl 7) (by decide)) h) (fun n i _ hi H => ?_)
  refine br_f (nI_ge (b := 7) hi (by decide)) (nm_r (e' := nI (gb_sz s (i + 1))) ?_ (nm_r (nI_1 i) H))
  rw [gb_bitN hs (by omega), nI_add]; rfl

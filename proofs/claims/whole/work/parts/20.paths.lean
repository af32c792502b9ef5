/-! the lightest and the heaviest paths -/
def pt_v : Bool → Nat → Int32
  | true, w => nI w
  | false, w => -nI w
def pt_k : Bool → Int32
  | true => 1
  | false => -1
def pt_b : Bool → Nat → Nat → Prop
  | true, a, b => a ≤ b
  | false, a, b => b ≤ a
theorem pt_bt {f : Bool} {a b c : Nat} (h : pt_b f a b) (k : pt_b f b c) : pt_b f a c := by
  cases f
  · exact Nat.le_trans k h
  · exact Nat.le_trans h k
theorem pt_br (f : Bool) (a : Nat) : pt_b f a a := by
  cases f <;> exact Nat.le_refl a
theorem pt_ba {f : Bool} {a b : Nat} (h : pt_b f a b) (c : Nat) : pt_b f (a + c) (b + c) := by
  cases f <;> exact Nat.add_le_add_right h c
theorem pt_bn {f : Bool} {a b : Nat} (h : ¬ pt_b f a b) : pt_b f b a := by
  cases f <;> exact Nat.le_of_lt (Nat.lt_of_not_le h)
theorem pt_add (f : Bool) (a b : Nat) : pt_v f a + pt_k f * nI b = pt_v f (a + b) := by
  cases f
  · show -nI a + -1 * nI b = -nI (a + b)
    rw [← nI_add]; grind
  · show nI a + 1 * nI b = nI (a + b)
    rw [← nI_add]; grind
theorem pt_n1 : ∀ a, a < 55 → ∀ b, b < 55 → (-nI a ≤ -nI b ↔ b ≤ a) := by decide +kernel
theorem pt_n2 : ∀ a, a < 55 → ¬ (1000000 : Int32) ≤ -nI a ∧ -nI a ≤ (1000000 : Int32) ∧ ¬ (1000000 : Int32) ≤ nI a ∧ nI a ≤ (1000000 : Int32) := by decide +kernel
theorem pt_n3 : ∀ a, a < 55 → ∀ b, b < 55 → (-nI a = -nI b → a = b) := by decide +kernel
theorem pt_le (f : Bool) {a b : Nat} (ha : a ≤ 54) (hb : b ≤ 54) : pt_v f a ≤ pt_v f b ↔ pt_b f a b := by
  cases f
  · exact pt_n1 a (by omega) b (by omega)
  · exact nI_leI (by omega) (by omega)
theorem pt_inj (f : Bool) {a b : Nat} (ha : a ≤ 54) (hb : b ≤ 54) (h : pt_v f a = pt_v f b) : a = b := by
  cases f
  · exact pt_n3 a (by omega) b (by omega) h
  · exact (nI_eq (by omega) (by omega)).1 h
theorem pt_far (f : Bool) {a : Nat} (ha : a ≤ 54) : ¬ (1000000 : Int32) ≤ pt_v f a ∧ pt_v f a ≤ (1000000 : Int32) := by
  have := pt_n2 a (by omega)
  cases f
  · exact ⟨this.1, this.2.1⟩
  · exact ⟨this.2.2.1, this.2.2.2⟩
theorem pt_v0 (f : Bool) : pt_v f 0 = 0 := by
  cases f <;> decide
/-- the value x is at least as good as w -/
def pt_g (f : Bool) (x : Int32) (w : Nat) : Prop := ∃ w', w' ≤ 54 ∧ x = pt_v f w' ∧ pt_b f w' w
def pt_w (W : Nat → Nat) (o : Nat → Nat) : Nat → Nat
  | 0 => 0
  | n + 1 => pt_w W o n + W (7 * o n + o (n + 1))
def pt_P (W : Nat → Nat) (st : Nat) (o : Nat → Nat) (n : Nat) : Prop := o 0 = st ∧ sq_D o (n + 1) ∧ ∀ j, j < n → 0 < W (7 * o j + o (j + 1))
def pt_S (W : Nat → Nat) (st : Nat) (f : Bool) (a : Nat → Int32) : Prop := ∀ S e, S < 128 → e < 7 → a (7 * S + e) = 1000000 ∨ ∃ o n, pt_P W st o n ∧ sq_s o (n + 1) = S ∧ o n = e ∧ a (7 * S + e) = pt_v f (pt_w W o n)
def pt_C (W : Nat → Nat) (st : Nat) (f : Bool) (a : Nat → Int32) (t : Nat) : Prop := ∀ o n, pt_P W st o n → (n = 0 ∨ 7 * sq_s o n + o (n - 1) < t) → pt_g f (a (7 * sq_s o (n + 1) + o n)) (pt_w W o n)
theorem pt_wc {W : Nat → Nat} {o p : Nat → Nat} : ∀ n, (∀ j, j ≤ n → o j = p j) → pt_w W o n = pt_w W p n
  | 0, _ => rfl
  | n + 1, h => by
    show pt_w W o n + W (7 * o n + o (n + 1)) = pt_w W p n + W (7 * p n + p (n + 1))
    rw [pt_wc n (fun j hj => h j (by omega)), h n (by omega), h (n + 1) (by omega)]
theorem pt_pre {W : Nat → Nat} {st : Nat} {o : Nat → Nat} {n : Nat} (h : pt_P W st o (n + 1)) : pt_P W st o n := ⟨h.1, sq_pre h.2.1, fun j hj => h.2.2 j (by omega)⟩
theorem pt_xP {W : Nat → Nat} {st : Nat} {o : Nat → Nat} {n v : Nat} (h : pt_P W st o n) (hv : v < 7) (hb : (sq_s o (n + 1)).testBit v = false) (hw : 0 < W (7 * o n + v)) : pt_P W st (sq_x o (n + 1) v) (n + 1) := by
  refine ⟨?_, sq_xD h.2.1 hv hb, fun j hj => ?_⟩
  · rw [sq_xj (by omega)]; exact h.1
  · rw [sq_xj (j := j) (by omega)]
    by_cases e : j = n
    · subst e; rw [sq_xn]; exact hw
    · rw [sq_xj (by omega)]; exact h.2.2 j (by omega)
theorem pt_xw {W : Nat → Nat} {o : Nat → Nat} {n v : Nat} : pt_w W (sq_x o (n + 1) v) (n + 1) = pt_w W o n + W (7 * o n + v) := by
  show pt_w W (sq_x o (n + 1) v) n + W (7 * sq_x o (n + 1) v n + sq_x o (n + 1) v (n + 1)) = _
  rw [sq_xn, sq_xj (by omega), pt_wc n (fun j hj => sq_xj (v := v) (by omega))]
section
variable {aw an sp po wy pa pr co : Nat → Int32} {W N : Nat → Nat}
theorem pt_w9 (hG : gr_G aw an W N) {o : Nat → Nat} : ∀ n, (∀ j, j < n + 1 → o j < 7) → pt_w W o n ≤ 9 * n
  | 0, _ => Nat.zero_le _
  | n + 1, h => by
    have a := pt_w9 hG n (fun j hj => h j (by omega))
    have b := gr_9 hG (i := 7 * o n + o (n + 1)) (by have := h n (by omega); have := h (n + 1) (by omega); omega)
    show _ + _ ≤ _
    omega
theorem pt_54 (hG : gr_G aw an W N) {st : Nat} {o : Nat → Nat} {n : Nat} (h : pt_P W st o n) : pt_w W o n ≤ 54 := by
  have a := pt_w9 hG n h.2.1.1
  have b := sq_7 h.2.1
  omega
theorem pt_min {post : Int32 → Prop} (f : Bool) (x : Int32) (w : Nat) (hw : w ≤ 54) (hx : x = 1000000 ∨ ∃ w0, w0 ≤ 54 ∧ x = pt_v f w0) (h : ∀ r, (r = x ∨ r = pt_v f w) → pt_g f r w → (∀ u, pt_g f x u → pt_g f r u) → post r) : wpX_smaller post x (pt_v f w) := by
  have take : (∀ u, pt_g f x u → pt_g f (pt_v f w) u) → post (pt_v f w) := fun q => h _ (Or.inr rfl) ⟨w, hw, rfl, pt_br f w⟩ q
  rcases hx with e | ⟨w0, h0, e⟩
  · subst e
    refine br_t (pt_far f hw).2 (take (fun u ⟨w', h', e', _⟩ => ?_))
    have := (pt_far f h').1
    rw [← e'] at this
    exact absurd (by decide) this
  · subst e
    by_cases c : pt_b f w w0
    · refine br_t ((pt_le f hw h0).2 c) (take (fun u ⟨w', h', e', b'⟩ => ?_))
      have := pt_inj f h0 h' e'
      subst this
      exact ⟨w, hw, rfl, pt_bt c b'⟩
    · exact br_f (fun z => c ((pt_le f hw h0).1 z)) (h _ (Or.inl rfl) ⟨w0, h0, rfl, pt_bn c⟩ (fun u q => q))
theorem pt_len (hG : gr_G aw an W N) {post : SX → Prop} (st : Nat) (f : Bool) (s e : Nat) (hs : s < 128) (he : e < 7) (o : Nat → Nat) (n0 : Nat) (hP : pt_P W st o n0) (hos : sq_s o (n0 + 1) = s) (hoe : o n0 = e) (hpa : pa (7 * s + e) = pt_v f (pt_w W o n0)) (hS : pt_S W st f pa) (h : ∀ b : Nat → Int32, pt_S W st f b → (∀ x w, pt_g f (pa x) w → pt_g f (b x) w) → (∀ v, v < 7 → s.testBit v = false → 0 < W (7 * e + v) → pt_g f (b (7 * (s ||| 2 ^ v) + v)) (pt_w W o n0 + W (7 * e + v))) → post (aw, an, sp, po, wy, b, pr, co)) : wpX_lengthenPath post (aw, an, sp, po, wy, pa, pr, co) (nI s) (nI e) (pt_k f) := by
  have e1 : nI s * 7 + nI e = nI (7 * s + e) := gb_m7 s e
  refine ⟨vp_in_nI he (by decide), nm_r (e' := nI (N e &&& (127 ^^^ s))) (by rw [gr_nc hG e he, gb_cpl (gr_nl hG he)]) ⟨by rw [e1]; exact vp_in_nI (by omega) (by decide), nm_r (e' := pt_v f (pt_w W o n0)) (by rw [e1, nI_clamp (by omega)]; exact hpa) ?_⟩⟩
  have main := gb_lp (fun n i => ∀ b : Nat → Int32, pt_S W st f b → (∀ x w, pt_g f (pa x) w → pt_g f (b x) w) → (∀ v, v < i → s.testBit v = false → 0 < W (7 * e + v) → pt_g f (b (7 * (s ||| 2 ^ v) + v)) (pt_w W o n0 + W (7 * e + v))) → wX_lengthenPath_28 post (nI s) (nI e) (pt_k f) (nI (N e &&& (127 ^^^ s))) (pt_v f (pt_w W o n0)) n (nI i) aw an sp po wy b pr co) 7 0 (by omega) (fun n b h1 h2 h3 => br_t (nI_le (a := 7) (Nat.le_refl 7) (by decide)) (h b h1 h2 h3)) (fun n v _ hv K b h1 h2 h3 => br_f (nI_ge (b := 7) hv (by decide)) ?_)
  · obtain ⟨n, hn⟩ := main
    exact ⟨n, hn pa hS (fun _ _ q => q) (fun v hv => absurd hv (Nat.not_lt_zero v))⟩
  have onl := gb_and_lt (b := 127 ^^^ s) (gr_nl hG he)
  have tb := gb_and127 (N e) s v hv
  have no : ¬ (s.testBit v = false ∧ 0 < W (7 * e + v)) → wX_lengthenPath_28 post (nI s) (nI e) (pt_k f) (nI (N e &&& (127 ^^^ s))) (pt_v f (pt_w W o n0)) n (nI (v + 1)) aw an sp po wy b pr co := by
    intro z
    refine K b h1 h2 (fun x hx c1 c2 => ?_)
    by_cases q : x = v
    · subst q; exact absurd ⟨c1, c2⟩ z
    · exact h3 x (by omega) c1 c2
  refine gb_has _ v (by omega) (by omega) (fun hb => ?_) (fun hb => nm_r (nI_1 v) (no (fun z => ?_)))
  · rw [tb, Bool.and_eq_true] at hb
    have sb : s.testBit v = false := by simpa using hb.2
    have wp := (gr_t hG he hv).1 hb.1
    have xP := pt_xP hP hv (by rw [hos]; exact sb) (by rw [hoe]; exact wp)
    have xw : pt_w W (sq_x o (n0 + 1) v) (n0 + 1) = pt_w W o n0 + W (7 * e + v) := by rw [pt_xw, hoe]
    have xs : sq_s (sq_x o (n0 + 1) v) (n0 + 1 + 1) = s ||| 2 ^ v := by rw [sq_xS, hos]
    have w54 := pt_54 hG xP
    rw [xw] at w54
    have s2 : s ||| 2 ^ v < 128 := gb_lt128 hs (gb_p2 v hv)
    have eX : (nI s ||| ((1 : Int32) <<< (nI v &&& 31))) * 7 + nI v = nI (7 * (s ||| 2 ^ v) + v) := by
      rw [gb_sh v (by omega), gb_or, gb_m7]
    have eW : nI e * 7 + nI v = nI (7 * e + v) := gb_m7 e v
    refine nm_r eX ⟨by rw [eW]; exact vp_in_nI (by omega) (by decide), nm_r (e' := pt_v f (pt_w W o n0 + W (7 * e + v))) (by rw [gr_wc hG (7 * e + v) (by omega) eW, pt_add]) ⟨vp_in_nI (by omega) (by decide), ?_⟩⟩
    rw [nI_clamp (by omega)]
    refine pt_min f _ _ w54 ?_ (fun r hr hg hm => ⟨vp_in_nI (by omega) (by decide), nm_r rfl (nm_r (nI_1 v) (K _ (fun S x hSx hx => ?_) (fun x w q => ?_) (fun x hx c1 c2 => ?_)))⟩)
    · rcases h1 (s ||| 2 ^ v) v s2 hv with q | ⟨p, m, hp, _, _, q⟩
      · exact Or.inl q
      · exact Or.inr ⟨_, pt_54 hG hp, q⟩
    · by_cases c : 7 * S + x = 7 * (s ||| 2 ^ v) + v
      · have c1 : S = s ||| 2 ^ v := by omega
        have c2 : x = v := by omega
        subst c1; subst c2
        rw [pk_us]
        rcases hr with q | q
        · rw [q]; exact h1 _ _ hSx hx
        · exact Or.inr ⟨_, _, xP, xs, sq_xn _ _ _, by rw [xw]; exact q⟩
      · rw [pk_un c]; exact h1 S x hSx hx
    · by_cases c : x = 7 * (s ||| 2 ^ v) + v
      · subst c
        rw [pk_us]
        exact hm w (h2 _ w q)
      · rw [pk_un c]; exact h2 x w q
    · by_cases c : x = v
      · subst c; rw [pk_us]; exact hg
      · have hx' : x < v := by omega
        by_cases d : 7 * (s ||| 2 ^ x) + x = 7 * (s ||| 2 ^ v) + v
        · have := gb_lt128 hs (gb_p2 x (by omega))
          omega
        · rw [pk_un d]; exact h3 x hx' c1 c2
  · rw [tb, z.1] at hb
    have := (gr_t hG he hv).2 z.2
    rw [this] at hb
    exact absurd hb (by decide)
theorem pt_fill (hG : gr_G aw an W N) {post : SX → Prop} (st : Nat) (hst : st < 7) (f : Bool) (h : ∀ b : Nat → Int32, pt_S W st f b → (∀ o n, pt_P W st o n → pt_g f (b (7 * sq_s o (n + 1) + o n)) (pt_w W o n)) → post (aw, an, sp, po, wy, b, pr, co)) : wpX_fillPaths post (aw, an, sp, po, wy, pa, pr, co) (nI st) (pt_k f) := by
  have main := gb_lp (fun n i => ∀ b : Nat → Int32, (∀ j, j < i → b j = 1000000) → wX_fillPaths_2 post (nI st) (pt_k f) n (nI i) aw an sp po wy b pr co) 896 0 (by omega) (fun n b hb => br_t (nI_le (a := 896) (Nat.le_refl _) (by decide)) ?_) (fun n i _ hi K b hb => br_f (nI_ge (b := 896) hi (by decide)) ⟨vp_in_nI hi (by decide), nm_r rfl (nm_r (nI_1 i) (K _ (fun j hj => ?_)))⟩)
  · obtain ⟨n, hn⟩ := main
    exact ⟨n, hn pa (fun j hj => absurd hj (Nat.not_lt_zero j))⟩
  · have p2 := gb_p2 st hst
    have e0 : ((1 : Int32) <<< (nI st &&& 31)) * 7 + nI st = nI (7 * 2 ^ st + st) := by rw [gb_sh st (by omega), gb_m7]
    refine ⟨by rw [e0]; exact vp_in_nI (by omega) (by decide), nm_r (e' := upd b (7 * 2 ^ st + st) 0) (by rw [e0, nI_clamp (by omega)]) ?_⟩
    have out := gb_lp (fun n s => ∀ b : Nat → Int32, pt_S W st f b → pt_C W st f b (7 * s) → wX_fillPaths_39 post (pt_k f) n (nI s) aw an sp po wy b pr co) 128 1 (by omega) (fun n b hS hC => br_t (nI_le (a := 128) (Nat.le_refl _) (by decide)) (h b hS (fun o m hP => hC o m hP ?_))) (fun n s hs1 hs K b hS hC => br_f (nI_ge (b := 128) hs (by decide)) ?_)
    · obtain ⟨n, hn⟩ := out
      refine ⟨n, hn _ (fun S e hSl he => ?_) (fun o m hP hm => ?_)⟩
      · by_cases c : 7 * S + e = 7 * 2 ^ st + st
        · have c1 : S = 2 ^ st := by omega
          have c2 : e = st := by omega
          subst c1; subst c2
          refine Or.inr ⟨fun _ => e, 0, ⟨rfl, ⟨fun _ _ => hst, fun i j hi hj => by omega⟩, fun j hj => absurd hj (Nat.not_lt_zero j)⟩, ?_, rfl, ?_⟩
          · show 0 ||| 2 ^ e = 2 ^ e
            exact Nat.zero_or _
          · rw [pk_us]; exact (pt_v0 f).symm
        · rw [pk_un c, hb _ (by omega)]; exact Or.inl rfl
      · cases m with
        | zero =>
          have e1 : sq_s o 1 = 2 ^ st := by
            show 0 ||| 2 ^ o 0 = _
            rw [hP.1]; exact Nat.zero_or _
          show pt_g f (upd b (7 * 2 ^ st + st) 0 (7 * sq_s o 1 + o 0)) 0
          rw [e1, hP.1, pk_us]
          exact ⟨0, by decide, (pt_v0 f).symm, pt_br f 0⟩
        | succ m =>
          have sz := sq_size (m + 1) (sq_pre hP.2.1)
          have : sq_s o (m + 1) = 0 := by
            rcases hm with z | z
            · omega
            · omega
          rw [this] at sz
          exact absurd sz (by have : gb_size 0 = 0 := by decide
                              omega)
    · cases m with
      | zero => exact Or.inl rfl
      | succ m =>
        have l := sq_lt (o := o) (m + 1) (fun j hj => hP.2.1.1 j (by omega))
        have l2 := hP.2.1.1 m (by omega)
        exact Or.inr (by show 7 * sq_s o (m + 1) + o m < 7 * 128; omega)
    · refine (?_ : ∃ m, wX_fillPaths_49 post (wX_fillPaths_39 post (pt_k f) n) (pt_k f) (nI s) m 0 aw an sp po wy b pr co)
      have inn := gb_lp (fun m e => ∀ b : Nat → Int32, pt_S W st f b → pt_C W st f b (7 * s + e) → wX_fillPaths_49 post (wX_fillPaths_39 post (pt_k f) n) (pt_k f) (nI s) m (nI e) aw an sp po wy b pr co) 7 0 (by omega) (fun m b hS hC => br_t (nI_le (a := 7) (Nat.le_refl _) (by decide)) (nm_r (nI_1 s) (K b hS hC))) (fun m e _ he L b hS hC => br_f (nI_ge (b := 7) he (by decide)) ?_)
      · obtain ⟨m, hm⟩ := inn
        exact ⟨m, hm b hS hC⟩
      have e1 : nI s * 7 + nI e = nI (7 * s + e) := gb_m7 s e
      have ecl : (nI s * 7 + nI e).toNatClampNeg = 7 * s + e := by rw [e1]; exact nI_clamp (by omega)
      -- a path whose last but one place is (s, e)
      have prev : ∀ o k, pt_P W st o (k + 1) → 7 * sq_s o (k + 1) + o k = 7 * s + e → sq_s o (k + 1) = s ∧ o k = e ∧ pt_g f (b (7 * s + e)) (pt_w W o k) := by
        intro o k hP hk
        have l2 := hP.2.1.1 k (by omega)
        have c1 : sq_s o (k + 1) = s := by omega
        have c2 : o k = e := by omega
        have g := hC o k (pt_pre hP) (by
          cases k with
          | zero => exact Or.inl rfl
          | succ k =>
            refine Or.inr ?_
            have hD := sq_pre hP.2.1
            have bk := sq_back hD
            have tb : (sq_s o (k + 1 + 1)).testBit (o (k + 1)) = true := (sq_t _).2 ⟨k + 1, by omega, rfl⟩
            have lt : sq_s o (k + 1) < sq_s o (k + 1 + 1) := by
              have := gb_xless _ (sq_lt _ hD.1) _ (hD.1 (k + 1) (by omega)) tb
              rw [bk] at this
              exact this
            have l3 := hD.1 k (by omega)
            show 7 * sq_s o (k + 1) + o k < 7 * s + e
            omega)
        rw [c1, c2] at g
        exact ⟨c1, c2, g⟩
      refine ⟨by rw [e1]; exact vp_in_nI (by omega) (by decide), ?_⟩
      rw [ecl]
      refine br_c (fun far => nm_r (nI_1 e) (L b hS (fun o k hP hk => ?_))) (fun nfar => ?_)
      · by_cases c : k = 0 ∨ 7 * sq_s o k + o (k - 1) < 7 * s + e
        · exact hC o k hP c
        · cases k with
          | zero => exact absurd (Or.inl rfl) c
          | succ k =>
            have hk' : 7 * sq_s o (k + 1) + o k < 7 * s + (e + 1) := by
              rcases hk with z | z
              · omega
              · exact z
            have c' : ¬ 7 * sq_s o (k + 1) + o k < 7 * s + e := fun z => c (Or.inr z)
            obtain ⟨w', h', q, _⟩ := (prev o k hP (by omega)).2.2
            rw [q] at far
            exact absurd far (pt_far f h').1
      · rcases hS s e hs he with q | ⟨o0, n0, hP0, hs0, he0, q⟩
        · rw [q] at nfar; exact absurd (by decide) nfar
        · refine pt_len hG st f s e hs he o0 n0 hP0 hs0 he0 q hS (fun b' hS' hm hd => nm_r (nI_1 e) (L b' hS' (fun o k hP hk => ?_)))
          by_cases c : k = 0 ∨ 7 * sq_s o k + o (k - 1) < 7 * s + e
          · exact hm _ _ (hC o k hP c)
          · cases k with
            | zero => exact absurd (Or.inl rfl) c
            | succ k =>
              have hk' : 7 * sq_s o (k + 1) + o k < 7 * s + (e + 1) := by
                rcases hk with z | z
                · omega
                · exact z
              have c' : ¬ 7 * sq_s o (k + 1) + o k < 7 * s + e := fun z => c (Or.inr z)
              obtain ⟨d1, d2, w', h', q', b''⟩ := prev o k hP (by omega)
              have wEq : pt_w W o0 n0 = w' := pt_inj f (pt_54 hG hP0) h' (q.symm.trans q')
              have nb := sq_new hP.2.1
              have wp := hP.2.2 k (by omega)
              have v7 := hP.2.1.1 (k + 1) (by omega)
              rw [d1] at nb
              rw [d2] at wp
              obtain ⟨w2, h2, q2, b2⟩ := hd (o (k + 1)) v7 nb wp
              have es : sq_s o (k + 1 + 1) = s ||| 2 ^ o (k + 1) := by
                show sq_s o (k + 1) ||| 2 ^ o (k + 1) = _
                rw [d1]
              rw [es]
              refine ⟨w2, h2, q2, pt_bt b2 ?_⟩
              show pt_b f _ (pt_w W o k + W (7 * o k + o (k + 1)))
              rw [d2, wEq]
              exact pt_ba b'' _
  · rw [nI_clamp (by omega)]
    by_cases e : j = i
    · subst e; exact pk_us
    · rw [pk_un e]; exact hb j (by omega)
end

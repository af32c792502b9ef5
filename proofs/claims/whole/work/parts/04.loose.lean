/-! loose and dominators -/
theorem gb_big {x : Int32} {n : Nat} (hn : n + 1 < 2 ^ 31) (h : nI (n + 1) ≤ x) : ¬ x < 0 ∧ ¬ x ≤ nI n := by
  rw [Int32.le_iff_toInt_le, nI_toInt hn] at h
  rw [Int32.lt_iff_toInt_lt, Int32.le_iff_toInt_le, nI_toInt (by omega)]
  have q : (0 : Int32).toInt = 0 := by decide
  omega
theorem gb_szt {s i : Nat} (h : s.testBit i = true) : gb_sz s (i + 1) = gb_sz s i + 1 := by
  show _ + _ = _
  rw [gb_tb1 h]
theorem gb_szf {s i : Nat} (h : s.testBit i = false) : gb_sz s (i + 1) = gb_sz s i := by
  show _ + _ = _
  rw [gb_tb0 h]; rfl
theorem gb_szle (s : Nat) : ∀ i, gb_sz s i ≤ i
  | 0 => Nat.le_refl _
  | i + 1 => by
    have := gb_szle s i
    show _ + s / 2 ^ i % 2 ≤ _
    omega
theorem gb_size7 (s : Nat) : gb_size s ≤ 7 := gb_szle s 7
theorem gb_ysize {post : Int32 → Prop} {rd : Int32} {aw od li pt ps cf fl lv lf : Nat → Int32} (s : Nat) (hs : s < 2 ^ 31) (h : post (nI (gb_size s))) : wpY_size post (rd, aw, od, li, pt, ps, cf, fl, lv, lf) (nI s) := by
  refine gb_lp (fun n i => wY_size_4 post (nI s) rd aw od li pt ps cf fl lv lf n (nI (gb_sz s i)) (nI i)) 7 0 (by omega) (fun n => br_t (nI_le (a := 7) (Nat.le_refl 7) (by decide)) h) (fun n i _ hi H => ?_)
  refine br_f (nI_ge (b := 7) hi (by decide)) (nm_r (e' := nI (gb_sz s (i + 1))) ?_ (nm_r (nI_1 i) H))
  rw [gb_bitN hs (by omega), nI_add]; rfl
theorem gr_are {aw an : Nat → Int32} {W N : Nat → Nat} (hG : gr_G aw an W N) {A B : Prop} {rd : Int32} {od li pt ps cf fl lv lf : Nat → Int32} (a b : Nat) (ha : a < 7) (hb : b < 7) (h1 : 0 < W (7 * a + b) → B) (h0 : W (7 * a + b) = 0 → A) : wpY_are (fun r => (r = 0 → A) ∧ (¬ r = 0 → B)) (rd, aw, od, li, pt, ps, cf, fl, lv, lf) (nI a) (nI b) := by
  refine ⟨by rw [gb_7m]; exact vp_in_nI (by omega) (by decide), pk_le (W (7 * a + b)) 0 (fun z => br_t rfl (h0 (by omega))) (fun z => br_f (by decide) (h1 z)) (gr_wc hG (7 * a + b) (by omega) (gb_7m a b)) rfl (by have := gr_9 hG (i := 7 * a + b) (by omega); omega)⟩
/-- one vertex with at most one neighbour left goes -/
def lo_t (N : Nat → Nat) (l v : Nat) : Nat := if gb_size (N v &&& l) ≤ 1 then l &&& (127 ^^^ 2 ^ v) else l
def lo_f (N : Nat → Nat) (s : Nat) : Nat → Nat
  | 0 => s
  | i + 1 => lo_t N (lo_f N s i) (i % 7)
theorem lo_lt (N : Nat → Nat) {s : Nat} (hs : s < 128) : ∀ i, lo_f N s i < 128
  | 0 => hs
  | i + 1 => by
    have := lo_lt N hs i
    show lo_t N (lo_f N s i) (i % 7) < 128
    unfold lo_t
    split
    · exact Nat.lt_of_le_of_lt Nat.and_le_left this
    · exact this
theorem lo_y {N : Nat → Nat} {l v : Nat} (h : gb_size (N v &&& l) ≤ 1) : lo_t N l v = l &&& (127 ^^^ 2 ^ v) := if_pos h
theorem lo_n {N : Nat → Nat} {l v : Nat} (h : 1 < gb_size (N v &&& l)) : lo_t N l v = l := if_neg (by omega)
theorem gb_and_lt {a b : Nat} (h : a < 128) : a &&& b < 128 := Nat.lt_of_le_of_lt Nat.and_le_left h
section
variable {aw an sp po wy pa pr co : Nat → Int32} {W N : Nat → Nat}
theorem lo_x (hG : gr_G aw an W N) {A B : Prop} (s : Nat) (hs : s < 128) (h1 : lo_f N s 49 = 0 → B) (h0 : ¬ lo_f N s 49 = 0 → A) : wpX_isForest (fun r => (r = 0 → A) ∧ (¬ r = 0 → B)) (aw, an, sp, po, wy, pa, pr, co) (nI s) := by
  refine gb_lp (fun n r => wX_isForest_4 (fun r => (r = 0 → A) ∧ (¬ r = 0 → B)) aw an sp po wy pa pr co n (nI (lo_f N s (7 * r))) (nI r)) 7 0 (by omega) (fun n => br_t (nI_le (a := 7) (Nat.le_refl 7) (by decide)) ?_) (fun n r _ hr H => br_f (nI_ge (b := 7) hr (by decide)) ?_)
  · have := lo_lt N hs 49
    exact pk_eq (lo_f N s 49) 0 (fun z => br_f (by decide) (h1 z)) (fun z => br_t rfl (h0 z))
  refine gb_lp (fun m v => wX_isForest_13 (fun r => (r = 0 → A) ∧ (¬ r = 0 → B)) (wX_isForest_4 (fun r => (r = 0 → A) ∧ (¬ r = 0 → B)) aw an sp po wy pa pr co n) (nI r) aw an sp po wy pa pr co m (nI (lo_f N s (7 * r + v))) (nI v)) 7 0 (by omega) (fun m => br_t (nI_le (a := 7) (Nat.le_refl 7) (by decide)) (nm_r (nI_1 r) H)) (fun m v _ hv K => br_f (nI_ge (b := 7) hv (by decide)) ⟨vp_in_nI hv (by decide), ?_⟩)
  have em : (7 * r + v) % 7 = v := by omega
  have hl := lo_lt N hs (7 * r + v)
  have es : lo_f N s (7 * r + (v + 1)) = lo_t N (lo_f N s (7 * r + v)) v := by
    show lo_t N (lo_f N s (7 * r + v)) ((7 * r + v) % 7) = _
    rw [em]
  rw [es] at K
  rw [gr_nc hG v hv, nx_and]
  refine gb_xsize _ (by have := gb_and_lt (b := lo_f N s (7 * r + v)) (gr_nl hG hv); omega) ?_
  have b7 := gb_size7 (N v &&& lo_f N s (7 * r + v))
  refine pk_lt 1 (gb_size (N v &&& lo_f N s (7 * r + v))) (fun z => nm_r (nI_1 v) ?_) (fun z => nm_r (e' := nI (lo_f N s (7 * r + v) &&& (127 ^^^ 2 ^ v))) ?_ (nm_r (nI_1 v) ?_))
  · rw [lo_n z] at K; exact K
  · rw [gb_sh v (by omega), gb_cpl hl]
  · rw [lo_y z] at K; exact K
theorem lo_yl (hG : gr_G aw an W N) {A B : Prop} {rd : Int32} {od li pt ps cf fl lv lf : Nat → Int32} (s : Nat) (hs : s < 128) (h1 : lo_f N s 49 = 0 → B) (h0 : ¬ lo_f N s 49 = 0 → A) : wpY_isLoose (fun r => (r = 0 → A) ∧ (¬ r = 0 → B)) (rd, aw, od, li, pt, ps, cf, fl, lv, lf) (nI s) := by
  refine gb_lp (fun n i => wY_isLoose_4 (fun r => (r = 0 → A) ∧ (¬ r = 0 → B)) rd aw od li pt ps cf fl lv lf n (nI (lo_f N s i)) (nI i)) 49 0 (by omega) (fun n => br_t (nI_le (a := 49) (Nat.le_refl 49) (by decide)) ?_) (fun n i _ hi H => br_f (nI_ge (b := 49) hi (by decide)) ⟨by decide, nm_r (gb_r7 (by omega)) ?_⟩)
  · have := lo_lt N hs 49
    exact pk_eq (lo_f N s 49) 0 (fun z => br_f (by decide) (h1 z)) (fun z => br_t rfl (h0 z))
  have hl := lo_lt N hs i
  generalize hL : lo_f N s i = l at hl
  have es : lo_f N s (i + 1) = lo_t N l (i % 7) := by
    show lo_t N _ _ = _
    rw [hL]
  rw [es] at H
  have hv : i % 7 < 7 := by omega
  refine gb_lp (fun m u => wY_isLoose_22 (fun r => (r = 0 → A) ∧ (¬ r = 0 → B)) (wY_isLoose_4 (fun r => (r = 0 → A) ∧ (¬ r = 0 → B)) rd aw od li pt ps cf fl lv lf n) (nI l) (nI i) (nI (i % 7)) rd aw od li pt ps cf fl lv lf m (nI (gb_sz (N (i % 7) &&& l) u)) (nI u)) 7 0 (by omega) (fun m => br_t (nI_le (a := 7) (Nat.le_refl 7) (by decide)) ?_) (fun m u _ hu K => br_f (nI_ge (b := 7) hu (by decide)) ?_)
  · have b7 := gb_size7 (N (i % 7) &&& l)
    refine pk_le 2 (gb_size (N (i % 7) &&& l)) (fun z => nm_r (nI_1 i) ?_) (fun z => nm_r (e' := nI (l &&& (127 ^^^ 2 ^ (i % 7)))) ?_ (nm_r (nI_1 i) ?_)) rfl rfl (by omega) (by omega)
    · rw [lo_n z] at H; exact H
    · rw [gb_sh (i % 7) (by omega), gb_cpl hl]
    · rw [lo_y (by omega)] at H; exact H
  · have ht := gr_t hG hv hu
    have hsy := gr_sy hG hv hu
    refine gb_is1 l u (by omega) (by omega) (fun h1 => gr_are hG u (i % 7) hu hv (fun z => ?_) (fun z => nm_r (nI_1 u) ?_)) (fun h1 => nm_r (nI_1 u) ?_)
    · refine nm_r (e' := nI (gb_sz (N (i % 7) &&& l) (u + 1))) ?_ (nm_r (nI_1 u) K)
      rw [gb_szt, nI_1]
      rw [Nat.testBit_and, h1, Bool.and_true]
      exact ht.2 (by omega)
    · rw [gb_szf] at K
      · exact K
      · rw [Nat.testBit_and, h1, Bool.and_true]
        exact (gr_f hG hv hu).2 (by omega)
    · rw [gb_szf] at K
      · exact K
      · rw [Nat.testBit_and, h1, Bool.and_false]
end
def lo_X (N : Nat → Nat) : Nat → Nat
  | 0 => 7
  | i + 1 => if lo_f N (127 ^^^ i) 49 = 0 then min (lo_X N i) (gb_size i) else lo_X N i
def lo_Y (N : Nat → Nat) : Nat → Nat
  | 0 => 7
  | i + 1 => if lo_Y N i ≤ 7 - gb_size i then lo_Y N i else if lo_f N i 49 = 0 then 7 - gb_size i else lo_Y N i
theorem lo_Xc (N : Nat → Nat) : ∀ k, lo_X N k ≤ 7 ∧ (∀ i, i < k → lo_f N (127 ^^^ i) 49 = 0 → lo_X N k ≤ gb_size i) ∧ (lo_X N k = 7 ∨ ∃ i, i < k ∧ lo_f N (127 ^^^ i) 49 = 0 ∧ lo_X N k = gb_size i)
  | 0 => ⟨Nat.le_refl 7, fun i h => absurd h (Nat.not_lt_zero i), Or.inl rfl⟩
  | k + 1 => by
    obtain ⟨a, b, c⟩ := lo_Xc N k
    by_cases z : lo_f N (127 ^^^ k) 49 = 0
    · have e : lo_X N (k + 1) = min (lo_X N k) (gb_size k) := if_pos z
      rw [e]
      refine ⟨by omega, fun i hi zi => ?_, ?_⟩
      · by_cases ik : i = k
        · subst ik; omega
        · have := b i (by omega) zi; omega
      · by_cases hm : lo_X N k ≤ gb_size k
        · rw [Nat.min_eq_left hm]
          rcases c with c | ⟨i, hi, zi, ei⟩
          · exact Or.inl c
          · exact Or.inr ⟨i, by omega, zi, ei⟩
        · exact Or.inr ⟨k, by omega, z, Nat.min_eq_right (by omega)⟩
    · have e : lo_X N (k + 1) = lo_X N k := if_neg z
      rw [e]
      refine ⟨a, fun i hi zi => ?_, ?_⟩
      · by_cases ik : i = k
        · subst ik; exact absurd zi z
        · exact b i (by omega) zi
      · rcases c with c | ⟨i, hi, zi, ei⟩
        · exact Or.inl c
        · exact Or.inr ⟨i, by omega, zi, ei⟩
theorem lo_Yc (N : Nat → Nat) : ∀ k, lo_Y N k ≤ 7 ∧ (∀ i, i < k → lo_f N i 49 = 0 → lo_Y N k ≤ 7 - gb_size i) ∧ (lo_Y N k = 7 ∨ ∃ i, i < k ∧ lo_f N i 49 = 0 ∧ lo_Y N k = 7 - gb_size i)
  | 0 => ⟨Nat.le_refl 7, fun i h => absurd h (Nat.not_lt_zero i), Or.inl rfl⟩
  | k + 1 => by
    obtain ⟨a, b, c⟩ := lo_Yc N k
    have c' : lo_Y N k = 7 ∨ ∃ i, i < k + 1 ∧ lo_f N i 49 = 0 ∧ lo_Y N k = 7 - gb_size i := by
      rcases c with c | ⟨i, hi, zi, ei⟩
      · exact Or.inl c
      · exact Or.inr ⟨i, by omega, zi, ei⟩
    by_cases y : lo_Y N k ≤ 7 - gb_size k
    · have e : lo_Y N (k + 1) = lo_Y N k := if_pos y
      rw [e]
      refine ⟨a, fun i hi zi => ?_, c'⟩
      by_cases ik : i = k
      · subst ik; exact y
      · exact b i (by omega) zi
    by_cases z : lo_f N k 49 = 0
    · have e : lo_Y N (k + 1) = 7 - gb_size k := (if_neg y).trans (if_pos z)
      rw [e]
      refine ⟨by omega, fun i hi zi => ?_, Or.inr ⟨k, by omega, z, rfl⟩⟩
      by_cases ik : i = k
      · subst ik; exact Nat.le_refl _
      · have := b i (by omega) zi; omega
    · have e : lo_Y N (k + 1) = lo_Y N k := (if_neg y).trans (if_neg z)
      rw [e]
      refine ⟨a, fun i hi zi => ?_, c'⟩
      by_cases ik : i = k
      · subst ik; exact absurd zi z
      · exact b i (by omega) zi
theorem lo_128 : ∀ s, s < 128 → 127 ^^^ s < 128 ∧ 127 ^^^ (127 ^^^ s) = s ∧ gb_size (127 ^^^ s) = 7 - gb_size s ∧ 7 - gb_size (127 ^^^ s) = gb_size s := by decide +kernel
theorem lo_eq (N : Nat → Nat) : lo_X N 128 = lo_Y N 128 := by
  obtain ⟨a, b, c⟩ := lo_Xc N 128
  obtain ⟨a', b', c'⟩ := lo_Yc N 128
  apply Nat.le_antisymm
  · rcases c' with c' | ⟨i, hi, zi, ei⟩
    · omega
    · obtain ⟨q1, q2, q3, q4⟩ := lo_128 i hi
      have := b (127 ^^^ i) q1 (by rw [q2]; exact zi)
      omega
  · rcases c with c | ⟨i, hi, zi, ei⟩
    · omega
    · obtain ⟨q1, q2, q3, q4⟩ := lo_128 i hi
      have := b' (127 ^^^ i) q1 zi
      omega
theorem i_vc_loose {k : Nat} {u : SX} {v : SY} (I : i_Rel k u v) (hk : k + 4 ≤ 2048) : wpX_loose (fun r => wpY_loose (fun r' => r' = r ∧ i_Rel (k + 4) u v) v) u := by
  obtain ⟨aw, an, sp, po, wy, pa, pr, co⟩ := u
  obtain ⟨rd, bw, od, li, pt, ps, cf, fl, lv, lf⟩ := v
  have I0 : i_Rel (k + 4) (aw, an, sp, po, wy, pa, pr, co) (rd, bw, od, li, pt, ps, cf, fl, lv, lf) := I
  obtain ⟨e, ⟨W, N, hG⟩, hO⟩ := I
  have e' : bw = aw := e
  subst e'
  have hG : gr_G bw an W N := hG
  refine gb_lp (fun n i => wX_loose_5 (fun r => wpY_loose (fun r' => r' = r ∧ i_Rel (k + 4) (bw, an, sp, po, wy, pa, pr, co) (rd, bw, od, li, pt, ps, cf, fl, lv, lf)) (rd, bw, od, li, pt, ps, cf, fl, lv, lf)) bw an sp po wy pa pr co n (nI (lo_X N i)) (nI i)) 128 0 (by omega) (fun n => br_t (nI_le (a := 128) (Nat.le_refl 128) (by decide)) ?_) (fun n i _ hi K => br_f (nI_ge (b := 128) hi (by decide)) ?_)
  · rw [lo_eq]
    refine gb_lp (fun n i => wY_loose_5 (fun r' => r' = nI (lo_Y N 128) ∧ i_Rel (k + 4) (bw, an, sp, po, wy, pa, pr, co) (rd, bw, od, li, pt, ps, cf, fl, lv, lf)) rd bw od li pt ps cf fl lv lf n (nI (lo_Y N i)) (nI i)) 128 0 (by omega) (fun n => br_t (nI_le (a := 128) (Nat.le_refl 128) (by decide)) ⟨rfl, I0⟩) (fun n i _ hi K => br_f (nI_ge (b := 128) hi (by decide)) ?_)
    have b7 := gb_size7 i
    have y7 := (lo_Yc N i).1
    refine gb_ysize i (by omega) (nm_r (e' := nI (7 - gb_size i)) (pk_sub (a := 7) b7) (pk_le (lo_Y N i) (7 - gb_size i) (fun y => nm_r (nI_1 i) ?_) (fun y => lo_yl hG i hi (fun z => nm_r (nI_1 i) ?_) (fun z => nm_r (nI_1 i) ?_))))
    · have e : lo_Y N (i + 1) = lo_Y N i := if_pos y
      rw [← e]; exact K
    · have e : lo_Y N (i + 1) = 7 - gb_size i := (if_neg (by omega)).trans (if_pos z)
      rw [← e]; exact K
    · have e : lo_Y N (i + 1) = lo_Y N i := (if_neg (by omega)).trans (if_neg z)
      rw [← e]; exact K
  · have q := lo_128 i hi
    have b7 := gb_size7 i
    have x7 := (lo_Xc N i).1
    rw [show (127 : Int32) ^^^ nI i = nI (127 ^^^ i) from nx_xor 127 i]
    refine lo_x hG (127 ^^^ i) q.1 (fun z => gb_xsize i (by omega) (gb_xmin _ _ (by omega) (by omega) (nm_r (nI_1 i) ?_))) (fun z => nm_r (nI_1 i) ?_)
    · have e : lo_X N (i + 1) = min (lo_X N i) (gb_size i) := if_pos z
      rw [← e]; exact K
    · have e : lo_X N (i + 1) = lo_X N i := if_neg z
      rw [← e]; exact K

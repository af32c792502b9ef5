/-! width: the neighbours that are left -/
def wd_t (N : Nat → Nat) (g v r u : Nat) : Nat := if r.testBit u = true ∧ (u = v ∨ g.testBit u = true) then r ||| N u else r
def wd_f (N : Nat → Nat) (g v : Nat) : Nat → Nat
  | 0 => 2 ^ v
  | i + 1 => wd_t N g v (wd_f N g v i) (i % 7)
def wd_m (N : Nat → Nat) (g v : Nat) : Nat := wd_f N g v 49 &&& (127 ^^^ g) &&& (127 ^^^ 2 ^ v)
def wd_n (N : Nat → Nat) (g v : Nat) : Nat := gb_size (wd_m N g v)
def wd_y (W : Nat → Nat) (g v m : Nat) : Nat → Nat
  | 0 => m
  | i + 1 => if 0 < W i ∧ (wd_y W g v m i).testBit (i / 7) = true ∧ (i / 7 = v ∨ g.testBit (i / 7) = true) then wd_y W g v m i ||| 2 ^ (i % 7) else wd_y W g v m i
theorem wd_6 : ∀ m, m < 128 → ∀ v, v < 7 → gb_size (m &&& (127 ^^^ 2 ^ v)) ≤ 6 := by decide +kernel
section
variable {aw an sp po wy pa pr co : Nat → Int32} {W N : Nat → Nat} {rd : Int32} {od li pt ps cf fl lv lf : Nat → Int32}
theorem wd_tlt (hG : gr_G aw an W N) {g v r u : Nat} (hr : r < 128) (hu : u < 7) : wd_t N g v r u < 128 := by
  unfold wd_t
  split
  · exact gb_lt128 hr (gr_nl hG hu)
  · exact hr
theorem wd_lt (hG : gr_G aw an W N) {g v : Nat} (hv : v < 7) : ∀ i, wd_f N g v i < 128
  | 0 => gb_p2 v hv
  | i + 1 => wd_tlt hG (wd_lt hG hv i) (by omega)
theorem wd_n6 (hG : gr_G aw an W N) {g v : Nat} (hv : v < 7) : wd_n N g v ≤ 6 := wd_6 _ (gb_and_lt (wd_lt hG hv 49)) v hv
theorem wd_ylt {g v m : Nat} (hm : m < 128) : ∀ i, i ≤ 49 → wd_y W g v m i < 128
  | 0, _ => hm
  | i + 1, h => by
    have ih := wd_ylt (g := g) (v := v) hm i (by omega)
    show ite _ _ _ < 128
    split
    · exact gb_lt128 ih (gb_p2 _ (by omega))
    · exact ih
theorem wd_rowt (hG : gr_G aw an W N) {m a : Nat} (ha : a < 7) (b : Nat) : (gb_row (N a) m b).testBit a = m.testBit a := by
  rw [gb_row_t, (gr_f hG ha ha).2 (gr_dg hG ha)]
  simp
theorem wd_yrow (hG : gr_G aw an W N) {g v m a : Nat} (ha : a < 7) : ∀ b, b ≤ 7 → wd_y W g v m (7 * a + b) = if (wd_y W g v m (7 * a)).testBit a = true ∧ (a = v ∨ g.testBit a = true) then gb_row (N a) (wd_y W g v m (7 * a)) b else wd_y W g v m (7 * a)
  | 0, _ => by split <;> rfl
  | b + 1, h => by
    have ih := wd_yrow hG (g := g) (v := v) (m := m) ha b (by omega)
    have ed : (7 * a + b) / 7 = a := by omega
    have em : (7 * a + b) % 7 = b := by omega
    have ht := gr_t hG ha (b := b) (by omega)
    show (if 0 < W (7 * a + b) ∧ (wd_y W g v m (7 * a + b)).testBit ((7 * a + b) / 7) = true ∧ ((7 * a + b) / 7 = v ∨ g.testBit ((7 * a + b) / 7) = true) then wd_y W g v m (7 * a + b) ||| 2 ^ ((7 * a + b) % 7) else wd_y W g v m (7 * a + b)) = _
    rw [ed, em, ih]
    by_cases c : (wd_y W g v m (7 * a)).testBit a = true ∧ (a = v ∨ g.testBit a = true)
    · rw [if_pos c, if_pos c, wd_rowt hG ha]
      show _ = ite _ _ _
      by_cases w : 0 < W (7 * a + b)
      · rw [if_pos ⟨w, c⟩, if_pos (ht.2 w)]
      · rw [if_neg (fun z => w z.1), if_neg (fun z => w (ht.1 z))]
    · rw [if_neg c, if_neg c, if_neg (fun z => c z.2)]
theorem wd_yrows (hG : gr_G aw an W N) {g v r : Nat} : ∀ a, a ≤ 7 → wd_y W g v (wd_f N g v (7 * r)) (7 * a) = wd_f N g v (7 * r + a)
  | 0, _ => rfl
  | a + 1, h => by
    have ih := wd_yrows hG (g := g) (v := v) (r := r) a (by omega)
    have row := wd_yrow hG (g := g) (v := v) (m := wd_f N g v (7 * r)) (a := a) (by omega) 7 (Nat.le_refl 7)
    have em : (7 * r + a) % 7 = a := by omega
    show wd_y W g v (wd_f N g v (7 * r)) (7 * a + 7) = wd_t N g v (wd_f N g v (7 * r + a)) ((7 * r + a) % 7)
    rw [row, ih, em, gb_row_7 (gr_nl hG (by omega))]
    rfl
theorem wd_x (hG : gr_G aw an W N) {post : Int32 → Prop} (g v : Nat) (hg : g < 128) (hv : v < 7) (h : post (nI (wd_n N g v))) : wpX_neighboursLeft post (aw, an, sp, po, wy, pa, pr, co) (nI g) (nI v) := by
  refine nm_r (gb_sh v (by omega)) ?_
  refine gb_lp (fun n r => wX_neighboursLeft_7 post (nI g) (nI v) aw an sp po wy pa pr co n (nI (wd_f N g v (7 * r))) (nI r)) 7 0 (by omega) (fun n => br_t (nI_le (a := 7) (Nat.le_refl 7) (by decide)) ?_) (fun n r _ hr H => br_f (nI_ge (b := 7) hr (by decide)) ?_)
  · have l := wd_lt hG (g := g) hv 49
    show wpX_size _ ((nI (wd_f N g v 49) &&& (nI g ^^^ (-1))) &&& (((1 : Int32) <<< (nI v &&& 31)) ^^^ (-1)))
    rw [gb_sh v (by omega), gb_cpl l, gb_cpl (gb_and_lt l)]
    exact gb_xsize _ (by have := gb_and_lt (b := 127 ^^^ 2 ^ v) (gb_and_lt (b := 127 ^^^ g) l); omega) h
  refine gb_lp (fun m u => wX_neighboursLeft_17 post (wX_neighboursLeft_7 post (nI g) (nI v) aw an sp po wy pa pr co n) (nI g) (nI v) (nI r) aw an sp po wy pa pr co m (nI (wd_f N g v (7 * r + u))) (nI u)) 7 0 (by omega) (fun m => br_t (nI_le (a := 7) (Nat.le_refl 7) (by decide)) (nm_r (nI_1 r) H)) (fun m u _ hu K => br_f (nI_ge (b := 7) hu (by decide)) ?_)
  have em : (7 * r + u) % 7 = u := by omega
  have l := wd_lt hG (g := g) hv (7 * r + u)
  have es : wd_f N g v (7 * r + (u + 1)) = wd_t N g v (wd_f N g v (7 * r + u)) u := by
    show wd_t N g v (wd_f N g v (7 * r + u)) ((7 * r + u) % 7) = _
    rw [em]
  rw [es] at K
  have yes : (wd_f N g v (7 * r + u)).testBit u = true → (u = v ∨ g.testBit u = true) → wX_neighboursLeft_48 post (wX_neighboursLeft_7 post (nI g) (nI v) aw an sp po wy pa pr co n) (wX_neighboursLeft_17 post (wX_neighboursLeft_7 post (nI g) (nI v) aw an sp po wy pa pr co n) (nI g) (nI v) (nI r) aw an sp po wy pa pr co m) (nI g) (nI v) (nI (wd_f N g v (7 * r + u))) (nI r) (nI u) aw an sp po wy pa pr co := by
    intro h1 h2
    have e : wd_t N g v (wd_f N g v (7 * r + u)) u = wd_f N g v (7 * r + u) ||| N u := if_pos ⟨h1, h2⟩
    rw [e] at K
    exact ⟨vp_in_nI hu (by decide), nm_r (by rw [gr_nc hG u hu, gb_or]) (nm_r (nI_1 u) K)⟩
  have no : ¬ ((wd_f N g v (7 * r + u)).testBit u = true ∧ (u = v ∨ g.testBit u = true)) → wX_neighboursLeft_17 post (wX_neighboursLeft_7 post (nI g) (nI v) aw an sp po wy pa pr co n) (nI g) (nI v) (nI r) aw an sp po wy pa pr co m (nI (wd_f N g v (7 * r + u))) (nI (u + 1)) := by
    intro z
    have e : wd_t N g v (wd_f N g v (7 * r + u)) u = wd_f N g v (7 * r + u) := if_neg z
    rw [e] at K; exact K
  refine gb_has _ u (by omega) (by omega) (fun h1 => pk_eq u v (fun z => yes h1 (Or.inl z)) (fun z => gb_has g u (by omega) (by omega) (fun h2 => yes h1 (Or.inr h2)) (fun h2 => nm_r (nI_1 u) (no (fun q => ?_))))) (fun h1 => nm_r (nI_1 u) (no (fun q => ?_)))
  · rcases q.2 with q | q
    · exact z q
    · rw [h2] at q; exact absurd q (by decide)
  · rw [h1] at q; exact absurd q.1 (by decide)
theorem wd_Yn (hG : gr_G aw an W N) {post : Int32 → Prop} (g v : Nat) (hg : g < 128) (hv : v < 7) (h : post (nI (wd_m N g v))) : wpY_neighbours post (rd, aw, od, li, pt, ps, cf, fl, lv, lf) (nI v) (nI g) := by
  refine nm_r (gb_sh v (by omega)) ?_
  refine gb_lp (fun n r => wY_neighbours_7 post (nI v) (nI g) rd aw od li pt ps cf fl lv lf n (nI (wd_f N g v (7 * r))) (nI r)) 7 0 (by omega) (fun n => br_t (nI_le (a := 7) (Nat.le_refl 7) (by decide)) ?_) (fun n r _ hr H => br_f (nI_ge (b := 7) hr (by decide)) ?_)
  · have l := wd_lt hG (g := g) hv 49
    show post ((nI (wd_f N g v 49) &&& (nI g ^^^ (-1))) &&& (((1 : Int32) <<< (nI v &&& 31)) ^^^ (-1)))
    rw [gb_sh v (by omega), gb_cpl l, gb_cpl (gb_and_lt l)]
    exact h
  have l0 := wd_lt hG (g := g) hv (7 * r)
  have e49 : wd_y W g v (wd_f N g v (7 * r)) 49 = wd_f N g v (7 * (r + 1)) := wd_yrows hG (r := r) 7 (Nat.le_refl 7)
  refine gb_lp (fun m i => wY_neighbours_17 post (wY_neighbours_7 post (nI v) (nI g) rd aw od li pt ps cf fl lv lf n) (nI v) (nI g) (nI r) rd aw od li pt ps cf fl lv lf m (nI (wd_y W g v (wd_f N g v (7 * r)) i)) (nI i)) 49 0 (by omega) (fun m => br_t (nI_le (a := 49) (Nat.le_refl 49) (by decide)) (nm_r (nI_1 r) ?_)) (fun m i _ hi K => br_f (nI_ge (b := 49) hi (by decide)) ⟨vp_in_nI hi (by decide), ?_⟩)
  · rw [e49]; exact H
  have l := wd_ylt (W := W) (g := g) (v := v) l0 i (by omega)
  generalize hM : wd_y W g v (wd_f N g v (7 * r)) i = M at l
  have yes : 0 < W i → M.testBit (i / 7) = true → (i / 7 = v ∨ g.testBit (i / 7) = true) → wY_neighbours_69 post (wY_neighbours_7 post (nI v) (nI g) rd aw od li pt ps cf fl lv lf n) (wY_neighbours_17 post (wY_neighbours_7 post (nI v) (nI g) rd aw od li pt ps cf fl lv lf n) (nI v) (nI g) (nI r) rd aw od li pt ps cf fl lv lf m) (nI v) (nI g) (nI M) (nI r) (nI i) rd aw od li pt ps cf fl lv lf := by
    intro h0 h1 h2
    have e : wd_y W g v (wd_f N g v (7 * r)) (i + 1) = M ||| 2 ^ (i % 7) := by
      rw [← hM]
      exact if_pos ⟨h0, by rw [hM]; exact h1, h2⟩
    rw [e] at K
    exact ⟨by decide, nm_r (by rw [gb_r7 (by omega), gb_sh _ (by omega), gb_or]) (nm_r (nI_1 i) K)⟩
  have no : ¬ (0 < W i ∧ M.testBit (i / 7) = true ∧ (i / 7 = v ∨ g.testBit (i / 7) = true)) → wY_neighbours_17 post (wY_neighbours_7 post (nI v) (nI g) rd aw od li pt ps cf fl lv lf n) (nI v) (nI g) (nI r) rd aw od li pt ps cf fl lv lf m (nI M) (nI (i + 1)) := by
    intro z
    have e : wd_y W g v (wd_f N g v (7 * r)) (i + 1) = M := by
      rw [← hM] at z
      rw [← hM]
      exact if_neg z
    rw [e] at K; exact K
  have h9 := gr_9 hG hi
  refine pk_le (W i) 0 (fun z => nm_r (nI_1 i) (no (fun q => by have := q.1; omega))) (fun z => ⟨by decide, gb_is1 M (i / 7) (by omega) (by omega) (fun h1 => ⟨by decide, pk_eq (i / 7) v (fun y => yes z h1 (Or.inl y)) (fun y => ⟨by decide, gb_is1 g (i / 7) (by omega) (by omega) (fun h2 => yes z h1 (Or.inr h2)) (fun h2 => nm_r (nI_1 i) (no (fun q => ?_))) rfl (gb_d7 (by omega))⟩) (gb_d7 (by omega)) rfl (by omega) (by omega)⟩) (fun h1 => nm_r (nI_1 i) (no (fun q => ?_))) rfl (gb_d7 (by omega))⟩) (gr_wc hG i hi) rfl (by omega) (by omega)
  · rcases q.2.2 with q | q
    · exact y q
    · rw [h2] at q; exact absurd q (by decide)
  · rw [h1] at q; exact absurd q.2.1 (by decide)
end
def wd_g (N : Nat → Nat) (c s v : Nat) : Nat := max c (wd_n N s v)
theorem wd_gm (N : Nat → Nat) (a b s v : Nat) (h : a ≤ b) : wd_g N a s v ≤ wd_g N b s v := by
  unfold wd_g; omega
theorem wd_g7 (N : Nat → Nat) (c s v : Nat) : wd_g N c s v ≤ c + 7 := by
  have : wd_n N s v ≤ 7 := gb_size7 _
  unfold wd_g; omega
section
variable {aw an sp po wy pa pr co : Nat → Int32} {W N : Nat → Nat} {rd : Int32} {od li pt ps cf fl lv lf : Nat → Int32}
theorem wd_c6 (hG : gr_G aw an W N) {o : Nat → Nat} : ∀ n, (∀ j, j < n → o j < 7) → od_c (wd_g N) o n ≤ 6
  | 0, _ => Nat.zero_le _
  | n + 1, h => by
    have a := wd_c6 hG n (fun j hj => h j (by omega))
    have b := wd_n6 hG (g := sq_s o n) (h n (by omega))
    show max _ _ ≤ 6
    omega
theorem wd_cm (N : Nat → Nat) (o : Nat → Nat) (k : Nat) : ∀ d, od_c (wd_g N) o k ≤ od_c (wd_g N) o (k + d)
  | 0 => Nat.le_refl _
  | d + 1 => by
    have := wd_cm N o k d
    show _ ≤ max (od_c (wd_g N) o (k + d)) (wd_n N (sq_s o (k + d)) (o (k + d)))
    omega
theorem wd_X (hG : gr_G aw an W N) {post : Int32 → SX → Prop} (h : ∀ w co', od_M (wd_g N) 127 w → post (nI w) (aw, an, sp, po, wy, pa, pr, co')) : wpX_width post (aw, an, sp, po, wy, pa, pr, co) := by
  refine nm_r rfl ?_
  have main := gb_lp (fun n i => ∀ q : Nat → Int32, (∀ s, s < i → ∃ w, q s = nI w ∧ od_M (wd_g N) s w) → wX_width_9 post n (nI i) aw an sp po wy pa pr q) 128 1 (by omega) (fun n q hq => br_t (nI_le (a := 128) (Nat.le_refl _) (by decide)) ?_) (fun n i hi1 hi K q hq => br_f (nI_ge (b := 128) hi (by decide)) ?_)
  · obtain ⟨n, hn⟩ := main
    refine ⟨n, hn _ (fun s hs => ?_)⟩
    have : s = 0 := by omega
    subst this
    exact ⟨0, pk_us, od_0 _⟩
  · obtain ⟨w, e, m⟩ := hq 127 (by decide)
    rw [e]; exact h w q m
  · have ex : ∃ d : Nat → Nat, ∀ v, v < 7 → i.testBit v = true → q (i ^^^ 2 ^ v) = nI (d v) ∧ od_M (wd_g N) (i ^^^ 2 ^ v) (d v) := by
      refine ⟨fun v => (q (i ^^^ 2 ^ v)).toNatClampNeg, fun v hv hb => ?_⟩
      obtain ⟨w, e, m⟩ := hq _ (gb_xless i hi v hv hb)
      have := od_Mle (wd_g7 N) m
      dsimp only
      rw [e, nI_clamp (by omega)]
      exact ⟨rfl, m⟩
    obtain ⟨d, hd⟩ := ex
    have dl : ∀ v, v < 7 → i.testBit v = true → d v ≤ 49 := fun v hv hb => by
      have := od_Mle (wd_g7 N) (hd v hv hb).2
      omega
    have fl : ∀ v, v < 7 → i.testBit v = true → wd_g N (d v) (i ^^^ 2 ^ v) v < 1000000 := fun v hv hb => by
      have := dl v hv hb
      have := wd_g7 N (d v) (i ^^^ 2 ^ v) v
      omega
    obtain ⟨b0, b1, _⟩ := od_b1 (fun v => wd_g N (d v) (i ^^^ 2 ^ v) v) i 7
    have b2 := od_b7 (fun v => wd_g N (d v) (i ^^^ 2 ^ v) v) hi hi1 fl
    refine gb_lp (fun m v => wX_width_21 post (wX_width_9 post n) (nI i) aw an sp po wy pa pr q m (nI (od_b (fun v => wd_g N (d v) (i ^^^ 2 ^ v) v) i v)) (nI v)) 7 0 (by omega) (fun m => br_t (nI_le (a := 7) (Nat.le_refl 7) (by decide)) ⟨vp_in_nI hi (by decide), nm_r rfl (nm_r (nI_1 i) (K _ (fun s hs => ?_)))⟩) (fun m v _ hv L => br_f (nI_ge (b := 7) hv (by decide)) (gb_has i v (by omega) (by omega) (fun hb => ?_) (fun hb => nm_r (nI_1 v) ?_)))
    · rw [nI_clamp (by omega)]
      by_cases z : s = i
      · subst z
        exact ⟨_, pk_us, od_step (wd_gm N) (by omega) d (fun v hv hb => (hd v hv hb).2) b2 b1⟩
      · rw [pk_un z]; exact hq s (by omega)
    · have hl := gb_xless i hi v hv hb
      have d49 := dl v hv hb
      have n7 : wd_n N (i ^^^ 2 ^ v) v ≤ 7 := gb_size7 _
      have bb := (od_b1 (fun v => wd_g N (d v) (i ^^^ 2 ^ v) v) i v).1
      have q1 : od_b (fun v => wd_g N (d v) (i ^^^ 2 ^ v) v) i (v + 1) = min (od_b (fun v => wd_g N (d v) (i ^^^ 2 ^ v) v) i v) (max (d v) (wd_n N (i ^^^ 2 ^ v) v)) := if_pos hb
      rw [q1] at L
      refine nm_r (gb_xr hv) (wd_x hG (i ^^^ 2 ^ v) v (by omega) hv ⟨vp_in_nI (by omega) (by decide), ?_⟩)
      rw [nI_clamp (by omega), (hd v hv hb).1]
      exact gb_xmax _ _ (by omega) (by omega) (gb_xmin _ _ (by omega) (by omega) (nm_r (nI_1 v) L))
    · have q1 : od_b (fun v => wd_g N (d v) (i ^^^ 2 ^ v) v) i (v + 1) = od_b (fun v => wd_g N (d v) (i ^^^ 2 ^ v) v) i v := if_neg (by rw [hb]; decide)
      rw [q1] at L; exact L
/-- Y's memo: not known yet, or right -/
def wd_L (N : Nat → Nat) (l : Nat → Int32) : Prop := ∀ g v, g < 128 → v < 7 → l (7 * g + v) = -1 ∨ l (7 * g + v) = nI (wd_n N g v)
theorem wd_cost (hG : gr_G aw an W N) {post : Int32 → SY → Prop} {o : Nat → Nat} (D : sq_D o 7) (hl : ∀ k, k < 7 → li k = nI (o k)) (b : Nat) (hb : b < 100) (hL : wd_L N lf) (h : ∀ w lf', wd_L N lf' → w ≤ 6 → min b w = min b (od_c (wd_g N) o 7) → post (nI w) (rd, aw, od, li, pt, ps, cf, fl, lv, lf')) : wpY_cost post (rd, aw, od, li, pt, ps, cf, fl, lv, lf) (nI b) := by
  have main := gb_lp (fun n k => ∀ l : Nat → Int32, wd_L N l → wY_cost_7 post (nI b) rd n (nI (sq_s o k)) (nI (od_c (wd_g N) o k)) (nI k) aw od li pt ps cf fl lv l) 7 0 (by omega) (fun n l hl2 => br_t (nI_le (a := 7) (Nat.le_refl 7) (by decide)) (h _ l hl2 (wd_c6 hG 7 D.1) rfl)) (fun n k _ hk K l hl2 => br_f (nI_ge (b := 7) hk (by decide)) ?_)
  · obtain ⟨n, hn⟩ := main
    exact ⟨n, hn lf hL⟩
  have c6 := wd_c6 hG (o := o) k (fun j hj => D.1 j (by omega))
  have c67 := wd_c6 hG (o := o) 7 D.1
  have cm := wd_cm N o k (7 - k)
  rw [show k + (7 - k) = 7 by omega] at cm
  have ok := D.1 k hk
  have s128 := sq_lt (o := o) k (fun j hj => D.1 j (by omega))
  have n7 : wd_n N (sq_s o k) (o k) ≤ 7 := gb_size7 _
  have ml : wd_m N (sq_s o k) (o k) < 128 := gb_and_lt (gb_and_lt (wd_lt hG ok 49))
  have ei : 7 * nI (sq_s o k) + nI (o k) = nI (7 * sq_s o k + o k) := gb_7m _ _
  have hin : vp_in (7 * nI (sq_s o k) + nI (o k)) 896 := by rw [ei]; exact vp_in_nI (by omega) (by decide)
  have hcl : (7 * nI (sq_s o k) + nI (o k)).toNatClampNeg = 7 * sq_s o k + o k := by rw [ei]; exact nI_clamp (by omega)
  have tail : ∀ l : Nat → Int32, wd_L N l → l (7 * sq_s o k + o k) = nI (wd_n N (sq_s o k) (o k)) → wY_cost_70 post (wY_cost_7 post (nI b) rd n) (nI b) (nI (sq_s o k)) (nI (od_c (wd_g N) o k)) (nI k) (nI (o k)) rd aw od li pt ps cf fl lv l := by
    intro l hl3 e
    have K' := K l hl3
    have el : l (7 * nI (sq_s o k) + nI (o k)).toNatClampNeg = nI (wd_n N (sq_s o k) (o k)) := by rw [hcl]; exact e
    have es : nI (sq_s o k) ||| ((1 : Int32) <<< (nI (o k) &&& 31)) = nI (sq_s o (k + 1)) := by
      rw [gb_sh _ (by omega), gb_or]; rfl
    refine ⟨hin, pk_le (wd_n N (sq_s o k) (o k)) (od_c (wd_g N) o k) (fun z => nm_r es (nm_r (nI_1 k) ?_)) (fun z => ⟨hin, nm_r el (nm_r es (nm_r (nI_1 k) ?_))⟩) el rfl (by omega) (by omega)⟩
    · have q : od_c (wd_g N) o (k + 1) = od_c (wd_g N) o k := Nat.max_eq_left z
      rw [q] at K'; exact K'
    · have q : od_c (wd_g N) o (k + 1) = wd_n N (sq_s o k) (o k) := Nat.max_eq_right (Nat.le_of_lt z)
      rw [q] at K'; exact K'
  refine pk_le b (od_c (wd_g N) o k) (fun z => h _ l hl2 (by omega) (by omega)) (fun z => ⟨vp_in_nI hk (by decide), nm_r (e' := nI (o k)) (by rw [nI_clamp (by omega)]; exact hl k hk) ⟨hin, ?_⟩⟩)
  rcases hl2 (sq_s o k) (o k) s128 ok with e | e
  · refine br_f (by rw [hcl, e]; decide) (wd_Yn hG (sq_s o k) (o k) s128 ok (gb_ysize _ (by omega) ⟨hin, nm_r (e' := upd l (7 * sq_s o k + o k) (nI (wd_n N (sq_s o k) (o k)))) (by rw [hcl]; rfl) (tail _ (fun g v hg hv => ?_) pk_us)⟩))
    by_cases c : 7 * g + v = 7 * sq_s o k + o k
    · have c1 : g = sq_s o k := by omega
      have c2 : v = o k := by omega
      subst c1; subst c2
      exact Or.inr pk_us
    · rw [pk_un c]; exact hl2 g v hg hv
  · exact br_t (by rw [hcl, e]; exact nI_pos' (by omega)) (tail l hl2 e)
theorem wd_Y (hG : gr_G aw an W N) (hO : gr_O rd od) {post : Int32 → SY → Prop} (h : ∀ w (rd' : Int32) (od' li' lf' : Nat → Int32), gr_O rd' od' → od_M (wd_g N) 127 w → post (nI w) (rd', aw, od', li', pt, ps, cf, fl, lv, lf')) : wpY_width post (rd, aw, od, li, pt, ps, cf, fl, lv, lf) := by
  have main := gb_lp (fun n i => ∀ l : Nat → Int32, (∀ j, j < i → l j = -1) → wY_width_5 post 7 rd n (nI i) aw od li pt ps cf fl lv l) 896 0 (by omega) (fun n l hl => br_t (nI_le (a := 896) (Nat.le_refl _) (by decide)) (or_make hO (fun rd' od' hO' hod => ?_))) (fun n i _ hi K l hl => br_f (nI_ge (b := 896) hi (by decide)) ⟨vp_in_nI hi (by decide), nm_r rfl (nm_r (nI_1 i) (K _ (fun j hj => ?_)))⟩)
  · obtain ⟨n, hn⟩ := main
    exact ⟨n, hn lf (fun j hj => absurd hj (Nat.not_lt_zero j))⟩
  · have out := gb_lp (fun n c => ∀ l lf : Nat → Int32, wd_L N lf → wY_width_31 post n (nI (od_y 7 (fun c => od_c (wd_g N) (pm_at c) 7) c)) (nI c) rd' aw od' l pt ps cf fl lv lf) 5040 0 (by omega) (fun n l lf hL => br_t (nI_le (a := 5040) (Nat.le_refl _) (by decide)) (h _ _ _ _ _ hO' (od_yM (by have := wd_c6 hG 7 (pm_seq 0).1; omega)))) (fun n c _ hc K l lf hL => br_f (nI_ge (b := 5040) hc (by decide)) (or_write c hc hod (fun l' hl' => wd_cost hG (pm_seq c) hl' (od_y 7 (fun c => od_c (wd_g N) (pm_at c) 7) c) (by have := (od_y1 7 (fun c => od_c (wd_g N) (pm_at c) 7) c).1; omega) hL (fun w lf' hL' w6 hm => ?_))))
    · obtain ⟨n, hn⟩ := out
      refine ⟨n, hn li l (fun g v hg hv => Or.inl (hl _ (by omega)))⟩
    · have q7 := (od_y1 7 (fun c => od_c (wd_g N) (pm_at c) 7) c).1
      have K' := K l' lf' hL'
      have e : od_y 7 (fun c => od_c (wd_g N) (pm_at c) 7) (c + 1) = min (od_y 7 (fun c => od_c (wd_g N) (pm_at c) 7) c) w := hm.symm
      refine pk_le (od_y 7 (fun c => od_c (wd_g N) (pm_at c) 7) c) w (fun z => nm_r (nI_1 c) ?_) (fun z => nm_r (nI_1 c) ?_)
      · rw [e, Nat.min_eq_left z] at K'; exact K'
      · rw [e, Nat.min_eq_right (Nat.le_of_lt z)] at K'; exact K'
  · rw [nI_clamp (by omega)]
    by_cases e : j = i
    · subst e; exact pk_us
    · rw [pk_un e]; exact hl j (by omega)
end
theorem i_vc_width {k : Nat} {u : SX} {v : SY} (I : i_Rel k u v) (hk : k + 4 ≤ 2048) : wpX_width (fun r u' => wpY_width (fun r' v' => r' = r ∧ i_Rel (k + 4) u' v') v) u := by
  obtain ⟨aw, an, sp, po, wy, pa, pr, co⟩ := u
  obtain ⟨rd, bw, od, li, pt, ps, cf, fl, lv, lf⟩ := v
  obtain ⟨e, ⟨W, N, hG⟩, hO⟩ := I
  have e' : bw = aw := e
  subst e'
  have hG : gr_G bw an W N := hG
  have hO : gr_O rd od := hO
  refine wd_X hG (fun w co' hw => wd_Y hG hO (fun w' rd' od' li' lf' hO' hw' => ⟨?_, rfl, ⟨W, N, hG⟩, hO'⟩))
  rw [od_u hw hw']

/-! layout -/
def sn_s (F : Nat → Nat) : Nat → Nat
  | 0 => 0
  | n + 1 => sn_s F n + F n
theorem sn_cong {F G : Nat → Nat} : ∀ n, (∀ i, i < n → F i = G i) → sn_s F n = sn_s G n
  | 0, _ => rfl
  | n + 1, h => by
    show sn_s F n + F n = sn_s G n + G n
    rw [sn_cong n (fun i hi => h i (by omega)), h n (by omega)]
theorem sn_one {S w : Nat} (F : Nat → Nat) (hb : S.testBit w = false) : ∀ n, sn_s (fun v => if (S ||| 2 ^ w).testBit v = true then F v else 0) n = sn_s (fun v => if S.testBit v = true then F v else 0) n + if w < n then F w else 0
  | 0 => by rw [if_neg (Nat.not_lt_zero w)]; rfl
  | n + 1 => by
    have ih := sn_one F hb n
    show sn_s _ n + (if (S ||| 2 ^ w).testBit n = true then F n else 0) = (sn_s _ n + (if S.testBit n = true then F n else 0)) + _
    rw [ih, Nat.testBit_or, Nat.testBit_two_pow]
    by_cases e : w = n
    · subst e
      rw [hb, if_neg (Nat.lt_irrefl w), if_pos (Nat.lt_succ_self w)]
      simp
    · rw [decide_eq_false e, Bool.or_false]
      by_cases l : w < n
      · rw [if_pos l, if_pos (show w < n + 1 by omega)]; omega
      · rw [if_neg l, if_neg (show ¬ w < n + 1 by omega)]; omega
theorem sn_seq (F : Nat → Nat) (o : Nat → Nat) : ∀ n, sq_D o n → sn_s (fun j => F (o j)) n = sn_s (fun v => if (sq_s o n).testBit v = true then F v else 0) 7
  | 0, _ => by
    show 0 = sn_s (fun v => if (0 : Nat).testBit v = true then F v else 0) 7
    simp [sn_s]
  | n + 1, h => by
    have ih := sn_seq F o n (sq_pre h)
    show sn_s (fun j => F (o j)) n + F (o n) = sn_s (fun v => if (sq_s o n ||| 2 ^ o n).testBit v = true then F v else 0) 7
    rw [sn_one F (sq_new h) 7, ih, if_pos (h.1 n (by omega))]
theorem sn_perm (F : Nat → Nat) {o : Nat → Nat} (h : sq_D o 7) : sn_s F 7 = sn_s (fun j => F (o j)) 7 := by
  rw [sn_seq F o 7 h, sq_full h]
  apply sn_cong
  intro i hi
  have key : ∀ v, v < 7 → Nat.testBit 127 v = true := by decide
  exact (if_pos (key i hi)).symm
/-- the flat sum by rows -/
theorem ly_row (g : Nat → Nat) (s a : Nat) : ∀ b, b ≤ 7 → wc_f g s (7 * a + b) = wc_f g s (7 * a) + sn_s (fun b => if s.testBit a = true ∧ s.testBit b = false then g (7 * a + b) else 0) b
  | 0, _ => rfl
  | b + 1, h => by
    have ih := ly_row g s a b (by omega)
    have ed : (7 * a + b) / 7 = a := by omega
    have em : (7 * a + b) % 7 = b := by omega
    show wc_f g s (7 * a + b) + (if s.testBit ((7 * a + b) / 7) = true ∧ s.testBit ((7 * a + b) % 7) = false then g (7 * a + b) else 0) = _
    rw [ih, ed, em, Nat.add_assoc]; rfl
theorem ly_rows (g : Nat → Nat) (s : Nat) : ∀ a, wc_f g s (7 * a) = sn_s (fun a => sn_s (fun b => if s.testBit a = true ∧ s.testBit b = false then g (7 * a + b) else 0) 7) a
  | 0 => rfl
  | a + 1 => by
    have ih := ly_rows g s a
    have r := ly_row g s a 7 (Nat.le_refl 7)
    show wc_f g s (7 * a + 7) = sn_s _ a + sn_s _ 7
    rw [r, ih]
theorem ly_in {o : Nat → Nat} (h : sq_D o 7) {i k : Nat} (hi : i < 7) (hk : k ≤ 7) : (sq_s o k).testBit (o i) = true ↔ i < k := by
  rw [sq_t]
  constructor
  · rintro ⟨j, hj, e⟩
    apply Classical.byContradiction
    intro z
    exact h.2 j i (by omega) hi e
  · intro z
    exact ⟨i, z, rfl⟩
theorem ly_wa (g : Nat → Nat) {o : Nat → Nat} (h : sq_D o 7) {k : Nat} (hk : k ≤ 7) : wc_s g (sq_s o k) = sn_s (fun i => sn_s (fun j => if i < k ∧ k ≤ j then g (7 * o i + o j) else 0) 7) 7 := by
  have r : wc_s g (sq_s o k) = sn_s (fun a => sn_s (fun b => if (sq_s o k).testBit a = true ∧ (sq_s o k).testBit b = false then g (7 * a + b) else 0) 7) 7 := ly_rows g (sq_s o k) 7
  rw [r, sn_perm _ h]
  apply sn_cong
  intro i hi
  rw [sn_perm _ h]
  apply sn_cong
  intro j hj
  have a := ly_in h hi hk
  have b := ly_in h hj hk
  by_cases c : i < k ∧ k ≤ j
  · rw [if_pos c, if_pos]
    refine ⟨a.2 c.1, ?_⟩
    apply Bool.eq_false_iff.mpr
    intro z
    have := b.1 z
    omega
  · rw [if_neg c, if_neg]
    intro z
    apply c
    refine ⟨a.1 z.1, ?_⟩
    apply Classical.byContradiction
    intro y
    have := b.2 (by omega)
    rw [z.2] at this
    exact absurd this (by decide)
def ly_g (W : Nat → Nat) (c s v : Nat) : Nat := c + wc_s W (s ||| 2 ^ v)
/-- one row of the stretched sum, and the rows -/
def ly_r (W : Nat → Nat) (o : Nat → Nat) (i : Nat) : Nat → Nat
  | 0 => 0
  | j + 1 => ly_r W o i j + W (7 * o i + o j) * (i - j)
def ly_t (W : Nat → Nat) (o : Nat → Nat) : Nat → Nat
  | 0 => 0
  | i + 1 => ly_t W o i + ly_r W o i i
theorem ly_sum (V : Nat → Nat → Nat) (k : Nat) : sn_s (fun i => sn_s (fun j => if i < k ∧ k ≤ j then V i j else 0) 7) 7 = sn_s (fun i => if i < k then sn_s (fun j => if k ≤ j then V i j else 0) 7 else 0) 7 := by
  apply sn_cong
  intro i hi
  by_cases c : i < k
  · rw [if_pos c]
    apply sn_cong
    intro j hj
    by_cases d : k ≤ j
    · rw [if_pos ⟨c, d⟩, if_pos d]
    · rw [if_neg (fun z => d z.2), if_neg d]
  · rw [if_neg c]
    have : ∀ n, sn_s (fun j => if i < k ∧ k ≤ j then V i j else 0) n = 0 := by
      intro n
      induction n with
      | zero => rfl
      | succ n ih =>
        show sn_s _ n + ite _ _ _ = 0
        rw [ih, if_neg (fun z => c z.1)]
    exact this 7
theorem ly_id (V : Nat → Nat → Nat) : sn_s (fun k => sn_s (fun i => sn_s (fun j => if i < k + 1 ∧ k + 1 ≤ j then V i j else 0) 7) 7) 7 = V 0 1 * 1 + (V 0 2 * 2 + V 1 2 * 1) + (V 0 3 * 3 + V 1 3 * 2 + V 2 3 * 1) + (V 0 4 * 4 + V 1 4 * 3 + V 2 4 * 2 + V 3 4 * 1) + (V 0 5 * 5 + V 1 5 * 4 + V 2 5 * 3 + V 3 5 * 2 + V 4 5 * 1) + (V 0 6 * 6 + V 1 6 * 5 + V 2 6 * 4 + V 3 6 * 3 + V 4 6 * 2 + V 5 6 * 1) := by
  simp only [ly_sum]
  simp [sn_s]
  omega
theorem ly_eq {aw an : Nat → Int32} {W N : Nat → Nat} (hG : gr_G aw an W N) {o : Nat → Nat} (h : sq_D o 7) : od_c (ly_g W) o 7 = ly_t W o 7 := by
  have e : od_c (ly_g W) o 7 = sn_s (fun k => wc_s W (sq_s o (k + 1))) 7 := by
    have : ∀ n, od_c (ly_g W) o n = sn_s (fun k => wc_s W (sq_s o (k + 1))) n := by
      intro n
      induction n with
      | zero => rfl
      | succ n ih =>
        show od_c (ly_g W) o n + wc_s W (sq_s o n ||| 2 ^ o n) = sn_s _ n + wc_s W (sq_s o (n + 1))
        rw [ih]; rfl
    exact this 7
  have e2 : sn_s (fun k => wc_s W (sq_s o (k + 1))) 7 = sn_s (fun k => sn_s (fun i => sn_s (fun j => if i < k + 1 ∧ k + 1 ≤ j then W (7 * o i + o j) else 0) 7) 7) 7 := by
    apply sn_cong
    intro k hk
    exact ly_wa W h (by omega)
  have sy : ∀ i j, i < 7 → j < 7 → W (7 * o i + o j) = W (7 * o j + o i) := fun i j hi hj => gr_sy hG (h.1 i hi) (h.1 j hj)
  rw [e, e2, ly_id (fun i j => W (7 * o i + o j))]
  have s01 := sy 0 1 (by decide) (by decide)
  have s02 := sy 0 2 (by decide) (by decide)
  have s12 := sy 1 2 (by decide) (by decide)
  have s03 := sy 0 3 (by decide) (by decide)
  have s13 := sy 1 3 (by decide) (by decide)
  have s23 := sy 2 3 (by decide) (by decide)
  have s04 := sy 0 4 (by decide) (by decide)
  have s14 := sy 1 4 (by decide) (by decide)
  have s24 := sy 2 4 (by decide) (by decide)
  have s34 := sy 3 4 (by decide) (by decide)
  have s05 := sy 0 5 (by decide) (by decide)
  have s15 := sy 1 5 (by decide) (by decide)
  have s25 := sy 2 5 (by decide) (by decide)
  have s35 := sy 3 5 (by decide) (by decide)
  have s45 := sy 4 5 (by decide) (by decide)
  have s06 := sy 0 6 (by decide) (by decide)
  have s16 := sy 1 6 (by decide) (by decide)
  have s26 := sy 2 6 (by decide) (by decide)
  have s36 := sy 3 6 (by decide) (by decide)
  have s46 := sy 4 6 (by decide) (by decide)
  have s56 := sy 5 6 (by decide) (by decide)
  simp only [ly_t, ly_r, s01, s02, s12, s03, s13, s23, s04, s14, s24, s34, s05, s15, s25, s35, s45, s06, s16, s26, s36, s46, s56]
  omega
theorem ly_gm (W : Nat → Nat) (a b s v : Nat) (h : a ≤ b) : ly_g W a s v ≤ ly_g W b s v := by
  unfold ly_g; omega
theorem ly_g441 {aw an : Nat → Int32} {W N : Nat → Nat} (hG : gr_G aw an W N) (c s v : Nat) : ly_g W c s v ≤ c + 441 := by
  have := gr_ws hG (s ||| 2 ^ v)
  unfold ly_g; omega
section
variable {aw an sp po wy pa pr co : Nat → Int32} {W N : Nat → Nat} {rd : Int32} {od li pt ps cf fl lv lf : Nat → Int32}
theorem ly_X (hG : gr_G aw an W N) {post : Int32 → SX → Prop} (h : ∀ w co', od_M (ly_g W) 127 w → post (nI w) (aw, an, sp, po, wy, pa, pr, co')) : wpX_layout post (aw, an, sp, po, wy, pa, pr, co) := by
  refine nm_r rfl ?_
  have main := gb_lp (fun n i => ∀ q : Nat → Int32, (∀ s, s < i → ∃ w, q s = nI w ∧ od_M (ly_g W) s w) → wX_layout_9 post n (nI i) aw an sp po wy pa pr q) 128 1 (by omega) (fun n q hq => br_t (nI_le (a := 128) (Nat.le_refl _) (by decide)) ?_) (fun n i hi1 hi K q hq => br_f (nI_ge (b := 128) hi (by decide)) ?_)
  · obtain ⟨n, hn⟩ := main
    refine ⟨n, hn _ (fun s hs => ?_)⟩
    have : s = 0 := by omega
    subst this
    exact ⟨0, pk_us, od_0 _⟩
  · obtain ⟨w, e, m⟩ := hq 127 (by decide)
    rw [e]; exact h w q m
  · have ex : ∃ d : Nat → Nat, ∀ v, v < 7 → i.testBit v = true → q (i ^^^ 2 ^ v) = nI (d v) ∧ od_M (ly_g W) (i ^^^ 2 ^ v) (d v) := by
      refine ⟨fun v => (q (i ^^^ 2 ^ v)).toNatClampNeg, fun v hv hb => ?_⟩
      obtain ⟨w, e, m⟩ := hq _ (gb_xless i hi v hv hb)
      have := od_Mle (ly_g441 hG) m
      dsimp only
      rw [e, nI_clamp (by omega)]
      exact ⟨rfl, m⟩
    obtain ⟨d, hd⟩ := ex
    have dl : ∀ v, v < 7 → i.testBit v = true → d v < 1000000 := fun v hv hb => by
      have := od_Mle (ly_g441 hG) (hd v hv hb).2
      omega
    obtain ⟨b0, b1, _⟩ := od_b1 d i 7
    have b2 := od_b7 d hi hi1 dl
    refine od_cb i hi d (fun v hv hb => ⟨(hd v hv hb).1, dl v hv hb⟩) (wc_x hG i hi ⟨vp_in_nI hi (by decide), nm_r rfl (nm_r (nI_1 i) (K _ (fun s hs => ?_)))⟩)
    rw [nI_clamp (by omega), nI_add]
    by_cases z : s = i
    · subst z
      refine ⟨_, pk_us, od_step (ly_gm W) (by omega) d (fun v hv hb => (hd v hv hb).2) ?_ (fun v hv hb => ?_)⟩
      · obtain ⟨v, hv, hb, ev⟩ := b2
        refine ⟨v, hv, hb, ?_⟩
        unfold ly_g
        rw [sq_xor hb, ev]
      · have := b1 v hv hb
        unfold ly_g
        rw [sq_xor hb]
        omega
    · rw [pk_un z]; exact hq s (by omega)
theorem ly_rle (hG : gr_G aw an W N) {o : Nat → Nat} (h : sq_D o 7) {i : Nat} (hi : i < 7) : ∀ j, j ≤ 7 → ly_r W o i j ≤ 63 * j
  | 0, _ => Nat.zero_le _
  | j + 1, hj => by
    have a := ly_rle hG h hi j (by omega)
    have b := gr_9 hG (i := 7 * o i + o j) (by have := h.1 i hi; have := h.1 j (by omega); omega)
    have c : W (7 * o i + o j) * (i - j) ≤ 9 * 7 := Nat.mul_le_mul b (by omega)
    show _ + _ ≤ _
    omega
theorem ly_tle (hG : gr_G aw an W N) {o : Nat → Nat} (h : sq_D o 7) : ∀ i, i ≤ 7 → ly_t W o i ≤ 441 * i
  | 0, _ => Nat.zero_le _
  | i + 1, hi => by
    have a := ly_tle hG h i (by omega)
    have b := ly_rle hG h (i := i) (by omega) i (by omega)
    show _ + _ ≤ _
    omega
theorem ly_st (hG : gr_G aw an W N) {post : Int32 → Prop} {o : Nat → Nat} (D : sq_D o 7) (hl : ∀ k, k < 7 → li k = nI (o k)) (h : post (nI (ly_t W o 7))) : wpY_stretched post (rd, aw, od, li, pt, ps, cf, fl, lv, lf) := by
  refine gb_lp (fun n i => wY_stretched_4 post rd aw od li pt ps cf fl lv lf n (nI (ly_t W o i)) (nI i)) 7 0 (by omega) (fun n => br_t (nI_le (a := 7) (Nat.le_refl 7) (by decide)) h) (fun n i _ hi K => br_f (nI_ge (b := 7) hi (by decide)) ?_)
  refine gb_lp (fun m j => wY_stretched_12 post (wY_stretched_4 post rd aw od li pt ps cf fl lv lf n) (nI i) rd aw od li pt ps cf fl lv lf m (nI (ly_t W o i + ly_r W o i j)) (nI j)) i 0 (by omega) (fun m => br_t (nI_le (Nat.le_refl i) (by omega)) (nm_r (nI_1 i) K)) (fun m j _ hj L => br_f (nI_ge hj (by omega)) ?_)
  have oi := D.1 i hi
  have oj := D.1 j (by omega)
  have e : 7 * li (nI i).toNatClampNeg + li (nI j).toNatClampNeg = nI (7 * o i + o j) := by
    rw [nI_clamp (by omega), nI_clamp (by omega), hl i hi, hl j (by omega), gb_7m]
  refine ⟨vp_in_nI hi (by decide), vp_in_nI (by omega) (by decide), by rw [e]; exact vp_in_nI (by omega) (by decide), nm_r (e' := nI (ly_t W o i + ly_r W o i (j + 1))) ?_ (nm_r (nI_1 j) L)⟩
  rw [gr_wc hG (7 * o i + o j) (by omega) e, pk_sub (by omega), pk_mul, nI_add]
  exact congrArg nI (Nat.add_assoc _ _ _)
theorem ly_Y (hG : gr_G aw an W N) (hO : gr_O rd od) {post : Int32 → SY → Prop} (h : ∀ w (rd' : Int32) (od' li' : Nat → Int32), gr_O rd' od' → od_M (ly_g W) 127 w → post (nI w) (rd', aw, od', li', pt, ps, cf, fl, lv, lf)) : wpY_layout post (rd, aw, od, li, pt, ps, cf, fl, lv, lf) := by
  unfold wpY_layout
  refine or_make hO (fun rd' od' hO' hod => ?_)
  have le : ∀ c, od_c (ly_g W) (pm_at c) 7 ≤ 3087 := fun c => od_le (ly_g441 hG) (pm_at c) 7
  have main := gb_lp (fun n c => ∀ l : Nat → Int32, wY_layout_9 post n (nI (od_y 100000 (fun c => od_c (ly_g W) (pm_at c) 7) c)) (nI c) rd' aw od' l pt ps cf fl lv lf) 5040 0 (by omega) (fun n l => br_t (nI_le (a := 5040) (Nat.le_refl _) (by decide)) (h _ _ _ _ hO' (od_yM (by have := le 0; omega)))) (fun n c _ hc K l => br_f (nI_ge (b := 5040) hc (by decide)) (or_write c hc hod (fun l' hl' => ly_st hG (pm_seq c) hl' ?_)))
  · obtain ⟨n, hn⟩ := main
    exact ⟨n, hn li⟩
  have q := (od_y1 100000 (fun c => od_c (ly_g W) (pm_at c) 7) c).1
  have K' := K l'
  rw [← ly_eq hG (pm_seq c)]
  have lc := le c
  refine pk_le (od_y 100000 (fun c => od_c (ly_g W) (pm_at c) 7) c) (od_c (ly_g W) (pm_at c) 7) (fun z => nm_r (nI_1 c) ?_) (fun z => nm_r (nI_1 c) ?_)
  · have e : od_y 100000 (fun c => od_c (ly_g W) (pm_at c) 7) (c + 1) = od_y 100000 (fun c => od_c (ly_g W) (pm_at c) 7) c := Nat.min_eq_left z
    rw [e] at K'; exact K'
  · have e : od_y 100000 (fun c => od_c (ly_g W) (pm_at c) 7) (c + 1) = od_c (ly_g W) (pm_at c) 7 := Nat.min_eq_right (Nat.le_of_lt z)
    rw [e] at K'; exact K'
end
theorem i_vc_layout {k : Nat} {u : SX} {v : SY} (I : i_Rel k u v) (hk : k + 4 ≤ 2048) : wpX_layout (fun r u' => wpY_layout (fun r' v' => r' = r ∧ i_Rel (k + 4) u' v') v) u := by
  obtain ⟨aw, an, sp, po, wy, pa, pr, co⟩ := u
  obtain ⟨rd, bw, od, li, pt, ps, cf, fl, lv, lf⟩ := v
  obtain ⟨e, ⟨W, N, hG⟩, hO⟩ := I
  have e' : bw = aw := e
  subst e'
  have hG : gr_G bw an W N := hG
  have hO : gr_O rd od := hO
  refine ly_X hG (fun w co' hw => ly_Y hG hO (fun w' rd' od' li' hO' hw' => ⟨?_, rfl, ⟨W, N, hG⟩, hO'⟩))
  rw [od_u hw hw']

/-! dominators -/
def gb_row (n m : Nat) : Nat → Nat
  | 0 => m
  | j + 1 => if n.testBit j = true then gb_row n m j ||| 2 ^ j else gb_row n m j
theorem gb_row_t (n m : Nat) : ∀ j i, (gb_row n m j).testBit i = (m.testBit i || (decide (i < j) && n.testBit i))
  | 0, i => by simp [gb_row]
  | j + 1, i => by
    have ih := gb_row_t n m j i
    show (ite _ _ _ : Nat).testBit i = _
    split
    · next h =>
      rw [Nat.testBit_or, ih, Nat.testBit_two_pow]
      by_cases e : i = j
      · subst e; simp [h]
      · have e1 : decide (j = i) = false := decide_eq_false (fun z => e z.symm)
        have e2 : decide (i < j + 1) = decide (i < j) := decide_eq_decide.mpr (by omega)
        rw [e1, e2, Bool.or_false]
    · next h =>
      rw [ih]
      by_cases e : i = j
      · subst e
        have : n.testBit i = false := by simpa using h
        simp [this]
      · have e2 : decide (i < j + 1) = decide (i < j) := decide_eq_decide.mpr (by omega)
        rw [e2]
theorem gb_row_7 {n m : Nat} (hn : n < 128) : gb_row n m 7 = m ||| n := by
  apply Nat.eq_of_testBit_eq
  intro i
  rw [gb_row_t, Nat.testBit_or]
  by_cases h : i < 7
  · simp [h]
  · have : n.testBit i = false := Nat.testBit_lt_two_pow (Nat.lt_of_lt_of_le hn (Nat.pow_le_pow_right (n := 2) (by decide) (Nat.le_of_not_lt h)))
    simp [this]
def do_x (N : Nat → Nat) (s : Nat) : Nat → Nat
  | 0 => s
  | v + 1 => if s.testBit v = true then do_x N s v ||| N v else do_x N s v
def do_y (W : Nat → Nat) (s : Nat) : Nat → Nat
  | 0 => s
  | i + 1 => if s.testBit (i / 7) = true ∧ 0 < W i then do_y W s i ||| 2 ^ (i % 7) else do_y W s i
section
variable {aw an sp po wy pa pr co : Nat → Int32} {W N : Nat → Nat}
theorem do_lt (hG : gr_G aw an W N) {s : Nat} (hs : s < 128) : ∀ v, v ≤ 7 → do_x N s v < 128
  | 0, _ => hs
  | v + 1, h => by
    have := do_lt hG hs v (by omega)
    show ite _ _ _ < 128
    split
    · exact gb_lt128 this (gr_nl hG (by omega))
    · exact this
theorem do_rowb (hG : gr_G aw an W N) (s a : Nat) (ha : a < 7) : ∀ b, b ≤ 7 → do_y W s (7 * a + b) = if s.testBit a = true then gb_row (N a) (do_y W s (7 * a)) b else do_y W s (7 * a)
  | 0, _ => by split <;> rfl
  | b + 1, h => by
    have ih := do_rowb hG s a ha b (by omega)
    have ed : (7 * a + b) / 7 = a := by omega
    have em : (7 * a + b) % 7 = b := by omega
    have ht := gr_t hG ha (b := b) (by omega)
    show (if s.testBit ((7 * a + b) / 7) = true ∧ 0 < W (7 * a + b) then do_y W s (7 * a + b) ||| 2 ^ ((7 * a + b) % 7) else do_y W s (7 * a + b)) = _
    rw [ed, em, ih]
    by_cases hs : s.testBit a = true
    · rw [if_pos hs, if_pos hs]
      show _ = ite _ _ _
      by_cases hw : 0 < W (7 * a + b)
      · rw [if_pos ⟨hs, hw⟩, if_pos (ht.2 hw)]
      · rw [if_neg (fun z => hw z.2), if_neg (fun z => hw (ht.1 z))]
    · rw [if_neg (fun z => hs z.1), if_neg hs, if_neg hs]
theorem do_rows (hG : gr_G aw an W N) (s : Nat) : ∀ a, a ≤ 7 → do_y W s (7 * a) = do_x N s a
  | 0, _ => rfl
  | a + 1, h => by
    have ih := do_rows hG s a (by omega)
    have r := do_rowb hG s a (by omega) 7 (Nat.le_refl 7)
    show do_y W s (7 * a + 7) = ite _ _ _
    rw [r, ih, gb_row_7 (gr_nl hG (by omega))]
theorem do_X (hG : gr_G aw an W N) {A B : Prop} (s : Nat) (hs : s < 128) (h1 : do_x N s 7 = 127 → B) (h0 : ¬ do_x N s 7 = 127 → A) : wpX_dominates (fun r => (r = 0 → A) ∧ (¬ r = 0 → B)) (aw, an, sp, po, wy, pa, pr, co) (nI s) := by
  refine gb_lp (fun n v => wX_dominates_4 (fun r => (r = 0 → A) ∧ (¬ r = 0 → B)) (nI s) aw an sp po wy pa pr co n (nI (do_x N s v)) (nI v)) 7 0 (by omega) (fun n => br_t (nI_le (a := 7) (Nat.le_refl 7) (by decide)) ?_) (fun n v _ hv H => br_f (nI_ge (b := 7) hv (by decide)) ?_)
  · have := do_lt hG hs 7 (Nat.le_refl 7)
    exact pk_eq (do_x N s 7) 127 (fun z => br_f (by decide) (h1 z)) (fun z => br_t rfl (h0 z))
  · refine gb_has s v (by omega) (by omega) (fun h => ⟨vp_in_nI hv (by decide), nm_r (e' := nI (do_x N s (v + 1))) ?_ (nm_r (nI_1 v) H)⟩) (fun h => nm_r (nI_1 v) ?_)
    · rw [gr_nc hG v hv, gb_or]
      exact congrArg nI (if_pos h).symm
    · have e : do_x N s (v + 1) = do_x N s v := if_neg (by rw [h]; decide)
      rw [e] at H; exact H
theorem do_Y (hG : gr_G aw an W N) {A B : Prop} {rd : Int32} {od li pt ps cf fl lv lf : Nat → Int32} (s : Nat) (hs : s < 128) (h1 : do_x N s 7 = 127 → B) (h0 : ¬ do_x N s 7 = 127 → A) : wpY_isDominating (fun r => (r = 0 → A) ∧ (¬ r = 0 → B)) (rd, aw, od, li, pt, ps, cf, fl, lv, lf) (nI s) := by
  refine gb_lp (fun n i => wY_isDominating_4 (fun r => (r = 0 → A) ∧ (¬ r = 0 → B)) (nI s) rd aw od li pt ps cf fl lv lf n (nI (do_y W s i)) (nI i)) 49 0 (by omega) (fun n => br_t (nI_le (a := 49) (Nat.le_refl 49) (by decide)) ?_) (fun n i _ hi H => br_f (nI_ge (b := 49) hi (by decide)) ⟨by decide, ?_⟩)
  · have e : do_y W s 49 = do_x N s 7 := do_rows hG s 7 (Nat.le_refl 7)
    have := do_lt hG hs 7 (Nat.le_refl 7)
    rw [e]
    exact pk_eq (do_x N s 7) 127 (fun z => br_f (by decide) (h1 z)) (fun z => br_t rfl (h0 z))
  · refine gb_is1 s (i / 7) (by omega) (by omega) (fun h => ⟨vp_in_nI hi (by decide), pk_le (W i) 0 (fun z => nm_r (nI_1 i) ?_) (fun z => ⟨by decide, nm_r (e' := nI (do_y W s (i + 1))) ?_ (nm_r (nI_1 i) H)⟩) (gr_wc hG i hi) rfl (by have := gr_9 hG hi; omega)⟩) (fun h => nm_r (nI_1 i) ?_) rfl (gb_d7 (by omega))
    · have e : do_y W s (i + 1) = do_y W s i := if_neg (fun y => by omega)
      rw [e] at H; exact H
    · rw [gb_r7 (by omega), gb_sh _ (by omega), gb_or]
      exact congrArg nI (if_pos ⟨h, z⟩).symm
    · have e : do_y W s (i + 1) = do_y W s i := if_neg (fun y => by rw [h] at y; exact absurd y.1 (by decide))
      rw [e] at H; exact H
end
def do_c (N : Nat → Nat) (k : Nat) : Nat → Nat
  | 0 => 0
  | s + 1 => if gb_size s = k ∧ do_x N s 7 = 127 then do_c N k s + 1 else do_c N k s
theorem i_vc_dominators {k : Nat} {u : SX} {v : SY} (I : i_Rel k u v) (hk : k + 4 ≤ 2048) (v1 : Int32) : wpX_dominators (fun r => wpY_dominators (fun r' => r' = r ∧ i_Rel (k + 4) u v) v v1) u v1 := by
  obtain ⟨aw, an, sp, po, wy, pa, pr, co⟩ := u
  obtain ⟨rd, bw, od, li, pt, ps, cf, fl, lv, lf⟩ := v
  have I0 : i_Rel (k + 4) (aw, an, sp, po, wy, pa, pr, co) (rd, bw, od, li, pt, ps, cf, fl, lv, lf) := I
  obtain ⟨e, ⟨W, N, hG⟩, hO⟩ := I
  have e' : bw = aw := e
  subst e'
  have hG : gr_G bw an W N := hG
  rcases pk_ix v1 (n := 8) (by decide) with h | h | ⟨c, hc, rfl⟩
  · exact br_t h (br_t h ⟨rfl, I0⟩)
  · have := gb_big (n := 7) (by decide) h
    exact br_f this.1 (br_f this.2 (br_f this.1 (br_f this.2 ⟨rfl, I0⟩)))
  have c0 : ¬ nI c < 0 := nI_pos (by omega)
  have c7 : nI c ≤ 7 := nI_le (b := 7) (by omega) (by decide)
  refine br_f c0 (br_t c7 ?_)
  refine gb_lp (fun n i => wX_dominators_16 (fun r => wpY_dominators (fun r' => r' = r ∧ i_Rel (k + 4) (bw, an, sp, po, wy, pa, pr, co) (rd, bw, od, li, pt, ps, cf, fl, lv, lf)) (rd, bw, od, li, pt, ps, cf, fl, lv, lf) (nI c)) (nI c) bw an sp po wy pa pr co n (nI (do_c N c i)) (nI i)) 128 0 (by omega) (fun n => br_t (nI_le (a := 128) (Nat.le_refl 128) (by decide)) (br_f c0 (br_t c7 ?_))) (fun n i _ hi K => br_f (nI_ge (b := 128) hi (by decide)) ?_)
  · refine gb_lp (fun n i => wY_dominators_16 (fun r' => r' = nI (do_c N c 128) ∧ i_Rel (k + 4) (bw, an, sp, po, wy, pa, pr, co) (rd, bw, od, li, pt, ps, cf, fl, lv, lf)) (nI c) rd bw od li pt ps cf fl lv lf n (nI (do_c N c i)) (nI i)) 128 0 (by omega) (fun n => br_t (nI_le (a := 128) (Nat.le_refl 128) (by decide)) ⟨rfl, I0⟩) (fun n i _ hi K => br_f (nI_ge (b := 128) hi (by decide)) ?_)
    have b7 := gb_size7 i
    refine gb_ysize i (by omega) (pk_eq (gb_size i) c (fun y => do_Y hG i hi (fun z => nm_r (e' := nI (do_c N c (i + 1))) ?_ (nm_r (nI_1 i) K)) (fun z => nm_r (nI_1 i) ?_)) (fun y => nm_r (nI_1 i) ?_))
    · rw [nI_1]; exact congrArg nI (if_pos ⟨y, z⟩).symm
    · have e : do_c N c (i + 1) = do_c N c i := if_neg (fun q => z q.2)
      rw [e] at K; exact K
    · have e : do_c N c (i + 1) = do_c N c i := if_neg (fun q => y q.1)
      rw [e] at K; exact K
  · have b7 := gb_size7 i
    refine gb_xsize i (by omega) (pk_eq (gb_size i) c (fun y => do_X hG i hi (fun z => nm_r (e' := nI (do_c N c (i + 1))) ?_ (nm_r (nI_1 i) K)) (fun z => nm_r (nI_1 i) ?_)) (fun y => nm_r (nI_1 i) ?_))
    · rw [nI_1]; exact congrArg nI (if_pos ⟨y, z⟩).symm
    · have e : do_c N c (i + 1) = do_c N c i := if_neg (fun q => z q.2)
      rw [e] at K; exact K
    · have e : do_c N c (i + 1) = do_c N c i := if_neg (fun q => y q.1)
      rw [e] at K; exact K

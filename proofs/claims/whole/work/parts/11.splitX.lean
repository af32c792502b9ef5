/-! splits: X -/
def sl_i (N : Nat → Nat) (b : Nat) : Bool := (List.range 7).all (fun v => !b.testBit v || decide (N v &&& b = 0))
def sl_g (N : Nat → Nat) (F : Nat → Int32) (s b : Nat) : Int32 := if sl_ok s b = true ∧ sl_i N b = true then F (s ^^^ b) else 0
def sl_S (N : Nat → Nat) : Nat → Nat → Int32
  | 0, s => if s = 0 then 1 else 0
  | n + 1, s => if s = 0 then 0 else ls_n (sl_g N (sl_S N n) s) (s + 1)
theorem sl_SL (N : Nat → Nat) : ∀ n s, sl_S N n s = ls_l (ls_all (sl_i N)) (sl_L n s)
  | 0, s => by
    show ite _ _ _ = ls_l _ (ite _ _ _)
    by_cases h : s = 0
    · rw [if_pos h, if_pos h]; rfl
    · rw [if_neg h, if_neg h]; rfl
  | n + 1, s => by
    show ite _ _ _ = ls_l _ (ite _ _ _)
    by_cases h : s = 0
    · rw [if_pos h, if_pos h]; rfl
    · rw [if_neg h, if_neg h, ls_flat, ls_range]
      apply ls_congr
      intro b _
      unfold sl_g
      by_cases hb : sl_ok s b = true
      · rw [if_pos hb, ls_cons, ← sl_SL N n]
        by_cases hi : sl_i N b = true
        · rw [if_pos ⟨hb, hi⟩, if_pos hi]
        · rw [if_neg (fun z => hi z.2), if_neg hi]
      · rw [if_neg (fun z => hb z.1), if_neg hb]; rfl
theorem sl_b0 : ∀ i, i < 128 → ∀ b, b < gb_lo i → sl_ok i b = false := by decide +kernel
theorem sl_b1 : ∀ i, i < 128 → ∀ b, b < 128 → sl_ok i b = true → i ^^^ b < i := by decide +kernel
theorem sl_lo : ∀ i, i < 128 → 0 < i → gb_lo i ≤ i ∧ 0 < gb_lo i := by decide +kernel
section
variable {aw an sp po wy pa pr co : Nat → Int32} {W N : Nat → Nat}
theorem sl_ind (hG : gr_G aw an W N) {A B : Prop} (b : Nat) (hb : b < 128) (h1 : sl_i N b = true → B) (h0 : sl_i N b = false → A) : wpX_isIndependent (fun r => (r = 0 → A) ∧ (¬ r = 0 → B)) (aw, an, sp, po, wy, pa, pr, co) (nI b) := by
  have main := gb_lp (fun n i => (∀ v, v < i → (!b.testBit v || decide (N v &&& b = 0)) = true) → wX_isIndependent_2 (fun r => (r = 0 → A) ∧ (¬ r = 0 → B)) (nI b) aw an sp po wy pa pr co n (nI i)) 7 0 (by omega) (fun n H => br_t (nI_le (a := 7) (Nat.le_refl 7) (by decide)) (br_f (by decide) (h1 ?_))) (fun n i _ hi K H => br_f (nI_ge (b := 7) hi (by decide)) ?_)
  · obtain ⟨n, hn⟩ := main
    exact ⟨n, hn (fun v hv => absurd hv (Nat.not_lt_zero v))⟩
  · unfold sl_i
    rw [List.all_eq_true]
    intro v hv
    exact H v (List.mem_range.mp hv)
  · refine gb_has b i (by omega) (by omega) (fun hx => ⟨vp_in_nI hi (by decide), pk_eq (N i &&& b) 0 (fun z => nm_r (nI_1 i) (K (lt_s H ?_))) (fun z => br_t rfl (h0 ?_)) (by rw [gr_nc hG i hi, nx_and]) rfl (by have := gb_and_lt (b := b) (gr_nl hG hi); omega) (by omega)⟩) (fun hx => nm_r (nI_1 i) (K (lt_s H ?_)))
    · rw [hx, decide_eq_true z]; rfl
    · apply Bool.eq_false_iff.mpr
      intro y
      unfold sl_i at y
      rw [List.all_eq_true] at y
      have := y i (List.mem_range.mpr hi)
      rw [hx, decide_eq_false z] at this
      exact absurd this (by decide)
    · rw [hx]; rfl
/-- addSplits: the column i takes the column r, one block up -/
theorem sl_add {post : SX → Prop} (i r : Nat) (hi : i < 128) (hr : r < 128) (hne : r ≠ i) (x : Int32) (hx : nI i ^^^ x = nI r) (h : ∀ sp' : Nat → Int32, (∀ n s, n < 8 → s < 128 → sp' (n * 128 + s) = if s = i ∧ 1 ≤ n then sp (n * 128 + i) + sp ((n - 1) * 128 + r) else sp (n * 128 + s)) → post (aw, an, sp', po, wy, pa, pr, co)) : wpX_addSplits post (aw, an, sp, po, wy, pa, pr, co) (nI i) x := by
  refine nm_r hx ?_
  have main := gb_lp (fun m k => ∀ q : Nat → Int32, (∀ n s, n < 8 → s < 128 → q (n * 128 + s) = if s = i ∧ 1 ≤ n ∧ n < k then sp (n * 128 + i) + sp ((n - 1) * 128 + r) else sp (n * 128 + s)) → wX_addSplits_7 post (nI i) (nI r) m (nI k) aw an q po wy pa pr co) 8 1 (by omega) (fun m q hq => br_t (nI_lt (a := 7) (b := 8) (by decide) (by decide)) (h q (fun n s hn hs => ?_))) (fun m k hk1 hk K q hq => br_f (nI_nlt (a := 7) (by omega) (by decide)) ?_)
  · obtain ⟨m, hm⟩ := main
    refine ⟨m, hm sp (fun n s hn hs => ?_)⟩
    rw [if_neg (by omega)]
  · rw [hq n s hn hs]
    by_cases c : s = i ∧ 1 ≤ n
    · rw [if_pos c, if_pos ⟨c.1, c.2, hn⟩]
    · rw [if_neg c, if_neg (fun z => c ⟨z.1, z.2.1⟩)]
  · have e1 : nI k * 128 + nI i = nI (k * 128 + i) := gb_m128 k i
    have e2 : (nI k - 1) * 128 + nI r = nI ((k - 1) * 128 + r) := by
      rw [show nI k - 1 = nI (k - 1) from pk_sub (b := 1) hk1, gb_m128]
    refine ⟨by rw [e1]; exact vp_in_nI (by omega) (by decide), by rw [e2]; exact vp_in_nI (by omega) (by decide), by rw [e1]; exact vp_in_nI (by omega) (by decide), nm_r (e' := upd q (k * 128 + i) (sp (k * 128 + i) + sp ((k - 1) * 128 + r))) ?_ (nm_r (nI_1 k) (K _ (fun n s hn hs => ?_)))⟩
    · have c1 := hq k i hk hi
      rw [if_neg (by omega)] at c1
      have c2 := hq (k - 1) r (by omega) hr
      rw [if_neg (fun z => hne z.1)] at c2
      rw [e1, e2, nI_clamp (by omega), nI_clamp (by omega), c1, c2]
    · by_cases c : n = k ∧ s = i
      · obtain ⟨rfl, rfl⟩ := c
        rw [pk_us, if_pos ⟨rfl, hk1, by omega⟩]
      · rw [pk_un (by omega), hq n s hn hs]
        by_cases c2 : s = i ∧ 1 ≤ n ∧ n < k
        · rw [if_pos c2, if_pos (by omega)]
        · rw [if_neg c2, if_neg (by omega)]
theorem sl_fill (hG : gr_G aw an W N) {post : SX → Prop} (h : ∀ sp' : Nat → Int32, (∀ n s, n < 8 → s < 128 → sp' (n * 128 + s) = sl_S N n s) → post (aw, an, sp', po, wy, pa, pr, co)) : wpX_fillSplits post (aw, an, sp, po, wy, pa, pr, co) := by
  have main := gb_lp (fun m k => ∀ q : Nat → Int32, (∀ j, j < k → q j = 0) → wX_fillSplits_2 post m (nI k) aw an q po wy pa pr co) 1024 0 (by omega) (fun m q hq => br_t (nI_le (a := 1024) (Nat.le_refl _) (by decide)) (nm_r (e' := upd q 0 1) rfl ?_)) (fun m k _ hk K q hq => br_f (nI_ge (b := 1024) hk (by decide)) ⟨vp_in_nI hk (by decide), nm_r (e' := upd q k 0) (by rw [nI_clamp (by omega)]) (nm_r (nI_1 k) (K _ (fun j hj => ?_)))⟩)
  · obtain ⟨m, hm⟩ := main
    exact ⟨m, hm sp (fun j hj => absurd hj (Nat.not_lt_zero j))⟩
  · have out := gb_lp (fun m i => ∀ q : Nat → Int32, (∀ n s, n < 8 → s < 128 → q (n * 128 + s) = if s < i then sl_S N n s else 0) → wX_fillSplits_31 post m (nI i) aw an q po wy pa pr co) 128 1 (by omega) (fun m q hq => br_t (nI_le (a := 128) (Nat.le_refl _) (by decide)) (h q (fun n s hn hs => by rw [hq n s hn hs, if_pos hs]))) (fun m i hi1 hi K q hq => br_f (nI_ge (b := 128) hi (by decide)) (nm_r (gb_low i hi) ?_))
    · obtain ⟨m, hm⟩ := out
      refine ⟨m, hm _ (fun n s hn hs => ?_)⟩
      by_cases z : s < 1
      · have : s = 0 := by omega
        subst this
        rw [if_pos z]
        cases n with
        | zero => rfl
        | succ n => rw [pk_un (by omega), hq _ (by omega)]; rfl
      · rw [if_neg z, pk_un (by omega), hq _ (by omega)]
    · have lo := sl_lo i hi hi1
      have inn := gb_lp (fun f b => ∀ q : Nat → Int32, (∀ n s, n < 8 → s < 128 → q (n * 128 + s) = if s < i then sl_S N n s else if s = i ∧ 1 ≤ n then ls_n (sl_g N (sl_S N (n - 1)) i) b else 0) → wX_fillSplits_45 post (wX_fillSplits_31 post m) (nI i) (nI (gb_lo i)) f (nI b) aw an q po wy pa pr co) (i + 1) (gb_lo i) (by omega) (fun f q hq => br_t (nI_lt (by omega) (by omega)) (nm_r (nI_1 i) (K q (fun n s hn hs => ?_)))) (fun f b hb1 hb L q hq => br_f (nI_nlt (by omega) (by omega)) ?_)
      · obtain ⟨f, hf⟩ := inn
        refine ⟨f, hf q (fun n s hn hs => ?_)⟩
        rw [hq n s hn hs]
        by_cases c : s < i
        · rw [if_pos c, if_pos c]
        · rw [if_neg c, if_neg c]
          by_cases c2 : s = i ∧ 1 ≤ n
          · rw [if_pos c2, ls_nzero]
            intro b hb
            exact if_neg (fun z => by rw [sl_b0 i hi b hb] at z; exact absurd z.1 (by decide))
          · rw [if_neg c2]
      · rw [hq n s hn hs]
        by_cases c : s < i
        · rw [if_pos c, if_pos (by omega)]
        · rw [if_neg c]
          by_cases c1 : s = i
          · subst c1
            rw [if_pos (Nat.lt_succ_self s)]
            cases n with
            | zero => rw [if_neg (by omega)]; exact (if_neg (by omega)).symm
            | succ n => rw [if_pos ⟨rfl, by omega⟩]; exact (if_neg (by omega)).symm
          · rw [if_neg (fun z => c1 z.1), if_neg (by omega)]
      · have b128 : b < 128 := by omega
        have skip : ¬ (sl_ok i b = true ∧ sl_i N b = true) → wX_fillSplits_45 post (wX_fillSplits_31 post m) (nI i) (nI (gb_lo i)) f (nI (b + 1)) aw an q po wy pa pr co := by
          intro z
          refine L q (fun n s hn hs => ?_)
          have e : ls_n (sl_g N (sl_S N (n - 1)) i) (b + 1) = ls_n (sl_g N (sl_S N (n - 1)) i) b := by
            show _ + ite _ _ _ = _
            rw [if_neg z, Int32.add_zero]
          rw [e]; exact hq n s hn hs
        refine pk_eq (b &&& i) b (fun k1 => pk_eq (b &&& gb_lo i) 0 (fun k2 => nm_r (nI_1 b) (skip (fun z => ?_))) (fun k2 => sl_ind hG b b128 (fun k3 => ?_) (fun k3 => nm_r (nI_1 b) (skip (fun z => ?_)))) (nx_and _ _) rfl (by have := gb_and_lt (b := gb_lo i) b128; omega) (by omega)) (fun k1 => nm_r (nI_1 b) (skip (fun z => ?_))) (nx_and _ _) rfl (by have := gb_and_lt (b := i) b128; omega) (by omega)
        · have := z.1
          unfold sl_ok at this
          rw [decide_eq_true k2] at this
          simp at this
        · have ok : sl_ok i b = true := by
            unfold sl_ok
            rw [decide_eq_true k1, decide_eq_false k2]; rfl
          have lt := sl_b1 i hi b b128 ok
          refine sl_add i (i ^^^ b) hi (by omega) (by omega) (nI b) (nx_xor i b) (fun q' hq' => nm_r (nI_1 b) (L q' (fun n s hn hs => ?_)))
          rw [hq' n s hn hs]
          by_cases c : s = i ∧ 1 ≤ n
          · obtain ⟨rfl, c2⟩ := c
            rw [if_pos ⟨rfl, c2⟩, hq n s hn hs, hq (n - 1) (s ^^^ b) (by omega) (by omega), if_neg (Nat.lt_irrefl s), if_pos ⟨rfl, c2⟩, if_pos lt, if_neg (Nat.lt_irrefl s), if_pos ⟨rfl, c2⟩]
            show _ = _ + ite _ _ _
            rw [if_pos ⟨ok, k3⟩]
          · rw [if_neg c, hq n s hn hs]
            by_cases c3 : s < i
            · rw [if_pos c3, if_pos c3]
            · rw [if_neg c3, if_neg c3, if_neg c, if_neg c]
        · rw [k3] at z; exact absurd z.2 (by decide)
        · have := z.1
          unfold sl_ok at this
          rw [decide_eq_false k1] at this
          simp at this
  · by_cases e : j = k
    · subst e; exact pk_us
    · rw [pk_un e]; exact hq j (by omega)
end

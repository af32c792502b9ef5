/-! matchings: the lists -/
def gb_li (s : Nat) : Nat := if s.testBit 0 then 0 else if s.testBit 1 then 1 else if s.testBit 2 then 2 else if s.testBit 3 then 3 else if s.testBit 4 then 4 else if s.testBit 5 then 5 else 6
theorem gb_lil : ∀ s, s < 128 → 0 < s → gb_lo s = 2 ^ gb_li s ∧ gb_li s < 7 ∧ s.testBit (gb_li s) = true := by decide +kernel
def mt_L : Nat → Nat → List (List Nat)
  | 0, _ => []
  | n + 1, s => if s = 0 then [[]] else (List.range 7).flatMap (fun v => if s.testBit v && decide (gb_li s < v) then (mt_L n (s ^^^ gb_lo s ^^^ 2 ^ v)).map (fun m => (7 * gb_li s + v) :: m) else [])
def mt_mk (e : Nat) : Nat := 2 ^ (e / 7) ||| 2 ^ (e % 7)
def mt_F (f s : Nat) : List (List Nat) := (List.range 49).flatMap (fun e => if decide (f ≤ e) && decide (e / 7 < e % 7) && decide (mt_mk e &&& s = 0) then [[e]] else [])
def mt_X (k : Nat) : List (List Nat) := (List.range 128).flatMap (fun s => if gb_size s = 2 * k then mt_L 128 s else [])
def mt_Y1 : List (List Nat) := mt_F 0 0
def mt_Y2 : List (List Nat) := (List.range 49).flatMap (fun e => if e / 7 < e % 7 then (mt_F (e + 1) (mt_mk e)).map (fun m => e :: m) else [])
def mt_Y3 : List (List Nat) := (List.range 49).flatMap (fun e => if e / 7 < e % 7 then ((List.range 49).flatMap (fun c => if decide (e + 1 ≤ c) && decide (c / 7 < c % 7) && decide (mt_mk c &&& mt_mk e = 0) then (mt_F (c + 1) (mt_mk e ||| mt_mk c)).map (fun m => c :: m) else [])).map (fun m => e :: m) else [])
theorem mt_c1 : ls_srt (mt_X 1) = ls_srt mt_Y1 := by decide +kernel
theorem mt_c2 : ls_srt (mt_X 2) = ls_srt mt_Y2 := by decide +kernel
theorem mt_c3 : ls_srt (mt_X 3) = ls_srt mt_Y3 := by decide +kernel
theorem mt_c0 : mt_X 0 = [[]] := by decide +kernel
/-! matchings: X -/
def mt_b (W : Nat → Nat) (e : Nat) : Bool := decide (0 < W e)
def mt_P (W : Nat → Nat) : Nat → Nat → Int32
  | 0, _ => 0
  | n + 1, s => if s = 0 then 1 else ls_n (fun v => if s.testBit v = true ∧ 0 < W (7 * gb_li s + v) then mt_P W n (s ^^^ gb_lo s ^^^ 2 ^ v) else 0) 7
theorem mt_sm0 : ∀ s, s < 128 → ∀ v, v < 7 → (s.testBit v = true ∧ ¬ v = gb_li s) → (gb_li s < v ∧ s ^^^ gb_lo s ^^^ 2 ^ v < s) := by decide +kernel
theorem mt_sm (s : Nat) (hs : s < 128) (_ : 0 < s) (v : Nat) (hv : v < 7) (h : s.testBit v = true) (hn : ¬ v = gb_li s) : gb_li s < v ∧ s ^^^ gb_lo s ^^^ 2 ^ v < s := mt_sm0 s hs v hv ⟨h, hn⟩
section
variable {aw an sp po wy pa pr co : Nat → Int32} {W N : Nat → Nat}
theorem mt_sm2 (hG : gr_G aw an W N) {s v : Nat} (hs : s < 128) (h0 : 0 < s) (hv : v < 7) (hb : s.testBit v = true) (hw : 0 < W (7 * gb_li s + v)) : gb_li s < v ∧ s ^^^ gb_lo s ^^^ 2 ^ v < s := by
  refine mt_sm s hs h0 v hv hb (fun z => ?_)
  rw [z, gr_dg hG (gb_lil s hs h0).2.1] at hw
  omega
theorem mt_stab (hG : gr_G aw an W N) : ∀ n m s, s < 128 → s < n → s < m → mt_P W n s = mt_P W m s
  | 0, _, _, _, h, _ => absurd h (Nat.not_lt_zero _)
  | _ + 1, 0, _, _, _, h => absurd h (Nat.not_lt_zero _)
  | n + 1, m + 1, s, hs, hn, hm => by
    show ite _ _ _ = ite _ _ _
    by_cases h0 : s = 0
    · rw [if_pos h0, if_pos h0]
    · rw [if_neg h0, if_neg h0]
      apply ls_ncongr
      intro v hv
      by_cases hc : s.testBit v = true ∧ 0 < W (7 * gb_li s + v)
      · rw [if_pos hc, if_pos hc]
        have := mt_sm2 hG hs (by omega) hv hc.1 hc.2
        exact mt_stab hG n m _ (by omega) (by omega) (by omega)
      · rw [if_neg hc, if_neg hc]
theorem mt_PL (hG : gr_G aw an W N) : ∀ n s, s < 128 → mt_P W n s = ls_l (ls_all (mt_b W)) (mt_L n s)
  | 0, s, _ => rfl
  | n + 1, s, hs => by
    show ite _ _ _ = ls_l _ (if s = 0 then [[]] else _)
    by_cases h0 : s = 0
    · rw [if_pos h0, if_pos h0]; rfl
    · rw [if_neg h0, if_neg h0, ls_flat, ls_range]
      apply ls_congr
      intro v hv
      have hv7 : v < 7 := List.mem_range.mp hv
      have lil := gb_lil s hs (by omega)
      by_cases hb : s.testBit v = true
      · by_cases hl : gb_li s < v
        · have hm := (mt_sm s hs (by omega) v hv7 hb (by omega)).2
          rw [hb, decide_eq_true hl]
          simp only [Bool.and_self, if_true, true_and]
          rw [ls_cons, ← mt_PL hG n _ (by omega)]
          unfold mt_b
          by_cases hw : 0 < W (7 * gb_li s + v)
          · rw [if_pos hw, decide_eq_true hw, if_pos rfl]
          · rw [if_neg hw, decide_eq_false hw, if_neg (by decide)]
        · rw [if_neg, if_neg]
          · rfl
          · rw [decide_eq_false hl]; simp
          · intro z
            exact hl (mt_sm2 hG hs (by omega) hv7 hb z.2).1
      · have hb' : s.testBit v = false := by simpa using hb
        rw [if_neg (fun z => hb z.1), if_neg]
        · rfl
        · rw [hb']; simp
theorem mt_fill (hG : gr_G aw an W N) {post : SX → Prop} (h : ∀ pr', (∀ s, s < 128 → pr' s = mt_P W 128 s) → post (aw, an, sp, po, wy, pa, pr', co)) : wpX_fillPairings post (aw, an, sp, po, wy, pa, pr, co) := by
  refine nm_r (e' := upd pr 0 1) rfl ?_
  have main := gb_lp (fun n i => ∀ p : Nat → Int32, (∀ s, s < i → p s = mt_P W 128 s) → wX_fillPairings_9 post n (nI i) aw an sp po wy pa p co) 128 1 (by omega) (fun n p hp => br_t (nI_le (a := 128) (Nat.le_refl 128) (by decide)) (h p hp)) (fun n i h1 hi H p hp => br_f (nI_ge (b := 128) hi (by decide)) (nm_r (gb_low i hi) ?_))
  · obtain ⟨n, hn⟩ := main
    refine ⟨n, hn _ (fun s hs => ?_)⟩
    have : s = 0 := by omega
    subst this
    rfl
  have lil := gb_lil i hi h1
  refine gb_lp (fun m v => wX_fillPairings_26 post (wX_fillPairings_9 post n) (nI i) (nI (gb_lo i)) aw an sp po wy pa p co m (ls_n (fun v => if i.testBit v = true ∧ 0 < W (7 * gb_li i + v) then mt_P W 127 (i ^^^ gb_lo i ^^^ 2 ^ v) else 0) v) (nI v)) 7 0 (by omega) (fun m => br_t (nI_le (a := 7) (Nat.le_refl 7) (by decide)) ⟨vp_in_nI hi (by decide), nm_r rfl (nm_r (nI_1 i) (H _ (fun s hs => ?_)))⟩) (fun m v _ hv K => br_f (nI_ge (b := 7) hv (by decide)) ?_)
  · rw [nI_clamp (by omega)]
    by_cases e : s = i
    · subst e
      rw [pk_us]
      exact (if_neg (by omega)).symm
    · rw [pk_un e]; exact hp s (by omega)
  · have nb : N v &&& gb_lo i < 128 := gb_and_lt (gr_nl hG hv)
    have ex : (nI i ^^^ nI (gb_lo i)) ^^^ ((1 : Int32) <<< (nI v &&& 31)) = nI (i ^^^ gb_lo i ^^^ 2 ^ v) := by
      rw [gb_sh v (by omega), nx_xor, nx_xor]
    have key : ¬ N v &&& gb_lo i = 0 ↔ 0 < W (7 * gb_li i + v) := by
      rw [gr_sy hG lil.2.1 hv, ← gr_t hG hv lil.2.1, lil.1]
      constructor
      · intro z
        apply Classical.byContradiction
        intro y
        apply z
        apply Nat.eq_of_testBit_eq
        intro j
        rw [Nat.testBit_and, Nat.testBit_two_pow, Nat.zero_testBit]
        by_cases e : gb_li i = j
        · rw [← e]; simpa using y
        · simp [e]
      · intro z y
        have := congrArg (fun q => Nat.testBit q (gb_li i)) y
        simp [z] at this
    refine gb_has i v (by omega) (by omega) (fun hb => ⟨vp_in_nI hv (by decide), pk_eq (N v &&& gb_lo i) 0 (fun z => nm_r (nI_1 v) ?_) (fun z => ?_) (by rw [gr_nc hG v hv, nx_and]) rfl (by omega) (by omega)⟩) (fun hb => nm_r (nI_1 v) ?_)
    · have e : ls_n (fun v => if i.testBit v = true ∧ 0 < W (7 * gb_li i + v) then mt_P W 127 (i ^^^ gb_lo i ^^^ 2 ^ v) else 0) (v + 1) = ls_n (fun v => if i.testBit v = true ∧ 0 < W (7 * gb_li i + v) then mt_P W 127 (i ^^^ gb_lo i ^^^ 2 ^ v) else 0) v := by
        show _ + ite _ _ _ = _
        rw [if_neg (fun q => key.2 q.2 z), Int32.add_zero]
      rw [e] at K; exact K
    · have hw := key.1 z
      have sm := mt_sm2 hG hi h1 hv hb hw
      refine ⟨by rw [ex]; exact vp_in_nI (by omega) (by decide), nm_r (e' := ls_n (fun v => if i.testBit v = true ∧ 0 < W (7 * gb_li i + v) then mt_P W 127 (i ^^^ gb_lo i ^^^ 2 ^ v) else 0) (v + 1)) ?_ (nm_r (nI_1 v) K)⟩
      show _ = _ + ite _ _ _
      rw [if_pos ⟨hb, hw⟩, ex, nI_clamp (by omega), hp _ sm.2]
      rw [mt_stab hG 127 128 _ (by omega) (by omega) (by omega)]
    · have e : ls_n (fun v => if i.testBit v = true ∧ 0 < W (7 * gb_li i + v) then mt_P W 127 (i ^^^ gb_lo i ^^^ 2 ^ v) else 0) (v + 1) = ls_n (fun v => if i.testBit v = true ∧ 0 < W (7 * gb_li i + v) then mt_P W 127 (i ^^^ gb_lo i ^^^ 2 ^ v) else 0) v := by
        show _ + ite _ _ _ = _
        rw [if_neg (fun q => by rw [hb] at q; exact absurd q.1 (by decide)), Int32.add_zero]
      rw [e] at K; exact K
/-- X's answer -/
theorem mt_XA (hG : gr_G aw an W N) {post : Int32 → SX → Prop} (k : Nat) (hk : k < 4) (h : ∀ pr', post (ls_l (ls_all (mt_b W)) (mt_X k)) (aw, an, sp, po, wy, pa, pr', co)) : wpX_matchings post (aw, an, sp, po, wy, pa, pr, co) (nI k) := by
  refine br_f (nI_pos (by omega)) (br_t (nI_le (b := 3) (by omega) (by decide)) (mt_fill hG (fun pr' hp => ?_)))
  have e : ls_l (ls_all (mt_b W)) (mt_X k) = ls_n (fun s => if gb_size s = 2 * k then mt_P W 128 s else 0) 128 := by
    unfold mt_X
    rw [ls_flat, ls_range]
    apply ls_congr
    intro s hs
    have hs' := List.mem_range.mp hs
    by_cases z : gb_size s = 2 * k
    · rw [if_pos z, if_pos z, mt_PL hG 128 s hs']
    · rw [if_neg z, if_neg z]; rfl
  refine gb_lp (fun n s => wX_matchings_19 post (nI k) aw an sp po wy pa pr' co n (ls_n (fun s => if gb_size s = 2 * k then mt_P W 128 s else 0) s) (nI s)) 128 0 (by omega) (fun n => br_t (nI_le (a := 128) (Nat.le_refl 128) (by decide)) (by rw [← e]; exact h pr')) (fun n s _ hs K => br_f (nI_ge (b := 128) hs (by decide)) ?_)
  have b7 := gb_size7 s
  refine gb_xsize s (by omega) (pk_eq (gb_size s) (2 * k) (fun z => ⟨vp_in_nI hs (by decide), nm_r (e' := ls_n (fun s => if gb_size s = 2 * k then mt_P W 128 s else 0) (s + 1)) ?_ (nm_r (nI_1 s) K)⟩) (fun z => nm_r (nI_1 s) ?_) rfl (pk_mul 2 k))
  · show _ = _ + ite _ _ _
    rw [if_pos z, nI_clamp (by omega), hp s hs]
  · have e2 : ls_n (fun s => if gb_size s = 2 * k then mt_P W 128 s else 0) (s + 1) = ls_n (fun s => if gb_size s = 2 * k then mt_P W 128 s else 0) s := by
      show _ + ite _ _ _ = _
      rw [if_neg z, Int32.add_zero]
    rw [e2] at K; exact K
end

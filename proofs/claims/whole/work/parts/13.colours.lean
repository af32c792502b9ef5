/-! colours -/
def cl_c (x : Int32) : Nat → Int32
  | 0 => 1
  | j + 1 => cl_c x j * ((x - nI (j + 1)) + 1)
def cl_s (S : Nat → Int32) (x : Int32) : Nat → Int32
  | 0 => 0
  | j + 1 => cl_s S x j + cl_c x (j + 1) * S (j + 1)
theorem gb_127 (a : Nat) : nI a * 128 + 127 = nI (a * 128 + 127) := gb_m128 a 127
section
variable {aw an sp po wy pa pr co : Nat → Int32} {W N : Nat → Nat} {rd : Int32} {od li pt ps cf fl lv lf : Nat → Int32}
theorem cl_x {post : Int32 → SX → Prop} (S : Nat → Int32) (hS : ∀ k, 1 ≤ k → k < 8 → sp (k * 128 + 127) = S k) (x : Int32) (h : post (cl_s S x 7) (aw, an, sp, po, wy, pa, pr, co)) : ∃ n, wX_colours_23 post x aw an sp po wy pa pr co n 0 1 1 := by
  refine gb_lp (fun n j => wX_colours_23 post x aw an sp po wy pa pr co n (cl_s S x j) (cl_c x j) (nI (j + 1))) 7 0 (by omega) (fun n => br_t (nI_lt (a := 7) (b := 8) (by decide) (by decide)) h) (fun n j _ hj K => br_f (nI_nlt (a := 7) (by omega) (by decide)) ?_)
  refine nm_r (e' := cl_c x (j + 1)) rfl ⟨by rw [gb_127]; exact vp_in_nI (by omega) (by decide), nm_r (e' := cl_s S x (j + 1)) ?_ (nm_r (nI_1 (j + 1)) K)⟩
  rw [gb_127, nI_clamp (by omega), hS (j + 1) (by omega) (by omega)]; rfl
theorem cl_y {post : Int32 → SY → Prop} (S : Nat → Int32) (hS : ∀ k, 1 ≤ k → k < 8 → ps k = S k) (x : Int32) (h : post (cl_s S x 7) (rd, aw, od, li, pt, ps, cf, fl, lv, lf)) : ∃ n, wY_colours_23 post x rd aw od li pt ps cf fl lv lf n 0 1 1 := by
  refine gb_lp (fun n j => wY_colours_23 post x rd aw od li pt ps cf fl lv lf n (cl_s S x j) (cl_c x j) (nI (j + 1))) 7 0 (by omega) (fun n => br_t (nI_lt (a := 7) (b := 8) (by decide) (by decide)) h) (fun n j _ hj K => br_f (nI_nlt (a := 7) (by omega) (by decide)) ?_)
  refine nm_r (e' := cl_c x (j + 1)) rfl ⟨vp_in_nI (by omega) (by decide), nm_r (e' := cl_s S x (j + 1)) ?_ (nm_r (nI_1 (j + 1)) K)⟩
  rw [nI_clamp (by omega), hS (j + 1) (by omega) (by omega), Int32.mul_comm]; rfl
end
theorem i_vc_colours {k : Nat} {u : SX} {v : SY} (I : i_Rel k u v) (hk : k + 4 ≤ 2048) (v1 : Int32) : wpX_colours (fun r u' => wpY_colours (fun r' v' => r' = r ∧ i_Rel (k + 4) u' v') v v1) u v1 := by
  obtain ⟨aw, an, sp, po, wy, pa, pr, co⟩ := u
  obtain ⟨rd, bw, od, li, pt, ps, cf, fl, lv, lf⟩ := v
  have I0 : i_Rel (k + 4) (aw, an, sp, po, wy, pa, pr, co) (rd, bw, od, li, pt, ps, cf, fl, lv, lf) := I
  obtain ⟨e, ⟨W, N, hG⟩, hO⟩ := I
  have e' : bw = aw := e
  subst e'
  have hG : gr_G bw an W N := hG
  rcases pk_ix v1 (n := 10) (by decide) with h | h | ⟨c, hc, rfl⟩
  · exact br_t h (br_t h ⟨rfl, I0⟩)
  · have := gb_big (n := 9) (by decide) h
    exact br_f this.1 (br_f this.2 (br_f this.1 (br_f this.2 ⟨rfl, I0⟩)))
  have c0 : ¬ nI c < 0 := nI_pos (by omega)
  have c9 : nI c ≤ 9 := nI_le (b := 9) (by omega) (by decide)
  refine br_f c0 (br_t c9 (sl_fill hG (fun sp' hsp => cl_x (fun k => sl_S N k 127) (fun k _ h8 => hsp k 127 h8 (by decide)) (nI c) (br_f c0 (br_t c9 (sl_find hG (fun pt' ps' hps => cl_y (fun k => sl_S N k 127) (fun k h1 h8 => (hps k h1 h8).trans (sl_eq hG k h1 h8)) (nI c) ⟨rfl, I0⟩)))))))
/-! chromatic -/
def ch_a (S : Nat → Int32) : Nat → Nat → Int32
  | 0, _ => 7
  | f + 1, i => if S i ≤ 0 then ch_a S f (i + 1) else nI i
section
variable {aw an sp po wy pa pr co : Nat → Int32} {W N : Nat → Nat} {rd : Int32} {od li pt ps cf fl lv lf : Nat → Int32}
theorem ch_x {post : Int32 → SX → Prop} (S : Nat → Int32) (hS : ∀ k, 1 ≤ k → k < 8 → sp (k * 128 + 127) = S k) : ∀ f i, i + f = 7 → 1 ≤ i → post (ch_a S f i) (aw, an, sp, po, wy, pa, pr, co) → wX_chromatic_6 post aw an sp po wy pa pr co (f + 1) (nI i)
  | 0, i, hi, _, h => br_t (nI_le (a := 7) (by omega) (by omega)) h
  | f + 1, i, hi, h1, h => by
    refine br_f (nI_ge (b := 7) (by omega) (by decide)) ⟨by rw [gb_127]; exact vp_in_nI (by omega) (by decide), ?_⟩
    rw [gb_127, nI_clamp (by omega), hS i h1 (by omega)]
    have h' : post (if S i ≤ 0 then ch_a S f (i + 1) else nI i) (aw, an, sp, po, wy, pa, pr, co) := h
    by_cases z : S i ≤ 0
    · rw [if_pos z] at h'
      exact br_t z (nm_r (nI_1 i) (ch_x S hS f (i + 1) (by omega) (by omega) h'))
    · rw [if_neg z] at h'
      exact br_f z h'
theorem ch_y {post : Int32 → SY → Prop} (S : Nat → Int32) (hS : ∀ k, 1 ≤ k → k < 8 → ps k = S k) (h7 : S 7 = 1) : ∀ f i, i + f = 7 → 1 ≤ i → post (ch_a S f i) (rd, aw, od, li, pt, ps, cf, fl, lv, lf) → wY_chromatic_6 post rd aw od li pt ps cf fl lv lf (f + 1) (nI i)
  | 0, i, hi, h1, h => by
    have e : i = 7 := by omega
    subst e
    refine br_f (nI_ge (b := 8) (by omega) (by decide)) ⟨vp_in_nI (by omega) (by decide), ?_⟩
    rw [nI_clamp (by omega), hS 7 (by omega) (by omega), h7]
    exact br_f (by decide) h
  | f + 1, i, hi, h1, h => by
    refine br_f (nI_ge (b := 8) (by omega) (by decide)) ⟨vp_in_nI (by omega) (by decide), ?_⟩
    rw [nI_clamp (by omega), hS i h1 (by omega)]
    have h' : post (if S i ≤ 0 then ch_a S f (i + 1) else nI i) (rd, aw, od, li, pt, ps, cf, fl, lv, lf) := h
    by_cases z : S i ≤ 0
    · rw [if_pos z] at h'
      exact br_t z (nm_r (nI_1 i) (ch_y S hS h7 f (i + 1) (by omega) (by omega) h'))
    · rw [if_neg z] at h'
      exact br_f z h'
end
theorem i_vc_chromatic {k : Nat} {u : SX} {v : SY} (I : i_Rel k u v) (hk : k + 4 ≤ 2048) : wpX_chromatic (fun r u' => wpY_chromatic (fun r' v' => r' = r ∧ i_Rel (k + 4) u' v') v) u := by
  obtain ⟨aw, an, sp, po, wy, pa, pr, co⟩ := u
  obtain ⟨rd, bw, od, li, pt, ps, cf, fl, lv, lf⟩ := v
  have I0 : i_Rel (k + 4) (aw, an, sp, po, wy, pa, pr, co) (rd, bw, od, li, pt, ps, cf, fl, lv, lf) := I
  obtain ⟨e, ⟨W, N, hG⟩, hO⟩ := I
  have e' : bw = aw := e
  subst e'
  have hG : gr_G bw an W N := hG
  unfold wpX_chromatic wpY_chromatic
  dsimp only
  refine sl_fill hG (fun sp' hsp => ⟨_, ch_x (fun k => sl_S N k 127) (fun k _ h8 => hsp k 127 h8 (by decide)) 6 1 rfl (by decide) ?_⟩)
  refine sl_find hG (fun pt' ps' hps => ⟨_, ch_y (fun k => sl_S N k 127) (fun k h1 h8 => (hps k h1 h8).trans (sl_eq hG k h1 h8)) (sl_one hG) 6 1 rfl (by decide) ⟨rfl, I0⟩⟩)
/-! coefficient: the two expansions -/
def cf_h (S : Nat → Int32) : Nat → Nat → Int32
  | 0, _ => 0
  | t + 1, 0 => S (7 - t) - nI (7 - t) * cf_h S t 0
  | t + 1, i + 1 => cf_h S t i - nI (7 - t) * cf_h S t (i + 1)
def cf_a : Nat → Nat → Int32
  | 0, j => if j = 0 then 1 else 0
  | k + 1, 0 => (-nI k) * cf_a k 0
  | k + 1, j + 1 => cf_a k j - nI k * cf_a k (j + 1)
def cf_q (S : Nat → Int32) : Nat → Nat → Int32
  | 0, _ => 0
  | k + 1, j => cf_q S k j + S (k + 1) * cf_a (k + 1) j
theorem cf_h_1_0 (S : Nat → Int32) : cf_h S 1 0 = (1) * S 7 := by
  show S 7 - (7 : Int32) * 0 = _
  grind
theorem cf_h_1_1 (S : Nat → Int32) : cf_h S 1 1 = 0 := by
  show (0 : Int32) - (7 : Int32) * 0 = _
  grind
theorem cf_h_1_2 (S : Nat → Int32) : cf_h S 1 2 = 0 := by
  show (0 : Int32) - (7 : Int32) * 0 = _
  grind
theorem cf_h_1_3 (S : Nat → Int32) : cf_h S 1 3 = 0 := by
  show (0 : Int32) - (7 : Int32) * 0 = _
  grind
theorem cf_h_1_4 (S : Nat → Int32) : cf_h S 1 4 = 0 := by
  show (0 : Int32) - (7 : Int32) * 0 = _
  grind
theorem cf_h_1_5 (S : Nat → Int32) : cf_h S 1 5 = 0 := by
  show (0 : Int32) - (7 : Int32) * 0 = _
  grind
theorem cf_h_1_6 (S : Nat → Int32) : cf_h S 1 6 = 0 := by
  show (0 : Int32) - (7 : Int32) * 0 = _
  grind
theorem cf_h_1_7 (S : Nat → Int32) : cf_h S 1 7 = 0 := by
  show (0 : Int32) - (7 : Int32) * 0 = _
  grind
theorem cf_h_2_0 (S : Nat → Int32) : cf_h S 2 0 = (1) * S 6 + (-6) * S 7 := by
  show S 6 - (6 : Int32) * cf_h S 1 0 = _
  rw [cf_h_1_0]
  grind
theorem cf_h_2_1 (S : Nat → Int32) : cf_h S 2 1 = (1) * S 7 := by
  show cf_h S 1 0 - (6 : Int32) * cf_h S 1 1 = _
  rw [cf_h_1_0, cf_h_1_1]
  grind
theorem cf_h_2_2 (S : Nat → Int32) : cf_h S 2 2 = 0 := by
  show cf_h S 1 1 - (6 : Int32) * cf_h S 1 2 = _
  rw [cf_h_1_1, cf_h_1_2]
  grind
theorem cf_h_2_3 (S : Nat → Int32) : cf_h S 2 3 = 0 := by
  show cf_h S 1 2 - (6 : Int32) * cf_h S 1 3 = _
  rw [cf_h_1_2, cf_h_1_3]
  grind
theorem cf_h_2_4 (S : Nat → Int32) : cf_h S 2 4 = 0 := by
  show cf_h S 1 3 - (6 : Int32) * cf_h S 1 4 = _
  rw [cf_h_1_3, cf_h_1_4]
  grind
theorem cf_h_2_5 (S : Nat → Int32) : cf_h S 2 5 = 0 := by
  show cf_h S 1 4 - (6 : Int32) * cf_h S 1 5 = _
  rw [cf_h_1_4, cf_h_1_5]
  grind
theorem cf_h_2_6 (S : Nat → Int32) : cf_h S 2 6 = 0 := by
  show cf_h S 1 5 - (6 : Int32) * cf_h S 1 6 = _
  rw [cf_h_1_5, cf_h_1_6]
  grind
theorem cf_h_2_7 (S : Nat → Int32) : cf_h S 2 7 = 0 := by
  show cf_h S 1 6 - (6 : Int32) * cf_h S 1 7 = _
  rw [cf_h_1_6, cf_h_1_7]
  grind
theorem cf_h_3_0 (S : Nat → Int32) : cf_h S 3 0 = (1) * S 5 + (-5) * S 6 + (30) * S 7 := by
  show S 5 - (5 : Int32) * cf_h S 2 0 = _
  rw [cf_h_2_0]
  grind
theorem cf_h_3_1 (S : Nat → Int32) : cf_h S 3 1 = (1) * S 6 + (-11) * S 7 := by
  show cf_h S 2 0 - (5 : Int32) * cf_h S 2 1 = _
  rw [cf_h_2_0, cf_h_2_1]
  grind
theorem cf_h_3_2 (S : Nat → Int32) : cf_h S 3 2 = (1) * S 7 := by
  show cf_h S 2 1 - (5 : Int32) * cf_h S 2 2 = _
  rw [cf_h_2_1, cf_h_2_2]
  grind
theorem cf_h_3_3 (S : Nat → Int32) : cf_h S 3 3 = 0 := by
  show cf_h S 2 2 - (5 : Int32) * cf_h S 2 3 = _
  rw [cf_h_2_2, cf_h_2_3]
  grind
theorem cf_h_3_4 (S : Nat → Int32) : cf_h S 3 4 = 0 := by
  show cf_h S 2 3 - (5 : Int32) * cf_h S 2 4 = _
  rw [cf_h_2_3, cf_h_2_4]
  grind
theorem cf_h_3_5 (S : Nat → Int32) : cf_h S 3 5 = 0 := by
  show cf_h S 2 4 - (5 : Int32) * cf_h S 2 5 = _
  rw [cf_h_2_4, cf_h_2_5]
  grind
theorem cf_h_3_6 (S : Nat → Int32) : cf_h S 3 6 = 0 := by
  show cf_h S 2 5 - (5 : Int32) * cf_h S 2 6 = _
  rw [cf_h_2_5, cf_h_2_6]
  grind
theorem cf_h_3_7 (S : Nat → Int32) : cf_h S 3 7 = 0 := by
  show cf_h S 2 6 - (5 : Int32) * cf_h S 2 7 = _
  rw [cf_h_2_6, cf_h_2_7]
  grind
theorem cf_h_4_0 (S : Nat → Int32) : cf_h S 4 0 = (1) * S 4 + (-4) * S 5 + (20) * S 6 + (-120) * S 7 := by
  show S 4 - (4 : Int32) * cf_h S 3 0 = _
  rw [cf_h_3_0]
  grind
theorem cf_h_4_1 (S : Nat → Int32) : cf_h S 4 1 = (1) * S 5 + (-9) * S 6 + (74) * S 7 := by
  show cf_h S 3 0 - (4 : Int32) * cf_h S 3 1 = _
  rw [cf_h_3_0, cf_h_3_1]
  grind
theorem cf_h_4_2 (S : Nat → Int32) : cf_h S 4 2 = (1) * S 6 + (-15) * S 7 := by
  show cf_h S 3 1 - (4 : Int32) * cf_h S 3 2 = _
  rw [cf_h_3_1, cf_h_3_2]
  grind
theorem cf_h_4_3 (S : Nat → Int32) : cf_h S 4 3 = (1) * S 7 := by
  show cf_h S 3 2 - (4 : Int32) * cf_h S 3 3 = _
  rw [cf_h_3_2, cf_h_3_3]
  grind
theorem cf_h_4_4 (S : Nat → Int32) : cf_h S 4 4 = 0 := by
  show cf_h S 3 3 - (4 : Int32) * cf_h S 3 4 = _
  rw [cf_h_3_3, cf_h_3_4]
  grind
theorem cf_h_4_5 (S : Nat → Int32) : cf_h S 4 5 = 0 := by
  show cf_h S 3 4 - (4 : Int32) * cf_h S 3 5 = _
  rw [cf_h_3_4, cf_h_3_5]
  grind
theorem cf_h_4_6 (S : Nat → Int32) : cf_h S 4 6 = 0 := by
  show cf_h S 3 5 - (4 : Int32) * cf_h S 3 6 = _
  rw [cf_h_3_5, cf_h_3_6]
  grind
theorem cf_h_4_7 (S : Nat → Int32) : cf_h S 4 7 = 0 := by
  show cf_h S 3 6 - (4 : Int32) * cf_h S 3 7 = _
  rw [cf_h_3_6, cf_h_3_7]
  grind
theorem cf_h_5_0 (S : Nat → Int32) : cf_h S 5 0 = (1) * S 3 + (-3) * S 4 + (12) * S 5 + (-60) * S 6 + (360) * S 7 := by
  show S 3 - (3 : Int32) * cf_h S 4 0 = _
  rw [cf_h_4_0]
  grind
theorem cf_h_5_1 (S : Nat → Int32) : cf_h S 5 1 = (1) * S 4 + (-7) * S 5 + (47) * S 6 + (-342) * S 7 := by
  show cf_h S 4 0 - (3 : Int32) * cf_h S 4 1 = _
  rw [cf_h_4_0, cf_h_4_1]
  grind
theorem cf_h_5_2 (S : Nat → Int32) : cf_h S 5 2 = (1) * S 5 + (-12) * S 6 + (119) * S 7 := by
  show cf_h S 4 1 - (3 : Int32) * cf_h S 4 2 = _
  rw [cf_h_4_1, cf_h_4_2]
  grind
theorem cf_h_5_3 (S : Nat → Int32) : cf_h S 5 3 = (1) * S 6 + (-18) * S 7 := by
  show cf_h S 4 2 - (3 : Int32) * cf_h S 4 3 = _
  rw [cf_h_4_2, cf_h_4_3]
  grind
theorem cf_h_5_4 (S : Nat → Int32) : cf_h S 5 4 = (1) * S 7 := by
  show cf_h S 4 3 - (3 : Int32) * cf_h S 4 4 = _
  rw [cf_h_4_3, cf_h_4_4]
  grind
theorem cf_h_5_5 (S : Nat → Int32) : cf_h S 5 5 = 0 := by
  show cf_h S 4 4 - (3 : Int32) * cf_h S 4 5 = _
  rw [cf_h_4_4, cf_h_4_5]
  grind
theorem cf_h_5_6 (S : Nat → Int32) : cf_h S 5 6 = 0 := by
  show cf_h S 4 5 - (3 : Int32) * cf_h S 4 6 = _
  rw [cf_h_4_5, cf_h_4_6]
  grind
theorem cf_h_5_7 (S : Nat → Int32) : cf_h S 5 7 = 0 := by
  show cf_h S 4 6 - (3 : Int32) * cf_h S 4 7 = _
  rw [cf_h_4_6, cf_h_4_7]
  grind
theorem cf_h_6_0 (S : Nat → Int32) : cf_h S 6 0 = (1) * S 2 + (-2) * S 3 + (6) * S 4 + (-24) * S 5 + (120) * S 6 + (-720) * S 7 := by
  show S 2 - (2 : Int32) * cf_h S 5 0 = _
  rw [cf_h_5_0]
  grind
theorem cf_h_6_1 (S : Nat → Int32) : cf_h S 6 1 = (1) * S 3 + (-5) * S 4 + (26) * S 5 + (-154) * S 6 + (1044) * S 7 := by
  show cf_h S 5 0 - (2 : Int32) * cf_h S 5 1 = _
  rw [cf_h_5_0, cf_h_5_1]
  grind
theorem cf_h_6_2 (S : Nat → Int32) : cf_h S 6 2 = (1) * S 4 + (-9) * S 5 + (71) * S 6 + (-580) * S 7 := by
  show cf_h S 5 1 - (2 : Int32) * cf_h S 5 2 = _
  rw [cf_h_5_1, cf_h_5_2]
  grind
theorem cf_h_6_3 (S : Nat → Int32) : cf_h S 6 3 = (1) * S 5 + (-14) * S 6 + (155) * S 7 := by
  show cf_h S 5 2 - (2 : Int32) * cf_h S 5 3 = _
  rw [cf_h_5_2, cf_h_5_3]
  grind
theorem cf_h_6_4 (S : Nat → Int32) : cf_h S 6 4 = (1) * S 6 + (-20) * S 7 := by
  show cf_h S 5 3 - (2 : Int32) * cf_h S 5 4 = _
  rw [cf_h_5_3, cf_h_5_4]
  grind
theorem cf_h_6_5 (S : Nat → Int32) : cf_h S 6 5 = (1) * S 7 := by
  show cf_h S 5 4 - (2 : Int32) * cf_h S 5 5 = _
  rw [cf_h_5_4, cf_h_5_5]
  grind
theorem cf_h_6_6 (S : Nat → Int32) : cf_h S 6 6 = 0 := by
  show cf_h S 5 5 - (2 : Int32) * cf_h S 5 6 = _
  rw [cf_h_5_5, cf_h_5_6]
  grind
theorem cf_h_6_7 (S : Nat → Int32) : cf_h S 6 7 = 0 := by
  show cf_h S 5 6 - (2 : Int32) * cf_h S 5 7 = _
  rw [cf_h_5_6, cf_h_5_7]
  grind
theorem cf_h_7_0 (S : Nat → Int32) : cf_h S 7 0 = (1) * S 1 + (-1) * S 2 + (2) * S 3 + (-6) * S 4 + (24) * S 5 + (-120) * S 6 + (720) * S 7 := by
  show S 1 - (1 : Int32) * cf_h S 6 0 = _
  rw [cf_h_6_0]
  grind
theorem cf_h_7_1 (S : Nat → Int32) : cf_h S 7 1 = (1) * S 2 + (-3) * S 3 + (11) * S 4 + (-50) * S 5 + (274) * S 6 + (-1764) * S 7 := by
  show cf_h S 6 0 - (1 : Int32) * cf_h S 6 1 = _
  rw [cf_h_6_0, cf_h_6_1]
  grind
theorem cf_h_7_2 (S : Nat → Int32) : cf_h S 7 2 = (1) * S 3 + (-6) * S 4 + (35) * S 5 + (-225) * S 6 + (1624) * S 7 := by
  show cf_h S 6 1 - (1 : Int32) * cf_h S 6 2 = _
  rw [cf_h_6_1, cf_h_6_2]
  grind
theorem cf_h_7_3 (S : Nat → Int32) : cf_h S 7 3 = (1) * S 4 + (-10) * S 5 + (85) * S 6 + (-735) * S 7 := by
  show cf_h S 6 2 - (1 : Int32) * cf_h S 6 3 = _
  rw [cf_h_6_2, cf_h_6_3]
  grind
theorem cf_h_7_4 (S : Nat → Int32) : cf_h S 7 4 = (1) * S 5 + (-15) * S 6 + (175) * S 7 := by
  show cf_h S 6 3 - (1 : Int32) * cf_h S 6 4 = _
  rw [cf_h_6_3, cf_h_6_4]
  grind
theorem cf_h_7_5 (S : Nat → Int32) : cf_h S 7 5 = (1) * S 6 + (-21) * S 7 := by
  show cf_h S 6 4 - (1 : Int32) * cf_h S 6 5 = _
  rw [cf_h_6_4, cf_h_6_5]
  grind
theorem cf_h_7_6 (S : Nat → Int32) : cf_h S 7 6 = (1) * S 7 := by
  show cf_h S 6 5 - (1 : Int32) * cf_h S 6 6 = _
  rw [cf_h_6_5, cf_h_6_6]
  grind
theorem cf_h_7_7 (S : Nat → Int32) : cf_h S 7 7 = 0 := by
  show cf_h S 6 6 - (1 : Int32) * cf_h S 6 7 = _
  rw [cf_h_6_6, cf_h_6_7]
  grind
theorem cf_h_8_0 (S : Nat → Int32) : cf_h S 8 0 = (1) * S 0 := by
  show S 0 - (0 : Int32) * cf_h S 7 0 = _
  rw [cf_h_7_0]
  grind
theorem cf_h_8_1 (S : Nat → Int32) : cf_h S 8 1 = (1) * S 1 + (-1) * S 2 + (2) * S 3 + (-6) * S 4 + (24) * S 5 + (-120) * S 6 + (720) * S 7 := by
  show cf_h S 7 0 - (0 : Int32) * cf_h S 7 1 = _
  rw [cf_h_7_0, cf_h_7_1]
  grind
theorem cf_h_8_2 (S : Nat → Int32) : cf_h S 8 2 = (1) * S 2 + (-3) * S 3 + (11) * S 4 + (-50) * S 5 + (274) * S 6 + (-1764) * S 7 := by
  show cf_h S 7 1 - (0 : Int32) * cf_h S 7 2 = _
  rw [cf_h_7_1, cf_h_7_2]
  grind
theorem cf_h_8_3 (S : Nat → Int32) : cf_h S 8 3 = (1) * S 3 + (-6) * S 4 + (35) * S 5 + (-225) * S 6 + (1624) * S 7 := by
  show cf_h S 7 2 - (0 : Int32) * cf_h S 7 3 = _
  rw [cf_h_7_2, cf_h_7_3]
  grind
theorem cf_h_8_4 (S : Nat → Int32) : cf_h S 8 4 = (1) * S 4 + (-10) * S 5 + (85) * S 6 + (-735) * S 7 := by
  show cf_h S 7 3 - (0 : Int32) * cf_h S 7 4 = _
  rw [cf_h_7_3, cf_h_7_4]
  grind
theorem cf_h_8_5 (S : Nat → Int32) : cf_h S 8 5 = (1) * S 5 + (-15) * S 6 + (175) * S 7 := by
  show cf_h S 7 4 - (0 : Int32) * cf_h S 7 5 = _
  rw [cf_h_7_4, cf_h_7_5]
  grind
theorem cf_h_8_6 (S : Nat → Int32) : cf_h S 8 6 = (1) * S 6 + (-21) * S 7 := by
  show cf_h S 7 5 - (0 : Int32) * cf_h S 7 6 = _
  rw [cf_h_7_5, cf_h_7_6]
  grind
theorem cf_h_8_7 (S : Nat → Int32) : cf_h S 8 7 = (1) * S 7 := by
  show cf_h S 7 6 - (0 : Int32) * cf_h S 7 7 = _
  rw [cf_h_7_6, cf_h_7_7]
  grind
theorem cf_q_0 (S : Nat → Int32) (h0 : S 0 = 0) : cf_h S 8 0 = cf_q S 7 0 := by
  show _ = 0 + S 1 * cf_a 1 0 + S 2 * cf_a 2 0 + S 3 * cf_a 3 0 + S 4 * cf_a 4 0 + S 5 * cf_a 5 0 + S 6 * cf_a 6 0 + S 7 * cf_a 7 0
  have a1 : cf_a 1 0 = 0 := by decide +kernel
  have a2 : cf_a 2 0 = 0 := by decide +kernel
  have a3 : cf_a 3 0 = 0 := by decide +kernel
  have a4 : cf_a 4 0 = 0 := by decide +kernel
  have a5 : cf_a 5 0 = 0 := by decide +kernel
  have a6 : cf_a 6 0 = 0 := by decide +kernel
  have a7 : cf_a 7 0 = 0 := by decide +kernel
  rw [cf_h_8_0, a1, a2, a3, a4, a5, a6, a7]
  grind
theorem cf_q_1 (S : Nat → Int32) (h0 : S 0 = 0) : cf_h S 8 1 = cf_q S 7 1 := by
  show _ = 0 + S 1 * cf_a 1 1 + S 2 * cf_a 2 1 + S 3 * cf_a 3 1 + S 4 * cf_a 4 1 + S 5 * cf_a 5 1 + S 6 * cf_a 6 1 + S 7 * cf_a 7 1
  have a1 : cf_a 1 1 = 1 := by decide +kernel
  have a2 : cf_a 2 1 = -1 := by decide +kernel
  have a3 : cf_a 3 1 = 2 := by decide +kernel
  have a4 : cf_a 4 1 = -6 := by decide +kernel
  have a5 : cf_a 5 1 = 24 := by decide +kernel
  have a6 : cf_a 6 1 = -120 := by decide +kernel
  have a7 : cf_a 7 1 = 720 := by decide +kernel
  rw [cf_h_8_1, a1, a2, a3, a4, a5, a6, a7]
  grind
theorem cf_q_2 (S : Nat → Int32) (h0 : S 0 = 0) : cf_h S 8 2 = cf_q S 7 2 := by
  show _ = 0 + S 1 * cf_a 1 2 + S 2 * cf_a 2 2 + S 3 * cf_a 3 2 + S 4 * cf_a 4 2 + S 5 * cf_a 5 2 + S 6 * cf_a 6 2 + S 7 * cf_a 7 2
  have a1 : cf_a 1 2 = 0 := by decide +kernel
  have a2 : cf_a 2 2 = 1 := by decide +kernel
  have a3 : cf_a 3 2 = -3 := by decide +kernel
  have a4 : cf_a 4 2 = 11 := by decide +kernel
  have a5 : cf_a 5 2 = -50 := by decide +kernel
  have a6 : cf_a 6 2 = 274 := by decide +kernel
  have a7 : cf_a 7 2 = -1764 := by decide +kernel
  rw [cf_h_8_2, a1, a2, a3, a4, a5, a6, a7]
  grind
theorem cf_q_3 (S : Nat → Int32) (h0 : S 0 = 0) : cf_h S 8 3 = cf_q S 7 3 := by
  show _ = 0 + S 1 * cf_a 1 3 + S 2 * cf_a 2 3 + S 3 * cf_a 3 3 + S 4 * cf_a 4 3 + S 5 * cf_a 5 3 + S 6 * cf_a 6 3 + S 7 * cf_a 7 3
  have a1 : cf_a 1 3 = 0 := by decide +kernel
  have a2 : cf_a 2 3 = 0 := by decide +kernel
  have a3 : cf_a 3 3 = 1 := by decide +kernel
  have a4 : cf_a 4 3 = -6 := by decide +kernel
  have a5 : cf_a 5 3 = 35 := by decide +kernel
  have a6 : cf_a 6 3 = -225 := by decide +kernel
  have a7 : cf_a 7 3 = 1624 := by decide +kernel
  rw [cf_h_8_3, a1, a2, a3, a4, a5, a6, a7]
  grind
theorem cf_q_4 (S : Nat → Int32) (h0 : S 0 = 0) : cf_h S 8 4 = cf_q S 7 4 := by
  show _ = 0 + S 1 * cf_a 1 4 + S 2 * cf_a 2 4 + S 3 * cf_a 3 4 + S 4 * cf_a 4 4 + S 5 * cf_a 5 4 + S 6 * cf_a 6 4 + S 7 * cf_a 7 4
  have a1 : cf_a 1 4 = 0 := by decide +kernel
  have a2 : cf_a 2 4 = 0 := by decide +kernel
  have a3 : cf_a 3 4 = 0 := by decide +kernel
  have a4 : cf_a 4 4 = 1 := by decide +kernel
  have a5 : cf_a 5 4 = -10 := by decide +kernel
  have a6 : cf_a 6 4 = 85 := by decide +kernel
  have a7 : cf_a 7 4 = -735 := by decide +kernel
  rw [cf_h_8_4, a1, a2, a3, a4, a5, a6, a7]
  grind
theorem cf_q_5 (S : Nat → Int32) (h0 : S 0 = 0) : cf_h S 8 5 = cf_q S 7 5 := by
  show _ = 0 + S 1 * cf_a 1 5 + S 2 * cf_a 2 5 + S 3 * cf_a 3 5 + S 4 * cf_a 4 5 + S 5 * cf_a 5 5 + S 6 * cf_a 6 5 + S 7 * cf_a 7 5
  have a1 : cf_a 1 5 = 0 := by decide +kernel
  have a2 : cf_a 2 5 = 0 := by decide +kernel
  have a3 : cf_a 3 5 = 0 := by decide +kernel
  have a4 : cf_a 4 5 = 0 := by decide +kernel
  have a5 : cf_a 5 5 = 1 := by decide +kernel
  have a6 : cf_a 6 5 = -15 := by decide +kernel
  have a7 : cf_a 7 5 = 175 := by decide +kernel
  rw [cf_h_8_5, a1, a2, a3, a4, a5, a6, a7]
  grind
theorem cf_q_6 (S : Nat → Int32) (h0 : S 0 = 0) : cf_h S 8 6 = cf_q S 7 6 := by
  show _ = 0 + S 1 * cf_a 1 6 + S 2 * cf_a 2 6 + S 3 * cf_a 3 6 + S 4 * cf_a 4 6 + S 5 * cf_a 5 6 + S 6 * cf_a 6 6 + S 7 * cf_a 7 6
  have a1 : cf_a 1 6 = 0 := by decide +kernel
  have a2 : cf_a 2 6 = 0 := by decide +kernel
  have a3 : cf_a 3 6 = 0 := by decide +kernel
  have a4 : cf_a 4 6 = 0 := by decide +kernel
  have a5 : cf_a 5 6 = 0 := by decide +kernel
  have a6 : cf_a 6 6 = 1 := by decide +kernel
  have a7 : cf_a 7 6 = -21 := by decide +kernel
  rw [cf_h_8_6, a1, a2, a3, a4, a5, a6, a7]
  grind
theorem cf_q_7 (S : Nat → Int32) (h0 : S 0 = 0) : cf_h S 8 7 = cf_q S 7 7 := by
  show _ = 0 + S 1 * cf_a 1 7 + S 2 * cf_a 2 7 + S 3 * cf_a 3 7 + S 4 * cf_a 4 7 + S 5 * cf_a 5 7 + S 6 * cf_a 6 7 + S 7 * cf_a 7 7
  have a1 : cf_a 1 7 = 0 := by decide +kernel
  have a2 : cf_a 2 7 = 0 := by decide +kernel
  have a3 : cf_a 3 7 = 0 := by decide +kernel
  have a4 : cf_a 4 7 = 0 := by decide +kernel
  have a5 : cf_a 5 7 = 0 := by decide +kernel
  have a6 : cf_a 6 7 = 0 := by decide +kernel
  have a7 : cf_a 7 7 = 1 := by decide +kernel
  rw [cf_h_8_7, a1, a2, a3, a4, a5, a6, a7]
  grind
theorem cf_eq (S : Nat → Int32) (h0 : S 0 = 0) (i : Nat) (hi : i < 8) : cf_h S 8 i = cf_q S 7 i := by
  have : i = 0 ∨ i = 1 ∨ i = 2 ∨ i = 3 ∨ i = 4 ∨ i = 5 ∨ i = 6 ∨ i = 7 := by omega
  rcases this with rfl | rfl | rfl | rfl | rfl | rfl | rfl | rfl
  · exact cf_q_0 S h0
  · exact cf_q_1 S h0
  · exact cf_q_2 S h0
  · exact cf_q_3 S h0
  · exact cf_q_4 S h0
  · exact cf_q_5 S h0
  · exact cf_q_6 S h0
  · exact cf_q_7 S h0

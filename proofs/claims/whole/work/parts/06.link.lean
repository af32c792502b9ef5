/-! link -/
def li_fit (W : Nat → Nat) (r s i : Nat) : Bool := r.testBit (i / 7) && s.testBit (i % 7) && !r.testBit (i % 7) && decide (0 < W i)
def li_st (W : Nat → Nat) (i : Nat) : Option Nat → Option Nat
  | none => some i
  | some p => if W p ≤ W i then some p else some i
def li_p (W : Nat → Nat) (r s : Nat) : Nat → Option Nat
  | 0 => none
  | i + 1 => if li_fit W r s i = true then li_st W i (li_p W r s i) else li_p W r s i
theorem li_fit_t {W : Nat → Nat} {r s i : Nat} (h1 : r.testBit (i / 7) = true) (h2 : s.testBit (i % 7) = true) (h3 : r.testBit (i % 7) = false) (h4 : 0 < W i) : li_fit W r s i = true := by
  unfold li_fit
  rw [h1, h2, h3, decide_eq_true h4]; rfl
theorem li_fit_i {W : Nat → Nat} {r s i : Nat} (h : li_fit W r s i = true) : r.testBit (i / 7) = true ∧ s.testBit (i % 7) = true ∧ r.testBit (i % 7) = false ∧ 0 < W i := by
  unfold li_fit at h
  simp only [Bool.and_eq_true, Bool.not_eq_true', decide_eq_true_eq] at h
  exact ⟨h.1.1.1, h.1.1.2, h.1.2, h.2⟩
theorem li_py {W : Nat → Nat} {r s i : Nat} (h : li_fit W r s i = true) : li_p W r s (i + 1) = li_st W i (li_p W r s i) := if_pos h
theorem li_pn {W : Nat → Nat} {r s i : Nat} (h : ¬ li_fit W r s i = true) : li_p W r s (i + 1) = li_p W r s i := if_neg h
theorem li_ps {W : Nat → Nat} {r s : Nat} : ∀ i p, li_p W r s i = some p → p < i ∧ li_fit W r s p = true
  | 0, p, h => by cases h
  | i + 1, p, h => by
    by_cases hf : li_fit W r s i = true
    · rw [li_py hf] at h
      cases e : li_p W r s i with
      | none => rw [e] at h; cases h; exact ⟨by omega, hf⟩
      | some q =>
        rw [e] at h
        have q2 := li_ps i q e
        have h' : (if W q ≤ W i then some q else some i) = some p := h
        split at h'
        · cases h'; exact ⟨by omega, q2.2⟩
        · cases h'; exact ⟨by omega, hf⟩
    · rw [li_pn hf] at h
      have := li_ps i p h
      exact ⟨by omega, this.2⟩
def li_bX (W : Nat → Nat) : Option Nat → Int32
  | none => 1000000
  | some p => nI (W p)
def li_pX : Option Nat → Int32
  | none => -2
  | some p => nI p
def li_bY (W : Nat → Nat) : Option Nat → Int32
  | none => 0
  | some p => nI (W p)
def li_nY : Option Nat → Int32
  | none => -1
  | some p => nI (p % 7)
theorem gb_xlt : ∀ s, s < 128 → ∀ r, r < 128 → s ^^^ r < 128 := fun s hs r hr => Nat.xor_lt_two_pow (n := 7) hs hr
section
variable {aw an sp po wy pa pr co : Nat → Int32} {W N : Nat → Nat}
theorem li_x44 (hG : gr_G aw an W N) {post : Int32 → Prop} {J : Int32 → Int32 → Int32 → Prop} (r s a E : Nat) (x1 x2 : Int32) (ha : a < 7) (hE : E < 128) (hb : ∀ b, b < 7 → (E.testBit b = li_fit W r s (7 * a + b))) (h : J (li_bX W (li_p W r s (7 * (a + 1)))) (li_pX (li_p W r s (7 * (a + 1)))) (nI (a + 1))) : ∃ n, wX_lightestPair_44 post J x1 x2 (nI a) (nI E) aw an sp po wy pa pr co n (li_bX W (li_p W r s (7 * a))) (li_pX (li_p W r s (7 * a))) 0 := by
  refine gb_lp (fun m b => wX_lightestPair_44 post J x1 x2 (nI a) (nI E) aw an sp po wy pa pr co m (li_bX W (li_p W r s (7 * a + b))) (li_pX (li_p W r s (7 * a + b))) (nI b)) 7 0 (by omega) (fun m => br_t (nI_le (a := 7) (Nat.le_refl 7) (by decide)) (nm_r (nI_1 a) h)) (fun m b _ hb7 K => br_f (nI_ge (b := 7) hb7 (by decide)) ?_)
  have hb' := hb b hb7
  have hi : 7 * a + b < 49 := by omega
  have h9 := gr_9 hG hi
  have hv : vp_in (nI a * 7 + nI b) 49 := by rw [gb_m7]; exact vp_in_nI hi (by decide)
  have hw := gr_wc hG (7 * a + b) hi (gb_m7 a b)
  refine gb_has E b (by omega) (by omega) (fun h1 => ⟨hv, ?_⟩) (fun h0 => nm_r (nI_1 b) ?_)
  · rw [hb'] at h1
    have K' : wX_lightestPair_44 post J x1 x2 (nI a) (nI E) aw an sp po wy pa pr co m (li_bX W (li_st W (7 * a + b) (li_p W r s (7 * a + b)))) (li_pX (li_st W (7 * a + b) (li_p W r s (7 * a + b)))) (nI (b + 1)) := by
      rw [← li_py h1]; exact K
    cases e : li_p W r s (7 * a + b) with
    | none =>
      rw [e] at K'
      exact pk_le 1000000 (W (7 * a + b)) (fun z => absurd z (by omega)) (fun _ => ⟨hv, nm_r hw (nm_r (gb_m7 a b) (nm_r (nI_1 b) K'))⟩) rfl hw (by omega) (by omega)
    | some p =>
      have p9 := gr_9 hG (i := p) (by have := (li_ps _ _ e).1; omega)
      rw [e] at K'
      refine pk_le (W p) (W (7 * a + b)) (fun z => nm_r (nI_1 b) ?_) (fun z => ⟨hv, nm_r hw (nm_r (gb_m7 a b) (nm_r (nI_1 b) ?_))⟩) rfl hw (by omega) (by omega)
      · have e2 : li_st W (7 * a + b) (some p) = some p := if_pos z
        rw [e2] at K'; exact K'
      · have e2 : li_st W (7 * a + b) (some p) = some (7 * a + b) := if_neg (by omega)
        rw [e2] at K'; exact K'
  · rw [hb'] at h0
    have e : li_p W r s (7 * a + (b + 1)) = li_p W r s (7 * a + b) := li_pn (i := 7 * a + b) (by rw [h0]; decide)
    rw [e] at K; exact K
theorem li_xlp (hG : gr_G aw an W N) {post : Int32 → Prop} (r s : Nat) (hr : r < 128) (hs : s < 128) (hrs : r &&& s = r) (h : post (li_pX (li_p W r s 49))) : wpX_lightestPair post (aw, an, sp, po, wy, pa, pr, co) (nI r) (nI s ^^^ nI r) := by
  rw [nx_xor]
  have hx := gb_xlt s hs r hr
  have hd : ∀ b, (s ^^^ r).testBit b = (s.testBit b && !r.testBit b) := by
    intro b
    have this : (r &&& s).testBit b = r.testBit b := by rw [hrs]
    rw [Nat.testBit_and] at this
    rw [Nat.testBit_xor]
    cases h1 : s.testBit b <;> cases h2 : r.testBit b <;> rw [h1, h2] at this <;> first | rfl | exact absurd this (by decide)
  refine gb_lp (fun n a => wX_lightestPair_10 post (nI r) (nI (s ^^^ r)) aw an sp po wy pa pr co n (li_bX W (li_p W r s (7 * a))) (li_pX (li_p W r s (7 * a))) (nI a)) 7 0 (by omega) (fun n => br_t (nI_le (a := 7) (Nat.le_refl 7) (by decide)) h) (fun n a _ ha H => br_f (nI_ge (b := 7) ha (by decide)) ?_)
  refine gb_has r a (by omega) (by omega) (fun h1 => ⟨vp_in_nI ha (by decide), nm_r (e' := nI (N a &&& (s ^^^ r))) (by rw [gr_nc hG a ha, nx_and]) ?_⟩) (fun h0 => ?_)
  · refine li_x44 hG r s a (N a &&& (s ^^^ r)) _ _ ha (gb_and_lt (gr_nl hG ha)) (fun b hb => ?_) H
    have ed : (7 * a + b) / 7 = a := by omega
    have em : (7 * a + b) % 7 = b := by omega
    unfold li_fit
    rw [Nat.testBit_and, hd, ed, em, h1, Bool.true_and]
    have t := gr_t hG ha hb
    have f := gr_f hG ha hb
    cases q : (N a).testBit b
    · rw [f.1 q]
      simp
    · rw [decide_eq_true (t.1 q), Bool.and_true, Bool.true_and]
  · refine li_x44 hG r s a 0 _ _ ha (by decide) (fun b hb => ?_) H
    have ed : (7 * a + b) / 7 = a := by omega
    unfold li_fit
    rw [ed, h0]
    simp
end
def li_T (W : Nat → Nat) (s : Nat) : Nat → Nat → Nat → Option Nat
  | 0, _, t => some t
  | f + 1, r, t => match li_p W r s 49 with
    | none => none
    | some p => li_T W s f (r ||| 2 ^ (p % 7)) (t + W p)
theorem li_Tn {W : Nat → Nat} {s f r t : Nat} (h : li_p W r s 49 = none) : li_T W s (f + 1) r t = none := by
  show (match li_p W r s 49 with | none => none | some p => li_T W s f (r ||| 2 ^ (p % 7)) (t + W p)) = none
  rw [h]
theorem li_Ts {W : Nat → Nat} {s f r t p : Nat} (h : li_p W r s 49 = some p) : li_T W s (f + 1) r t = li_T W s f (r ||| 2 ^ (p % 7)) (t + W p) := by
  show (match li_p W r s 49 with | none => none | some p => li_T W s f (r ||| 2 ^ (p % 7)) (t + W p)) = _
  rw [h]
theorem li_Tle {aw an : Nat → Int32} {W N : Nat → Nat} (hG : gr_G aw an W N) {s : Nat} : ∀ f r t t', li_T W s f r t = some t' → t' ≤ t + 9 * f
  | 0, r, t, t', h => by cases h; omega
  | f + 1, r, t, t', h => by
    cases e : li_p W r s 49 with
    | none => rw [li_Tn e] at h; cases h
    | some p =>
      rw [li_Ts e] at h
      have := li_Tle hG f _ _ _ h
      have := gr_9 hG (i := p) (li_ps _ _ e).1
      omega
theorem li_sub : ∀ s, s < 128 → ∀ r, r < 128 → r &&& s = r → gb_size r = gb_size s → r = s := by decide +kernel
theorem li_grow : ∀ r, r < 128 → ∀ v, v < 7 → r.testBit v = false → gb_size (r ||| 2 ^ v) = gb_size r + 1 := by decide +kernel
theorem li_two : ∀ s, s < 128 → ∀ v, v < 7 → s.testBit v = true → s &&& 2 ^ v = 2 ^ v := by decide +kernel
theorem li_lo : ∀ s, s < 128 → 0 < s → gb_lo s < 128 ∧ gb_lo s &&& s = gb_lo s ∧ gb_size (gb_lo s) = 1 ∧ 1 ≤ gb_size s := by decide +kernel
theorem li_add {r s v : Nat} (hs : s < 128) (hv : v < 7) (h : r &&& s = r) (hb : s.testBit v = true) : (r ||| 2 ^ v) &&& s = r ||| 2 ^ v := by
  rw [Nat.and_comm, Nat.and_or_distrib_left, Nat.and_comm s r, h, li_two s hs v hv hb]
def li_oX : Option Nat → Int32
  | none => 1000000
  | some t => nI t
def li_oY : Option Nat → Int32
  | none => -1
  | some t => nI t
section
variable {aw an sp po wy pa pr co : Nat → Int32} {W N : Nat → Nat}
theorem li_xT (hG : gr_G aw an W N) {post : Int32 → Prop} {s : Nat} (hs : s < 128) : ∀ f r t st, r < 128 → r &&& s = r → gb_size r = st → 1 ≤ st → st + f = gb_size s → t + 9 * f < 100 → post (li_oX (li_T W s f r t)) → wX_treeWeight_10 post (nI s) aw an sp po wy pa pr co (f + 1) (nI r) (nI t) (nI st)
  | 0, r, t, st, hr, hrs, hz, h1, hf, ht, hp => by
    have e := li_sub s hs r hr hrs (by omega)
    have h7 := gb_size7 s
    exact pk_le 7 st (fun _ => hp) (fun _ => br_t (by rw [e]) hp)
  | f + 1, r, t, st, hr, hrs, hz, h1, hf, ht, hp => by
    have h7 := gb_size7 s
    have hne : ¬ nI r = nI s := fun z => by
      have : r = s := (nI_eq (by omega) (by omega)).1 z
      subst this; omega
    refine pk_le 7 st (fun z => absurd z (by omega)) (fun _ => br_f hne (li_xlp hG r s hr hs hrs ?_))
    cases e : li_p W r s 49 with
    | none =>
      rw [li_Tn e] at hp
      exact br_t rfl hp
    | some p =>
      rw [li_Ts e] at hp
      obtain ⟨hp49, hfit⟩ := li_ps _ _ e
      obtain ⟨f1, f2, f3, f4⟩ := li_fit_i hfit
      have p9 := gr_9 hG hp49
      have m7 : p % 7 < 7 := by omega
      refine br_f (fun z => ?_) ⟨vp_in_nI hp49 (by decide), nm_r (e' := nI (t + W p)) (by rw [gr_wc hG p hp49, nI_add]) ⟨by decide, nm_r (e' := nI (r ||| 2 ^ (p % 7))) (by rw [show li_pX (some p) = nI p from rfl, gb_r7 (by omega), gb_sh _ (by omega), gb_or]) (nm_r (nI_1 st) ?_)⟩⟩
      · have z' : nI p = -2 := z
        have := congrArg Int32.toInt z'
        rw [nI_toInt (by omega)] at this
        have q : (-2 : Int32).toInt = -2 := by decide
        omega
      · exact li_xT hG hs f (r ||| 2 ^ (p % 7)) (t + W p) (st + 1) (gb_lt128 hr (gb_p2 _ m7)) (li_add hs m7 hrs f2) (by rw [li_grow r hr _ m7 f3, hz]) (by omega) (by omega) (by omega) hp
def li_w (W : Nat → Nat) (s : Nat) : Option Nat := li_T W s (gb_size s - 1) (gb_lo s) 0
theorem li_xt (hG : gr_G aw an W N) {post : Int32 → Prop} (s : Nat) (hs : s < 128) (h : post (li_oX (li_w W s))) : wpX_treeWeight post (aw, an, sp, po, wy, pa, pr, co) (nI s) := by
  refine nm_r (gb_low s hs) ?_
  by_cases h0 : s = 0
  · subst h0
    exact ⟨1, br_f (by decide) (br_t rfl h)⟩
  · obtain ⟨q1, q2, q3, q4⟩ := li_lo s hs (by omega)
    have h7 := gb_size7 s
    exact ⟨_, li_xT hG hs (gb_size s - 1) (gb_lo s) 0 1 q1 q2 q3 (by omega) (by omega) (by omega) h⟩
theorem li_y29 (hG : gr_G aw an W N) {post : Int32 → Prop} {J : Int32 → Int32 → Int32 → Prop} {rd : Int32} {od li pt ps cf fl lv lf : Nat → Int32} (r s t st : Nat) (hr : r < 128) (hs : s < 128) (h0 : li_p W r s 49 = none → post (-1)) (h1 : ∀ p, li_p W r s 49 = some p → J (nI (r ||| 2 ^ (p % 7))) (nI (t + W p)) (nI (st + 1))) : ∃ n, wY_tree_29 post J (nI s) (nI r) (nI t) (nI st) rd aw od li pt ps cf fl lv lf n 0 (-1) 0 := by
  refine gb_lp (fun n i => wY_tree_29 post J (nI s) (nI r) (nI t) (nI st) rd aw od li pt ps cf fl lv lf n (li_bY W (li_p W r s i)) (li_nY (li_p W r s i)) (nI i)) 49 0 (by omega) (fun n => br_t (nI_le (a := 49) (Nat.le_refl 49) (by decide)) ?_) (fun n i _ hi K => br_f (nI_ge (b := 49) hi (by decide)) ⟨by decide, ?_⟩)
  · cases e : li_p W r s 49 with
    | none => exact br_f (by decide) (h0 e)
    | some p =>
      refine br_t (nI_pos' (by omega)) (nm_r (e' := nI (t + W p)) (nI_add _ _) (nm_r (e' := nI (r ||| 2 ^ (p % 7))) ?_ (nm_r (nI_1 st) (h1 p e))))
      rw [show li_nY (some p) = nI (p % 7) from rfl, gb_sh _ (by omega), gb_or]
  · have h9 := gr_9 hG hi
    have skip : ¬ li_fit W r s i = true → wY_tree_88 post J (wY_tree_29 post J (nI s) (nI r) (nI t) (nI st) rd aw od li pt ps cf fl lv lf n) (nI s) (nI r) (nI t) (nI st) (li_bY W (li_p W r s i)) (li_nY (li_p W r s i)) (nI i) rd aw od li pt ps cf fl lv lf := by
      intro z
      rw [li_pn z] at K
      exact br_t rfl (nm_r (nI_1 i) K)
    refine gb_is1 r (i / 7) (by omega) (by omega) (fun f1 => ⟨by decide, gb_is1 s (i % 7) (by omega) (by omega) (fun f2 => ⟨by decide, gb_is0 r (i % 7) (by omega) (by omega) (fun f3 => ⟨vp_in_nI hi (by decide), pk_le (W i) 0 (fun z => skip (fun q => by have := (li_fit_i q).2.2.2; omega)) (fun z => ?_) (gr_wc hG i hi) rfl (by omega)⟩) (fun f3 => skip (fun q => by have := (li_fit_i q).2.2.1; rw [f3] at this; exact absurd this (by decide))) rfl (gb_r7 (by omega))⟩) (fun f2 => skip (fun q => by have := (li_fit_i q).2.1; rw [f2] at this; exact absurd this (by decide))) rfl (gb_r7 (by omega))⟩) (fun f1 => skip (fun q => by have := (li_fit_i q).1; rw [f1] at this; exact absurd this (by decide))) rfl (gb_d7 (by omega))
    have hfit := li_fit_t f1 f2 f3 z
    rw [li_py hfit] at K
    have take : ∀ o, wY_tree_29 post J (nI s) (nI r) (nI t) (nI st) rd aw od li pt ps cf fl lv lf n (li_bY W (some i)) (li_nY (some i)) (nI (i + 1)) → wY_tree_113 post o (wY_tree_29 post J (nI s) (nI r) (nI t) (nI st) rd aw od li pt ps cf fl lv lf n) (nI s) (nI r) (nI t) (nI st) (nI i) rd aw od li pt ps cf fl lv lf := by
      intro o h
      exact ⟨vp_in_nI hi (by decide), nm_r (gr_wc hG i hi) ⟨by decide, nm_r (gb_r7 (by omega)) (nm_r (nI_1 i) h)⟩⟩
    refine br_f (by decide) ?_
    cases e : li_p W r s i with
    | none =>
      rw [e] at K
      exact br_t (by decide) (take _ K)
    | some p =>
      rw [e] at K
      have p9 := gr_9 hG (i := p) (by have := (li_ps _ _ e).1; omega)
      refine br_f (nI_pos (by omega)) ⟨vp_in_nI hi (by decide), pk_le (W p) (W i) (fun y => nm_r (nI_1 i) ?_) (fun y => take _ ?_) rfl (gr_wc hG i hi) (by omega) (by omega)⟩
      · have e2 : li_st W i (some p) = some p := if_pos y
        rw [e2] at K; exact K
      · have e2 : li_st W i (some p) = some i := if_neg (by omega)
        rw [e2] at K; exact K
theorem li_yT (hG : gr_G aw an W N) {post : Int32 → Prop} {rd : Int32} {od li pt ps cf fl lv lf : Nat → Int32} {s : Nat} (hs : s < 128) : ∀ f r t st, r < 128 → st + f = gb_size s → post (li_oY (li_T W s f r t)) → wY_tree_10 post (nI s) rd aw od li pt ps cf fl lv lf (f + 1) (nI r) (nI t) (nI st)
  | 0, r, t, st, hr, hf, hp => by
    have h7 := gb_size7 s
    exact gb_ysize s (by omega) (pk_le (gb_size s) st (fun _ => hp) (fun z => absurd z (by omega)))
  | f + 1, r, t, st, hr, hf, hp => by
    have h7 := gb_size7 s
    refine gb_ysize s (by omega) (pk_le (gb_size s) st (fun z => absurd z (by omega)) (fun _ => li_y29 hG r s t st hr hs (fun e => ?_) (fun p e => ?_)))
    · rw [li_Tn e] at hp; exact hp
    · rw [li_Ts e] at hp
      exact li_yT hG hs f _ _ (st + 1) (gb_lt128 hr (gb_p2 _ (by omega))) (by omega) hp
theorem li_yt (hG : gr_G aw an W N) {post : Int32 → Prop} {rd : Int32} {od li pt ps cf fl lv lf : Nat → Int32} (s : Nat) (hs : s < 128) (h : post (li_oY (li_w W s))) : wpY_tree post (rd, aw, od, li, pt, ps, cf, fl, lv, lf) (nI s) := by
  refine nm_r (gb_low s hs) ?_
  by_cases h0 : s = 0
  · subst h0
    exact ⟨1, gb_ysize 0 (by decide) (br_t (by decide) h)⟩
  · obtain ⟨q1, q2, q3, q4⟩ := li_lo s hs (by omega)
    exact ⟨_, li_yT hG hs (gb_size s - 1) (gb_lo s) 0 1 q1 (by omega) h⟩
end
def li_mn : Option Nat → Option Nat → Option Nat
  | o, none => o
  | none, some t => some t
  | some m, some t => if t ≤ m then some t else some m
def li_B (W : Nat → Nat) (q : Nat) : Nat → Option Nat
  | 0 => none
  | i + 1 => if i &&& q = q then li_mn (li_B W q i) (li_w W i) else li_B W q i
theorem li_sup : ∀ i, i < 128 → ∀ q, q < 128 → (i &&& q = q → q &&& (127 ^^^ i) = 0 ∧ q ≤ i) ∧ (¬ i &&& q = q → ¬ q &&& (127 ^^^ i) = 0) := by decide +kernel
theorem li_B0 (W : Nat → Nat) {q : Nat} (hq : q < 128) : ∀ i, i ≤ q → li_B W q i = none
  | 0, _ => rfl
  | i + 1, h => by
    have e : li_B W q (i + 1) = li_B W q i := if_neg (fun z => by have := ((li_sup i (by omega) q hq).1 z).2; omega)
    rw [e]; exact li_B0 W hq i (by omega)
theorem li_wle {aw an : Nat → Int32} {W N : Nat → Nat} (hG : gr_G aw an W N) {s t : Nat} (h : li_w W s = some t) : t ≤ 63 := by
  have := li_Tle hG _ _ _ _ h
  have := gb_size7 s
  omega
theorem li_Ble {aw an : Nat → Int32} {W N : Nat → Nat} (hG : gr_G aw an W N) {q : Nat} : ∀ i t, li_B W q i = some t → t ≤ 63
  | 0, t, h => by cases h
  | i + 1, t, h => by
    have h' : (if i &&& q = q then li_mn (li_B W q i) (li_w W i) else li_B W q i) = some t := h
    split at h'
    · cases e1 : li_B W q i with
      | none =>
        cases e2 : li_w W i with
        | none => rw [e1, e2] at h'; cases h'
        | some y => rw [e1, e2] at h'; cases h'; exact li_wle hG e2
      | some x =>
        cases e2 : li_w W i with
        | none => rw [e1, e2] at h'; cases h'; exact li_Ble hG i _ e1
        | some y =>
          rw [e1, e2] at h'
          have a := li_Ble hG i _ e1
          have b := li_wle hG e2
          have h2 : (if y ≤ x then some y else some x) = some t := h'
          split at h2 <;> cases h2 <;> omega
    · exact li_Ble hG i _ h'
def li_Y2 : Option Nat → Int32
  | none => -2
  | some t => nI t
theorem li_n2 {t : Nat} (h : t < 2 ^ 31) : ¬ nI t = -2 := by
  intro z
  have := congrArg Int32.toInt z
  rw [nI_toInt h] at this
  have q : (-2 : Int32).toInt = -2 := by decide
  omega
theorem i_vc_link {k : Nat} {u : SX} {v : SY} (I : i_Rel k u v) (hk : k + 4 ≤ 2048) (v1 : Int32) : wpX_link (fun r => wpY_link (fun r' => r' = r ∧ i_Rel (k + 4) u v) v v1) u v1 := by
  obtain ⟨aw, an, sp, po, wy, pa, pr, co⟩ := u
  obtain ⟨rd, bw, od, li, pt, ps, cf, fl, lv, lf⟩ := v
  have I0 : i_Rel (k + 4) (aw, an, sp, po, wy, pa, pr, co) (rd, bw, od, li, pt, ps, cf, fl, lv, lf) := I
  obtain ⟨e, ⟨W, N, hG⟩, hO⟩ := I
  have e' : bw = aw := e
  subst e'
  have hG : gr_G bw an W N := hG
  rcases pk_ix v1 (n := 128) (by decide) with h | h | ⟨c, hc, rfl⟩
  · exact br_t h (br_t h ⟨rfl, I0⟩)
  · have := gb_big (n := 127) (by decide) h
    exact br_f this.1 (br_f this.2 (br_f this.1 (br_f this.2 ⟨rfl, I0⟩)))
  have c0 : ¬ nI c < 0 := nI_pos (by omega)
  have c7 : nI c ≤ 127 := nI_le (b := 127) (by omega) (by decide)
  refine br_f c0 (br_t c7 ?_)
  have e0 := li_B0 W hc c (Nat.le_refl c)
  have main : ∃ n, wX_link_17 (fun r => wpY_link (fun r' => r' = r ∧ i_Rel (k + 4) (bw, an, sp, po, wy, pa, pr, co) (rd, bw, od, li, pt, ps, cf, fl, lv, lf)) (rd, bw, od, li, pt, ps, cf, fl, lv, lf) (nI c)) (nI c) bw an sp po wy pa pr co n (li_oX (li_B W c c)) (nI c) := by
    refine gb_lp (fun n i => wX_link_17 (fun r => wpY_link (fun r' => r' = r ∧ i_Rel (k + 4) (bw, an, sp, po, wy, pa, pr, co) (rd, bw, od, li, pt, ps, cf, fl, lv, lf)) (rd, bw, od, li, pt, ps, cf, fl, lv, lf) (nI c)) (nI c) bw an sp po wy pa pr co n (li_oX (li_B W c i)) (nI i)) 128 c (by omega) (fun n => br_t (nI_le (a := 128) (Nat.le_refl 128) (by decide)) ?_) (fun n i _ hi K => br_f (nI_ge (b := 128) hi (by decide)) ?_)
    · have fin : ∀ r, r = li_Y2 (li_B W c 128) → wpY_link (fun r' => r' = r ∧ i_Rel (k + 4) (bw, an, sp, po, wy, pa, pr, co) (rd, bw, od, li, pt, ps, cf, fl, lv, lf)) (rd, bw, od, li, pt, ps, cf, fl, lv, lf) (nI c) := by
        intro r hr
        subst hr
        refine br_f c0 (br_t c7 ?_)
        refine gb_lp (fun n i => wY_link_17 (fun r' => r' = li_Y2 (li_B W c 128) ∧ i_Rel (k + 4) (bw, an, sp, po, wy, pa, pr, co) (rd, bw, od, li, pt, ps, cf, fl, lv, lf)) (nI c) rd bw od li pt ps cf fl lv lf n (li_Y2 (li_B W c i)) (nI i)) 128 0 (by omega) (fun n => br_t (nI_le (a := 128) (Nat.le_refl 128) (by decide)) ⟨rfl, I0⟩) (fun n i _ hi K => br_f (nI_ge (b := 128) hi (by decide)) ?_)
        have sup := li_sup i hi c hc
        refine pk_eq (c &&& (127 ^^^ i)) 0 (fun z => ?_) (fun z => ?_) (gb_cpl hc) rfl (by have := gb_and_lt (b := 127 ^^^ i) hc; omega) (by omega)
        · have hsup : i &&& c = c := Classical.byContradiction (fun q => sup.2 q z)
          have es : li_B W c (i + 1) = li_mn (li_B W c i) (li_w W i) := if_pos hsup
          rw [es] at K
          refine li_yt hG i hi ?_
          cases e2 : li_w W i with
          | none =>
            rw [e2] at K
            refine br_t (by decide) (nm_r (nI_1 i) ?_)
            cases e1 : li_B W c i <;> rw [e1] at K <;> exact K
          | some t =>
            have t63 := li_wle hG e2
            rw [e2] at K
            refine br_f (nI_pos (by omega)) ?_
            cases e1 : li_B W c i with
            | none => rw [e1] at K; exact br_t rfl (nm_r (nI_1 i) K)
            | some m =>
              have m63 := li_Ble hG i m e1
              rw [e1] at K
              refine br_f (li_n2 (by omega)) (pk_le m t (fun y => nm_r (nI_1 i) ?_) (fun y => nm_r (nI_1 i) ?_))
              · by_cases ee : t ≤ m
                · have : t = m := by omega
                  subst this
                  have q : li_mn (some t) (some t) = some t := if_pos (Nat.le_refl t)
                  rw [q] at K; exact K
                · have q : li_mn (some m) (some t) = some m := if_neg ee
                  rw [q] at K; exact K
              · have q : li_mn (some m) (some t) = some t := if_pos (by omega)
                rw [q] at K; exact K
        · have hsup : ¬ i &&& c = c := fun q => z (sup.1 q).1
          have es : li_B W c (i + 1) = li_B W c i := if_neg hsup
          rw [es] at K
          exact br_t (by decide) (nm_r (nI_1 i) K)
      cases e1 : li_B W c 128 with
      | none => exact br_t (by decide) (fin _ (by rw [e1]; rfl))
      | some m =>
        have m63 := li_Ble hG 128 m e1
        exact br_f (nI_ge (b := 1000000) (by omega) (by decide)) (fin _ (by rw [e1]; rfl))
    · refine pk_eq (i &&& c) c (fun z => li_xt hG i hi ?_) (fun z => nm_r (nI_1 i) ?_) (nx_and i c) rfl (by have := gb_and_lt (b := c) hi; omega) (by omega)
      · have es : li_B W c (i + 1) = li_mn (li_B W c i) (li_w W i) := if_pos z
        rw [es] at K
        cases e2 : li_w W i with
        | none =>
          rw [e2] at K
          cases e1 : li_B W c i with
          | none => rw [e1] at K; exact br_t (by decide) (nm_r (nI_1 i) K)
          | some m =>
            have m63 := li_Ble hG i m e1
            rw [e1] at K
            exact br_f (nI_ge (b := 1000000) (by omega) (by decide)) (nm_r (nI_1 i) K)
        | some t =>
          have t63 := li_wle hG e2
          rw [e2] at K
          cases e1 : li_B W c i with
          | none => rw [e1] at K; exact br_t (nI_le (b := 1000000) (by omega) (by decide)) (nm_r (nI_1 i) K)
          | some m =>
            have m63 := li_Ble hG i m e1
            rw [e1] at K
            refine pk_le t m (fun y => nm_r (nI_1 i) ?_) (fun y => nm_r (nI_1 i) ?_)
            · have q : li_mn (some m) (some t) = some t := if_pos y
              rw [q] at K; exact K
            · have q : li_mn (some m) (some t) = some m := if_neg (by omega)
              rw [q] at K; exact K
      · have es : li_B W c (i + 1) = li_B W c i := if_neg z
        rw [es] at K; exact K
  rw [e0] at main
  exact main

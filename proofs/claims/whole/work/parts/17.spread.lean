/-! the smallest cost of an order, by sets -/
def od_c (g : Nat → Nat → Nat → Nat) (o : Nat → Nat) : Nat → Nat
  | 0 => 0
  | n + 1 => g (od_c g o n) (sq_s o n) (o n)
def od_M (g : Nat → Nat → Nat → Nat) (s w : Nat) : Prop := (∃ o n, sq_D o n ∧ sq_s o n = s ∧ od_c g o n = w) ∧ (∀ o n, sq_D o n → sq_s o n = s → w ≤ od_c g o n)
theorem od_u {g : Nat → Nat → Nat → Nat} {s w w' : Nat} (h : od_M g s w) (h' : od_M g s w') : w = w' := by
  obtain ⟨⟨o, n, a, b, c⟩, d⟩ := h
  obtain ⟨⟨o', n', a', b', c'⟩, d'⟩ := h'
  have := d o' n' a' b'
  have := d' o n a b
  omega
theorem od_cong (g : Nat → Nat → Nat → Nat) {o p : Nat → Nat} : ∀ n, (∀ j, j < n → o j = p j) → od_c g o n = od_c g p n
  | 0, _ => rfl
  | n + 1, h => by
    show g (od_c g o n) (sq_s o n) (o n) = g (od_c g p n) (sq_s p n) (p n)
    rw [od_cong g n (fun j hj => h j (by omega)), sq_cong n (fun j hj => h j (by omega)), h n (by omega)]
theorem od_0 (g : Nat → Nat → Nat → Nat) : od_M g 0 0 :=
  ⟨⟨fun _ => 0, 0, ⟨fun j hj => absurd hj (Nat.not_lt_zero j), fun _ j _ hj => absurd hj (Nat.not_lt_zero j)⟩, rfl, rfl⟩, fun _ _ _ _ => Nat.zero_le _⟩
theorem od_le {g : Nat → Nat → Nat → Nat} {m : Nat} (hg : ∀ c s v, g c s v ≤ c + m) (o : Nat → Nat) : ∀ n, od_c g o n ≤ n * m
  | 0 => Nat.zero_le _
  | n + 1 => by
    have a := od_le hg o n
    have b := hg (od_c g o n) (sq_s o n) (o n)
    rw [Nat.succ_mul]
    show g (od_c g o n) (sq_s o n) (o n) ≤ _
    omega
theorem od_Mle {g : Nat → Nat → Nat → Nat} {m s w : Nat} (hg : ∀ c s v, g c s v ≤ c + m) (h : od_M g s w) : w ≤ 7 * m := by
  obtain ⟨⟨o, n, a, b, c⟩, _⟩ := h
  have := od_le hg o n
  have h7 := sq_7 a
  have := Nat.mul_le_mul_right m h7
  omega
theorem od_step {g : Nat → Nat → Nat → Nat} (mono : ∀ a b s v, a ≤ b → g a s v ≤ g b s v) {s w : Nat} (h0 : s ≠ 0) (d : Nat → Nat) (hd : ∀ v, v < 7 → s.testBit v = true → od_M g (s ^^^ 2 ^ v) (d v)) (h1 : ∃ v, v < 7 ∧ s.testBit v = true ∧ w = g (d v) (s ^^^ 2 ^ v) v) (h2 : ∀ v, v < 7 → s.testBit v = true → w ≤ g (d v) (s ^^^ 2 ^ v) v) : od_M g s w := by
  constructor
  · obtain ⟨v, hv, hb, e⟩ := h1
    obtain ⟨⟨o, n, a, b, c⟩, _⟩ := hd v hv hb
    have nb : (sq_s o n).testBit v = false := by rw [b]; exact sq_xt hb
    refine ⟨sq_x o n v, n + 1, sq_xD a hv nb, ?_, ?_⟩
    · rw [sq_xS, b, sq_xor hb]
    · show g (od_c g (sq_x o n v) n) (sq_s (sq_x o n v) n) (sq_x o n v n) = w
      rw [sq_xs, sq_xn, od_cong g n (fun j hj => sq_xj (v := v) hj), b, c, e]
  · intro o n a b
    cases n with
    | zero => exact absurd b.symm h0
    | succ n =>
      have hv := a.1 n (by omega)
      have hb : s.testBit (o n) = true := by rw [← b]; exact (sq_t (n + 1)).2 ⟨n, by omega, rfl⟩
      have e : s ^^^ 2 ^ o n = sq_s o n := by rw [← b]; exact sq_back a
      have := (hd (o n) hv hb).2 o n (sq_pre a) e.symm
      have m := mono _ _ (s ^^^ 2 ^ o n) (o n) this
      have l := h2 (o n) hv hb
      show w ≤ g (od_c g o n) (sq_s o n) (o n)
      rw [← e]; omega
/-- the smallest over a set's vertices -/
def od_b (f : Nat → Nat) (s : Nat) : Nat → Nat
  | 0 => 1000000
  | v + 1 => if s.testBit v = true then min (od_b f s v) (f v) else od_b f s v
theorem od_b1 (f : Nat → Nat) (s : Nat) : ∀ i, od_b f s i ≤ 1000000 ∧ (∀ v, v < i → s.testBit v = true → od_b f s i ≤ f v) ∧ (od_b f s i = 1000000 ∨ ∃ v, v < i ∧ s.testBit v = true ∧ od_b f s i = f v)
  | 0 => ⟨Nat.le_refl _, fun v h => absurd h (Nat.not_lt_zero v), Or.inl rfl⟩
  | i + 1 => by
    obtain ⟨a, b, c⟩ := od_b1 f s i
    by_cases h : s.testBit i = true
    · have e : od_b f s (i + 1) = min (od_b f s i) (f i) := if_pos h
      rw [e]
      refine ⟨by omega, fun v hv hb => ?_, ?_⟩
      · by_cases z : v = i
        · subst z; omega
        · have := b v (by omega) hb; omega
      · by_cases m : od_b f s i ≤ f i
        · rw [Nat.min_eq_left m]
          rcases c with c | ⟨v, hv, hb, ev⟩
          · exact Or.inl c
          · exact Or.inr ⟨v, by omega, hb, ev⟩
        · exact Or.inr ⟨i, by omega, h, Nat.min_eq_right (by omega)⟩
    · have e : od_b f s (i + 1) = od_b f s i := if_neg h
      rw [e]
      refine ⟨a, fun v hv hb => ?_, ?_⟩
      · by_cases z : v = i
        · subst z; exact absurd hb h
        · exact b v (by omega) hb
      · rcases c with c | ⟨v, hv, hb, ev⟩
        · exact Or.inl c
        · exact Or.inr ⟨v, by omega, hb, ev⟩
theorem od_any : ∀ s, s < 128 → 0 < s → ∃ v, v < 7 ∧ s.testBit v = true := by decide +kernel
theorem od_b7 (f : Nat → Nat) {s : Nat} (hs : s < 128) (h0 : 0 < s) (hf : ∀ v, v < 7 → s.testBit v = true → f v < 1000000) : ∃ v, v < 7 ∧ s.testBit v = true ∧ od_b f s 7 = f v := by
  obtain ⟨a, b, c⟩ := od_b1 f s 7
  rcases c with c | c
  · obtain ⟨v, hv, hb⟩ := od_any s hs h0
    have := b v hv hb
    have := hf v hv hb
    omega
  · exact c
theorem gb_xr {i v : Nat} (hv : v < 7) : nI i ^^^ ((1 : Int32) <<< (nI v &&& 31)) = nI (i ^^^ 2 ^ v) := by
  rw [gb_sh v (by omega), nx_xor]
theorem gb_xless : ∀ s, s < 128 → ∀ v, v < 7 → s.testBit v = true → s ^^^ 2 ^ v < s := by decide +kernel
section
variable {aw an sp po wy pa pr co : Nat → Int32} {W N : Nat → Nat} {rd : Int32} {od li pt ps cf fl lv lf : Nat → Int32}
theorem od_cb {post : Int32 → Prop} (s : Nat) (hs : s < 128) (d : Nat → Nat) (hd : ∀ v, v < 7 → s.testBit v = true → co (s ^^^ 2 ^ v) = nI (d v) ∧ d v < 1000000) (h : post (nI (od_b d s 7))) : wpX_cheapestBefore post (aw, an, sp, po, wy, pa, pr, co) (nI s) := by
  refine gb_lp (fun n v => wX_cheapestBefore_5 post (nI s) aw an sp po wy pa pr co n (nI (od_b d s v)) (nI v)) 7 0 (by omega) (fun n => br_t (nI_le (a := 7) (Nat.le_refl 7) (by decide)) h) (fun n v _ hv K => br_f (nI_ge (b := 7) hv (by decide)) (gb_has s v (by omega) (by omega) (fun hb => ?_) (fun hb => nm_r (nI_1 v) ?_)))
  · have hl := gb_xless s hs v hv hb
    obtain ⟨e, l⟩ := hd v hv hb
    have b1 := (od_b1 d s v).1
    rw [gb_xr hv, nI_clamp (by omega), e]
    refine ⟨vp_in_nI (by omega) (by decide), gb_xmin _ _ (by omega) (by omega) (nm_r (nI_1 v) ?_)⟩
    have q : od_b d s (v + 1) = min (od_b d s v) (d v) := if_pos hb
    rw [← q]; exact K
  · have q : od_b d s (v + 1) = od_b d s v := if_neg (by rw [hb]; decide)
    rw [← q]; exact K
def sd_e (W : Nat → Nat) (i : Nat) : Nat := if 0 < W i then 1 else 0
theorem sd_row (hG : gr_G aw an W N) {s v : Nat} (hv : v < 7) : ∀ b, b ≤ 7 → wc_f (sd_e W) s (7 * v + b) = wc_f (sd_e W) s (7 * v) + if s.testBit v = true then gb_sz (N v &&& (127 ^^^ s)) b else 0
  | 0, _ => by split <;> rfl
  | b + 1, h => by
    have ih := sd_row hG (s := s) hv b (by omega)
    have ed : (7 * v + b) / 7 = v := by omega
    have em : (7 * v + b) % 7 = b := by omega
    have ht := gr_t hG hv (b := b) (by omega)
    have hf := gr_f hG hv (b := b) (by omega)
    have tb := gb_and127 (N v) s b (by omega)
    show wc_f (sd_e W) s (7 * v + b) + (if s.testBit ((7 * v + b) / 7) = true ∧ s.testBit ((7 * v + b) % 7) = false then sd_e W (7 * v + b) else 0) = _
    rw [ih, ed, em, Nat.add_assoc]
    congr 1
    by_cases hs : s.testBit v = true
    · rw [if_pos hs, if_pos hs]
      unfold sd_e
      cases hb : s.testBit b with
      | true =>
        rw [gb_szf (by rw [tb, hb]; simp), if_neg (fun z => absurd z.2 (by decide))]
        rfl
      | false =>
        rw [if_pos ⟨hs, rfl⟩]
        cases hn : (N v).testBit b with
        | true =>
          rw [gb_szt (by rw [tb, hb, hn]; rfl), if_pos (ht.1 hn)]
        | false =>
          rw [gb_szf (by rw [tb, hb, hn]; rfl), if_neg (by have := hf.1 hn; omega)]
          rfl
    · rw [if_neg hs, if_neg hs, if_neg (fun z => hs z.1)]
theorem sd_x (hG : gr_G aw an W N) {post : Int32 → Prop} (s : Nat) (hs : s < 128) (h : post (nI (wc_s (sd_e W) s))) : wpX_edgesAcross post (aw, an, sp, po, wy, pa, pr, co) (nI s) := by
  refine gb_lp (fun n v => wX_edgesAcross_4 post (nI s) aw an sp po wy pa pr co n (nI (wc_f (sd_e W) s (7 * v))) (nI v)) 7 0 (by omega) (fun n => br_t (nI_le (a := 7) (Nat.le_refl 7) (by decide)) h) (fun n v _ hv K => br_f (nI_ge (b := 7) hv (by decide)) ?_)
  have r : wc_f (sd_e W) s (7 * (v + 1)) = _ := sd_row hG (s := s) hv 7 (Nat.le_refl 7)
  refine gb_has s v (by omega) (by omega) (fun hb => ⟨vp_in_nI hv (by decide), ?_⟩) (fun hb => nm_r (nI_1 v) ?_)
  · rw [gr_nc hG v hv, gb_cpl (gr_nl hG hv)]
    refine gb_xsize _ (by have := gb_and_lt (b := 127 ^^^ s) (gr_nl hG hv); omega) (nm_r (e' := nI (wc_f (sd_e W) s (7 * (v + 1)))) ?_ (nm_r (nI_1 v) K))
    rw [r, if_pos hb, nI_add]; rfl
  · rw [r, if_neg (by rw [hb]; decide)] at K; exact K
end
theorem sd_e1 (W : Nat → Nat) (i : Nat) : sd_e W i ≤ 1 := by
  unfold sd_e
  split <;> omega
theorem sd_le (W : Nat → Nat) (s : Nat) : wc_s (sd_e W) s ≤ 49 := wc_le (m := 1) s 49 (fun j _ => sd_e1 W j)
/-! Y: the smallest over the codes -/
def od_y (cap : Nat) (f : Nat → Nat) : Nat → Nat
  | 0 => cap
  | c + 1 => min (od_y cap f c) (f c)
theorem od_y1 (cap : Nat) (f : Nat → Nat) : ∀ n, od_y cap f n ≤ cap ∧ (∀ c, c < n → od_y cap f n ≤ f c) ∧ (od_y cap f n = cap ∨ ∃ c, c < n ∧ od_y cap f n = f c)
  | 0 => ⟨Nat.le_refl _, fun c h => absurd h (Nat.not_lt_zero c), Or.inl rfl⟩
  | n + 1 => by
    obtain ⟨a, b, c⟩ := od_y1 cap f n
    have e : od_y cap f (n + 1) = min (od_y cap f n) (f n) := rfl
    rw [e]
    refine ⟨by omega, fun x hx => ?_, ?_⟩
    · by_cases z : x = n
      · subst z; omega
      · have := b x (by omega); omega
    · by_cases m : od_y cap f n ≤ f n
      · rw [Nat.min_eq_left m]
        rcases c with c | ⟨v, hv, ev⟩
        · exact Or.inl c
        · exact Or.inr ⟨v, by omega, ev⟩
      · exact Or.inr ⟨n, by omega, Nat.min_eq_right (by omega)⟩
theorem od_n7 {o : Nat → Nat} {n : Nat} (h : sq_D o n) (e : sq_s o n = 127) : n = 7 := by
  have := sq_size n h
  rw [e] at this
  exact this.symm.trans (by decide)
theorem od_yM {g : Nat → Nat → Nat → Nat} {cap : Nat} (hc : od_c g (pm_at 0) 7 < cap) : od_M g 127 (od_y cap (fun c => od_c g (pm_at c) 7) 5040) := by
  obtain ⟨a, b, c⟩ := od_y1 cap (fun c => od_c g (pm_at c) 7) 5040
  have b0 : od_y cap (fun c => od_c g (pm_at c) 7) 5040 ≤ od_c g (pm_at 0) 7 := b 0 (by decide)
  constructor
  · rcases c with c | ⟨x, hx, ex⟩
    · omega
    · exact ⟨pm_at x, 7, pm_seq x, sq_full (pm_seq x), ex.symm⟩
  · intro o n d e
    have := od_n7 d e
    subst this
    obtain ⟨x, hx, hj⟩ := pm_code o d
    have l : od_y cap (fun c => od_c g (pm_at c) 7) 5040 ≤ od_c g (pm_at x) 7 := b x hx
    rw [od_cong g 7 hj] at l
    exact l
/-! spread -/
def sd_g (W : Nat → Nat) (c s v : Nat) : Nat := max c (wc_s (sd_e W) (s ||| 2 ^ v))
theorem sd_gm (W : Nat → Nat) (a b s v : Nat) (h : a ≤ b) : sd_g W a s v ≤ sd_g W b s v := by
  unfold sd_g; omega
theorem sd_g49 (W : Nat → Nat) (c s v : Nat) : sd_g W c s v ≤ c + 49 := by
  have := sd_le W (s ||| 2 ^ v)
  unfold sd_g; omega
theorem sd_c49 (W : Nat → Nat) (o : Nat → Nat) : ∀ n, od_c (sd_g W) o n ≤ 49
  | 0 => Nat.zero_le _
  | n + 1 => by
    have a := sd_c49 W o n
    have b := sd_le W (sq_s o n ||| 2 ^ o n)
    show max _ _ ≤ 49
    omega
section
variable {aw an sp po wy pa pr co : Nat → Int32} {W N : Nat → Nat} {rd : Int32} {od li pt ps cf fl lv lf : Nat → Int32}
theorem sd_X (hG : gr_G aw an W N) {post : Int32 → SX → Prop} (h : ∀ w co', od_M (sd_g W) 127 w → post (nI w) (aw, an, sp, po, wy, pa, pr, co')) : wpX_spread post (aw, an, sp, po, wy, pa, pr, co) := by
  refine nm_r rfl ?_
  have main := gb_lp (fun n i => ∀ q : Nat → Int32, (∀ s, s < i → ∃ w, q s = nI w ∧ od_M (sd_g W) s w) → wX_spread_9 post n (nI i) aw an sp po wy pa pr q) 128 1 (by omega) (fun n q hq => br_t (nI_le (a := 128) (Nat.le_refl _) (by decide)) ?_) (fun n i hi1 hi K q hq => br_f (nI_ge (b := 128) hi (by decide)) ?_)
  · obtain ⟨n, hn⟩ := main
    refine ⟨n, hn _ (fun s hs => ?_)⟩
    have : s = 0 := by omega
    subst this
    exact ⟨0, pk_us, od_0 _⟩
  · obtain ⟨w, e, m⟩ := hq 127 (by decide)
    rw [e]; exact h w q m
  · have ex : ∃ d : Nat → Nat, ∀ v, v < 7 → i.testBit v = true → q (i ^^^ 2 ^ v) = nI (d v) ∧ od_M (sd_g W) (i ^^^ 2 ^ v) (d v) := by
      refine ⟨fun v => (q (i ^^^ 2 ^ v)).toNatClampNeg, fun v hv hb => ?_⟩
      obtain ⟨w, e, m⟩ := hq _ (gb_xless i hi v hv hb)
      have := od_Mle (sd_g49 W) m
      dsimp only
      rw [e, nI_clamp (by omega)]
      exact ⟨rfl, m⟩
    obtain ⟨d, hd⟩ := ex
    have dl : ∀ v, v < 7 → i.testBit v = true → d v < 1000000 := fun v hv hb => by
      have := od_Mle (sd_g49 W) (hd v hv hb).2
      omega
    obtain ⟨b0, b1, _⟩ := od_b1 d i 7
    have b2 := od_b7 d hi hi1 dl
    have e49 := sd_le W i
    refine od_cb i hi d (fun v hv hb => ⟨(hd v hv hb).1, dl v hv hb⟩) (sd_x hG i hi (gb_xmax _ _ (by omega) (by omega) ⟨vp_in_nI hi (by decide), nm_r rfl (nm_r (nI_1 i) (K _ (fun s hs => ?_)))⟩))
    rw [nI_clamp (by omega)]
    by_cases z : s = i
    · subst z
      refine ⟨_, pk_us, od_step (sd_gm W) (by omega) d (fun v hv hb => (hd v hv hb).2) ?_ (fun v hv hb => ?_)⟩
      · obtain ⟨v, hv, hb, ev⟩ := b2
        refine ⟨v, hv, hb, ?_⟩
        unfold sd_g
        rw [sq_xor hb, ev]
      · have := b1 v hv hb
        unfold sd_g
        rw [sq_xor hb]
        omega
    · rw [pk_un z]; exact hq s (by omega)
theorem sd_lv (hG : gr_G aw an W N) {post : SY → Prop} (h : ∀ lv' : Nat → Int32, (∀ s, s < 128 → lv' s = nI (wc_s (sd_e W) s)) → post (rd, aw, od, li, pt, ps, cf, fl, lv', lf)) : wpY_findLeaving post (rd, aw, od, li, pt, ps, cf, fl, lv, lf) 0 := by
  have main := gb_lp (fun n i => ∀ q : Nat → Int32, (∀ s, s < i → q s = nI (wc_s (sd_e W) s)) → wY_findLeaving_2 post 0 rd n (nI i) aw od li pt ps cf fl q lf) 128 0 (by omega) (fun n q hq => br_t (nI_le (a := 128) (Nat.le_refl _) (by decide)) (h q hq)) (fun n i _ hi K q hq => br_f (nI_ge (b := 128) hi (by decide)) (wc_out hG i hi 0 (sd_e W) (Or.inl ⟨rfl, fun _ => rfl⟩) ⟨vp_in_nI hi (by decide), nm_r rfl (nm_r (nI_1 i) (K _ (fun s hs => ?_)))⟩))
  · obtain ⟨n, hn⟩ := main
    exact ⟨n, hn lv (fun s hs => absurd hs (Nat.not_lt_zero s))⟩
  · rw [nI_clamp (by omega)]
    by_cases e : s = i
    · subst e; exact pk_us
    · rw [pk_un e]; exact hq s (by omega)
theorem sd_Y (hG : gr_G aw an W N) (hO : gr_O rd od) {post : Int32 → SY → Prop} (h : ∀ w (rd' : Int32) (od' li' lv' : Nat → Int32), gr_O rd' od' → od_M (sd_g W) 127 w → post (nI w) (rd', aw, od', li', pt, ps, cf, fl, lv', lf)) : wpY_spread post (rd, aw, od, li, pt, ps, cf, fl, lv, lf) := by
  unfold wpY_spread
  refine sd_lv hG (fun lv' hlv => or_make hO (fun rd' od' hO' hod => ?_))
  have main := gb_lp (fun n c => ∀ l : Nat → Int32, wY_spread_14 post n (nI (od_y 100 (fun c => od_c (sd_g W) (pm_at c) 7) c)) (nI c) rd' aw od' l pt ps cf fl lv' lf) 5040 0 (by omega) (fun n l => br_t (nI_le (a := 5040) (Nat.le_refl _) (by decide)) (h _ _ _ _ _ hO' (od_yM (by have := sd_c49 W (pm_at 0) 7; omega)))) (fun n c _ hc K l => br_f (nI_ge (b := 5040) hc (by decide)) (or_write c hc hod (fun l' hl' => ?_)))
  · obtain ⟨n, hn⟩ := main
    exact ⟨n, hn li⟩
  have q100 := (od_y1 100 (fun c => od_c (sd_g W) (pm_at c) 7) c).1
  have D := pm_seq c
  refine gb_lp (fun m k => wY_spread_34 post (wY_spread_14 post n) (nI (od_y 100 (fun c => od_c (sd_g W) (pm_at c) 7) c)) (nI c) rd' aw od' l' pt ps cf fl lv' lf m (nI (sq_s (pm_at c) k)) (nI (od_c (sd_g W) (pm_at c) k)) (nI k)) 7 0 (by omega) (fun m => br_t (nI_le (a := 7) (Nat.le_refl 7) (by decide)) ?_) (fun m k _ hk L => br_f (nI_ge (b := 7) hk (by decide)) ⟨vp_in_nI hk (by decide), ?_⟩)
  · have c49 := sd_c49 W (pm_at c) 7
    have K' := K l'
    refine pk_le (od_y 100 (fun c => od_c (sd_g W) (pm_at c) 7) c) (od_c (sd_g W) (pm_at c) 7) (fun z => nm_r (nI_1 c) ?_) (fun z => nm_r (nI_1 c) ?_)
    · have e : od_y 100 (fun c => od_c (sd_g W) (pm_at c) 7) (c + 1) = od_y 100 (fun c => od_c (sd_g W) (pm_at c) 7) c := Nat.min_eq_left z
      rw [e] at K'; exact K'
    · have e : od_y 100 (fun c => od_c (sd_g W) (pm_at c) 7) (c + 1) = od_c (sd_g W) (pm_at c) 7 := Nat.min_eq_right (Nat.le_of_lt z)
      rw [e] at K'; exact K'
  · have v7 := D.1 k hk
    have s128 := sq_lt (o := pm_at c) (k + 1) (fun j hj => D.1 j (by omega))
    have c49 := sd_c49 W (pm_at c) k
    have e49 := sd_le W (sq_s (pm_at c) (k + 1))
    have ev : lv' (nI (sq_s (pm_at c) (k + 1))).toNatClampNeg = nI (wc_s (sd_e W) (sq_s (pm_at c) (k + 1))) := by
      rw [nI_clamp (by omega)]; exact hlv _ s128
    refine nm_r (e' := nI (sq_s (pm_at c) (k + 1))) ?_ ⟨vp_in_nI s128 (by decide), pk_le (wc_s (sd_e W) (sq_s (pm_at c) (k + 1))) (od_c (sd_g W) (pm_at c) k) (fun z => nm_r (nI_1 k) ?_) (fun z => ⟨vp_in_nI s128 (by decide), nm_r ev (nm_r (nI_1 k) ?_)⟩) ev rfl (by omega) (by omega)⟩
    · rw [nI_clamp (by omega), hl' k hk, gb_sh _ (by omega), gb_or]; rfl
    · have e : od_c (sd_g W) (pm_at c) (k + 1) = od_c (sd_g W) (pm_at c) k := Nat.max_eq_left z
      rw [e] at L; exact L
    · have e : od_c (sd_g W) (pm_at c) (k + 1) = wc_s (sd_e W) (sq_s (pm_at c) (k + 1)) := Nat.max_eq_right (Nat.le_of_lt z)
      rw [e] at L; exact L
end
theorem i_vc_spread {k : Nat} {u : SX} {v : SY} (I : i_Rel k u v) (hk : k + 4 ≤ 2048) : wpX_spread (fun r u' => wpY_spread (fun r' v' => r' = r ∧ i_Rel (k + 4) u' v') v) u := by
  obtain ⟨aw, an, sp, po, wy, pa, pr, co⟩ := u
  obtain ⟨rd, bw, od, li, pt, ps, cf, fl, lv, lf⟩ := v
  obtain ⟨e, ⟨W, N, hG⟩, hO⟩ := I
  have e' : bw = aw := e
  subst e'
  have hG : gr_G bw an W N := hG
  have hO : gr_O rd od := hO
  refine sd_X hG (fun w co' hw => sd_Y hG hO (fun w' rd' od' li' lv' hO' hw' => ⟨?_, rfl, ⟨W, N, hG⟩, hO'⟩))
  rw [od_u hw hw']

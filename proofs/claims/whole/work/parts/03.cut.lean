/-! what the graph gives -/
theorem gr_w {aw an : Nat → Int32} {W N : Nat → Nat} (h : gr_G aw an W N) {i : Nat} (hi : i < 49) : aw i = nI (W i) := (h.1 i hi).1
theorem gr_9 {aw an : Nat → Int32} {W N : Nat → Nat} (h : gr_G aw an W N) {i : Nat} (hi : i < 49) : W i ≤ 9 := (h.1 i hi).2
theorem gr_sy {aw an : Nat → Int32} {W N : Nat → Nat} (h : gr_G aw an W N) {a b : Nat} (ha : a < 7) (hb : b < 7) : W (7 * a + b) = W (7 * b + a) := h.2.1 a b ha hb
theorem gr_dg {aw an : Nat → Int32} {W N : Nat → Nat} (h : gr_G aw an W N) {a : Nat} (ha : a < 7) : W (7 * a + a) = 0 := h.2.2.1 a ha
theorem gr_n {aw an : Nat → Int32} {W N : Nat → Nat} (h : gr_G aw an W N) {a : Nat} (ha : a < 7) : an a = nI (N a) := (h.2.2.2.1 a ha).1
theorem gr_nl {aw an : Nat → Int32} {W N : Nat → Nat} (h : gr_G aw an W N) {a : Nat} (ha : a < 7) : N a < 128 := (h.2.2.2.1 a ha).2
theorem gr_t {aw an : Nat → Int32} {W N : Nat → Nat} (h : gr_G aw an W N) {a b : Nat} (ha : a < 7) (hb : b < 7) : (N a).testBit b = true ↔ 0 < W (7 * a + b) := h.2.2.2.2 a b ha hb
theorem gr_f {aw an : Nat → Int32} {W N : Nat → Nat} (h : gr_G aw an W N) {a b : Nat} (ha : a < 7) (hb : b < 7) : (N a).testBit b = false ↔ W (7 * a + b) = 0 := by
  have := gr_t h ha hb
  cases e : (N a).testBit b
  · rw [e] at this; simp at this ⊢; omega
  · rw [e] at this; simp at this ⊢; omega
theorem gr_wc {aw an : Nat → Int32} {W N : Nat → Nat} (h : gr_G aw an W N) {x : Int32} (i : Nat) (hi : i < 49) (hx : x = nI i := by rfl) : aw x.toNatClampNeg = nI (W i) := by
  subst hx
  rw [nI_clamp (by omega)]; exact gr_w h hi
theorem gr_nc {aw an : Nat → Int32} {W N : Nat → Nat} (h : gr_G aw an W N) {x : Int32} (i : Nat) (hi : i < 7) (hx : x = nI i := by rfl) : an x.toNatClampNeg = nI (N i) := by
  subst hx
  rw [nI_clamp (by omega)]; exact gr_n h hi
theorem gb_xmax {post : Int32 → Prop} (a b : Nat) (ha : a < 2 ^ 31) (hb : b < 2 ^ 31) (h : post (nI (max a b))) : wpX_greater post (nI a) (nI b) :=
  pk_le a b (fun z => by rw [Nat.max_eq_right z] at h; exact h) (fun z => by rw [Nat.max_eq_left (by omega)] at h; exact h)
theorem gb_xmin {post : Int32 → Prop} (a b : Nat) (ha : a < 2 ^ 31) (hb : b < 2 ^ 31) (h : post (nI (min a b))) : wpX_smaller post (nI a) (nI b) :=
  pk_le b a (fun z => by rw [Nat.min_eq_right z] at h; exact h) (fun z => by rw [Nat.min_eq_left (by omega)] at h; exact h)
/-! sums over the edges that leave a set -/
def wc_f (g : Nat → Nat) (s : Nat) : Nat → Nat
  | 0 => 0
  | i + 1 => wc_f g s i + (if s.testBit (i / 7) = true ∧ s.testBit (i % 7) = false then g i else 0)
def wc_s (g : Nat → Nat) (s : Nat) : Nat := wc_f g s 49
theorem wc_le {g : Nat → Nat} {m : Nat} (s : Nat) : ∀ i, (∀ j, j < i → g j ≤ m) → wc_f g s i ≤ i * m
  | 0, _ => Nat.zero_le _
  | i + 1, h => by
    have a := wc_le s i (fun j hj => h j (by omega))
    have b := h i (by omega)
    rw [Nat.succ_mul]
    show wc_f g s i + _ ≤ _
    split <;> omega
theorem wc_y {g : Nat → Nat} {s i : Nat} (h1 : s.testBit (i / 7) = true) (h2 : s.testBit (i % 7) = false) : wc_f g s (i + 1) = wc_f g s i + g i := by
  show _ + ite _ _ _ = _
  rw [if_pos ⟨h1, h2⟩]
theorem wc_n {g : Nat → Nat} {s i : Nat} (h : s.testBit (i / 7) = false ∨ s.testBit (i % 7) = true) : wc_f g s (i + 1) = wc_f g s i := by
  show _ + ite _ _ _ = _
  rw [if_neg]
  · rfl
  · intro z
    rcases h with h | h
    · rw [h] at z; exact absurd z.1 (by decide)
    · rw [h] at z; exact absurd z.2 (by decide)
section
variable {aw an sp po wy pa pr co : Nat → Int32} {W N : Nat → Nat}
theorem wc_x (hG : gr_G aw an W N) {post : Int32 → Prop} (s : Nat) (hs : s < 128) (h : post (nI (wc_s W s))) : wpX_weightAcross post (aw, an, sp, po, wy, pa, pr, co) (nI s) := by
  refine gb_lp (fun n a => wX_weightAcross_4 post (nI s) aw an sp po wy pa pr co n (nI (wc_f W s (7 * a))) (nI a)) 7 0 (by omega) (fun n => br_t (nI_le (a := 7) (Nat.le_refl 7) (by decide)) h) (fun n a _ ha H => br_f (nI_ge (b := 7) ha (by decide)) ?_)
  refine gb_lp (fun m b => wX_weightAcross_13 post (wX_weightAcross_4 post (nI s) aw an sp po wy pa pr co n) (nI s) (nI a) aw an sp po wy pa pr co m (nI (wc_f W s (7 * a + b))) (nI b)) 7 0 (by omega) (fun m => br_t (nI_le (a := 7) (Nat.le_refl 7) (by decide)) (nm_r (nI_1 a) H)) (fun m b _ hb K => br_f (nI_ge (b := 7) hb (by decide)) ?_)
  have ed : (7 * a + b) / 7 = a := by omega
  have em : (7 * a + b) % 7 = b := by omega
  refine gb_has s a (by omega) (by omega) (fun h1 => gb_has s b (by omega) (by omega) (fun h2 => nm_r (nI_1 b) ?_) (fun h2 => ?_)) (fun h1 => nm_r (nI_1 b) ?_)
  · rw [← wc_n (g := W) (i := 7 * a + b) (Or.inr (by rw [em]; exact h2))]; exact K
  · refine ⟨by rw [gb_m7]; exact vp_in_nI (by omega) (by decide), nm_r (e' := nI (wc_f W s (7 * a + (b + 1)))) ?_ (nm_r (nI_1 b) K)⟩
    rw [gr_wc hG (7 * a + b) (by omega) (gb_m7 a b), nI_add]
    exact congrArg nI (wc_y (by rw [ed]; exact h1) (by rw [em]; exact h2)).symm
  · rw [← wc_n (g := W) (i := 7 * a + b) (Or.inl (by rw [ed]; exact h1))]; exact K
/-- Y's out -/
theorem wc_out (hG : gr_G aw an W N) {post : Int32 → Prop} {rd : Int32} {od li pt ps cf fl lv lf : Nat → Int32} (s : Nat) (hs : s < 128) (t : Int32) (g : Nat → Nat) (hg : (t = 0 ∧ ∀ i, g i = if 0 < W i then 1 else 0) ∨ (¬ t = 0 ∧ g = W)) (h : post (nI (wc_s g s))) : wpY_out post (rd, aw, od, li, pt, ps, cf, fl, lv, lf) (nI s) t := by
  refine gb_lp (fun n i => wY_out_5 post (nI s) t rd aw od li pt ps cf fl lv lf n (nI (wc_f g s i)) (nI i)) 49 0 (by omega) (fun n => br_t (nI_le (a := 49) (Nat.le_refl 49) (by decide)) h) (fun n i _ hi K => br_f (nI_ge (b := 49) hi (by decide)) ⟨by decide, ?_⟩)
  have g0 : W i = 0 → g i = 0 := by
    intro z
    rcases hg with ⟨_, hg⟩ | ⟨_, hg⟩
    · rw [hg, z]; rfl
    · rw [hg, z]
  refine gb_is1 s (i / 7) (by omega) (by omega) (fun h1 => ⟨by decide, gb_is0 s (i % 7) (by omega) (by omega) (fun h2 => ⟨vp_in_nI hi (by decide), ?_⟩) (fun h2 => nm_r (nI_1 i) ?_) rfl (gb_r7 (by omega))⟩) (fun h1 => nm_r (nI_1 i) ?_) rfl (gb_d7 (by omega))
  · refine pk_le (W i) 0 (fun z => nm_r (nI_1 i) ?_) (fun z => ?_) (gr_wc hG i hi) rfl (by have := gr_9 hG hi; omega)
    · have := wc_y (g := g) h1 h2
      rw [g0 (by omega)] at this
      rw [← Nat.add_zero (wc_f g s i), ← this]; exact K
    · rcases hg with ⟨ht, hg⟩ | ⟨ht, hg⟩
      · refine br_t ht (nm_r (e' := nI (wc_f g s (i + 1))) ?_ (nm_r (nI_1 i) K))
        rw [wc_y h1 h2, hg, if_pos z, nI_1]
      · refine br_f ht ⟨vp_in_nI hi (by decide), nm_r (e' := nI (wc_f g s (i + 1))) ?_ (nm_r (nI_1 i) K)⟩
        rw [wc_y h1 h2, hg, gr_wc hG i hi, nI_add]
  · rw [← wc_n (g := g) (i := i) (Or.inr h2)]; exact K
  · rw [← wc_n (g := g) (i := i) (Or.inl h1)]; exact K
end
/-! cut -/
def cu_m (W : Nat → Nat) : Nat → Nat
  | 0 => 0
  | i + 1 => max (cu_m W i) (wc_s W i)
theorem gr_ws {aw an : Nat → Int32} {W N : Nat → Nat} (h : gr_G aw an W N) (s : Nat) : wc_s W s ≤ 441 := wc_le (m := 9) s 49 (fun _ hj => gr_9 h hj)
theorem cu_le {aw an : Nat → Int32} {W N : Nat → Nat} (h : gr_G aw an W N) : ∀ i, cu_m W i ≤ 441
  | 0 => Nat.zero_le _
  | i + 1 => Nat.max_le.mpr ⟨cu_le h i, gr_ws h i⟩
theorem i_vc_cut {k : Nat} {u : SX} {v : SY} (I : i_Rel k u v) (hk : k + 4 ≤ 2048) : wpX_cut (fun r => wpY_cut (fun r' => r' = r ∧ i_Rel (k + 4) u v) v) u := by
  obtain ⟨aw, an, sp, po, wy, pa, pr, co⟩ := u
  obtain ⟨rd, bw, od, li, pt, ps, cf, fl, lv, lf⟩ := v
  have I0 := I
  obtain ⟨e, ⟨W, N, hG⟩, hO⟩ := I
  have e' : bw = aw := e
  subst e'
  have hG : gr_G bw an W N := hG
  refine gb_lp (fun n i => wX_cut_4 (fun r => wpY_cut (fun r' => r' = r ∧ i_Rel (k + 4) (bw, an, sp, po, wy, pa, pr, co) (rd, bw, od, li, pt, ps, cf, fl, lv, lf)) (rd, bw, od, li, pt, ps, cf, fl, lv, lf)) bw an sp po wy pa pr co n (nI (cu_m W i)) (nI i)) 128 0 (by omega) (fun n => br_t (nI_le (a := 128) (Nat.le_refl 128) (by decide)) ?_) (fun n i _ hi K => br_f (nI_ge (b := 128) hi (by decide)) ?_)
  · refine gb_lp (fun n i => wY_cut_4 (fun r' => r' = nI (cu_m W 128) ∧ i_Rel (k + 4) (bw, an, sp, po, wy, pa, pr, co) (rd, bw, od, li, pt, ps, cf, fl, lv, lf)) rd bw od li pt ps cf fl lv lf n (nI (cu_m W i)) (nI i)) 128 0 (by omega) (fun n => br_t (nI_le (a := 128) (Nat.le_refl 128) (by decide)) ⟨rfl, I0⟩) (fun n i _ hi K => br_f (nI_ge (b := 128) hi (by decide)) ?_)
    refine wc_out hG i hi 1 W (Or.inr ⟨by decide, rfl⟩) ?_
    have b1 := cu_le hG i
    have b2 := gr_ws hG i
    refine pk_le (wc_s W i) (cu_m W i) (fun z => nm_r (nI_1 i) ?_) (fun z => nm_r (nI_1 i) ?_)
    · have : cu_m W (i + 1) = cu_m W i := Nat.max_eq_left z
      rw [← this]; exact K
    · have : cu_m W (i + 1) = wc_s W i := Nat.max_eq_right (by omega)
      rw [← this]; exact K
  · have b1 := cu_le hG i
    have b2 := gr_ws hG i
    exact wc_x hG i hi (gb_xmax _ _ (by omega) (by omega) (nm_r (nI_1 i) K))

/-! longest -/
def lq_s (W : Nat → Nat) (a t : Nat) : Prop := ∃ o n, pt_P W a o n ∧ t = pt_w W o n
def lq_M (W : Nat → Nat) (a m : Nat) : Prop := lq_s W a m ∧ ∀ t, lq_s W a t → t ≤ m
theorem lq_u {W : Nat → Nat} {a m m' : Nat} (h : lq_M W a m) (h' : lq_M W a m') : m = m' := Nat.le_antisymm (h'.2 m h.1) (h.2 m' h'.1)
theorem lq_0 {W : Nat → Nat} {a : Nat} (ha : a < 7) : lq_s W a 0 := ⟨fun _ => a, 0, ⟨rfl, ⟨fun _ _ => ha, fun i j hi hj => by omega⟩, fun j hj => absurd hj (Nat.not_lt_zero j)⟩, rfl⟩
theorem lq_wm {W : Nat → Nat} {o : Nat → Nat} (n : Nat) : ∀ d, pt_w W o n ≤ pt_w W o (n + d)
  | 0 => Nat.le_refl _
  | d + 1 => Nat.le_trans (lq_wm n d) (Nat.le_add_right _ _)
section
variable {aw an sp po wy pa pr co : Nat → Int32} {W N : Nat → Nat} {rd : Int32} {od li pt ps cf fl lv lf : Nat → Int32}
theorem lq_X (hG : gr_G aw an W N) {post : Int32 → SX → Prop} (a : Nat) (ha : a < 7) (h : ∀ m pa', lq_M W a m → post (nI m) (aw, an, sp, po, wy, pa', pr, co)) : wpX_longest post (aw, an, sp, po, wy, pa, pr, co) (nI a) := by
  unfold wpX_longest
  dsimp only
  refine ed_xg ha (br_f (by decide) (pt_fill hG a ha false (fun q hS hC => ?_)))
  show ∃ n, wX_longest_19 post aw an sp po wy q pr co n 0 0
  have main := gb_lp (fun n i => ∀ m, m ≤ 54 → lq_s W a m → (∀ j, j < i → ∀ w, w ≤ 54 → q j = -nI w → w ≤ m) → wX_longest_19 post aw an sp po wy q pr co n (-nI m) (nI i)) 896 0 (by omega) (fun n m hm hs hl => br_t (nI_le (a := 896) (Nat.le_refl _) (by decide)) ?_) (fun n i _ hi K m hm hs hl => br_f (nI_ge (b := 896) hi (by decide)) ⟨vp_in_nI hi (by decide), ?_⟩)
  · obtain ⟨n, hn⟩ := main
    exact ⟨n, hn 0 (by decide) (lq_0 ha) (fun j hj => absurd hj (Nat.not_lt_zero j))⟩
  · rw [Int32.neg_neg]
    refine h m q ⟨hs, fun t ⟨o, k, hP, et⟩ => ?_⟩
    obtain ⟨w', h', q', b'⟩ := hC o k hP
    have l := sq_lt (o := o) (k + 1) hP.2.1.1
    have l2 := hP.2.1.1 k (by omega)
    have := hl _ (by omega) w' h' q'
    have b2 : pt_w W o k ≤ w' := b'
    omega
  · rw [nI_clamp (by omega)]
    have ei : i = 7 * (i / 7) + i % 7 := by omega
    have s := hS (i / 7) (i % 7) (by omega) (by omega)
    rw [← ei] at s
    rcases s with e | ⟨o, k, hP, _, _, e⟩
    · rw [e]
      refine br_f (pt_far false hm).1 (nm_r (nI_1 i) (K m hm hs (fun j hj w hw ew => ?_)))
      by_cases z : j = i
      · subst z
        rw [e] at ew
        have := (pt_far false hw).1
        exact absurd (by rw [show pt_v false w = -nI w from rfl, ← ew]; decide) this
      · exact hl j (by omega) w hw ew
    · have w54 := pt_54 hG hP
      rw [e]
      refine br_c (fun z => nm_r (nI_1 i) (K (pt_w W o k) w54 ⟨o, k, hP, rfl⟩ (fun j hj w hw ew => ?_))) (fun z => nm_r (nI_1 i) (K m hm hs (fun j hj w hw ew => ?_)))
      · have y : m ≤ pt_w W o k := (pt_le false w54 hm).1 z
        by_cases x : j = i
        · subst x
          have := pt_inj false w54 hw (e.symm.trans ew)
          omega
        · have := hl j (by omega) w hw ew
          omega
      · have y : ¬ m ≤ pt_w W o k := fun p => z ((pt_le false w54 hm).2 p)
        by_cases x : j = i
        · subst x
          have := pt_inj false w54 hw (e.symm.trans ew)
          omega
        · exact hl j (by omega) w hw ew
theorem lq_Y (hG : gr_G aw an W N) (hO : gr_O rd od) {post : Int32 → SY → Prop} (a : Nat) (ha : a < 7) (h : ∀ m (rd' : Int32) (od' li' : Nat → Int32), gr_O rd' od' → lq_M W a m → post (nI m) (rd', aw, od', li', pt, ps, cf, fl, lv, lf)) : wpY_longest post (rd, aw, od, li, pt, ps, cf, fl, lv, lf) (nI a) := by
  unfold wpY_longest
  dsimp only
  refine ed_yg _ ha (br_f (by decide) (or_make hO (fun rd' od' hO' hod => ?_)))
  have main := gb_lp (fun n c => ∀ (l : Nat → Int32) m, m ≤ 54 → lq_s W a m → (∀ x, x < c → pm_at x 0 = a → ∀ k, k ≤ 6 → al_p W (pm_at x) k → pt_w W (pm_at x) k ≤ m) → wY_longest_18 post (nI a) n (nI m) (nI c) rd' aw od' l pt ps cf fl lv lf) 5040 0 (by omega) (fun n l m hm hs hl => br_t (nI_le (a := 5040) (Nat.le_refl _) (by decide)) (h m _ _ _ hO' ⟨hs, fun t ⟨o, k, hP, et⟩ => ?_⟩)) (fun n c _ hc K l m hm hs hl => br_f (nI_ge (b := 5040) hc (by decide)) ⟨vp_in_nI hc (by decide), ?_⟩)
  · obtain ⟨n, hn⟩ := main
    exact ⟨n, hn li 0 (by decide) (lq_0 ha) (fun x hx => absurd hx (Nat.not_lt_zero x))⟩
  · have k7 := sq_7 hP.2.1
    obtain ⟨p, hp, hj⟩ := sq_ext (7 - (k + 1)) o (k + 1) (by omega) hP.2.1
    obtain ⟨c, hc, hcj⟩ := pm_code p hp
    have eq : ∀ j, j < k + 1 → o j = pm_at c j := fun j hj' => by rw [hcj j (by omega), hj j hj']
    have := hl c hc ((eq 0 (by omega)).symm.trans hP.1) k (by omega) (al_cong eq hP.2.2)
    rw [et, pt_wc k (fun j hj' => eq j (by omega))]
    exact this
  · have ec : od' (nI c).toNatClampNeg = nI (pm_enc (pm_o c)) := by rw [nI_clamp (by omega)]; exact hod c hc
    have a8 := or_a8 c 0
    refine pk_eq (pm_at c 0) a (fun z0 => or_write c hc hod (fun l' hl' => al_f hG (pm_seq c).1 hl' (fun k hk hp hend => ?_))) (fun z0 => nm_r (nI_1 c) (K l m hm hs (fun x hx ex k hk hp => ?_))) (or_first c _ ec) rfl (by omega) (by omega)
    · have w54 := al_54 hG c hk
      -- no longer start of the order is a path
      have top : ∀ j, j ≤ 6 → al_p W (pm_at c) j → pt_w W (pm_at c) j ≤ pt_w W (pm_at c) k := by
        intro j hj hpj
        have : j ≤ k := by
          apply Classical.byContradiction
          intro y
          rcases hend with e | e
          · omega
          · have := hpj k (by omega); omega
        have := lq_wm (W := W) (o := pm_at c) j (k - j)
        rw [show j + (k - j) = k by omega] at this
        exact this
      refine pk_le (pt_w W (pm_at c) k) m (fun y => nm_r (nI_1 c) (K l' m hm hs (fun x hx ex j hj hpj => ?_))) (fun y => nm_r (nI_1 c) (K l' (pt_w W (pm_at c) k) w54 ⟨pm_at c, k, ⟨z0, sq_prem (pm_seq c) (by omega), hp⟩, rfl⟩ (fun x hx ex j hj hpj => ?_)))
      · by_cases z : x = c
        · subst z; have := top j hj hpj; omega
        · exact hl x (by omega) ex j hj hpj
      · by_cases z : x = c
        · subst z; exact top j hj hpj
        · have := hl x (by omega) ex j hj hpj; omega
    · by_cases z : x = c
      · subst z; exact absurd ex z0
      · exact hl x (by omega) ex k hk hp
end
theorem i_vc_longest {k : Nat} {u : SX} {v : SY} (I : i_Rel k u v) (hk : k + 4 ≤ 2048) (v1 : Int32) : wpX_longest (fun r u' => wpY_longest (fun r' v' => r' = r ∧ i_Rel (k + 4) u' v') v v1) u v1 := by
  obtain ⟨aw, an, sp, po, wy, pa, pr, co⟩ := u
  obtain ⟨rd, bw, od, li, pt, ps, cf, fl, lv, lf⟩ := v
  have I0 : i_Rel (k + 4) (aw, an, sp, po, wy, pa, pr, co) (rd, bw, od, li, pt, ps, cf, fl, lv, lf) := I
  obtain ⟨e, ⟨W, N, hG⟩, hO⟩ := I
  have e' : bw = aw := e
  subst e'
  have hG : gr_G bw an W N := hG
  have hO : gr_O rd od := hO
  have bad : (v1 < 0 ∨ nI 7 ≤ v1) ∨ (∃ a, a < 7 ∧ v1 = nI a) := by
    rcases pk_ix v1 (n := 7) (by decide) with h | h | h
    · exact Or.inl (Or.inl h)
    · exact Or.inl (Or.inr h)
    · exact Or.inr h
  rcases bad with h | ⟨a, ha, rfl⟩
  · unfold wpX_longest wpY_longest
    dsimp only
    exact ed_xb h (br_t rfl (ed_yb _ h (br_t rfl ⟨rfl, I0⟩)))
  · refine lq_X hG a ha (fun m pa' hm => lq_Y hG hO a ha (fun m' rd' od' li' hO' hm' => ⟨?_, rfl, ⟨W, N, hG⟩, hO'⟩))
    rw [lq_u hm hm']

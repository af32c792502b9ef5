/-! coefficient: the walks -/
theorem gb_dn (P : Nat → Nat → Prop) (hx : ∀ n, P (n + 1) 0) (e : Nat) (hs : ∀ n i, i < e → P n i → P (n + 1) (i + 1)) : ∃ n, P n e := by
  have key : ∀ i, i ≤ e → P (i + 1) i := by
    intro i
    induction i with
    | zero => exact fun _ => hx 0
    | succ i ih => exact fun h => hs (i + 1) i (by omega) (ih (by omega))
  exact ⟨e + 1, key e (Nat.le_refl e)⟩
def gb_pos : Nat → Int32
  | 0 => -1
  | p + 1 => nI p
theorem gb_posm : ∀ p, nI p + (-1) = gb_pos p
  | 0 => by decide
  | p + 1 => pk_m1 p
section
variable {aw an sp po wy pa pr co : Nat → Int32} {W N : Nat → Nat} {rd : Int32} {od li pt ps cf fl lv lf : Nat → Int32}
theorem cf_x {post : SX → Prop} (S : Nat → Int32) (hS : ∀ k, k < 8 → sp (k * 128 + 127) = S k) (h : ∀ po' : Nat → Int32, (∀ j, j < 8 → po' j = cf_h S 8 j) → post (aw, an, sp, po', wy, pa, pr, co)) : wpX_fillPowers post (aw, an, sp, po, wy, pa, pr, co) := by
  have main := gb_lp (fun n i => ∀ q : Nat → Int32, (∀ j, j < i → q j = 0) → wX_fillPowers_2 post n (nI i) aw an sp q wy pa pr co) 8 0 (by omega) (fun n q hq => br_t (nI_le (a := 8) (Nat.le_refl 8) (by decide)) ?_) (fun n i _ hi K q hq => br_f (nI_ge (b := 8) hi (by decide)) ⟨vp_in_nI hi (by decide), nm_r (e' := upd q i 0) (by rw [nI_clamp (by omega)]) (nm_r (nI_1 i) (K _ (fun j hj => ?_)))⟩)
  · obtain ⟨n, hn⟩ := main
    exact ⟨n, hn po (fun j hj => absurd hj (Nat.not_lt_zero j))⟩
  · have out := gb_dn (fun n p => ∀ q : Nat → Int32, (∀ j, j < 8 → q j = cf_h S (8 - p) j) → wX_fillPowers_24 post n (gb_pos p) aw an sp q wy pa pr co) (fun n q hq => br_t (by decide) (h q hq)) 8 (fun n p hp K q hq => br_f (nI_pos (by omega)) ?_)
    · obtain ⟨n, hn⟩ := out
      exact ⟨n, hn q hq⟩
    · have e8 : 8 - p = (8 - (p + 1)) + 1 := by omega
      have e7 : 7 - (8 - (p + 1)) = p := by omega
      have inn := gb_dn (fun f i => ∀ r : Nat → Int32, (∀ j, j < 8 → r j = if i < j then cf_h S (8 - p) j else cf_h S (8 - (p + 1)) j) → wX_fillPowers_31 post (wX_fillPowers_24 post n) (nI p) f (nI i) aw an sp r wy pa pr co) (fun f r hr => br_t (by decide) ⟨by rw [gb_127]; exact vp_in_nI (by omega) (by decide), nm_r (e' := upd r 0 (cf_h S (8 - p) 0)) ?_ (nm_r (gb_posm p) (K _ (fun j hj => ?_)))⟩) 7 (fun f i hi L r hr => br_f (nI_nle (by omega) (by omega)) ⟨by rw [nI_pred]; exact vp_in_nI (by omega) (by decide), vp_in_nI (by omega) (by decide), vp_in_nI (by omega) (by decide), nm_r (e' := upd r (i + 1) (cf_h S (8 - p) (i + 1))) ?_ (nm_r (pk_m1 i) (L _ (fun j hj => ?_)))⟩)
      · obtain ⟨f, hf⟩ := inn
        refine ⟨f, hf q (fun j hj => ?_)⟩
        rw [if_neg (by omega)]; exact hq j hj
      · have a := hr 0 (by omega)
        rw [if_neg (by omega)] at a
        rw [gb_127, nI_clamp (by omega), hS p hp, a, e8]
        show _ = upd r 0 (S (7 - (8 - (p + 1))) - nI (7 - (8 - (p + 1))) * cf_h S (8 - (p + 1)) 0)
        rw [e7]
      · by_cases z : j = 0
        · subst z; exact pk_us
        · rw [pk_un z, hr j hj, if_pos (by omega)]
      · have a := hr i (by omega)
        have b := hr (i + 1) (by omega)
        rw [if_neg (by omega)] at a b
        rw [nI_pred, nI_clamp (by omega), nI_clamp (by omega), a, b, e8]
        show _ = upd r (i + 1) (cf_h S (8 - (p + 1)) i - nI (7 - (8 - (p + 1))) * cf_h S (8 - (p + 1)) (i + 1))
        rw [e7]
      · by_cases z : j = i + 1
        · subst z; rw [pk_us, if_pos (by omega)]
        · rw [pk_un z, hr j hj]
          by_cases y : i < j
          · rw [if_pos (by omega), if_pos y]
          · rw [if_neg (by omega), if_neg y]
  · by_cases e : j = i
    · subst e; exact pk_us
    · rw [pk_un e]; exact hq j (by omega)
theorem cf_ext {post : SY → Prop} (k : Nat) (x : Int32) (hx : x = nI k) (hf : ∀ j, j < 9 → fl j = cf_a k j) (h : ∀ fl' : Nat → Int32, (∀ j, j < 9 → fl' j = cf_a (k + 1) j) → post (rd, aw, od, li, pt, ps, cf, fl', lv, lf)) : wpY_extend post (rd, aw, od, li, pt, ps, cf, fl, lv, lf) x := by
  subst hx
  have main := gb_dn (fun n i => ∀ q : Nat → Int32, (∀ j, j < 9 → q j = if i < j then cf_a (k + 1) j else cf_a k j) → wY_extend_3 post (nI k) rd n (nI i) aw od li pt ps cf q lv lf) (fun n q hq => br_t (by decide) (nm_r (e' := upd q 0 (cf_a (k + 1) 0)) ?_ (h _ (fun j hj => ?_)))) 8 (fun n i hi L q hq => br_f (nI_nle (by omega) (by omega)) ⟨by rw [nI_pred]; exact vp_in_nI (by omega) (by decide), vp_in_nI (by omega) (by decide), vp_in_nI (by omega) (by decide), nm_r (e' := upd q (i + 1) (cf_a (k + 1) (i + 1))) ?_ (nm_r (pk_m1 i) (L _ (fun j hj => ?_)))⟩)
  · obtain ⟨n, hn⟩ := main
    refine ⟨n, hn fl (fun j hj => ?_)⟩
    rw [if_neg (by omega)]; exact hf j hj
  · have a := hq 0 (by omega)
    rw [if_neg (by omega)] at a
    rw [a]; rfl
  · by_cases z : j = 0
    · subst z; exact pk_us
    · rw [pk_un z, hq j hj, if_pos (by omega)]
  · have a := hq i (by omega)
    have b := hq (i + 1) (by omega)
    rw [if_neg (by omega)] at a b
    rw [nI_pred, nI_clamp (by omega), nI_clamp (by omega), a, b]; rfl
  · by_cases z : j = i + 1
    · subst z; rw [pk_us, if_pos (by omega)]
    · rw [pk_un z, hq j hj]
      by_cases y : i < j
      · rw [if_pos (by omega), if_pos y]
      · rw [if_neg (by omega), if_neg y]
theorem cf_y {post : Int32 → SY → Prop} (S : Nat → Int32) (hS : ∀ k, 1 ≤ k → k < 8 → ps k = S k) (c : Nat) (hc : c < 8) (h : ∀ cf' fl' : Nat → Int32, post (cf_q S 7 c) (rd, aw, od, li, pt, ps, cf', fl', lv, lf)) : ∃ n, wY_coefficient_18 post (nI c) rd n 0 aw od li pt ps cf fl lv lf := by
  have main := gb_lp (fun n i => ∀ q : Nat → Int32, (∀ j, j < i → q j = cf_a 0 j) → wY_coefficient_18 post (nI c) rd n (nI i) aw od li pt ps cf q lv lf) 9 0 (by omega) (fun n q hq => br_t (nI_le (a := 9) (Nat.le_refl 9) (by decide)) ?_) (fun n i _ hi K q hq => br_f (nI_ge (b := 9) hi (by decide)) (pk_eq i 0 (fun z => ⟨vp_in_nI hi (by decide), nm_r (e' := upd q i (cf_a 0 i)) ?_ (nm_r (nI_1 i) (K _ (fun j hj => ?_)))⟩) (fun z => ⟨vp_in_nI hi (by decide), nm_r (e' := upd q i (cf_a 0 i)) ?_ (nm_r (nI_1 i) (K _ (fun j hj => ?_)))⟩)))
  · obtain ⟨n, hn⟩ := main
    exact ⟨n, hn fl (fun j hj => absurd hj (Nat.not_lt_zero j))⟩
  · have zer := gb_lp (fun n i => ∀ r : Nat → Int32, (∀ j, j < i → r j = 0) → wY_coefficient_47 post (nI c) rd n (nI i) aw od li pt ps r q lv lf) 8 0 (by omega) (fun n r hr => br_t (nI_le (a := 8) (Nat.le_refl 8) (by decide)) ?_) (fun n i _ hi K r hr => br_f (nI_ge (b := 8) hi (by decide)) ⟨vp_in_nI hi (by decide), nm_r (e' := upd r i 0) (by rw [nI_clamp (by omega)]) (nm_r (nI_1 i) (K _ (fun j hj => ?_)))⟩)
    · obtain ⟨n, hn⟩ := zer
      exact ⟨n, hn cf (fun j hj => absurd hj (Nat.not_lt_zero j))⟩
    · have out := gb_lp (fun n k => ∀ r q : Nat → Int32, (∀ j, j < 8 → r j = cf_q S k j) → (∀ j, j < 9 → q j = cf_a k j) → wY_coefficient_68 post (nI c) n (nI (k + 1)) rd aw od li pt ps r q lv lf) 7 0 (by omega) (fun n r q hr hq => br_t (nI_lt (a := 7) (b := 8) (by decide) (by decide)) ⟨vp_in_nI hc (by decide), ?_⟩) (fun n k _ hk K r q hr hq => br_f (nI_nlt (a := 7) (by omega) (by decide)) (cf_ext k _ (nI_pred k) hq (fun q' hq' => ?_)))
      · obtain ⟨n, hn⟩ := out
        exact ⟨n, hn r q (fun j hj => hr j hj) (fun j hj => hq j hj)⟩
      · rw [nI_clamp (by omega), hr c hc]; exact h r q
      · have inn := gb_lp (fun f i => ∀ r' : Nat → Int32, (∀ j, j < 8 → r' j = if j < i then cf_q S (k + 1) j else cf_q S k j) → wY_coefficient_83 post (wY_coefficient_68 post (nI c) n) (nI c) (nI (k + 1)) rd f (nI i) aw od li pt ps r' q' lv lf) 8 0 (by omega) (fun f r' hr' => br_t (nI_le (a := 8) (Nat.le_refl 8) (by decide)) (nm_r (nI_1 (k + 1)) (K r' q' (fun j hj => ?_) hq'))) (fun f i _ hi L r' hr' => br_f (nI_ge (b := 8) hi (by decide)) ⟨vp_in_nI hi (by decide), vp_in_nI (by omega) (by decide), vp_in_nI (by omega) (by decide), vp_in_nI hi (by decide), nm_r (e' := upd r' i (cf_q S (k + 1) i)) ?_ (nm_r (nI_1 i) (L _ (fun j hj => ?_)))⟩)
        · obtain ⟨f, hf⟩ := inn
          refine ⟨f, hf r (fun j hj => ?_)⟩
          rw [if_neg (Nat.not_lt_zero j)]; exact hr j hj
        · rw [hr' j hj, if_pos hj]
        · have a := hr' i hi
          rw [if_neg (Nat.lt_irrefl i)] at a
          rw [nI_clamp (by omega), nI_clamp (by omega), a, hS (k + 1) (by omega) (by omega), hq' i (by omega)]; rfl
        · by_cases z : j = i
          · subst z; rw [pk_us, if_pos (by omega)]
          · rw [pk_un z, hr' j hj]
            by_cases y : j < i
            · rw [if_pos y, if_pos (by omega)]
            · rw [if_neg y, if_neg (by omega)]
    · by_cases e : j = i
      · subst e; exact pk_us
      · rw [pk_un e]; exact hr j (by omega)
  · subst z; rfl
  · by_cases e : j = i
    · subst e; exact pk_us
    · rw [pk_un e]; exact hq j (by omega)
  · rw [nI_clamp (by omega)]
    exact congrArg (upd q i) (if_neg z).symm
  · by_cases e : j = i
    · subst e; exact pk_us
    · rw [pk_un e]; exact hq j (by omega)
end
theorem i_vc_coefficient {k : Nat} {u : SX} {v : SY} (I : i_Rel k u v) (hk : k + 4 ≤ 2048) (v1 : Int32) : wpX_coefficient (fun r u' => wpY_coefficient (fun r' v' => r' = r ∧ i_Rel (k + 4) u' v') v v1) u v1 := by
  obtain ⟨aw, an, sp, po, wy, pa, pr, co⟩ := u
  obtain ⟨rd, bw, od, li, pt, ps, cf, fl, lv, lf⟩ := v
  have I0 : i_Rel (k + 4) (aw, an, sp, po, wy, pa, pr, co) (rd, bw, od, li, pt, ps, cf, fl, lv, lf) := I
  obtain ⟨e, ⟨W, N, hG⟩, hO⟩ := I
  have e' : bw = aw := e
  subst e'
  have hG : gr_G bw an W N := hG
  rcases pk_ix v1 (n := 8) (by decide) with h | h | ⟨c, hc, rfl⟩
  · exact br_t h (br_t h ⟨rfl, I0⟩)
  · have b := gb_big (n := 7) (by decide) h
    have b8 : ¬ v1 < 8 := Int32.not_lt.mpr h
    exact br_f b.1 (br_f b8 (br_f b.1 (br_f b.2 ⟨rfl, I0⟩)))
  have c0 : ¬ nI c < 0 := nI_pos (by omega)
  have c7 : nI c ≤ 7 := nI_le (b := 7) (by omega) (by decide)
  have c8 : nI c < 8 := nI_lt (b := 8) hc (by decide)
  refine br_f c0 (br_t c8 (sl_fill hG (fun sp' hsp => cf_x (fun k => sl_S N k 127) (fun k h8 => hsp k 127 h8 (by decide)) (fun po' hpo => ⟨vp_in_nI hc (by decide), br_f c0 (br_t c7 (sl_find hG (fun pt' ps' hps => cf_y (fun k => sl_S N k 127) (fun k h1 h8 => (hps k h1 h8).trans (sl_eq hG k h1 h8)) c hc (fun cf' fl' => ⟨?_, I0⟩))))⟩))))
  rw [nI_clamp (by omega), hpo c hc]
  exact (cf_eq (fun k => sl_S N k 127) rfl c hc).symm

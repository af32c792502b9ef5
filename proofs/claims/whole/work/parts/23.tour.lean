/-! tour -/
def to_p (W : Nat → Nat) (c : Nat) : Prop := pm_at c 0 = 0 ∧ al_p W (pm_at c) 6 ∧ 0 < W (7 * pm_at c 6 + pm_at c 0)
noncomputable def to_T (W : Nat → Nat) (c : Nat) : Option Nat := @ite _ (to_p W c) (Classical.propDecidable _) (some (pt_w W (pm_at c) 6 + W (7 * pm_at c 6 + pm_at c 0))) none
noncomputable def to_n (W : Nat → Nat) (c : Nat) : Int32 := @ite _ (to_p W c) (Classical.propDecidable _) 1 0
theorem to_y {W : Nat → Nat} {c : Nat} (h : to_p W c) : to_T W c = some (pt_w W (pm_at c) 6 + W (7 * pm_at c 6 + pm_at c 0)) ∧ to_n W c = 1 := ⟨if_pos h, if_pos h⟩
theorem to_no {W : Nat → Nat} {c : Nat} (h : ¬ to_p W c) : to_T W c = none ∧ to_n W c = 0 := ⟨if_neg h, if_neg h⟩
section
variable {aw an sp po wy pa pr co : Nat → Int32} {W N : Nat → Nat} {rd : Int32} {od li pt ps cf fl lv lf : Nat → Int32}
theorem to_63 (hG : gr_G aw an W N) {c t : Nat} (h : to_T W c = some t) : t ≤ 63 := by
  by_cases z : to_p W c
  · rw [(to_y z).1] at h
    cases h
    have a := al_54 hG c (Nat.le_refl 6)
    have b := gr_9 hG (i := 7 * pm_at c 6 + pm_at c 0) (by have := (pm_seq c).1 6 (by decide); have := (pm_seq c).1 0 (by decide); omega)
    omega
  · rw [(to_no z).1] at h; cases h
theorem to_Y (hG : gr_G aw an W N) (hO : gr_O rd od) {post : Int32 → SY → Prop} (x : Int32) (h : ∀ (rd' : Int32) (od' li' : Nat → Int32), gr_O rd' od' → (x = 0 → post (li_Y2 (mn_l (to_T W) 5040)) (rd', aw, od', li', pt, ps, cf, fl, lv, lf)) ∧ (¬ x = 0 → post (ls_n (to_n W) 5040 / 2) (rd', aw, od', li', pt, ps, cf, fl, lv, lf))) : wpY_goRound post (rd, aw, od, li, pt, ps, cf, fl, lv, lf) x := by
  unfold wpY_goRound
  refine or_make hO (fun rd' od' hO' hod => ?_)
  have main := gb_lp (fun n c => ∀ l : Nat → Int32, wY_goRound_12 post x n (ls_n (to_n W) c) (li_Y2 (mn_l (to_T W) c)) (nI c) rd' aw od' l pt ps cf fl lv lf) 5040 0 (by omega) (fun n l => br_t (nI_le (a := 5040) (Nat.le_refl _) (by decide)) ⟨(h _ _ l hO').1, fun z => ⟨by decide, (h _ _ l hO').2 z⟩⟩) (fun n c _ hc K l => br_f (nI_ge (b := 5040) hc (by decide)) ⟨vp_in_nI hc (by decide), ?_⟩)
  · obtain ⟨n, hn⟩ := main
    exact ⟨n, hn li⟩
  have ec : od' (nI c).toNatClampNeg = nI (pm_enc (pm_o c)) := by rw [nI_clamp (by omega)]; exact hod c hc
  have a7 := (pm_seq c).1 0 (by decide)
  have b7 := (pm_seq c).1 6 (by decide)
  have skip : ∀ l : Nat → Int32, ¬ to_p W c → wY_goRound_12 post x n (ls_n (to_n W) c) (li_Y2 (mn_l (to_T W) c)) (nI (c + 1)) rd' aw od' l pt ps cf fl lv lf := by
    intro l z
    have K' := K l
    have e1 : mn_l (to_T W) (c + 1) = mn_l (to_T W) c := by
      show li_mn _ _ = _
      rw [(to_no z).1]
      cases mn_l (to_T W) c <;> rfl
    have e2 : ls_n (to_n W) (c + 1) = ls_n (to_n W) c := by
      show _ + _ = _
      rw [(to_no z).2, Int32.add_zero]
    rw [e1, e2] at K'; exact K'
  have no : ∀ l : Nat → Int32, ¬ to_p W c → wY_goRound_48 post (wY_goRound_12 post x n) x (ls_n (to_n W) c) (li_Y2 (mn_l (to_T W) c)) (nI c) (-1) rd' aw od' l pt ps cf fl lv lf := fun l z => br_f (by decide) (br_t (by decide) (nm_r (nI_1 c) (skip l z)))
  refine pk_eq (pm_at c 0) 0 (fun z0 => or_write c hc hod (fun l' hl' => al_y hG (pm_seq c).1 hl' (fun p => ?_) (fun p => no l' (fun q => p q.2.1)))) (fun z0 => no l (fun q => z0 q.1)) (or_first c _ ec) rfl (by omega) (by omega)
  have t54 := al_54 hG c (Nat.le_refl 6)
  have i49 : 7 * pm_at c 6 + pm_at c 0 < 49 := by omega
  have h9 := gr_9 hG i49
  have e7 : 7 * l' 6 + l' 0 = nI (7 * pm_at c 6 + pm_at c 0) := by rw [hl' 6 (by decide), hl' 0 (by decide), gb_7m]
  refine br_t (nI_pos' (by omega)) ⟨by rw [e7]; exact vp_in_nI i49 (by decide), ?_⟩
  rw [gr_wc hG _ i49 e7]
  refine br_f (nI_pos (by omega)) (pk_le (W (7 * pm_at c 6 + pm_at c 0)) 0 (fun y => nm_r (nI_1 c) (skip l' (fun q => by have := q.2.2; omega))) (fun y => ?_))
  have hp : to_p W c := ⟨z0, p, y⟩
  have K' := K l'
  have e1 : mn_l (to_T W) (c + 1) = li_mn (mn_l (to_T W) c) (some (pt_w W (pm_at c) 6 + W (7 * pm_at c 6 + pm_at c 0))) := by
    show li_mn _ _ = _
    rw [(to_y hp).1]
  have e2 : ls_n (to_n W) (c + 1) = ls_n (to_n W) c + 1 := by
    show _ + _ = _
    rw [(to_y hp).2]
  rw [e1, e2] at K'
  refine nm_r rfl ?_
  rw [nI_add]
  generalize hT : pt_w W (pm_at c) 6 + W (7 * pm_at c 6 + pm_at c 0) = T at K'
  have T63 : T ≤ 63 := by omega
  cases e : mn_l (to_T W) c with
  | none => rw [e] at K'; exact br_t rfl (nm_r rfl (nm_r (nI_1 c) K'))
  | some m =>
    have m63 := mn_54 (fun c t q => to_63 hG q) c m e
    rw [e] at K'
    refine br_f (li_n2 (by omega)) (pk_le m T (fun y => nm_r (nI_1 c) ?_) (fun y => nm_r rfl (nm_r (nI_1 c) ?_)))
    · by_cases ee : T ≤ m
      · have q : li_mn (some m) (some T) = some m := by
          show ite _ _ _ = _
          rw [if_pos ee, show T = m by omega]
        rw [q] at K'; exact K'
      · have q : li_mn (some m) (some T) = some m := if_neg ee
        rw [q] at K'; exact K'
    · have q : li_mn (some m) (some T) = some T := if_pos (by omega)
      rw [q] at K'; exact K'
end
def to_s (W : Nat → Nat) (t : Nat) : Prop := ∃ o, pt_P W 0 o 6 ∧ 0 < W (7 * o 6 + o 0) ∧ t = pt_w W o 6 + W (7 * o 6 + o 0)
theorem to_is (W : Nat → Nat) (t : Nat) : (∃ c, c < 5040 ∧ to_T W c = some t) ↔ to_s W t := by
  constructor
  · rintro ⟨c, hc, e⟩
    by_cases h : to_p W c
    · rw [(to_y h).1] at e
      cases e
      exact ⟨pm_at c, ⟨h.1, pm_seq c, h.2.1⟩, h.2.2, rfl⟩
    · rw [(to_no h).1] at e; cases e
  · rintro ⟨o, ⟨h1, h2, h3⟩, h4, e⟩
    obtain ⟨c, hc, hj⟩ := pm_code o h2
    have j0 := hj 0 (by decide)
    have j6 := hj 6 (by decide)
    refine ⟨c, hc, ?_⟩
    rw [(to_y ⟨j0.trans h1, al_cong (fun j hj' => (hj j hj').symm) h3, by rw [j0, j6]; exact h4⟩).1, e, j0, j6, pt_wc 6 (fun j hj' => hj j (by omega))]
def to_x (W : Nat → Nat) (q : Nat → Int32) (e : Nat) : Option Nat := if 0 < W e then (if q (7 * 127 + e) = 1000000 then none else some ((q (7 * 127 + e)).toNatClampNeg + W e)) else none
section
variable {aw an sp po wy pa pr co : Nat → Int32} {W N : Nat → Nat} {rd : Int32} {od li pt ps cf fl lv lf : Nat → Int32}
theorem to_w0 (hG : gr_G aw an W N) {e : Nat} (he : e < 7) : W (7 * e + 0) = W e := by
  have := gr_sy hG he (b := 0) (by decide)
  rw [this]
  exact congrArg W (by omega)
theorem to_X (hG : gr_G aw an W N) {post : Int32 → SX → Prop} (h : ∀ r pa', mn_is (to_s W) r → post (li_Y2 r) (aw, an, sp, po, wy, pa', pr, co)) : wpX_tour post (aw, an, sp, po, wy, pa, pr, co) := by
  unfold wpX_tour
  refine pt_fill hG 0 (by decide) true (fun q hS hC => ?_)
  -- the entries at the full set
  have ent : ∀ e, e < 7 → q (7 * 127 + e) = 1000000 ∨ ∃ o, pt_P W 0 o 6 ∧ o 6 = e ∧ pt_w W o 6 ≤ 54 ∧ q (7 * 127 + e) = nI (pt_w W o 6) := by
    intro e he
    rcases hS 127 e (by decide) he with z | ⟨o, n, hP, hs, ho, z⟩
    · exact Or.inl z
    · have n6 : n = 6 := by have := od_n7 hP.2.1 hs; omega
      subst n6
      exact Or.inr ⟨o, hP, ho, pt_54 hG hP, z⟩
  have nfar : ∀ w, w ≤ 54 → ¬ nI w = 1000000 := by
    intro w hw z
    have := (pt_far true hw).1
    rw [show pt_v true w = nI w from rfl, z] at this
    exact absurd (by decide) this
  have w00 : W 0 = 0 := gr_dg hG (a := 0) (by decide)
  have x63 : ∀ e, e < 7 → ∀ t, to_x W q e = some t → t ≤ 63 := by
    intro e he t ht
    unfold to_x at ht
    split at ht
    · split at ht
      · cases ht
      · next z =>
        cases ht
        rcases ent e he with y | ⟨o, _, _, w54, y⟩
        · exact absurd y z
        · have := gr_9 hG (i := e) (by omega)
          rw [y, nI_clamp (by omega)]
          omega
    · cases ht
  have l63 : ∀ n, n ≤ 7 → ∀ m, mn_l (to_x W q) n = some m → m ≤ 63 := by
    intro n hn m em
    rcases mn_1 (to_x W q) n with ⟨a, _⟩ | ⟨m', a, ⟨c, hc, ec⟩, _⟩
    · rw [a] at em; cases em
    · rw [a] at em; cases em; exact x63 c (by omega) _ ec
  have fin : mn_is (to_s W) (mn_l (to_x W q) 7) := by
    have key : ∀ t, to_s W t → ∃ e t', e < 7 ∧ to_x W q e = some t' ∧ t' ≤ t := by
      rintro t ⟨o, hP, h4, et⟩
      have o0 := hP.1
      have e6 := hP.2.1.1 6 (by omega)
      have g := hC o 6 hP
      rw [sq_full hP.2.1] at g
      obtain ⟨w', h', q', b'⟩ := g
      have q'' : q (7 * 127 + o 6) = nI w' := q'
      have b'' : w' ≤ pt_w W o 6 := b'
      rw [o0, to_w0 hG e6] at h4 et
      refine ⟨o 6, w' + W (o 6), e6, ?_, by omega⟩
      unfold to_x
      rw [if_pos h4, if_neg (by rw [q'']; exact nfar w' h'), q'', nI_clamp (by omega)]
    have snd : ∀ e t, e < 7 → to_x W q e = some t → to_s W t := by
      intro e t he ht
      unfold to_x at ht
      split at ht
      · next hw =>
        split at ht
        · cases ht
        · next z =>
          cases ht
          rcases ent e he with y | ⟨o, hP, ho, w54, y⟩
          · exact absurd y z
          · refine ⟨o, hP, ?_, ?_⟩
            · rw [hP.1, ho, to_w0 hG he]; exact hw
            · rw [hP.1, ho, to_w0 hG he, y, nI_clamp (by omega)]
      · cases ht
    rcases mn_1 (to_x W q) 7 with ⟨a, b⟩ | ⟨m, a, ⟨c, hc, ec⟩, d⟩
    · refine Or.inl ⟨a, fun t ht => ?_⟩
      obtain ⟨e, t', he, ex, _⟩ := key t ht
      exact b t' ⟨e, he, ex⟩
    · refine Or.inr ⟨m, a, snd c m hc ec, fun t ht => ?_⟩
      obtain ⟨e, t', he, ex, l⟩ := key t ht
      have := d t' ⟨e, he, ex⟩
      omega
  have main := gb_lp (fun n e => wX_tour_11 post aw an sp po wy q pr co n (li_oX (mn_l (to_x W q) e)) (nI e)) 7 1 (by omega) (fun n => br_t (nI_le (a := 7) (Nat.le_refl _) (by decide)) ?_) (fun n e he1 he K => br_f (nI_ge (b := 7) he (by decide)) ?_)
  · obtain ⟨n, hn⟩ := main
    have e1 : mn_l (to_x W q) 1 = none := by
      show li_mn none (to_x W q 0) = none
      have : to_x W q 0 = none := by
        unfold to_x
        rw [if_neg (by omega)]
      rw [this]; rfl
    rw [e1] at hn
    exact ⟨n, hn⟩
  · cases e7 : mn_l (to_x W q) 7 with
    | none => rw [e7] at fin; exact br_t (by decide) (h none q fin)
    | some m =>
      have := l63 7 (Nat.le_refl 7) m e7
      rw [e7] at fin
      exact br_f (nI_ge (b := 1000000) (by omega) (by decide)) (h (some m) q fin)
  · rw [gr_n hG (a := 0) (by decide)]
    have n0 := gr_nl hG (a := 0) (by decide)
    have ht := gr_t hG (a := 0) (b := e) (by decide) he
    have e0 : W (7 * 0 + e) = W e := congrArg W (by omega)
    rw [e0] at ht
    have h9 := gr_9 hG (i := e) (by omega)
    refine gb_has (N 0) e (by omega) (by omega) (fun hb => ⟨by rw [gb_889]; exact vp_in_nI (by omega) (by decide), vp_in_nI (by omega) (by decide), ?_⟩) (fun hb => nm_r (nI_1 e) ?_)
    · have hw := ht.1 hb
      rw [gb_889, nI_clamp (by omega), gr_wc hG e (by omega)]
      rcases ent e he with y | ⟨o, _, _, w54, y⟩
      · rw [y, show (1000000 : Int32) + nI (W e) = nI (1000000 + W e) from nI_add 1000000 (W e)]
        have ex : to_x W q e = none := by
          unfold to_x
          rw [if_pos hw, if_pos y]
        have el : mn_l (to_x W q) (e + 1) = mn_l (to_x W q) e := by
          show li_mn _ _ = _
          rw [ex]
          cases mn_l (to_x W q) e <;> rfl
        rw [el] at K
        cases em : mn_l (to_x W q) e with
        | none =>
          rw [em] at K
          exact br_f (nI_ge (a := 1000000) (by omega) (by omega)) (nm_r (nI_1 e) K)
        | some m =>
          have := l63 e (by omega) m em
          rw [em] at K
          exact br_f (nI_ge (by omega) (by omega)) (nm_r (nI_1 e) K)
      · rw [y, nI_add]
        have ex : to_x W q e = some (pt_w W o 6 + W e) := by
          unfold to_x
          rw [if_pos hw, if_neg (by rw [y]; exact nfar _ w54), y, nI_clamp (by omega)]
        have el : mn_l (to_x W q) (e + 1) = li_mn (mn_l (to_x W q) e) (some (pt_w W o 6 + W e)) := by
          show li_mn _ _ = _
          rw [ex]
        rw [el] at K
        cases em : mn_l (to_x W q) e with
        | none =>
          rw [em] at K
          exact br_t (nI_le (b := 1000000) (by omega) (by decide)) (nm_r (nI_1 e) K)
        | some m =>
          have := l63 e (by omega) m em
          rw [em] at K
          refine pk_le (pt_w W o 6 + W e) m (fun y => nm_r (nI_1 e) ?_) (fun y => nm_r (nI_1 e) ?_)
          · have z : li_mn (some m) (some (pt_w W o 6 + W e)) = some (pt_w W o 6 + W e) := if_pos y
            rw [z] at K; exact K
          · have z : li_mn (some m) (some (pt_w W o 6 + W e)) = some m := if_neg (by omega)
            rw [z] at K; exact K
    · have ex : to_x W q e = none := by
        unfold to_x
        rw [if_neg (fun z => by have := ht.2 z; rw [hb] at this; exact absurd this (by decide))]
      have el : mn_l (to_x W q) (e + 1) = mn_l (to_x W q) e := by
        show li_mn _ _ = _
        rw [ex]
        cases mn_l (to_x W q) e <;> rfl
      rw [el] at K; exact K
end
theorem i_vc_tour {k : Nat} {u : SX} {v : SY} (I : i_Rel k u v) (hk : k + 4 ≤ 2048) : wpX_tour (fun r u' => wpY_tour (fun r' v' => r' = r ∧ i_Rel (k + 4) u' v') v) u := by
  obtain ⟨aw, an, sp, po, wy, pa, pr, co⟩ := u
  obtain ⟨rd, bw, od, li, pt, ps, cf, fl, lv, lf⟩ := v
  obtain ⟨e, ⟨W, N, hG⟩, hO⟩ := I
  have e' : bw = aw := e
  subst e'
  have hG : gr_G bw an W N := hG
  have hO : gr_O rd od := hO
  refine to_X hG (fun r pa' hr => ?_)
  unfold wpY_tour
  refine to_Y hG hO 0 (fun rd' od' li' hO' => ⟨fun _ => ⟨?_, rfl, ⟨W, N, hG⟩, hO'⟩, fun z => absurd rfl z⟩)
  rw [mn_u hr (mn_c (mn_1 _ 5040) (to_is W))]

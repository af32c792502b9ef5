/-! the smallest of some numbers, if there is one -/
def mn_is (P : Nat → Prop) (r : Option Nat) : Prop := (r = none ∧ ∀ t, ¬ P t) ∨ (∃ m, r = some m ∧ P m ∧ ∀ t, P t → m ≤ t)
theorem mn_u {P : Nat → Prop} {r r' : Option Nat} (h : mn_is P r) (h' : mn_is P r') : r = r' := by
  rcases h with ⟨a, b⟩ | ⟨m, a, b, c⟩
  · rcases h' with ⟨a', b'⟩ | ⟨m', a', b', c'⟩
    · rw [a, a']
    · exact absurd b' (b m')
  · rcases h' with ⟨a', b'⟩ | ⟨m', a', b', c'⟩
    · exact absurd b (b' m)
    · have := c m' b'
      have := c' m b
      rw [a, a', show m = m' by omega]
def mn_l (T : Nat → Option Nat) : Nat → Option Nat
  | 0 => none
  | c + 1 => li_mn (mn_l T c) (T c)
theorem mn_1 (T : Nat → Option Nat) : ∀ n, mn_is (fun t => ∃ c, c < n ∧ T c = some t) (mn_l T n)
  | 0 => Or.inl ⟨rfl, fun t ⟨c, hc, _⟩ => absurd hc (Nat.not_lt_zero c)⟩
  | n + 1 => by
    have ih := mn_1 T n
    have e : mn_l T (n + 1) = li_mn (mn_l T n) (T n) := rfl
    rw [e]
    cases hT : T n with
    | none =>
      have e2 : li_mn (mn_l T n) none = mn_l T n := by cases mn_l T n <;> rfl
      rw [e2]
      rcases ih with ⟨a, b⟩ | ⟨m, a, ⟨c, hc, ec⟩, d⟩
      · refine Or.inl ⟨a, fun t ⟨c, hc, ec⟩ => ?_⟩
        by_cases z : c = n
        · subst z; rw [hT] at ec; cases ec
        · exact b t ⟨c, by omega, ec⟩
      · refine Or.inr ⟨m, a, ⟨c, by omega, ec⟩, fun t ⟨x, hx, ex⟩ => ?_⟩
        by_cases z : x = n
        · subst z; rw [hT] at ex; cases ex
        · exact d t ⟨x, by omega, ex⟩
    | some t0 =>
      rcases ih with ⟨a, b⟩ | ⟨m, a, ⟨c, hc, ec⟩, d⟩
      · rw [a]
        refine Or.inr ⟨t0, rfl, ⟨n, by omega, hT⟩, fun t ⟨x, hx, ex⟩ => ?_⟩
        by_cases z : x = n
        · subst z; rw [hT] at ex; cases ex; exact Nat.le_refl _
        · exact absurd ⟨x, by omega, ex⟩ (b t)
      · rw [a]
        have e3 : li_mn (some m) (some t0) = if t0 ≤ m then some t0 else some m := rfl
        rw [e3]
        by_cases l : t0 ≤ m
        · rw [if_pos l]
          refine Or.inr ⟨t0, rfl, ⟨n, by omega, hT⟩, fun t ⟨x, hx, ex⟩ => ?_⟩
          by_cases z : x = n
          · subst z; rw [hT] at ex; cases ex; exact Nat.le_refl _
          · have := d t ⟨x, by omega, ex⟩; omega
        · rw [if_neg l]
          refine Or.inr ⟨m, rfl, ⟨c, by omega, ec⟩, fun t ⟨x, hx, ex⟩ => ?_⟩
          by_cases z : x = n
          · subst z; rw [hT] at ex; cases ex; omega
          · exact d t ⟨x, by omega, ex⟩
theorem mn_c {P Q : Nat → Prop} {r : Option Nat} (h : mn_is P r) (e : ∀ t, P t ↔ Q t) : mn_is Q r := by
  rcases h with ⟨a, b⟩ | ⟨m, a, b, c⟩
  · exact Or.inl ⟨a, fun t q => b t ((e t).2 q)⟩
  · exact Or.inr ⟨m, a, (e m).1 b, fun t q => c t ((e t).2 q)⟩
/-! Y's walk along an order -/
def al_p (W : Nat → Nat) (o : Nat → Nat) (n : Nat) : Prop := ∀ j, j < n → 0 < W (7 * o j + o (j + 1))
section
variable {aw an sp po wy pa pr co : Nat → Int32} {W N : Nat → Nat} {rd : Int32} {od li pt ps cf fl lv lf : Nat → Int32}
theorem al_y (hG : gr_G aw an W N) {post : Int32 → Prop} {o : Nat → Nat} (D : ∀ j, j < 7 → o j < 7) (hl : ∀ k, k < 7 → li k = nI (o k)) (h1 : al_p W o 6 → post (nI (pt_w W o 6))) (h0 : ¬ al_p W o 6 → post (-1)) : wpY_along post (rd, aw, od, li, pt, ps, cf, fl, lv, lf) := by
  have main := gb_lp (fun n i => al_p W o i → wY_along_4 post rd aw od li pt ps cf fl lv lf n (nI (pt_w W o i)) (nI (i + 1))) 6 0 (by omega) (fun n H => br_t (nI_le (a := 7) (Nat.le_refl 7) (by decide)) (h1 H)) (fun n i _ hi K H => br_f (nI_ge (b := 7) (by omega) (by decide)) ?_)
  · obtain ⟨n, hn⟩ := main
    exact ⟨n, hn (fun j hj => absurd hj (Nat.not_lt_zero j))⟩
  have a := D i (by omega)
  have b := D (i + 1) (by omega)
  rw [nI_pred, nI_clamp (show i < 2 ^ 31 by omega), nI_clamp (show i + 1 < 2 ^ 31 by omega), hl i (by omega), hl (i + 1) (by omega)]
  have v1 : vp_in (nI i) 7 := vp_in_nI (by omega) (by decide)
  have v2 : vp_in (nI (i + 1)) 7 := vp_in_nI (by omega) (by decide)
  refine ⟨v1, v2, gr_are hG (o i) (o (i + 1)) a b (fun z => ⟨v1, v2, by rw [gb_7m]; exact vp_in_nI (by omega) (by decide), nm_r (e' := nI (pt_w W o (i + 1))) ?_ (nm_r (nI_1 (i + 1)) (K (fun j hj => ?_)))⟩) (fun z => h0 (fun q => ?_))⟩
  · rw [gr_wc hG (7 * o i + o (i + 1)) (by omega) (gb_7m _ _), nI_add]; rfl
  · by_cases e : j = i
    · subst e; exact z
    · exact H j (by omega)
  · have := q i hi; omega
theorem al_f (hG : gr_G aw an W N) {post : Int32 → Prop} {o : Nat → Nat} (D : ∀ j, j < 7 → o j < 7) (hl : ∀ k, k < 7 → li k = nI (o k)) (h : ∀ n, n ≤ 6 → al_p W o n → (n = 6 ∨ W (7 * o n + o (n + 1)) = 0) → post (nI (pt_w W o n))) : wpY_farthest post (rd, aw, od, li, pt, ps, cf, fl, lv, lf) := by
  have main := gb_lp (fun n i => al_p W o i → wY_farthest_4 post rd aw od li pt ps cf fl lv lf n (nI (pt_w W o i)) (nI (i + 1))) 6 0 (by omega) (fun n H => br_t (nI_le (a := 7) (Nat.le_refl 7) (by decide)) (h 6 (Nat.le_refl 6) H (Or.inl rfl))) (fun n i _ hi K H => br_f (nI_ge (b := 7) (by omega) (by decide)) ?_)
  · obtain ⟨n, hn⟩ := main
    exact ⟨n, hn (fun j hj => absurd hj (Nat.not_lt_zero j))⟩
  have a := D i (by omega)
  have b := D (i + 1) (by omega)
  rw [nI_pred, nI_clamp (show i < 2 ^ 31 by omega), nI_clamp (show i + 1 < 2 ^ 31 by omega), hl i (by omega), hl (i + 1) (by omega)]
  have v1 : vp_in (nI i) 7 := vp_in_nI (by omega) (by decide)
  have v2 : vp_in (nI (i + 1)) 7 := vp_in_nI (by omega) (by decide)
  refine ⟨v1, v2, gr_are hG (o i) (o (i + 1)) a b (fun z => ⟨v1, v2, by rw [gb_7m]; exact vp_in_nI (by omega) (by decide), nm_r (e' := nI (pt_w W o (i + 1))) ?_ (nm_r (nI_1 (i + 1)) (K (fun j hj => ?_)))⟩) (fun z => h i (by omega) H (Or.inr z))⟩
  · rw [gr_wc hG (7 * o i + o (i + 1)) (by omega) (gb_7m _ _), nI_add]; rfl
  · by_cases e : j = i
    · subst e; exact z
    · exact H j (by omega)
end
theorem al_cong {W : Nat → Nat} {o p : Nat → Nat} {n : Nat} (h : ∀ j, j < n + 1 → o j = p j) (a : al_p W o n) : al_p W p n := by
  intro j hj
  rw [← h j (by omega), ← h (j + 1) (by omega)]
  exact a j hj
theorem al_54 {aw an : Nat → Int32} {W N : Nat → Nat} (hG : gr_G aw an W N) (c : Nat) {n : Nat} (hn : n ≤ 6) : pt_w W (pm_at c) n ≤ 54 := by
  have := pt_w9 hG n (fun j hj => (pm_seq c).1 j (by omega))
  omega
/-! trail -/
def tr_s (W : Nat → Nat) (a b t : Nat) : Prop := ∃ o, pt_P W a o 6 ∧ o 6 = b ∧ t = pt_w W o 6
noncomputable def tr_T (W : Nat → Nat) (a b c : Nat) : Option Nat := @ite _ (pm_at c 0 = a ∧ pm_at c 6 = b ∧ al_p W (pm_at c) 6) (Classical.propDecidable _) (some (pt_w W (pm_at c) 6)) none
theorem tr_y {W : Nat → Nat} {a b c : Nat} (h : pm_at c 0 = a ∧ pm_at c 6 = b ∧ al_p W (pm_at c) 6) : tr_T W a b c = some (pt_w W (pm_at c) 6) := if_pos h
theorem tr_n {W : Nat → Nat} {a b c : Nat} (h : ¬ (pm_at c 0 = a ∧ pm_at c 6 = b ∧ al_p W (pm_at c) 6)) : tr_T W a b c = none := if_neg h
theorem tr_is (W : Nat → Nat) (a b t : Nat) : (∃ c, c < 5040 ∧ tr_T W a b c = some t) ↔ tr_s W a b t := by
  constructor
  · rintro ⟨c, hc, e⟩
    by_cases h : pm_at c 0 = a ∧ pm_at c 6 = b ∧ al_p W (pm_at c) 6
    · rw [tr_y h] at e
      cases e
      exact ⟨pm_at c, ⟨h.1, pm_seq c, h.2.2⟩, h.2.1, rfl⟩
    · rw [tr_n h] at e; cases e
  · rintro ⟨o, ⟨h1, h2, h3⟩, h4, e⟩
    obtain ⟨c, hc, hj⟩ := pm_code o h2
    refine ⟨c, hc, ?_⟩
    rw [tr_y ⟨(hj 0 (by decide)).trans h1, (hj 6 (by decide)).trans h4, al_cong (fun j hj' => (hj j hj').symm) h3⟩, e]
    exact congrArg some (pt_wc 6 (fun j hj' => hj j (by omega)))
theorem mn_54 {T : Nat → Option Nat} {B : Nat} (h : ∀ c t, T c = some t → t ≤ B) (n m : Nat) (e : mn_l T n = some m) : m ≤ B := by
  rcases mn_1 T n with ⟨a, _⟩ | ⟨m', a, ⟨c, _, ec⟩, _⟩
  · rw [a] at e; cases e
  · rw [a] at e; cases e; exact h c _ ec
section
variable {aw an sp po wy pa pr co : Nat → Int32} {W N : Nat → Nat} {rd : Int32} {od li pt ps cf fl lv lf : Nat → Int32}
theorem tr_54 (hG : gr_G aw an W N) {a b c t : Nat} (h : tr_T W a b c = some t) : t ≤ 54 := by
  by_cases z : pm_at c 0 = a ∧ pm_at c 6 = b ∧ al_p W (pm_at c) 6
  · rw [tr_y z] at h; cases h; exact al_54 hG c (Nat.le_refl 6)
  · rw [tr_n z] at h; cases h
theorem tr_Y (hG : gr_G aw an W N) (hO : gr_O rd od) {post : Int32 → SY → Prop} (a b : Nat) (ha : a < 7) (hb : b < 7) (hab : a ≠ b) (h : ∀ r (rd' : Int32) (od' li' : Nat → Int32), gr_O rd' od' → mn_is (tr_s W a b) r → post (li_Y2 r) (rd', aw, od', li', pt, ps, cf, fl, lv, lf)) : wpY_trail post (rd, aw, od, li, pt, ps, cf, fl, lv, lf) (nI a) (nI b) := by
  unfold wpY_trail
  dsimp only
  have hne : ¬ nI a = nI b := fun z => hab ((nI_eq (by omega) (by omega)).1 z)
  refine ed_yg _ ha (br_f (by decide) (ed_yg _ hb (br_f (by decide) (br_f hne (or_make hO (fun rd' od' hO' hod => ?_))))))
  have main := gb_lp (fun n c => ∀ l : Nat → Int32, wY_trail_33 post (nI a) (nI b) n (li_Y2 (mn_l (tr_T W a b) c)) (nI c) rd' aw od' l pt ps cf fl lv lf) 5040 0 (by omega) (fun n l => br_t (nI_le (a := 5040) (Nat.le_refl _) (by decide)) (h _ _ _ _ hO' (mn_c (mn_1 _ 5040) (tr_is W a b)))) (fun n c _ hc K l => br_f (nI_ge (b := 5040) hc (by decide)) ⟨vp_in_nI hc (by decide), ?_⟩)
  · obtain ⟨n, hn⟩ := main
    exact ⟨n, hn li⟩
  have ec : od' (nI c).toNatClampNeg = nI (pm_enc (pm_o c)) := by rw [nI_clamp (by omega)]; exact hod c hc
  have no : ∀ l : Nat → Int32, ¬ (pm_at c 0 = a ∧ pm_at c 6 = b ∧ al_p W (pm_at c) 6) → wY_trail_84 post (wY_trail_33 post (nI a) (nI b) n) (nI a) (nI b) (li_Y2 (mn_l (tr_T W a b) c)) (nI c) (-1) rd' aw od' l pt ps cf fl lv lf := by
    intro l z
    have K' := K l
    have e : mn_l (tr_T W a b) (c + 1) = mn_l (tr_T W a b) c := by
      show li_mn _ _ = _
      rw [tr_n z]
      cases mn_l (tr_T W a b) c <;> rfl
    rw [e] at K'
    exact br_t (by decide) (nm_r (nI_1 c) K')
  have a8 := or_a8 c 0
  have b8 := or_a8 c 6
  refine pk_eq (pm_at c 0) a (fun z0 => ⟨vp_in_nI hc (by decide), pk_eq (pm_at c 6) b (fun z6 => or_write c hc hod (fun l' hl' => al_y hG (pm_seq c).1 hl' (fun p => ?_) (fun p => no l' (fun q => p q.2.2)))) (fun z6 => no l (fun q => z6 q.2.1)) (or_last c _ ec) rfl (by omega) (by omega)⟩) (fun z0 => no l (fun q => z0 q.1)) (or_first c _ ec) rfl (by omega) (by omega)
  have K' := K l'
  have eT := tr_y (W := W) ⟨z0, z6, p⟩
  have e : mn_l (tr_T W a b) (c + 1) = li_mn (mn_l (tr_T W a b) c) (some (pt_w W (pm_at c) 6)) := by
    show li_mn _ _ = _
    rw [eT]
  rw [e] at K'
  have t54 := al_54 hG c (Nat.le_refl 6)
  refine br_f (nI_pos (by omega)) ?_
  cases e1 : mn_l (tr_T W a b) c with
  | none => rw [e1] at K'; exact br_t rfl (nm_r (nI_1 c) K')
  | some m =>
    have m54 := mn_54 (fun c t q => tr_54 hG q) c m e1
    rw [e1] at K'
    refine br_f (li_n2 (by omega)) (pk_le m (pt_w W (pm_at c) 6) (fun y => nm_r (nI_1 c) ?_) (fun y => nm_r (nI_1 c) ?_))
    · by_cases ee : pt_w W (pm_at c) 6 ≤ m
      · have q : li_mn (some m) (some (pt_w W (pm_at c) 6)) = some m := by
          show ite _ _ _ = _
          rw [if_pos ee, show pt_w W (pm_at c) 6 = m by omega]
        rw [q] at K'; exact K'
      · have q : li_mn (some m) (some (pt_w W (pm_at c) 6)) = some m := if_neg ee
        rw [q] at K'; exact K'
    · have q : li_mn (some m) (some (pt_w W (pm_at c) 6)) = some (pt_w W (pm_at c) 6) := if_pos (by omega)
      rw [q] at K'; exact K'
theorem gb_889 (b : Nat) : 889 + nI b = nI (7 * 127 + b) := nI_add 889 b
theorem tr_X (hG : gr_G aw an W N) {post : Int32 → SX → Prop} (a b : Nat) (ha : a < 7) (hb : b < 7) (hab : a ≠ b) (h : ∀ r pa', mn_is (tr_s W a b) r → post (li_Y2 r) (aw, an, sp, po, wy, pa', pr, co)) : wpX_trail post (aw, an, sp, po, wy, pa, pr, co) (nI a) (nI b) := by
  unfold wpX_trail
  dsimp only
  have hne : ¬ nI a = nI b := fun z => hab ((nI_eq (by omega) (by omega)).1 z)
  refine ed_xg ha (br_f (by decide) (ed_xg hb (br_f (by decide) (br_f hne (pt_fill hG a ha true (fun q hS hC => ⟨by rw [gb_889]; exact vp_in_nI (by omega) (by decide), ?_⟩))))))
  rw [gb_889, nI_clamp (by omega)]
  show wpX_orNone (fun r => post r (aw, an, sp, po, wy, q, pr, co)) (q (7 * 127 + b))
  have low : ∀ t, tr_s W a b t → pt_g true (q (7 * 127 + b)) t := by
    rintro t ⟨o, hP, e6, et⟩
    have := hC o 6 hP
    rw [sq_full hP.2.1, e6, ← et] at this
    exact this
  rcases hS 127 b (by decide) hb with e | ⟨o, n, hP, hs, he, e⟩
  · rw [e]
    refine br_t (by decide) (h none q (Or.inl ⟨rfl, fun t ht => ?_⟩))
    obtain ⟨w', h', q', _⟩ := low t ht
    rw [e] at q'
    have := (pt_far true h').1
    rw [← q'] at this
    exact absurd (by decide) this
  · have n6 : n = 6 := by have := od_n7 hP.2.1 hs; omega
    subst n6
    have w54 := pt_54 hG hP
    rw [e]
    refine br_f (pt_far true w54).1 (h (some (pt_w W o 6)) q (Or.inr ⟨_, rfl, ⟨o, hP, he, rfl⟩, fun t ht => ?_⟩))
    obtain ⟨w', h', q', b'⟩ := low t ht
    have := pt_inj true w54 h' (e.symm.trans q')
    rw [this]; exact b'
end
theorem i_vc_trail {k : Nat} {u : SX} {v : SY} (I : i_Rel k u v) (hk : k + 4 ≤ 2048) (v1 : Int32) (v2 : Int32) : wpX_trail (fun r u' => wpY_trail (fun r' v' => r' = r ∧ i_Rel (k + 4) u' v') v v1 v2) u v1 v2 := by
  obtain ⟨aw, an, sp, po, wy, pa, pr, co⟩ := u
  obtain ⟨rd, bw, od, li, pt, ps, cf, fl, lv, lf⟩ := v
  have I0 : i_Rel (k + 4) (aw, an, sp, po, wy, pa, pr, co) (rd, bw, od, li, pt, ps, cf, fl, lv, lf) := I
  obtain ⟨e, ⟨W, N, hG⟩, hO⟩ := I
  have e' : bw = aw := e
  subst e'
  have hG : gr_G bw an W N := hG
  have hO : gr_O rd od := hO
  have bad : (v1 < 0 ∨ nI 7 ≤ v1) ∨ (∃ a, a < 7 ∧ v1 = nI a) := by
    rcases pk_ix v1 (n := 7) (by decide) with h | h | h
    · exact Or.inl (Or.inl h)
    · exact Or.inl (Or.inr h)
    · exact Or.inr h
  have bad2 : (v2 < 0 ∨ nI 7 ≤ v2) ∨ (∃ a, a < 7 ∧ v2 = nI a) := by
    rcases pk_ix v2 (n := 7) (by decide) with h | h | h
    · exact Or.inl (Or.inl h)
    · exact Or.inl (Or.inr h)
    · exact Or.inr h
  rcases bad with h | ⟨a, ha, rfl⟩
  · unfold wpX_trail wpY_trail
    dsimp only
    exact ed_xb h (br_t rfl (ed_yb _ h (br_t rfl ⟨rfl, I0⟩)))
  rcases bad2 with h | ⟨b, hb, rfl⟩
  · unfold wpX_trail wpY_trail
    dsimp only
    exact ed_xg ha (br_f (by decide) (ed_xb h (br_t rfl (ed_yg _ ha (br_f (by decide) (ed_yb _ h (br_t rfl ⟨rfl, I0⟩)))))))
  by_cases hab : a = b
  · subst hab
    unfold wpX_trail wpY_trail
    dsimp only
    exact ed_xg ha (br_f (by decide) (ed_xg ha (br_f (by decide) (br_t rfl (ed_yg _ ha (br_f (by decide) (ed_yg _ ha (br_f (by decide) (br_t rfl ⟨rfl, I0⟩)))))))))
  · refine tr_X hG a b ha hb hab (fun r pa' hr => tr_Y hG hO a b ha hb hab (fun r' rd' od' li' hO' hr' => ⟨?_, rfl, ⟨W, N, hG⟩, hO'⟩))
    rw [mn_u hr hr']

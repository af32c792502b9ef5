/-! matchings: Y -/
theorem mt_mklt {e : Nat} (he : e < 49) : mt_mk e < 128 := gb_lt128 (gb_p2 _ (by omega)) (gb_p2 _ (by omega))
theorem mt_mk0 : ∀ e, e < 49 → ¬ mt_mk e = 0 := by decide +kernel
def mt_c (W : Nat → Nat) (e : Nat) : Prop := e / 7 < e % 7 ∧ 0 < W e
section
variable {aw an sp po wy pa pr co : Nat → Int32} {W N : Nat → Nat} {rd : Int32} {od li pt ps cf fl lv lf : Nat → Int32}
theorem mt_cp (hG : gr_G aw an W N) {post : Int32 → Prop} (e : Nat) (he : e < 49) (h1 : mt_c W e → post (nI (mt_mk e))) (h0 : ¬ mt_c W e → post 0) : wpY_couple post (rd, aw, od, li, pt, ps, cf, fl, lv, lf) (nI e) := by
  have h9 := gr_9 hG he
  refine ⟨by decide, by decide, pk_le (e % 7) (e / 7) (fun z => h0 (fun q => by have := q.1; omega)) (fun z => ⟨vp_in_nI he (by decide), pk_le (W e) 0 (fun y => h0 (fun q => by have := q.2; omega)) (fun y => ⟨by decide, by decide, ?_⟩) (gr_wc hG e he) rfl (by omega)⟩) (gb_r7 (by omega)) (gb_d7 (by omega))⟩
  have := h1 ⟨z, y⟩
  rw [gb_r7 (by omega), gb_d7 (by omega), gb_sh _ (by omega), gb_sh _ (by omega), gb_or]
  exact this
/-- both branches of a couple -/
theorem mt_cb (hG : gr_G aw an W N) {A : Prop} {B : Int32 → Prop} (e : Nat) (he : e < 49) (h1 : mt_c W e → B (nI (mt_mk e))) (h0 : ¬ mt_c W e → A) : wpY_couple (fun r => (r = 0 → A) ∧ (¬ r = 0 → B r)) (rd, aw, od, li, pt, ps, cf, fl, lv, lf) (nI e) :=
  mt_cp hG e he (fun c => ⟨fun z => absurd ((nI_eq (by have := mt_mklt he; omega) (by omega)).1 (z.trans nI_0.symm)) (mt_mk0 e he), fun _ => h1 c⟩) (fun c => br_t rfl (h0 c))
end
theorem mt_cd (W : Nat → Nat) (e : Nat) : mt_c W e ∨ ¬ mt_c W e := Classical.em _
def mt_g (W : Nat → Nat) (f s j : Nat) : Int32 := if f ≤ j ∧ j / 7 < j % 7 ∧ 0 < W j ∧ mt_mk j &&& s = 0 then 1 else 0
def mt_fr (W : Nat → Nat) (f s : Nat) : Int32 := ls_n (mt_g W f s) 49
section
variable {aw an sp po wy pa pr co : Nat → Int32} {W N : Nat → Nat} {rd : Int32} {od li pt ps cf fl lv lf : Nat → Int32}
theorem mt_free (hG : gr_G aw an W N) {post : Int32 → Prop} (x : Int32) (f s : Nat) (hf : f ≤ 49) (hs : s < 128) (hx : x + 1 = nI f) (h : post (mt_fr W f s)) : wpY_free post (rd, aw, od, li, pt, ps, cf, fl, lv, lf) x (nI s) := by
  refine nm_r hx ?_
  have e0 : ls_n (mt_g W f s) f = 0 := ls_nzero f (fun i hi => if_neg (fun z => by omega))
  have main := gb_lp (fun n i => wY_free_7 post (nI s) rd aw od li pt ps cf fl lv lf n (ls_n (mt_g W f s) i) (nI i)) 49 f hf (fun n => br_t (nI_le (a := 49) (Nat.le_refl 49) (by decide)) h) (fun n i hfi hi K => br_f (nI_ge (b := 49) hi (by decide)) ?_)
  · rw [e0] at main; exact main
  have hlt := mt_mklt hi
  have sk : ¬ (f ≤ i ∧ i / 7 < i % 7 ∧ 0 < W i ∧ mt_mk i &&& s = 0) → wY_free_7 post (nI s) rd aw od li pt ps cf fl lv lf n (ls_n (mt_g W f s) i) (nI (i + 1)) := by
    intro z
    have e : ls_n (mt_g W f s) (i + 1) = ls_n (mt_g W f s) i := by
      show _ + ite _ _ _ = _
      rw [if_neg z, Int32.add_zero]
    rw [e] at K; exact K
  refine mt_cb hG (B := fun _ => _) i hi (fun c => mt_cp hG i hi (fun _ => pk_eq (mt_mk i &&& s) 0 (fun z => nm_r (e' := ls_n (mt_g W f s) (i + 1)) ?_ (nm_r (nI_1 i) K)) (fun z => nm_r (nI_1 i) (sk (fun q => z q.2.2.2))) (nx_and _ _) rfl (by have := gb_and_lt (b := s) hlt; omega) (by omega)) (fun nc => absurd c nc)) (fun nc => nm_r (nI_1 i) (sk (fun q => nc ⟨q.2.1, q.2.2.1⟩)))
  show _ = _ + ite _ _ _
  rw [if_pos ⟨hfi, c.1, c.2, z⟩]
/-- the inner loop when it does nothing -/
theorem mt_71n {post : Int32 → Prop} {J : Int32 → Int32 → Prop} (x1 x4 t : Int32) (i j : Nat) (hx : x4 = 0 ∨ ¬ x1 = 3) (h : J t (nI (i + 1))) : ∃ n, wY_matchings_71 post J x1 (nI i) x4 rd aw od li pt ps cf fl lv lf n t (nI j) := by
  refine ⟨1, br_c (fun _ => nm_r (nI_1 i) h) (fun _ => br_c (fun _ => nm_r (nI_1 i) h) (fun z => br_f (hx.resolve_left z) (nm_r (nI_1 i) h)))⟩
end
noncomputable def mt_g2 (W : Nat → Nat) (e : Nat) : Int32 := if e / 7 < e % 7 ∧ 0 < W e then mt_fr W (e + 1) (mt_mk e) else 0
noncomputable def mt_h3 (W : Nat → Nat) (e c : Nat) : Int32 := if e + 1 ≤ c ∧ c / 7 < c % 7 ∧ 0 < W c ∧ mt_mk c &&& mt_mk e = 0 then mt_fr W (c + 1) (mt_mk e ||| mt_mk c) else 0
noncomputable def mt_g3 (W : Nat → Nat) (e : Nat) : Int32 := if e / 7 < e % 7 ∧ 0 < W e then ls_n (mt_h3 W e) 49 else 0
section
variable {aw an sp po wy pa pr co : Nat → Int32} {W N : Nat → Nat} {rd : Int32} {od li pt ps cf fl lv lf : Nat → Int32}
theorem mt_YA2 (hG : gr_G aw an W N) {post : Int32 → Prop} (h : post (ls_n (mt_g2 W) 49)) : ∃ n, wY_matchings_33 post 2 rd aw od li pt ps cf fl lv lf n 0 0 := by
  refine gb_lp (fun n i => wY_matchings_33 post 2 rd aw od li pt ps cf fl lv lf n (ls_n (mt_g2 W) i) (nI i)) 49 0 (by omega) (fun n => br_t (nI_le (a := 49) (Nat.le_refl 49) (by decide)) h) (fun n i _ hi K => br_f (nI_ge (b := 49) hi (by decide)) ?_)
  have ne : ¬ nI (mt_mk i) = 0 := fun z => mt_mk0 i hi ((nI_eq (by have := mt_mklt hi; omega) (by omega)).1 (z.trans nI_0.symm))
  refine mt_cp hG i hi (fun c => ?_) (fun nc => ?_)
  · refine br_f ne (br_t rfl (mt_free hG (nI i) (i + 1) (mt_mk i) (by omega) (mt_mklt hi) (nI_1 i) (nm_r (e' := ls_n (mt_g2 W) (i + 1)) ?_ (nm_r (nI_1 i) (mt_71n _ _ _ _ _ (Or.inr (by decide)) K)))))
    show _ = _ + ite _ _ _
    rw [if_pos (⟨c.1, c.2⟩ : i / 7 < i % 7 ∧ 0 < W i)]
  refine br_t rfl (nm_r (nI_1 i) (mt_71n _ _ _ _ _ (Or.inl rfl) ?_))
  · have e : ls_n (mt_g2 W) (i + 1) = ls_n (mt_g2 W) i := by
      show _ + ite _ _ _ = _
      rw [if_neg (fun q : i / 7 < i % 7 ∧ 0 < W i => nc ⟨q.1, q.2⟩), Int32.add_zero]
    rw [e] at K; exact K
theorem mt_71y (hG : gr_G aw an W N) {post : Int32 → Prop} {J : Int32 → Int32 → Prop} (t : Int32) (i : Nat) (hi : i < 49) (h : J (t + ls_n (mt_h3 W i) 49) (nI (i + 1))) : ∃ n, wY_matchings_71 post J 3 (nI i) (nI (mt_mk i)) rd aw od li pt ps cf fl lv lf n t (nI (i + 1)) := by
  have e0 : ls_n (mt_h3 W i) (i + 1) = 0 := ls_nzero (i + 1) (fun c hc => if_neg (fun z => by omega))
  have main := gb_lp (fun n c => wY_matchings_71 post J 3 (nI i) (nI (mt_mk i)) rd aw od li pt ps cf fl lv lf n (t + ls_n (mt_h3 W i) c) (nI c)) 49 (i + 1) (by omega) (fun n => br_t (nI_le (a := 49) (Nat.le_refl 49) (by decide)) (nm_r (nI_1 i) h)) (fun n c hc1 hc K => br_f (nI_ge (b := 49) hc (by decide)) ?_)
  · rw [e0, Int32.add_zero] at main; exact main
  have hlt := mt_mklt hi
  have clt := mt_mklt hc
  have ne : ¬ nI (mt_mk i) = 0 := fun z => mt_mk0 i hi ((nI_eq (by omega) (by omega)).1 (z.trans nI_0.symm))
  have sk : ¬ (i + 1 ≤ c ∧ c / 7 < c % 7 ∧ 0 < W c ∧ mt_mk c &&& mt_mk i = 0) → wY_matchings_71 post J 3 (nI i) (nI (mt_mk i)) rd aw od li pt ps cf fl lv lf n (t + ls_n (mt_h3 W i) c) (nI (c + 1)) := by
    intro z
    have e : ls_n (mt_h3 W i) (c + 1) = ls_n (mt_h3 W i) c := by
      show _ + ite _ _ _ = _
      rw [if_neg z, Int32.add_zero]
    rw [e] at K; exact K
  refine br_f ne (br_t rfl (mt_cb hG (B := fun r => _) c hc (fun q => pk_eq (mt_mk c &&& mt_mk i) 0 (fun z => ?_) (fun z => nm_r (nI_1 c) (sk (fun y => z y.2.2.2))) (nx_and _ _) rfl (by have := gb_and_lt (b := mt_mk i) clt; omega) (by omega)) (fun nq => nm_r (nI_1 c) (sk (fun y => nq ⟨y.2.1, y.2.2.1⟩)))))
  rw [gb_or]
  refine mt_free hG (nI c) (c + 1) (mt_mk i ||| mt_mk c) (by omega) (gb_lt128 hlt clt) (nI_1 c) (nm_r (e' := t + ls_n (mt_h3 W i) (c + 1)) ?_ (nm_r (nI_1 c) K))
  show _ = t + (_ + ite _ _ _)
  rw [if_pos ⟨hc1, q.1, q.2, z⟩, Int32.add_assoc]
theorem mt_YA3 (hG : gr_G aw an W N) {post : Int32 → Prop} (h : post (ls_n (mt_g3 W) 49)) : ∃ n, wY_matchings_33 post 3 rd aw od li pt ps cf fl lv lf n 0 0 := by
  refine gb_lp (fun n i => wY_matchings_33 post 3 rd aw od li pt ps cf fl lv lf n (ls_n (mt_g3 W) i) (nI i)) 49 0 (by omega) (fun n => br_t (nI_le (a := 49) (Nat.le_refl 49) (by decide)) h) (fun n i _ hi K => br_f (nI_ge (b := 49) hi (by decide)) ?_)
  have ne : ¬ nI (mt_mk i) = 0 := fun z => mt_mk0 i hi ((nI_eq (by have := mt_mklt hi; omega) (by omega)).1 (z.trans nI_0.symm))
  refine mt_cp hG i hi (fun c => br_f ne (br_f (by decide) (nm_r (nI_1 i) (mt_71y hG _ i hi ?_)))) (fun nc => br_t rfl (nm_r (nI_1 i) (mt_71n _ _ _ _ _ (Or.inl rfl) ?_)))
  · have e : ls_n (mt_g3 W) (i + 1) = ls_n (mt_g3 W) i + ls_n (mt_h3 W i) 49 := by
      show _ + ite _ _ _ = _
      rw [if_pos (⟨c.1, c.2⟩ : i / 7 < i % 7 ∧ 0 < W i)]
    rw [e] at K; exact K
  · have e : ls_n (mt_g3 W) (i + 1) = ls_n (mt_g3 W) i := by
      show _ + ite _ _ _ = _
      rw [if_neg (fun q : i / 7 < i % 7 ∧ 0 < W i => nc ⟨q.1, q.2⟩), Int32.add_zero]
    rw [e] at K; exact K
end
/-! the sums are sums over lists -/
theorem mt_Fs (W : Nat → Nat) (f s : Nat) : mt_fr W f s = ls_l (ls_all (mt_b W)) (mt_F f s) := by
  unfold mt_fr mt_F
  rw [ls_flat, ls_range]
  apply ls_congr
  intro e _
  unfold mt_g
  by_cases h1 : f ≤ e
  · by_cases h2 : e / 7 < e % 7
    · by_cases h3 : mt_mk e &&& s = 0
      · rw [decide_eq_true h1, decide_eq_true h2, decide_eq_true h3]
        simp only [Bool.and_self, if_true]
        show _ = ls_all (mt_b W) [e] + 0
        unfold ls_all mt_b
        rw [Int32.add_zero]
        by_cases h4 : 0 < W e
        · rw [if_pos ⟨h1, h2, h4, h3⟩, if_pos (by simp [h4])]
        · rw [if_neg (fun z => h4 z.2.2.1), if_neg (by simp; omega)]
      · rw [if_neg (fun z => h3 z.2.2.2), decide_eq_false h3, Bool.and_false]; rfl
    · rw [if_neg (fun z => h2 z.2.1), decide_eq_false h2, Bool.and_false, Bool.false_and]; rfl
  · rw [if_neg (fun z => h1 z.1), decide_eq_false h1, Bool.false_and, Bool.false_and]; rfl
theorem mt_s1 (W : Nat → Nat) : mt_fr W 0 0 = ls_l (ls_all (mt_b W)) mt_Y1 := mt_Fs W 0 0
theorem mt_s2 (W : Nat → Nat) : ls_n (mt_g2 W) 49 = ls_l (ls_all (mt_b W)) mt_Y2 := by
  unfold mt_Y2
  rw [ls_flat, ls_range]
  apply ls_congr
  intro e _
  unfold mt_g2
  by_cases h2 : e / 7 < e % 7
  · rw [if_pos h2, ls_cons, ← mt_Fs]
    unfold mt_b
    by_cases h4 : 0 < W e
    · rw [if_pos ⟨h2, h4⟩, if_pos (decide_eq_true h4)]
    · rw [if_neg (fun z => h4 z.2), if_neg (by rw [decide_eq_false h4]; decide)]
  · rw [if_neg (fun z => h2 z.1), if_neg h2]; rfl
theorem mt_s3 (W : Nat → Nat) : ls_n (mt_g3 W) 49 = ls_l (ls_all (mt_b W)) mt_Y3 := by
  unfold mt_Y3
  rw [ls_flat, ls_range]
  apply ls_congr
  intro e _
  unfold mt_g3
  by_cases h2 : e / 7 < e % 7
  · rw [if_pos h2, ls_cons]
    have key : ls_n (mt_h3 W e) 49 = ls_l (ls_all (mt_b W)) ((List.range 49).flatMap (fun c => if decide (e + 1 ≤ c) && decide (c / 7 < c % 7) && decide (mt_mk c &&& mt_mk e = 0) then (mt_F (c + 1) (mt_mk e ||| mt_mk c)).map (fun m => c :: m) else [])) := by
      rw [ls_flat, ls_range]
      apply ls_congr
      intro c _
      unfold mt_h3
      by_cases q1 : e + 1 ≤ c
      · by_cases q2 : c / 7 < c % 7
        · by_cases q3 : mt_mk c &&& mt_mk e = 0
          · rw [decide_eq_true q1, decide_eq_true q2, decide_eq_true q3]
            simp only [Bool.and_self, if_true]
            rw [ls_cons, ← mt_Fs]
            unfold mt_b
            by_cases h4 : 0 < W c
            · rw [if_pos ⟨q1, q2, h4, q3⟩, if_pos (decide_eq_true h4)]
            · rw [if_neg (fun z => h4 z.2.2.1), if_neg (by rw [decide_eq_false h4]; decide)]
          · rw [if_neg (fun z => q3 z.2.2.2), decide_eq_false q3, Bool.and_false]; rfl
        · rw [if_neg (fun z => q2 z.2.1), decide_eq_false q2, Bool.and_false, Bool.false_and]; rfl
      · rw [if_neg (fun z => q1 z.1), decide_eq_false q1, Bool.false_and, Bool.false_and]; rfl
    rw [← key]
    unfold mt_b
    by_cases h4 : 0 < W e
    · rw [if_pos ⟨h2, h4⟩, if_pos (decide_eq_true h4)]
    · rw [if_neg (fun z => h4 z.2), if_neg (by rw [decide_eq_false h4]; decide)]
  · rw [if_neg (fun z => h2 z.1), if_neg h2]; rfl
theorem mt_e1 (W : Nat → Nat) : mt_fr W 0 0 = ls_l (ls_all (mt_b W)) (mt_X 1) := by
  rw [mt_s1, ← ls_srt_s, ← mt_c1, ls_srt_s]
theorem mt_e2 (W : Nat → Nat) : ls_n (mt_g2 W) 49 = ls_l (ls_all (mt_b W)) (mt_X 2) := by
  rw [mt_s2, ← ls_srt_s, ← mt_c2, ls_srt_s]
theorem mt_e3 (W : Nat → Nat) : ls_n (mt_g3 W) 49 = ls_l (ls_all (mt_b W)) (mt_X 3) := by
  rw [mt_s3, ← ls_srt_s, ← mt_c3, ls_srt_s]
theorem i_vc_matchings {k : Nat} {u : SX} {v : SY} (I : i_Rel k u v) (hk : k + 4 ≤ 2048) (v1 : Int32) : wpX_matchings (fun r u' => wpY_matchings (fun r' => r' = r ∧ i_Rel (k + 4) u' v) v v1) u v1 := by
  obtain ⟨aw, an, sp, po, wy, pa, pr, co⟩ := u
  obtain ⟨rd, bw, od, li, pt, ps, cf, fl, lv, lf⟩ := v
  have I0 : i_Rel (k + 4) (aw, an, sp, po, wy, pa, pr, co) (rd, bw, od, li, pt, ps, cf, fl, lv, lf) := I
  obtain ⟨e, ⟨W, N, hG⟩, hO⟩ := I
  have e' : bw = aw := e
  subst e'
  have hG : gr_G bw an W N := hG
  rcases pk_ix v1 (n := 4) (by decide) with h | h | ⟨c, hc, rfl⟩
  · exact br_t h (br_t h ⟨rfl, I0⟩)
  · have := gb_big (n := 3) (by decide) h
    exact br_f this.1 (br_f this.2 (br_f this.1 (br_f this.2 ⟨rfl, I0⟩)))
  refine mt_XA hG c hc (fun pr' => br_f (nI_pos (by omega)) (br_t (nI_le (b := 3) (by omega) (by decide)) ?_))
  have hR : i_Rel (k + 4) (bw, an, sp, po, wy, pa, pr', co) (rd, bw, od, li, pt, ps, cf, fl, lv, lf) := I0
  have cases4 : c = 0 ∨ c = 1 ∨ c = 2 ∨ c = 3 := by omega
  rcases cases4 with rfl | rfl | rfl | rfl
  · exact br_t rfl ⟨by rw [mt_c0]; rfl, hR⟩
  · exact br_f (by decide) (br_t rfl (mt_free hG (-1) 0 0 (by decide) (by decide) (by decide) ⟨mt_e1 W, hR⟩))
  · exact br_f (by decide) (br_f (by decide) (mt_YA2 hG ⟨mt_e2 W, hR⟩))
  · exact br_f (by decide) (br_f (by decide) (mt_YA3 hG ⟨mt_e3 W, hR⟩))

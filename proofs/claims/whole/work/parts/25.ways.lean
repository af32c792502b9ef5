/-! tours: X's walk -/
theorem ts_one {F F' : Nat → Int32} {d : Int32} {e : Nat} (h1 : ∀ x, x ≠ e → F' x = F x) (h2 : F' e = F e + d) : ∀ n, e < n → ls_n F' n = ls_n F n + d
  | 0, h => absurd h (Nat.not_lt_zero e)
  | n + 1, h => by
    show ls_n F' n + F' n = ls_n F n + F n + d
    by_cases z : e = n
    · subst z
      rw [h2, ls_ncongr e (fun i hi => h1 i (by omega)), Int32.add_assoc]
    · rw [ts_one h1 h2 n (by omega), h1 n (fun y => z y.symm)]; grind
/-- what an entry holds when the places below t are done, and of the place t those with an end below i -/
noncomputable def ts_e (N : Nat → Nat) (t i S e x : Nat) : Int32 := @ite _ ((N x).testBit e = true ∧ (7 * (S ^^^ 2 ^ e) + x < t ∨ (7 * (S ^^^ 2 ^ e) + x = t ∧ e < i))) (Classical.propDecidable _) (ts_v N (S ^^^ 2 ^ e) x) 0
def ts_I (N : Nat → Nat) (t i : Nat) (a : Nat → Int32) : Prop := ∀ S e, S < 128 → e < 7 → a (7 * S + e) = ts_b S e + (if S.testBit e = true then ls_n (ts_e N t i S e) 7 else 0)
theorem ts_I7 {N : Nat → Nat} {t : Nat} {a : Nat → Int32} (h : ts_I N t 7 a) : ts_I N (t + 1) 0 a := by
  intro S e hS he
  rw [h S e hS he]
  have q : ls_n (ts_e N t 7 S e) 7 = ls_n (ts_e N (t + 1) 0 S e) 7 := by
    apply ls_ncongr
    intro x _
    unfold ts_e
    by_cases c : (N x).testBit e = true ∧ (7 * (S ^^^ 2 ^ e) + x < t ∨ (7 * (S ^^^ 2 ^ e) + x = t ∧ e < 7))
    · rw [if_pos c, if_pos ⟨c.1, by omega⟩]
    · rw [if_neg c, if_neg (fun z => c ⟨z.1, by omega⟩)]
  rw [q]
/-- an entry whose predecessors are all done -/
theorem ts_done {N : Nat → Nat} {t i : Nat} {a : Nat → Int32} (h : ts_I N t i a) {S e : Nat} (hS : S < 128) (he : e < 7) (ht : 7 * S ≤ t) : a (7 * S + e) = ts_v N S e := by
  rw [h S e hS he, ts_vr N hS he]
  by_cases b : S.testBit e = true
  · rw [if_pos b, if_pos b]
    have l := gb_xless S hS e he b
    have q : ls_n (ts_e N t i S e) 7 = ls_n (fun x => if (N x).testBit e = true then ts_v N (S ^^^ 2 ^ e) x else 0) 7 := by
      apply ls_ncongr
      intro x hx
      unfold ts_e
      by_cases c : (N x).testBit e = true
      · rw [if_pos c, if_pos ⟨c, Or.inl (by omega)⟩]
      · rw [if_neg c, if_neg (fun z => c z.1)]
    rw [q]
  · rw [if_neg b, if_neg b]
section
variable {aw an sp po wy pa pr co : Nat → Int32} {W N : Nat → Nat}
theorem ts_pass (hG : gr_G aw an W N) {post : SX → Prop} (s e : Nat) (hs : s < 128) (he : e < 7) (hI : ts_I N (7 * s + e) 0 wy) (h : ∀ b : Nat → Int32, ts_I N (7 * s + e + 1) 0 b → post (aw, an, sp, po, b, pa, pr, co)) : wpX_passWaysOn post (aw, an, sp, po, wy, pa, pr, co) (nI s) (nI e) := by
  refine ⟨vp_in_nI he (by decide), nm_r (e' := nI (N e &&& (127 ^^^ s))) (by rw [gr_nc hG e he, gb_cpl (gr_nl hG he)]) ?_⟩
  have main := gb_lp (fun n i => ∀ b : Nat → Int32, ts_I N (7 * s + e) i b → wX_passWaysOn_14 post (nI s) (nI e) (nI (N e &&& (127 ^^^ s))) n (nI i) aw an sp po b pa pr co) 7 0 (by omega) (fun n b hb => br_t (nI_le (a := 7) (Nat.le_refl 7) (by decide)) (h b (ts_I7 hb))) (fun n v _ hv K b hb => br_f (nI_ge (b := 7) hv (by decide)) ?_)
  · obtain ⟨n, hn⟩ := main
    exact ⟨n, hn wy hI⟩
  have onl := gb_and_lt (b := 127 ^^^ s) (gr_nl hG he)
  have tb := gb_and127 (N e) s v hv
  refine gb_has _ v (by omega) (by omega) (fun ho => ?_) (fun ho => nm_r (nI_1 v) (K b (fun S x hS hx => ?_)))
  · rw [tb, Bool.and_eq_true] at ho
    have sb : s.testBit v = false := by simpa using ho.2
    have s2 : s ||| 2 ^ v < 128 := gb_lt128 hs (gb_p2 v hv)
    have sx : (s ||| 2 ^ v) ^^^ 2 ^ v = s := sq_orx sb
    have eX : (nI s ||| ((1 : Int32) <<< (nI v &&& 31))) * 7 + nI v = nI (7 * (s ||| 2 ^ v) + v) := by
      rw [gb_sh v (by omega), gb_or, gb_m7]
    have eS : nI s * 7 + nI e = nI (7 * s + e) := gb_m7 s e
    have vX : vp_in ((nI s ||| ((1 : Int32) <<< (nI v &&& 31))) * 7 + nI v) 896 := by rw [eX]; exact vp_in_nI (by omega) (by decide)
    have dn := ts_done hb hs he (by omega)
    refine ⟨vX, by rw [eS]; exact vp_in_nI (by omega) (by decide), vX, nm_r (e' := upd b (7 * (s ||| 2 ^ v) + v) (b (7 * (s ||| 2 ^ v) + v) + ts_v N s e)) (by rw [eX, eS, nI_clamp (by omega), nI_clamp (by omega), dn]) (nm_r (nI_1 v) (K _ (fun S x hS hx => ?_)))⟩
    by_cases c : 7 * S + x = 7 * (s ||| 2 ^ v) + v
    · have c1 : S = s ||| 2 ^ v := by omega
      have c2 : x = v := by omega
      subst c1; subst c2
      have bt : (s ||| 2 ^ x).testBit x = true := by
        rw [Nat.testBit_or, Nat.testBit_two_pow]; simp
      rw [pk_us, hb _ x s2 hx, if_pos bt, if_pos bt, Int32.add_assoc]
      have q : ls_n (ts_e N (7 * s + e) (x + 1) (s ||| 2 ^ x) x) 7 = ls_n (ts_e N (7 * s + e) x (s ||| 2 ^ x) x) 7 + ts_v N s e := by
        refine ts_one (e := e) (fun y hy => ?_) ?_ 7 he
        · unfold ts_e
          rw [sx]
          by_cases d : (N y).testBit x = true ∧ (7 * s + y < 7 * s + e ∨ (7 * s + y = 7 * s + e ∧ x < x))
          · rw [if_pos d, if_pos ⟨d.1, by omega⟩]
          · rw [if_neg d, if_neg (fun z => d ⟨z.1, by omega⟩)]
        · unfold ts_e
          rw [sx, if_pos ⟨ho.1, Or.inr ⟨rfl, by omega⟩⟩, if_neg (fun z => by omega), Int32.zero_add]
      rw [q]
    · rw [pk_un c, hb S x hS hx]
      by_cases bt : S.testBit x = true
      · rw [if_pos bt, if_pos bt]
        have q : ls_n (ts_e N (7 * s + e) v S x) 7 = ls_n (ts_e N (7 * s + e) (v + 1) S x) 7 := by
          apply ls_ncongr
          intro y hy
          unfold ts_e
          have nv : ¬ (7 * (S ^^^ 2 ^ x) + y = 7 * s + e ∧ x = v) := by
            rintro ⟨z1, z2⟩
            apply c
            subst z2
            have : S ^^^ 2 ^ x = s := by omega
            rw [← this, sq_xor bt]
          by_cases d : (N y).testBit x = true ∧ (7 * (S ^^^ 2 ^ x) + y < 7 * s + e ∨ (7 * (S ^^^ 2 ^ x) + y = 7 * s + e ∧ x < v))
          · rw [if_pos d, if_pos ⟨d.1, by omega⟩]
          · rw [if_neg d, if_neg (fun z => d ⟨z.1, by omega⟩)]
        rw [q]
      · rw [if_neg bt, if_neg bt]
  · rw [hb S x hS hx]
    by_cases bt : S.testBit x = true
    · rw [if_pos bt, if_pos bt]
      have q : ls_n (ts_e N (7 * s + e) v S x) 7 = ls_n (ts_e N (7 * s + e) (v + 1) S x) 7 := by
        apply ls_ncongr
        intro y hy
        unfold ts_e
        have nv : ¬ ((N y).testBit x = true ∧ 7 * (S ^^^ 2 ^ x) + y = 7 * s + e ∧ x = v) := by
          rintro ⟨z0, z1, z2⟩
          subst z2
          have e1 : S ^^^ 2 ^ x = s := by omega
          have e2 : y = e := by omega
          subst e2
          have sb := sq_xt bt
          rw [e1] at sb
          rw [tb, z0, sb] at ho
          exact absurd ho (by decide)
        by_cases d : (N y).testBit x = true ∧ (7 * (S ^^^ 2 ^ x) + y < 7 * s + e ∨ (7 * (S ^^^ 2 ^ x) + y = 7 * s + e ∧ x < v))
        · rw [if_pos d, if_pos ⟨d.1, by omega⟩]
        · rw [if_neg d, if_neg (fun z => d ⟨z.1, by
            rcases z.2 with y1 | ⟨y1, y2⟩
            · exact Or.inl y1
            · refine Or.inr ⟨y1, ?_⟩
              have : ¬ x = v := fun y3 => nv ⟨z.1, y1, y3⟩
              omega⟩)]
      rw [q]
    · rw [if_neg bt, if_neg bt]
theorem ts_fill (hG : gr_G aw an W N) {post : SX → Prop} (h : ∀ b : Nat → Int32, (∀ S e, S < 128 → e < 7 → b (7 * S + e) = ts_v N S e) → post (aw, an, sp, po, b, pa, pr, co)) : wpX_fillWays post (aw, an, sp, po, wy, pa, pr, co) := by
  have main := gb_lp (fun n i => ∀ b : Nat → Int32, (∀ j, j < i → b j = 0) → wX_fillWays_2 post n (nI i) aw an sp po b pa pr co) 896 0 (by omega) (fun n b hb => br_t (nI_le (a := 896) (Nat.le_refl _) (by decide)) (nm_r (e' := upd b 7 1) rfl ?_)) (fun n i _ hi K b hb => br_f (nI_ge (b := 896) hi (by decide)) ⟨vp_in_nI hi (by decide), nm_r rfl (nm_r (nI_1 i) (K _ (fun j hj => ?_)))⟩)
  · obtain ⟨n, hn⟩ := main
    exact ⟨n, hn wy (fun j hj => absurd hj (Nat.not_lt_zero j))⟩
  · have out := gb_lp (fun n s => ∀ b : Nat → Int32, ts_I N (7 * s) 0 b → wX_fillWays_32 post n (nI s) aw an sp po b pa pr co) 128 1 (by omega) (fun n b hI => br_t (nI_le (a := 128) (Nat.le_refl _) (by decide)) (h b (fun S e hS he => ts_done hI hS he (by omega)))) (fun n s hs1 hs K b hI => br_f (nI_ge (b := 128) hs (by decide)) ?_)
    · obtain ⟨n, hn⟩ := out
      refine ⟨n, hn _ (fun S e hS he => ?_)⟩
      have z : (if S.testBit e = true then ls_n (ts_e N (7 * 1) 0 S e) 7 else 0) = 0 := by
        by_cases bt : S.testBit e = true
        · rw [if_pos bt]
          apply ls_nzero
          intro x hx
          unfold ts_e
          by_cases d : (N x).testBit e = true ∧ (7 * (S ^^^ 2 ^ e) + x < 7 * 1 ∨ (7 * (S ^^^ 2 ^ e) + x = 7 * 1 ∧ e < 0))
          · rw [if_pos d]
            have : S ^^^ 2 ^ e = 0 := by omega
            rw [this]
            exact ts_z N 1 0 x (by decide) hx (by decide) (by decide)
          · rw [if_neg d]
        · rw [if_neg bt]
      rw [z, Int32.add_zero]
      unfold ts_b
      by_cases c : 7 * S + e = 7
      · rw [c, pk_us, if_pos (by omega)]
      · rw [pk_un c, hb _ (by omega), if_neg (by omega)]
    · have inn := gb_lp (fun m e => ∀ b : Nat → Int32, ts_I N (7 * s + e) 0 b → wX_fillWays_41 post (wX_fillWays_32 post n) (nI s) m (nI e) aw an sp po b pa pr co) 7 0 (by omega) (fun m b hb => br_t (nI_le (a := 7) (Nat.le_refl _) (by decide)) (nm_r (nI_1 s) (K b hb))) (fun m e _ he L b hb => br_f (nI_ge (b := 7) he (by decide)) (ts_pass hG s e hs he hb (fun b' hb' => nm_r (nI_1 e) (L b' hb'))))
      obtain ⟨m, hm⟩ := inn
      exact ⟨m, hm b hI⟩
  · rw [nI_clamp (by omega)]
    by_cases e : j = i
    · subst e; exact pk_us
    · rw [pk_un e]; exact hb j (by omega)
theorem ts_X (hG : gr_G aw an W N) {post : Int32 → SX → Prop} (h : ∀ wy', post (ls_n (to_n W) 5040 / 2) (aw, an, sp, po, wy', pa, pr, co)) : wpX_tours post (aw, an, sp, po, wy, pa, pr, co) := by
  unfold wpX_tours
  refine ts_fill hG (fun q hq => ?_)
  have n0 := gr_nl hG (a := 0) (by decide)
  have main := gb_lp (fun n e => wX_tours_8 post aw an sp po q pa pr co n (ls_n (fun e => if (N 0).testBit e = true then ts_v N 127 e else 0) e) (nI e)) 7 1 (by omega) (fun n => br_t (nI_le (a := 7) (Nat.le_refl _) (by decide)) ⟨by decide, ?_⟩) (fun n e he1 he K => br_f (nI_ge (b := 7) he (by decide)) ?_)
  · obtain ⟨n, hn⟩ := main
    have e1 : ls_n (fun e => if (N 0).testBit e = true then ts_v N 127 e else 0) 1 = 0 := by
      have : (N 0).testBit 0 = false := (gr_f hG (a := 0) (b := 0) (by decide) (by decide)).2 (gr_dg hG (a := 0) (by decide))
      show 0 + (if (N 0).testBit 0 = true then ts_v N 127 0 else 0) = 0
      rw [if_neg (by rw [this]; decide)]; rfl
    rw [e1] at hn
    exact ⟨n, hn⟩
  · rw [ts_eq hG]; exact h q
  · rw [gr_n hG (a := 0) (by decide)]
    refine gb_has (N 0) e (by omega) (by omega) (fun hb => ⟨by rw [gb_889]; exact vp_in_nI (by omega) (by decide), nm_r (e' := ls_n (fun e => if (N 0).testBit e = true then ts_v N 127 e else 0) (e + 1)) ?_ (nm_r (nI_1 e) K)⟩) (fun hb => nm_r (nI_1 e) ?_)
    · rw [gb_889, nI_clamp (by omega), hq 127 e (by decide) he]
      show _ = _ + ite _ _ _
      rw [if_pos hb]
    · have e1 : ls_n (fun e => if (N 0).testBit e = true then ts_v N 127 e else 0) (e + 1) = ls_n (fun e => if (N 0).testBit e = true then ts_v N 127 e else 0) e := by
        show _ + ite _ _ _ = _
        rw [if_neg (by rw [hb]; decide), Int32.add_zero]
      rw [e1] at K; exact K
end
theorem i_vc_tours {k : Nat} {u : SX} {v : SY} (I : i_Rel k u v) (hk : k + 4 ≤ 2048) : wpX_tours (fun r u' => wpY_tours (fun r' v' => r' = r ∧ i_Rel (k + 4) u' v') v) u := by
  obtain ⟨aw, an, sp, po, wy, pa, pr, co⟩ := u
  obtain ⟨rd, bw, od, li, pt, ps, cf, fl, lv, lf⟩ := v
  obtain ⟨e, ⟨W, N, hG⟩, hO⟩ := I
  have e' : bw = aw := e
  subst e'
  have hG : gr_G bw an W N := hG
  have hO : gr_O rd od := hO
  refine ts_X hG (fun wy' => ?_)
  unfold wpY_tours
  exact to_Y hG hO 1 (fun rd' od' li' hO' => ⟨fun z => absurd z (by decide), fun _ => ⟨rfl, rfl, ⟨W, N, hG⟩, hO'⟩⟩)

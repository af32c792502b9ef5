/-! tours: sums -/
theorem ts_add (F : Nat → Int32) (a : Nat) : ∀ b, ls_n F (a + b) = ls_n F a + ls_n (fun i => F (a + i)) b
  | 0 => (Int32.add_zero _).symm
  | b + 1 => by
    show ls_n F (a + b) + F (a + b) = ls_n F a + (ls_n (fun i => F (a + i)) b + F (a + b))
    rw [ts_add F a b, Int32.add_assoc]
theorem ts_two (f g : Nat → Int32) : ∀ n, ls_n (fun i => f i + g i) n = ls_n f n + ls_n g n
  | 0 => rfl
  | n + 1 => by
    show ls_n (fun i => f i + g i) n + (f n + g n) = (ls_n f n + f n) + (ls_n g n + g n)
    rw [ts_two f g n]; grind
theorem ts_dm (g : Nat → Nat → Int32) (k : Nat) (hk : 0 < k) : ∀ m, ls_n (fun c => g (c % k) (c / k)) (k * m) = ls_n (fun i => ls_n (fun c => g i c) m) k
  | 0 => by
    rw [Nat.mul_zero]
    exact (ls_nzero k (fun _ _ => rfl)).symm
  | m + 1 => by
    rw [Nat.mul_succ, ts_add, ts_dm g k hk m]
    have e : ls_n (fun i => g ((k * m + i) % k) ((k * m + i) / k)) k = ls_n (fun i => g i m) k := by
      apply ls_ncongr
      intro i hi
      rw [Nat.mul_add_mod, Nat.mod_eq_of_lt hi, Nat.mul_add_div hk, Nat.div_eq_of_lt hi, Nat.add_zero]
    rw [e]
    show _ = ls_n (fun i => ls_n (fun c => g i c) m + g i m) k
    rw [ts_two]
theorem ts_rev {α : Type} (g : α → Int32) : ∀ l : List α, ls_l g l.reverse = ls_l g l
  | [] => rfl
  | a :: l => by
    rw [List.reverse_cons, ls_app, ts_rev g l]
    show ls_l g l + (g a + 0) = g a + ls_l g l
    rw [Int32.add_zero, Int32.add_comm]
theorem ts_fil (g : Nat → Int32) (p : Nat → Bool) : ∀ l : List Nat, ls_l g (l.filter p) = ls_l (fun v => if p v = true then g v else 0) l
  | [] => rfl
  | a :: l => by
    by_cases h : p a = true
    · rw [List.filter_cons_of_pos h]
      show g a + ls_l g (l.filter p) = (if p a = true then g a else 0) + ls_l _ l
      rw [ts_fil g p l, if_pos h]
    · rw [List.filter_cons_of_neg h]
      show _ = (if p a = true then g a else 0) + ls_l _ l
      rw [ts_fil g p l, if_neg h, Int32.zero_add]
theorem ts_nx : ∀ t, t < 128 → (List.range (gb_size t)).map (pm_nx t 7) = ((List.range 7).filter (fun v => t.testBit v)).reverse := by decide +kernel
theorem ts_pick (H : Nat → Int32) (t : Nat) (ht : t < 128) : ls_n (fun i => H (pm_nx t 7 i)) (gb_size t) = ls_n (fun v => if t.testBit v = true then H v else 0) 7 := by
  rw [ls_range, ls_range, ← ls_map H (pm_nx t 7), ts_nx t ht, ts_rev, ts_fil]
/-! Y's count, by sets -/
def ts_w (W : Nat → Nat) : Nat → List Nat → Int32
  | e, [] => if 0 < W (7 * e + 0) then 1 else 0
  | e, v :: l => if 0 < W (7 * e + v) then ts_w W v l else 0
def ts_G (W : Nat → Nat) (k t e : Nat) : Int32 := ls_n (fun c => ts_w W e (pm_list k c t)) (pm_f k)
theorem ts_Gs (W : Nat → Nat) (k t e : Nat) (ht : t < 128) (hs : gb_size t = k + 1) : ts_G W (k + 1) t e = ls_n (fun v => if t.testBit v = true then (if 0 < W (7 * e + v) then ts_G W k (t &&& (127 ^^^ 2 ^ v)) v else 0) else 0) 7 := by
  have a : ts_G W (k + 1) t e = ls_n (fun i => ls_n (fun c => if 0 < W (7 * e + pm_nx t 7 i) then ts_w W (pm_nx t 7 i) (pm_list k c (t &&& (127 ^^^ 2 ^ pm_nx t 7 i))) else 0) (pm_f k)) (k + 1) :=
    ts_dm (fun i c => if 0 < W (7 * e + pm_nx t 7 i) then ts_w W (pm_nx t 7 i) (pm_list k c (t &&& (127 ^^^ 2 ^ pm_nx t 7 i))) else 0) (k + 1) (Nat.succ_pos k) (pm_f k)
  rw [a, ← ts_pick (fun v => if 0 < W (7 * e + v) then ts_G W k (t &&& (127 ^^^ 2 ^ v)) v else 0) t ht, hs]
  apply ls_ncongr
  intro i _
  by_cases h : 0 < W (7 * e + pm_nx t 7 i)
  · rw [if_pos h]
    apply ls_ncongr
    intro c _
    rw [if_pos h]
  · rw [if_neg h]
    exact ls_nzero _ (fun c _ => if_neg h)
theorem ts_wi (W : Nat → Nat) : ∀ (l : List Nat) (e : Nat), ((∀ j, j < l.length → 0 < W (7 * (e :: l).getD j 0 + (e :: l).getD (j + 1) 0)) ∧ 0 < W (7 * (e :: l).getD l.length 0 + 0) → ts_w W e l = 1) ∧ (¬ ((∀ j, j < l.length → 0 < W (7 * (e :: l).getD j 0 + (e :: l).getD (j + 1) 0)) ∧ 0 < W (7 * (e :: l).getD l.length 0 + 0)) → ts_w W e l = 0)
  | [], e => ⟨fun h => if_pos h.2, fun h => if_neg (fun z => h ⟨fun j hj => absurd hj (Nat.not_lt_zero j), z⟩)⟩
  | v :: l, e => by
    obtain ⟨i1, i0⟩ := ts_wi W l v
    constructor
    · rintro ⟨h1, h2⟩
      show (if 0 < W (7 * e + v) then ts_w W v l else 0) = 1
      rw [if_pos (show 0 < W (7 * e + v) from h1 0 (Nat.succ_pos _))]
      exact i1 ⟨fun j hj => h1 (j + 1) (Nat.succ_lt_succ hj), h2⟩
    · intro h
      show (if 0 < W (7 * e + v) then ts_w W v l else 0) = 0
      by_cases q : 0 < W (7 * e + v)
      · rw [if_pos q]
        apply i0
        rintro ⟨a, b⟩
        apply h
        refine ⟨fun j hj => ?_, b⟩
        cases j with
        | zero => exact q
        | succ j => exact a j (Nat.lt_of_succ_lt_succ hj)
      · rw [if_neg q]
theorem ts_nc (W : Nat → Nat) (c : Nat) : to_n W c = if pm_nx 127 7 (c % 7) = 0 then ts_w W 0 (pm_list 6 (c / 7) (127 &&& (127 ^^^ 2 ^ pm_nx 127 7 (c % 7)))) else 0 := by
  have h0 : pm_at c 0 = pm_nx 127 7 (c % 7) := rfl
  by_cases z : pm_nx 127 7 (c % 7) = 0
  · rw [if_pos z]
    have el : pm_o c = 0 :: pm_list 6 (c / 7) (127 &&& (127 ^^^ 2 ^ pm_nx 127 7 (c % 7))) := by
      show pm_nx 127 7 (c % 7) :: _ = _
      rw [z]
    have len : (pm_list 6 (c / 7) (127 &&& (127 ^^^ 2 ^ pm_nx 127 7 (c % 7)))).length = 6 := or_len _ _ _
    generalize pm_list 6 (c / 7) (127 &&& (127 ^^^ 2 ^ pm_nx 127 7 (c % 7))) = l at el len
    obtain ⟨i1, i0⟩ := ts_wi W l 0
    rw [len] at i1 i0
    have at' : ∀ j, pm_at c j = (0 :: l).getD j 0 := fun j => by
      unfold pm_at
      rw [el]
    by_cases p : to_p W c
    · rw [(to_y p).2, i1]
      refine ⟨fun j hj => ?_, ?_⟩
      · rw [← at', ← at']; exact p.2.1 j hj
      · have := p.2.2
        rw [at' 6, p.1] at this
        exact this
    · rw [(to_no p).2, i0]
      rintro ⟨a, b⟩
      apply p
      refine ⟨h0.trans z, fun j hj => ?_, ?_⟩
      · rw [at', at']; exact a j hj
      · rw [h0.trans z, at' 6]; exact b
  · rw [if_neg z]
    exact (to_no (fun p => z (h0.symm.trans p.1))).2
theorem ts_Y (W : Nat → Nat) : ls_n (to_n W) 5040 = ts_G W 6 126 0 := by
  have a : ls_n (to_n W) 5040 = ls_n (fun i => ls_n (fun c => if pm_nx 127 7 i = 0 then ts_w W 0 (pm_list 6 c (127 &&& (127 ^^^ 2 ^ pm_nx 127 7 i))) else 0) 720) 7 := by
    rw [← ts_dm (fun i c => if pm_nx 127 7 i = 0 then ts_w W 0 (pm_list 6 c (127 &&& (127 ^^^ 2 ^ pm_nx 127 7 i))) else 0) 7 (by decide) 720]
    exact ls_ncongr 5040 (fun c _ => ts_nc W c)
  rw [a]
  have nz : ∀ i, i < 6 → ¬ pm_nx 127 7 i = 0 := by decide
  have z6 : pm_nx 127 7 6 = 0 := by decide
  have z5 : ls_n (fun i => ls_n (fun c => if pm_nx 127 7 i = 0 then ts_w W 0 (pm_list 6 c (127 &&& (127 ^^^ 2 ^ pm_nx 127 7 i))) else 0) 720) 6 = 0 := ls_nzero 6 (fun i hi => ls_nzero 720 (fun c _ => if_neg (nz i hi)))
  show ls_n _ 6 + ls_n (fun c => if pm_nx 127 7 6 = 0 then ts_w W 0 (pm_list 6 c (127 &&& (127 ^^^ 2 ^ pm_nx 127 7 6))) else 0) 720 = _
  rw [z5, Int32.zero_add, z6]
  exact ls_ncongr 720 (fun c _ => if_pos rfl)
/-! X's count, by sets -/
def ts_b (S e : Nat) : Int32 := if S = 1 ∧ e = 0 then 1 else 0
def ts_f (N : Nat → Nat) : Nat → Nat → Nat → Int32
  | 0, _, _ => 0
  | n + 1, S, e => ts_b S e + (if S.testBit e = true then ls_n (fun x => if (N x).testBit e = true then ts_f N n (S ^^^ 2 ^ e) x else 0) 7 else 0)
theorem ts_st (N : Nat → Nat) : ∀ n m S e, S < 128 → e < 7 → S < n → S < m → ts_f N n S e = ts_f N m S e
  | 0, _, _, _, _, _, h, _ => absurd h (Nat.not_lt_zero _)
  | _ + 1, 0, _, _, _, _, _, h => absurd h (Nat.not_lt_zero _)
  | n + 1, m + 1, S, e, hS, he, hn, hm => by
    show ts_b S e + (if S.testBit e = true then _ else 0) = ts_b S e + (if S.testBit e = true then _ else 0)
    by_cases h : S.testBit e = true
    · rw [if_pos h, if_pos h]
      have l := gb_xless S hS e he h
      have q : ls_n (fun x => if (N x).testBit e = true then ts_f N n (S ^^^ 2 ^ e) x else 0) 7 = ls_n (fun x => if (N x).testBit e = true then ts_f N m (S ^^^ 2 ^ e) x else 0) 7 := by
        apply ls_ncongr
        intro x hx
        rw [ts_st N n m (S ^^^ 2 ^ e) x (by omega) hx (by omega) (by omega)]
      rw [q]
    · rw [if_neg h, if_neg h]
def ts_v (N : Nat → Nat) (S e : Nat) : Int32 := ts_f N (S + 1) S e
theorem ts_vr (N : Nat → Nat) {S e : Nat} (hS : S < 128) (he : e < 7) : ts_v N S e = ts_b S e + (if S.testBit e = true then ls_n (fun x => if (N x).testBit e = true then ts_v N (S ^^^ 2 ^ e) x else 0) 7 else 0) := by
  show ts_b S e + (if S.testBit e = true then ls_n (fun x => if (N x).testBit e = true then ts_f N S (S ^^^ 2 ^ e) x else 0) 7 else 0) = _
  by_cases h : S.testBit e = true
  · rw [if_pos h, if_pos h]
    have l := gb_xless S hS e he h
    have q : ls_n (fun x => if (N x).testBit e = true then ts_f N S (S ^^^ 2 ^ e) x else 0) 7 = ls_n (fun x => if (N x).testBit e = true then ts_v N (S ^^^ 2 ^ e) x else 0) 7 := by
      apply ls_ncongr
      intro x hx
      unfold ts_v
      rw [ts_st N S ((S ^^^ 2 ^ e) + 1) (S ^^^ 2 ^ e) x (by omega) hx (by omega) (by omega)]
    rw [q]
  · rw [if_neg h, if_neg h]
/-- a set without vertex 0 is on no way -/
theorem ts_z (N : Nat → Nat) : ∀ n S e, S < 128 → e < 7 → S < n → S.testBit 0 = false → ts_v N S e = 0
  | 0, _, _, _, _, h, _ => absurd h (Nat.not_lt_zero _)
  | n + 1, S, e, hS, he, hn, h0 => by
    rw [ts_vr N hS he]
    have b : ts_b S e = 0 := by
      apply if_neg
      rintro ⟨rfl, _⟩
      exact absurd h0 (by decide)
    rw [b, Int32.zero_add]
    by_cases h : S.testBit e = true
    · rw [if_pos h]
      have l := gb_xless S hS e he h
      apply ls_nzero
      intro x hx
      have q : (S ^^^ 2 ^ e).testBit 0 = false := by
        rw [Nat.testBit_xor, h0, Nat.testBit_two_pow]
        have : ¬ e = 0 := by
          intro z
          subst z
          rw [h0] at h
          exact absurd h (by decide)
        simp [this]
      rw [ts_z N n (S ^^^ 2 ^ e) x (by omega) hx (by omega) q]
      split <;> rfl
    · rw [if_neg h]
theorem ts_rm : ∀ t, t < 128 → ∀ x, x < 7 → t.testBit x = true → (t &&& (127 ^^^ 2 ^ x)) < 128 ∧ gb_size (t &&& (127 ^^^ 2 ^ x)) + 1 = gb_size t ∧ (t &&& (127 ^^^ 2 ^ x)).testBit x = false ∧ ((t &&& (127 ^^^ 2 ^ x)) ||| 1) ||| 2 ^ x = t ||| 1 := by decide +kernel
theorem ts_rm0 : ∀ t, t < 128 → t.testBit 0 = false → t ||| 1 < 128 ∧ ((t ||| 1) ^^^ 2 ^ 0) = t ∧ (0 < t → ¬ t ||| 1 = 1) := by decide +kernel
theorem ts_sz0 : ∀ t, t < 128 → gb_size t = 0 → t = 0 := by decide +kernel
theorem ts_XG {aw an : Nat → Int32} {W N : Nat → Nat} (hG : gr_G aw an W N) (k : Nat) : ∀ t e, t < 128 → gb_size t = k → e < 7 → ¬ e = 0 → t.testBit 0 = false → t.testBit e = false → ts_v N ((t ||| 1) ||| 2 ^ e) e = ts_G W k t e := by
  induction k with
  | zero =>
    intro t e ht hk he h0 t0 te
    have : t = 0 := ts_sz0 t ht hk
    subst this
    have hb : ((0 : Nat) ||| 1 ||| 2 ^ e).testBit e = true := by
      rw [Nat.testBit_or, Nat.testBit_two_pow]; simp
    have hx : ((0 : Nat) ||| 1 ||| 2 ^ e) ^^^ 2 ^ e = 1 := by
      have : (1 : Nat).testBit e = false := by
        rw [show (1 : Nat) = 2 ^ 0 from rfl, Nat.testBit_two_pow]
        exact decide_eq_false (fun z => h0 z.symm)
      exact sq_orx (a := 1) this
    rw [ts_vr N (gb_lt128 (by decide) (gb_p2 e he)) he, if_pos hb, hx]
    have b : ts_b (0 ||| 1 ||| 2 ^ e) e = 0 := if_neg (fun z => h0 z.2)
    rw [b, Int32.zero_add]
    have v0 : ts_v N 1 0 = 1 := by
      rw [ts_vr N (by decide) (by decide), if_pos (by decide)]
      have : ls_n (fun x => if (N x).testBit 0 = true then ts_v N (1 ^^^ 2 ^ 0) x else 0) 7 = 0 := by
        apply ls_nzero
        intro x hx
        rw [ts_z N 1 (1 ^^^ 2 ^ 0) x (by decide) hx (by decide) (by decide)]
        split <;> rfl
      rw [this]; rfl
    have vx : ∀ x, x < 7 → ¬ x = 0 → ts_v N 1 x = 0 := by
      intro x hx nx
      have tx : ¬ (1 : Nat).testBit x = true := by
        rw [show (1 : Nat) = 2 ^ 0 from rfl, Nat.testBit_two_pow, decide_eq_true_eq]
        exact fun z => nx z.symm
      rw [ts_vr N (by decide) hx, if_neg tx, Int32.add_zero]
      exact if_neg (fun z => nx z.2)
    show ls_n (fun x => if (N x).testBit e = true then ts_v N 1 x else 0) (1 + 6) = 0 + (if 0 < W (7 * e + 0) then 1 else 0)
    rw [ts_add]
    have z6 : ls_n (fun i => if (N (1 + i)).testBit e = true then ts_v N 1 (1 + i) else 0) 6 = 0 := by
      apply ls_nzero
      intro i hi
      rw [vx (1 + i) (by omega) (by omega)]
      split <;> rfl
    rw [z6, Int32.add_zero]
    show 0 + (if (N 0).testBit e = true then ts_v N 1 0 else 0) = _
    rw [v0]
    have ht := gr_t hG (a := 0) (b := e) (by decide) he
    rw [gr_sy hG (a := 0) (b := e) (by decide) he] at ht
    congr 1
    by_cases q : 0 < W (7 * e + 0)
    · rw [if_pos q, if_pos (ht.2 q)]
    · rw [if_neg q, if_neg (fun z => q (ht.1 z))]
  | succ k ih =>
    intro t e ht hk he h0 t0 te
    obtain ⟨r1, r2, r3⟩ := ts_rm0 t ht t0
    have tpos : 0 < t := by
      apply Nat.pos_of_ne_zero
      intro z
      subst z
      exact absurd hk (by have : gb_size 0 = 0 := by decide
                          omega)
    have te1 : (t ||| 1).testBit e = false := by
      rw [Nat.testBit_or, te, show (1 : Nat) = 2 ^ 0 from rfl, Nat.testBit_two_pow, Bool.false_or]
      exact decide_eq_false (fun z => h0 z.symm)
    have hb : (t ||| 1 ||| 2 ^ e).testBit e = true := by
      rw [Nat.testBit_or, Nat.testBit_two_pow]; simp
    rw [ts_vr N (gb_lt128 r1 (gb_p2 e he)) he, if_pos hb, sq_orx te1]
    have b : ts_b (t ||| 1 ||| 2 ^ e) e = 0 := if_neg (fun z => h0 z.2)
    rw [b, Int32.zero_add, ts_Gs W k t e ht hk]
    apply ls_ncongr
    intro x hx
    have hn := gr_t hG hx he
    rw [gr_sy hG hx he] at hn
    by_cases tx : t.testBit x = true
    · rw [if_pos tx]
      obtain ⟨m1, m2, m3, m4⟩ := ts_rm t ht x hx tx
      have x0 : ¬ x = 0 := by
        intro z
        subst z
        rw [t0] at tx
        exact absurd tx (by decide)
      have i := ih (t &&& (127 ^^^ 2 ^ x)) x m1 (by omega) hx x0 (by
        rw [gb_and127 _ _ _ (by decide), t0, Bool.false_and]) m3
      rw [m4] at i
      rw [i]
      by_cases q : 0 < W (7 * e + x)
      · rw [if_pos q, if_pos (hn.2 q)]
      · rw [if_neg q, if_neg (fun z => q (hn.1 z))]
    · rw [if_neg tx]
      have v : ts_v N (t ||| 1) x = 0 := by
        by_cases x0 : x = 0
        · subst x0
          rw [ts_vr N r1 hx]
          have b : ts_b (t ||| 1) 0 = 0 := if_neg (fun z => r3 tpos z.1)
          rw [b, Int32.zero_add]
          by_cases h : (t ||| 1).testBit 0 = true
          · rw [if_pos h, r2]
            apply ls_nzero
            intro y hy
            rw [ts_z N 128 t y ht hy ht t0]
            split <;> rfl
          · rw [if_neg h]
        · have nx : ¬ (t ||| 1).testBit x = true := by
            rw [Nat.testBit_or, show (1 : Nat) = 2 ^ 0 from rfl, Nat.testBit_two_pow, Bool.or_eq_true, decide_eq_true_eq]
            rintro (z | z)
            · exact tx z
            · exact x0 z.symm
          rw [ts_vr N r1 hx, if_neg nx, Int32.add_zero]
          exact if_neg (fun z => x0 z.2)
      rw [v]
      split <;> rfl
theorem ts_126 : ∀ e, e < 7 → ¬ e = 0 → Nat.testBit 126 e = true ∧ ((126 &&& (127 ^^^ 2 ^ e)) ||| 1) ||| 2 ^ e = 127 ∧ (126 &&& (127 ^^^ 2 ^ e)) < 128 ∧ gb_size (126 &&& (127 ^^^ 2 ^ e)) = 5 ∧ Nat.testBit (126 &&& (127 ^^^ 2 ^ e)) 0 = false ∧ Nat.testBit (126 &&& (127 ^^^ 2 ^ e)) e = false := by decide +kernel
theorem ts_eq {aw an : Nat → Int32} {W N : Nat → Nat} (hG : gr_G aw an W N) : ls_n (fun e => if (N 0).testBit e = true then ts_v N 127 e else 0) 7 = ls_n (to_n W) 5040 := by
  rw [ts_Y, ts_Gs W 5 126 0 (by decide) (by decide)]
  apply ls_ncongr
  intro e he
  have hn := gr_t hG (a := 0) (b := e) (by decide) he
  by_cases e0 : e = 0
  · subst e0
    have : (N 0).testBit 0 = false := (gr_f hG (a := 0) (b := 0) (by decide) (by decide)).2 (gr_dg hG (a := 0) (by decide))
    rw [if_neg (by rw [this]; decide), if_neg (by decide)]
  · obtain ⟨q1, q2, q3, q4, q5, q6⟩ := ts_126 e he e0
    have i := ts_XG hG 5 (126 &&& (127 ^^^ 2 ^ e)) e q3 q4 he e0 q5 q6
    rw [q2] at i
    rw [if_pos q1, i]
    by_cases q : 0 < W (7 * 0 + e)
    · rw [if_pos q, if_pos (hn.2 q)]
    · rw [if_neg q, if_neg (fun z => q (hn.1 z))]

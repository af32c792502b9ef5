/-! sequences of vertices, as functions -/
def sq_s (o : Nat → Nat) : Nat → Nat
  | 0 => 0
  | n + 1 => sq_s o n ||| 2 ^ o n
def sq_D (o : Nat → Nat) (n : Nat) : Prop := (∀ j, j < n → o j < 7) ∧ (∀ i j, i < j → j < n → o i ≠ o j)
theorem sq_lt {o : Nat → Nat} : ∀ n, (∀ j, j < n → o j < 7) → sq_s o n < 128
  | 0, _ => by show 0 < 128; decide
  | n + 1, h => gb_lt128 (sq_lt n (fun j hj => h j (by omega))) (gb_p2 _ (h n (by omega)))
theorem sq_t {o : Nat → Nat} {v : Nat} : ∀ n, (sq_s o n).testBit v = true ↔ ∃ j, j < n ∧ o j = v
  | 0 => by
    show (0 : Nat).testBit v = true ↔ _
    rw [Nat.zero_testBit]
    exact ⟨fun z => absurd z (by decide), fun ⟨j, hj, _⟩ => absurd hj (Nat.not_lt_zero j)⟩
  | n + 1 => by
    show (sq_s o n ||| 2 ^ o n).testBit v = true ↔ _
    rw [Nat.testBit_or, Nat.testBit_two_pow, Bool.or_eq_true, sq_t n, decide_eq_true_eq]
    constructor
    · rintro (⟨j, hj, e⟩ | e)
      · exact ⟨j, by omega, e⟩
      · exact ⟨n, by omega, e⟩
    · rintro ⟨j, hj, e⟩
      by_cases z : j = n
      · subst z; exact Or.inr e
      · exact Or.inl ⟨j, by omega, e⟩
theorem sq_pre {o : Nat → Nat} {n : Nat} (h : sq_D o (n + 1)) : sq_D o n := ⟨fun j hj => h.1 j (by omega), fun i j hi hj => h.2 i j hi (by omega)⟩
theorem sq_prem {o : Nat → Nat} {n m : Nat} (h : sq_D o n) (hm : m ≤ n) : sq_D o m := ⟨fun j hj => h.1 j (by omega), fun i j hi hj => h.2 i j hi (by omega)⟩
theorem sq_new {o : Nat → Nat} {n : Nat} (h : sq_D o (n + 1)) : (sq_s o n).testBit (o n) = false := by
  apply Bool.eq_false_iff.mpr
  intro z
  obtain ⟨j, hj, e⟩ := (sq_t n).1 z
  exact h.2 j n hj (by omega) e
theorem sq_size {o : Nat → Nat} : ∀ n, sq_D o n → gb_size (sq_s o n) = n
  | 0, _ => by show gb_size 0 = 0; decide
  | n + 1, h => by
    have ih := sq_size n (sq_pre h)
    show gb_size (sq_s o n ||| 2 ^ o n) = n + 1
    rw [li_grow _ (sq_lt n (sq_pre h).1) _ (h.1 n (by omega)) (sq_new h), ih]
theorem sq_7 {o : Nat → Nat} {n : Nat} (h : sq_D o n) : n ≤ 7 := by
  rw [← sq_size n h]; exact gb_size7 _
theorem sq_orx {a v : Nat} (h : a.testBit v = false) : (a ||| 2 ^ v) ^^^ 2 ^ v = a := by
  apply Nat.eq_of_testBit_eq
  intro i
  rw [Nat.testBit_xor, Nat.testBit_or, Nat.testBit_two_pow]
  by_cases e : v = i
  · subst e; rw [h]; simp
  · simp [e]
theorem sq_xor {a v : Nat} (h : a.testBit v = true) : (a ^^^ 2 ^ v) ||| 2 ^ v = a := by
  apply Nat.eq_of_testBit_eq
  intro i
  rw [Nat.testBit_or, Nat.testBit_xor, Nat.testBit_two_pow]
  by_cases e : v = i
  · subst e; rw [h]; simp
  · simp [e]
theorem sq_xt {a v : Nat} (h : a.testBit v = true) : (a ^^^ 2 ^ v).testBit v = false := by
  rw [Nat.testBit_xor, Nat.testBit_two_pow, h]; simp
theorem sq_back {o : Nat → Nat} {n : Nat} (h : sq_D o (n + 1)) : sq_s o (n + 1) ^^^ 2 ^ o n = sq_s o n := sq_orx (sq_new h)
theorem sq_cong {o p : Nat → Nat} : ∀ n, (∀ j, j < n → o j = p j) → sq_s o n = sq_s p n
  | 0, _ => rfl
  | n + 1, h => by
    show sq_s o n ||| 2 ^ o n = sq_s p n ||| 2 ^ p n
    rw [sq_cong n (fun j hj => h j (by omega)), h n (by omega)]
theorem sq_Dc {o p : Nat → Nat} {n : Nat} (h : ∀ j, j < n → o j = p j) (d : sq_D o n) : sq_D p n := by
  refine ⟨fun j hj => ?_, fun i j hi hj => ?_⟩
  · rw [← h j hj]; exact d.1 j hj
  · rw [← h j hj, ← h i (by omega)]; exact d.2 i j hi hj
/-- the sequence with v at n -/
def sq_x (o : Nat → Nat) (n v : Nat) : Nat → Nat := fun j => if j = n then v else o j
theorem sq_xn (o : Nat → Nat) (n v : Nat) : sq_x o n v n = v := if_pos rfl
theorem sq_xj {o : Nat → Nat} {n v j : Nat} (h : j < n) : sq_x o n v j = o j := if_neg (by omega)
theorem sq_xD {o : Nat → Nat} {n v : Nat} (h : sq_D o n) (hv : v < 7) (hb : (sq_s o n).testBit v = false) : sq_D (sq_x o n v) (n + 1) := by
  refine ⟨fun j hj => ?_, fun i j hi hj => ?_⟩
  · by_cases e : j = n
    · subst e; rw [sq_xn]; exact hv
    · rw [sq_xj (by omega)]; exact h.1 j (by omega)
  · rw [sq_xj (j := i) (by omega)]
    by_cases e : j = n
    · subst e
      rw [sq_xn]
      intro z
      have := (sq_t (o := o) j).2 ⟨i, hi, z⟩
      rw [hb] at this
      exact absurd this (by decide)
    · rw [sq_xj (by omega)]; exact h.2 i j hi (by omega)
theorem sq_xs {o : Nat → Nat} {n v : Nat} : sq_s (sq_x o n v) n = sq_s o n := sq_cong n (fun j hj => sq_xj hj)
theorem sq_xS {o : Nat → Nat} {n v : Nat} : sq_s (sq_x o n v) (n + 1) = sq_s o n ||| 2 ^ v := by
  show sq_s (sq_x o n v) n ||| 2 ^ sq_x o n v n = _
  rw [sq_xs, sq_xn]
theorem sq_room : ∀ s, s < 128 → gb_size s < 7 → ∃ v, v < 7 ∧ s.testBit v = false := by decide +kernel
theorem sq_127 : ∀ s, s < 128 → gb_size s = 7 → s = 127 := by decide +kernel
theorem sq_full {o : Nat → Nat} (h : sq_D o 7) : sq_s o 7 = 127 := sq_127 _ (sq_lt 7 h.1) (sq_size 7 h)
theorem sq_ext (d : Nat) : ∀ (o : Nat → Nat) (n : Nat), n + d = 7 → sq_D o n → ∃ p, sq_D p 7 ∧ ∀ j, j < n → p j = o j := by
  induction d with
  | zero => intro o n hn h; cases hn; exact ⟨o, h, fun _ _ => rfl⟩
  | succ d ih =>
    intro o n hn h
    obtain ⟨v, hv, hb⟩ := sq_room _ (sq_lt n h.1) (by rw [sq_size n h]; omega)
    obtain ⟨p, hp, hj⟩ := ih (sq_x o n v) (n + 1) (by omega) (sq_xD h hv hb)
    exact ⟨p, hp, fun j hjn => by rw [hj j (by omega), sq_xj hjn]⟩
/-! the codes give all of them -/
theorem pm_in : ∀ t, t < 128 → ∀ i, i < gb_size t → t.testBit (pm_nx t 7 i) = true ∧ gb_size (t &&& (127 ^^^ 2 ^ pm_nx t 7 i)) + 1 = gb_size t := by decide +kernel
theorem pm_on : ∀ t, t < 128 → ∀ v, v < 7 → t.testBit v = true → ∃ i, i < gb_size t ∧ pm_nx t 7 i = v := by decide +kernel
def pm_f : Nat → Nat
  | 0 => 1
  | k + 1 => (k + 1) * pm_f k
theorem pm_rest {t v j : Nat} (hj : j < 7) : (t &&& (127 ^^^ 2 ^ v)).testBit j = true ↔ t.testBit j = true ∧ j ≠ v := by
  rw [gb_and127 _ _ _ hj, Nat.testBit_two_pow, Bool.and_eq_true]
  constructor
  · rintro ⟨a, b⟩
    refine ⟨a, fun z => ?_⟩
    subst z; simp at b
  · rintro ⟨a, b⟩
    refine ⟨a, ?_⟩
    have : ¬ v = j := fun z => b z.symm
    simp [this]
theorem pm_D : ∀ k c t, t < 128 → gb_size t = k → (∀ j, j < k → (pm_list k c t).getD j 0 < 7 ∧ t.testBit ((pm_list k c t).getD j 0) = true) ∧ (∀ i j, i < j → j < k → (pm_list k c t).getD i 0 ≠ (pm_list k c t).getD j 0)
  | 0, _, _, _, _ => ⟨fun j hj => absurd hj (Nat.not_lt_zero j), fun _ j _ hj => absurd hj (Nat.not_lt_zero j)⟩
  | k + 1, c, t, ht, hs => by
    have hm : c % (k + 1) < gb_size t := by rw [hs]; exact Nat.mod_lt _ (by omega)
    obtain ⟨p1, p2⟩ := pm_in t ht _ hm
    have h7 := or_nx t 7 (c % (k + 1)) (Nat.le_refl 7)
    obtain ⟨q1, q2⟩ := pm_D k (c / (k + 1)) (t &&& (127 ^^^ 2 ^ pm_nx t 7 (c % (k + 1)))) (gb_and_lt ht) (by omega)
    refine ⟨fun j hj => ?_, fun i j hi hj => ?_⟩
    · cases j with
      | zero => exact ⟨h7, p1⟩
      | succ j =>
        have := q1 j (by omega)
        exact ⟨this.1, ((pm_rest this.1).1 this.2).1⟩
    · cases j with
      | zero => exact absurd hi (Nat.not_lt_zero i)
      | succ j =>
        cases i with
        | zero =>
          have := q1 j (by omega)
          exact fun z => ((pm_rest this.1).1 this.2).2 z.symm
        | succ i => exact q2 i j (by omega) (by omega)
theorem pm_all (k : Nat) : ∀ (o : Nat → Nat) t, t < 128 → gb_size t = k → (∀ j, j < k → o j < 7 ∧ t.testBit (o j) = true) → (∀ i j, i < j → j < k → o i ≠ o j) → ∃ c, c < pm_f k ∧ ∀ j, j < k → (pm_list k c t).getD j 0 = o j := by
  induction k with
  | zero => intro o t _ _ _ _; exact ⟨0, by decide, fun j hj => absurd hj (Nat.not_lt_zero j)⟩
  | succ k ih =>
    intro o t ht hs h1 h2
    obtain ⟨a1, a2⟩ := h1 0 (by omega)
    obtain ⟨i, hi, he⟩ := pm_on t ht (o 0) a1 a2
    obtain ⟨_, p2⟩ := pm_in t ht i hi
    rw [he] at p2
    obtain ⟨c, hc, hj⟩ := ih (fun j => o (j + 1)) (t &&& (127 ^^^ 2 ^ o 0)) (gb_and_lt ht) (by omega) (fun j hj => by
      have := h1 (j + 1) (by omega)
      exact ⟨this.1, (pm_rest this.1).2 ⟨this.2, fun z => h2 0 (j + 1) (by omega) (by omega) z.symm⟩⟩) (fun x y hx hy => h2 (x + 1) (y + 1) (by omega) (by omega))
    have m1 : (i + (k + 1) * c) % (k + 1) = i := by
      rw [Nat.add_mul_mod_self_left, Nat.mod_eq_of_lt (by omega)]
    have m2 : (i + (k + 1) * c) / (k + 1) = c := by
      rw [Nat.add_mul_div_left _ _ (by omega), Nat.div_eq_of_lt (by omega), Nat.zero_add]
    refine ⟨i + (k + 1) * c, ?_, fun j hj' => ?_⟩
    · show _ < (k + 1) * pm_f k
      have : (k + 1) * (c + 1) ≤ (k + 1) * pm_f k := Nat.mul_le_mul_left _ hc
      rw [Nat.mul_add] at this
      omega
    · show (pm_nx t 7 ((i + (k + 1) * c) % (k + 1)) :: pm_list k ((i + (k + 1) * c) / (k + 1)) (t &&& (127 ^^^ 2 ^ pm_nx t 7 ((i + (k + 1) * c) % (k + 1))))).getD j 0 = o j
      rw [m1, m2, he]
      cases j with
      | zero => rfl
      | succ j => exact hj j (by omega)
theorem pm_seq (c : Nat) : sq_D (pm_at c) 7 := by
  obtain ⟨a, b⟩ := pm_D 7 c 127 (by decide) (by decide)
  exact ⟨fun j hj => (a j hj).1, b⟩
theorem pm_code (o : Nat → Nat) (h : sq_D o 7) : ∃ c, c < 5040 ∧ ∀ j, j < 7 → pm_at c j = o j := by
  have key : ∀ v, v < 7 → Nat.testBit 127 v = true := by decide
  exact pm_all 7 o 127 (by decide) (by decide) (fun j hj => ⟨h.1 j hj, key _ (h.1 j hj)⟩) h.2

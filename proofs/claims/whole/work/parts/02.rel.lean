/-! the graph, the orders, the relation -/
def gr_G (w nr : Nat → Int32) (W N : Nat → Nat) : Prop :=
  (∀ i, i < 49 → w i = nI (W i) ∧ W i ≤ 9) ∧ (∀ a b, a < 7 → b < 7 → W (7 * a + b) = W (7 * b + a)) ∧ (∀ a, a < 7 → W (7 * a + a) = 0) ∧ (∀ a, a < 7 → nr a = nI (N a) ∧ N a < 128) ∧ (∀ a b, a < 7 → b < 7 → ((N a).testBit b = true ↔ 0 < W (7 * a + b)))
/-- the vertex of 'there' below v that Y's pack takes: the skip-th from above -/
def pm_nx (there : Nat) : Nat → Nat → Nat
  | 0, _ => 0
  | v + 1, skip => if there.testBit v then (if skip = 0 then v else pm_nx there v (skip - 1)) else pm_nx there v skip
def pm_list : Nat → Nat → Nat → List Nat
  | 0, _, _ => []
  | k + 1, rest, there => pm_nx there 7 (rest % (k + 1)) :: pm_list k (rest / (k + 1)) (there &&& (127 ^^^ 2 ^ pm_nx there 7 (rest % (k + 1))))
def pm_enc : List Nat → Nat
  | [] => 0
  | v :: l => v + 8 * pm_enc l
def pm_o (c : Nat) : List Nat := pm_list 7 c 127
def gr_O (rd : Int32) (od : Nat → Int32) : Prop := rd = 0 ∨ (¬ rd = 0 ∧ ∀ c, c < 5040 → od c = nI (pm_enc (pm_o c)))
/-- the two states know the same graph; the rest is room to reckon in, but for Y's orders once they are ready -/
def i_Rel (_ : Nat) (u : SX) (v : SY) : Prop := v.2.1 = u.1 ∧ (∃ W N, gr_G u.1 u.2.1 W N) ∧ gr_O v.1 v.2.2.1
theorem i_up {k : Nat} {u : SX} {v : SY} (h : i_Rel k u v) : i_Rel (k + 4) u v := h
theorem gr_0 : gr_G (fun _ => 0) (fun _ => 0) (fun _ => 0) (fun _ => 0) :=
  ⟨fun _ _ => ⟨rfl, Nat.zero_le 9⟩, fun _ _ _ _ => rfl, fun _ _ => rfl, fun _ _ => ⟨rfl, Nat.zero_lt_succ 127⟩, fun _ _ _ _ => by simp⟩
theorem i_vc0 : wpX_init (fun u => wpY_init (fun v => i_Rel 0 u v)) := ⟨rfl, ⟨_, _, gr_0⟩, Or.inl rfl⟩
/-! edge -/
theorem ed_xb {post : Int32 → Prop} {x : Int32} (h : x < 0 ∨ nI 7 ≤ x) (hp : post 0) : wpX_isVertex post x := by
  by_cases h0 : x < 0
  · exact br_t h0 hp
  · exact br_f h0 (br_t (h.resolve_left h0) hp)
theorem ed_xg {post : Int32 → Prop} {j : Nat} (h : j < 7) (hp : post 1) : wpX_isVertex post (nI j) :=
  br_f (nI_pos (by omega)) (br_f (nI_ge (b := 7) h (by decide)) hp)
theorem ed_6 {x : Int32} (h : nI 7 ≤ x) : (6 : Int32) < x := by
  rw [Int32.le_iff_toInt_le] at h
  rw [Int32.lt_iff_toInt_lt]
  have a : (nI 7).toInt = 7 := by decide
  have b : (6 : Int32).toInt = 6 := by decide
  omega
theorem ed_yb {post : Int32 → Prop} (v : SY) {x : Int32} (h : x < 0 ∨ nI 7 ≤ x) (hp : post 0) : wpY_isVertex post v x := by
  obtain ⟨a, b, c, d, e, f, g, i, j, k⟩ := v
  by_cases h0 : x < 0
  · exact br_t h0 hp
  · exact br_f h0 (br_t (ed_6 (h.resolve_left h0)) hp)
theorem ed_yg {post : Int32 → Prop} (v : SY) {j : Nat} (h : j < 7) (hp : post 1) : wpY_isVertex post v (nI j) := by
  obtain ⟨a, b, c, d, e, f, g, i, l, k⟩ := v
  exact br_f (nI_pos (by omega)) (br_f (nI_nlt (a := 6) (by omega) (by omega)) hp)
def ed_n (c n b : Nat) : Nat := if c = 0 then n &&& (127 ^^^ 2 ^ b) else n ||| 2 ^ b
theorem ed_nlt {c n b : Nat} (hn : n < 128) (hb : b < 7) : ed_n c n b < 128 := by
  unfold ed_n
  split
  · exact Nat.lt_of_le_of_lt Nat.and_le_left hn
  · exact gb_lt128 hn (gb_p2 b hb)
theorem gb_and127 (n b j : Nat) (hj : j < 7) : (n &&& (127 ^^^ b)).testBit j = (n.testBit j && !b.testBit j) := by
  have h7 : Nat.testBit 127 j = decide (j < 7) := Nat.testBit_two_pow_sub_one (n := 7) (i := j)
  rw [Nat.testBit_and, Nat.testBit_xor, h7, decide_eq_true hj, Bool.true_xor]
theorem ed_nt1 {c n b : Nat} (hb : b < 7) : (ed_n c n b).testBit b = true ↔ 0 < c := by
  unfold ed_n
  split
  · next h =>
    subst h
    rw [gb_and127 _ _ _ hb, Nat.testBit_two_pow]; simp
  · next h =>
    rw [Nat.testBit_or, Nat.testBit_two_pow]; simp; omega
theorem ed_nt2 {c n b j : Nat} (hj : j < 7) (h : ¬ j = b) : (ed_n c n b).testBit j = n.testBit j := by
  have h' : ¬ b = j := fun z => h z.symm
  unfold ed_n
  split
  · rw [gb_and127 _ _ _ hj, Nat.testBit_two_pow]; simp [h']
  · rw [Nat.testBit_or, Nat.testBit_two_pow]; simp [h']
section
variable (aw an sp po wy pa pr co : Nat → Int32)
theorem ed_link {post : SX → Prop} {a b c n : Nat} (ha : a < 7) (hb : b < 7) (hc : c < 10) (hn : an a = nI n) (h128 : n < 128) (h : post (upd aw (7 * a + b) (nI c), upd an a (nI (ed_n c n b)), sp, po, wy, pa, pr, co)) : wpX_linkUp post (aw, an, sp, po, wy, pa, pr, co) (nI a) (nI b) (nI c) := by
  have e := gb_m7 a b
  have ka : (nI a).toNatClampNeg = a := nI_clamp (by omega)
  have hi : vp_in (nI a) 7 := vp_in_nI ha (by decide)
  refine ⟨by rw [e]; exact vp_in_nI (by omega) (by decide), nm_r (e' := upd aw (7 * a + b) (nI c)) (by rw [e, nI_clamp (by omega)]) ?_⟩
  by_cases hc0 : c = 0
  · subst hc0
    refine br_t (by decide) ⟨hi, hi, nm_r (e' := upd an a (nI (ed_n 0 n b))) ?_ h⟩
    rw [ka, hn, gb_sh b (by omega), gb_cpl h128]; rfl
  · refine br_f (nI_nle (by omega) (by omega)) ⟨hi, hi, nm_r (e' := upd an a (nI (ed_n c n b))) ?_ h⟩
    rw [ka, hn, gb_sh b (by omega), gb_or]
    unfold ed_n
    rw [if_neg hc0]
end
theorem ed_G {aw an : Nat → Int32} {W N : Nat → Nat} (h : gr_G aw an W N) {a b c : Nat} (ha : a < 7) (hb : b < 7) (hab : a ≠ b) (hc : c < 10) : gr_G (upd (upd aw (7 * a + b) (nI c)) (7 * b + a) (nI c)) (upd (upd an a (nI (ed_n c (N a) b))) b (nI (ed_n c (N b) a))) (fun i => if i = 7 * b + a then c else if i = 7 * a + b then c else W i) (fun v => if v = b then ed_n c (N b) a else if v = a then ed_n c (N a) b else N v) := by
  obtain ⟨h1, h2, h3, h4, h5⟩ := h
  refine ⟨fun i hi => ?_, fun x y hx hy => ?_, fun x hx => ?_, fun x hx => ?_, fun x y hx hy => ?_⟩
  · have := h1 i hi
    dsimp only [upd]
    split
    · exact ⟨rfl, by omega⟩
    · split
      · exact ⟨rfl, by omega⟩
      · exact this
  · have := h2 x y hx hy
    dsimp only
    by_cases e1 : x = a ∧ y = b
    · obtain ⟨rfl, rfl⟩ := e1; simp
    · by_cases e2 : x = b ∧ y = a
      · obtain ⟨rfl, rfl⟩ := e2; simp
      · rw [if_neg (by omega), if_neg (by omega), if_neg (by omega), if_neg (by omega)]; exact this
  · dsimp only
    rw [if_neg (by omega), if_neg (by omega)]; exact h3 x hx
  · have := h4 x hx
    dsimp only [upd]
    split
    · exact ⟨rfl, ed_nlt (h4 b hb).2 ha⟩
    · split
      · exact ⟨rfl, ed_nlt (h4 a ha).2 hb⟩
      · exact this
  · have := h5 x y hx hy
    dsimp only
    by_cases e1 : x = b
    · subst e1
      rw [if_pos rfl]
      by_cases e2 : y = a
      · subst e2; rw [if_pos rfl]; exact ed_nt1 ha
      · rw [ed_nt2 hy e2, if_neg (by omega), if_neg (by omega)]; exact this
    · rw [if_neg e1]
      by_cases e3 : x = a
      · subst e3
        rw [if_pos rfl]
        by_cases e2 : y = b
        · subst e2; rw [if_neg (by omega), if_pos rfl]; exact ed_nt1 hb
        · rw [ed_nt2 hy e2, if_neg (by omega), if_neg (by omega)]; exact this
      · rw [if_neg e3, if_neg (by omega), if_neg (by omega)]; exact this
theorem i_vc_edge {k : Nat} {u : SX} {v : SY} (I : i_Rel k u v) (hk : k + 4 ≤ 2048) (v1 : Int32) (v2 : Int32) (v3 : Int32) : wpX_edge (fun r u' => wpY_edge (fun r' v' => r' = r ∧ i_Rel (k + 4) u' v') v v1 v2 v3) u v1 v2 v3 := by
  obtain ⟨aw, an, sp, po, wy, pa, pr, co⟩ := u
  obtain ⟨rd, bw, od, li, pt, ps, cf, fl, lv, lf⟩ := v
  have I0 := I
  obtain ⟨rfl, ⟨W, N, hG⟩, hO⟩ := I
  unfold wpX_edge wpY_edge
  dsimp only
  rcases pk_ix v1 (n := 7) (by decide) with h | h | ⟨a, ha, rfl⟩
  · exact ed_xb (Or.inl h) (br_t rfl (ed_yb _ (Or.inl h) (br_t rfl ⟨rfl, I0⟩)))
  · exact ed_xb (Or.inr h) (br_t rfl (ed_yb _ (Or.inr h) (br_t rfl ⟨rfl, I0⟩)))
  refine ed_xg ha (br_f (by decide) ?_)
  rcases pk_ix v2 (n := 7) (by decide) with h | h | ⟨b, hb, rfl⟩
  · exact ed_xb (Or.inl h) (br_t rfl (ed_yg _ ha (br_f (by decide) (ed_yb _ (Or.inl h) (br_t rfl ⟨rfl, I0⟩)))))
  · exact ed_xb (Or.inr h) (br_t rfl (ed_yg _ ha (br_f (by decide) (ed_yb _ (Or.inr h) (br_t rfl ⟨rfl, I0⟩)))))
  refine ed_xg hb (br_f (by decide) ?_)
  by_cases hab : a = b
  · subst hab
    exact br_t rfl (ed_yg _ ha (br_f (by decide) (ed_yg _ hb (br_f (by decide) (br_t rfl ⟨rfl, I0⟩)))))
  have hne : ¬ nI a = nI b := fun z => hab ((nI_eq (by omega) (by omega)).1 z)
  refine br_f hne ?_
  rcases pk_ix v3 (n := 10) (by decide) with h | h | ⟨c, hc, rfl⟩
  · exact br_t h (ed_yg _ ha (br_f (by decide) (ed_yg _ hb (br_f (by decide) (br_f hne (br_t h ⟨rfl, I0⟩))))))
  · have n0 : ¬ v3 < 0 := by
      intro z
      rw [Int32.lt_iff_toInt_lt] at z
      rw [Int32.le_iff_toInt_le] at h
      have p : (nI 10).toInt = 10 := by decide
      have q : (0 : Int32).toInt = 0 := by decide
      omega
    have n9 : ¬ v3 ≤ 9 := by
      intro z
      rw [Int32.le_iff_toInt_le] at z h
      have p : (nI 10).toInt = 10 := by decide
      have q : (9 : Int32).toInt = 9 := by decide
      omega
    exact br_f n0 (br_f n9 (ed_yg _ ha (br_f (by decide) (ed_yg _ hb (br_f (by decide) (br_f hne (br_f n0 (br_f n9 ⟨rfl, I0⟩))))))))
  have c0 : ¬ nI c < 0 := nI_pos (by omega)
  have c9 : nI c ≤ 9 := nI_le (b := 9) (by omega) (by decide)
  have hA := hG.2.2.2.1 a ha
  have hB := hG.2.2.2.1 b hb
  refine br_f c0 (br_t c9 (ed_link _ _ _ _ _ _ _ _ ha hb hc hA.1 hA.2 (ed_link _ _ _ _ _ _ _ _ hb ha hc (n := N b) ((pk_un (fun z => hab z.symm)).trans hB.1) hB.2 ?_)))
  refine ed_yg _ ha (br_f (by decide) (ed_yg _ hb (br_f (by decide) (br_f hne (br_f c0 (br_t c9 ?_))))))
  have e1 := gb_7m a b
  have e2 := gb_7m b a
  refine ⟨by rw [e1]; exact vp_in_nI (by omega) (by decide), nm_r (by rw [e1, nI_clamp (by omega)]) ⟨by rw [e2]; exact vp_in_nI (by omega) (by decide), nm_r (by rw [e2, nI_clamp (by omega)]) ⟨rfl, rfl, ⟨_, _, ed_G hG ha hb hab hc⟩, hO⟩⟩⟩

/-! Y's orders -/
theorem or_ng (j : Nat) : -nI j + (-1) = -nI (j + 1) := by
  rw [← nI_1]; grind
theorem or_n0 : ∀ j, j < 20 → 0 < j → ¬ -nI j = 0 := by decide +kernel
theorem or_nx (there : Nat) : ∀ p skip, p ≤ 7 → pm_nx there p skip < 7
  | 0, _, _ => by show 0 < 7; decide
  | p + 1, skip, h => by
    show (if there.testBit p then (if skip = 0 then p else pm_nx there p (skip - 1)) else pm_nx there p skip) < 7
    split
    · split
      · omega
      · exact or_nx there p (skip - 1) (by omega)
    · exact or_nx there p skip (by omega)
theorem or_or {a b k : Nat} (h : a < 2 ^ k) : a ||| b * 2 ^ k = a + 2 ^ k * b := by
  rw [Nat.or_comm, Nat.mul_comm b, ← Nat.two_pow_add_eq_or_of_lt h, Nat.add_comm]
section
variable {aw : Nat → Int32} {rd : Int32} {od li pt ps cf fl lv lf : Nat → Int32}
theorem or_35 {post : Int32 → Prop} {J : Int32 → Int32 → Int32 → Int32 → Prop} (x2 : Int32) (there pk k skip : Nat) (ht : there < 128) (hk : k < 7) (hs : skip < 2 ^ 20) (hp : pk < 2 ^ (3 * (6 - k))) (h : J x2 (nI (there &&& (127 ^^^ 2 ^ pm_nx there 7 skip))) (nI (pk + 2 ^ (3 * (6 - k)) * pm_nx there 7 skip)) (nI k)) : ∃ n, wY_pack_35 post J x2 (nI there) (nI pk) (nI (k + 1)) rd aw od li pt ps cf fl lv lf n (nI skip) 0 6 := by
  have fin : ∀ n v, v < 7 → J x2 (nI (there &&& (127 ^^^ 2 ^ v))) (nI (pk + 2 ^ (3 * (6 - k)) * v)) (nI k) → ∀ x6, wY_pack_35 post J x2 (nI there) (nI pk) (nI (k + 1)) rd aw od li pt ps cf fl lv lf (n + 1) x6 (nI v) (gb_pos 0) := by
    intro n v hv hJ x6
    refine br_t (by decide) (nm_r (e' := nI (there &&& (127 ^^^ 2 ^ v))) (by rw [gb_sh v (by omega), gb_cpl ht]) (nm_r (e' := nI (pk + 2 ^ (3 * (6 - k)) * v)) ?_ (nm_r (pk_m1 k) hJ)))
    have e : 3 * (7 - nI (k + 1)) = nI (3 * (6 - k)) := by
      rw [show (7 : Int32) - nI (k + 1) = nI (7 - (k + 1)) from pk_sub (a := 7) (by omega), show 7 - (k + 1) = 6 - k by omega]
      exact pk_mul 3 (6 - k)
    have b : 2 ^ (3 * (6 - k)) ≤ 2 ^ 18 := Nat.pow_le_pow_right (by decide) (by omega)
    have b2 : v * 2 ^ (3 * (6 - k)) ≤ 6 * 2 ^ 18 := Nat.mul_le_mul (by omega) b
    rw [e, pk_shlN _ (3 * (6 - k)) (s_l _ (by omega)) (by omega), gb_or, or_or hp]
  have main := gb_dn (fun n p => (∀ sk, J x2 (nI (there &&& (127 ^^^ 2 ^ pm_nx there p sk))) (nI (pk + 2 ^ (3 * (6 - k)) * pm_nx there p sk)) (nI k) → sk < 2 ^ 20 → wY_pack_35 post J x2 (nI there) (nI pk) (nI (k + 1)) rd aw od li pt ps cf fl lv lf n (nI sk) 0 (gb_pos p)) ∧ (∀ j v, v < 7 → 1 ≤ j → j + p ≤ 9 → J x2 (nI (there &&& (127 ^^^ 2 ^ v))) (nI (pk + 2 ^ (3 * (6 - k)) * v)) (nI k) → wY_pack_35 post J x2 (nI there) (nI pk) (nI (k + 1)) rd aw od li pt ps cf fl lv lf n (-nI j) (nI v) (gb_pos p))) (fun n => ⟨fun sk hJ _ => fin n 0 (by decide) hJ _, fun j v hv _ _ hJ => fin n v hv hJ _⟩) 7 (fun n p hp7 K => ⟨fun sk hJ hsk => ?_, fun j v hv h1 h9 hJ => ?_⟩)
  · obtain ⟨n, hn⟩ := main
    exact ⟨n, hn.1 skip h hs⟩
  · have hJ' : J x2 (nI (there &&& (127 ^^^ 2 ^ (if there.testBit p then (if sk = 0 then p else pm_nx there p (sk - 1)) else pm_nx there p sk)))) (nI (pk + 2 ^ (3 * (6 - k)) * (if there.testBit p then (if sk = 0 then p else pm_nx there p (sk - 1)) else pm_nx there p sk))) (nI k) := hJ
    refine br_f (nI_pos (by omega)) (gb_is1 there p (by omega) (by omega) (fun hb => pk_eq sk 0 (fun z => nm_r (e' := -nI 1) ?_ (nm_r (gb_posm p) (K.2 1 p (by omega) (by omega) (by omega) ?_))) (fun z => nm_r (e' := nI (sk - 1)) ?_ (nm_r (gb_posm p) (K.1 (sk - 1) ?_ (by omega))))) (fun hb => nm_r (gb_posm p) (K.1 sk ?_ hsk)))
    · subst z; decide
    · rw [hb, if_pos rfl, if_pos z] at hJ'; exact hJ'
    · rw [show sk = (sk - 1) + 1 by omega, pk_m1]; rfl
    · rw [hb, if_pos rfl, if_neg z] at hJ'; exact hJ'
    · rw [hb, if_neg (by decide)] at hJ'; exact hJ'
  · refine br_f (nI_pos (by omega)) (gb_is1 there p (by omega) (by omega) (fun hb => br_f (or_n0 j (by omega) h1) (nm_r (or_ng j) (nm_r (gb_posm p) (K.2 (j + 1) v hv (by omega) (by omega) hJ)))) (fun hb => nm_r (gb_posm p) (K.2 j v hv h1 (by omega) hJ)))
theorem or_pack {post : Int32 → Prop} (c : Nat) (hc : c < 5040) (h : post (nI (pm_enc (pm_o c)))) : wpY_pack post (rd, aw, od, li, pt, ps, cf, fl, lv, lf) (nI c) := by
  have main := gb_dn (fun n k => ∀ rest there pk, rest < 5040 → there < 128 → pk < 2 ^ (3 * (7 - k)) → post (nI (pk + 2 ^ (3 * (7 - k)) * pm_enc (pm_list k rest there))) → wY_pack_12 post rd aw od li pt ps cf fl lv lf n (nI rest) (nI there) (nI pk) (nI k)) (fun n rest there pk _ _ _ hp => br_t (by decide) hp) 7 (fun n k hk K rest there pk hr ht hpk hp => br_f (nI_nle (by omega) (by omega)) ?_)
  · obtain ⟨n, hn⟩ := main
    refine ⟨n, hn c 127 0 hc (by decide) (by decide) ?_⟩
    rw [show 0 + 2 ^ (3 * (7 - 7)) * pm_enc (pm_list 7 c 127) = pm_enc (pm_o c) by simp [pm_o]]
    exact h
  · have k0 : ¬ nI (k + 1) = 0 := nI_ne0 (by omega) (by omega)
    have e67 : 7 - (k + 1) = 6 - k := by omega
    rw [e67] at hpk hp
    have hd : rest / (k + 1) ≤ rest := Nat.div_le_self _ _
    have hm : rest % (k + 1) < k + 1 := Nat.mod_lt _ (by omega)
    refine ⟨k0, nm_r (pk_rem (by omega) (by omega) (by omega)) ⟨k0, nm_r (pk_div (by omega) (by omega) (by omega)) (or_35 _ there pk k (rest % (k + 1)) ht hk (by omega) hpk (K _ _ _ (by omega) (gb_and_lt ht) ?_ ?_))⟩⟩
    · have hv := or_nx there 7 (rest % (k + 1)) (Nat.le_refl 7)
      have e : 2 ^ (3 * (7 - k)) = 2 ^ (3 * (6 - k)) * 8 := by
        rw [show 3 * (7 - k) = 3 * (6 - k) + 3 by omega, Nat.pow_add]
      rw [e]
      have : 2 ^ (3 * (6 - k)) * pm_nx there 7 (rest % (k + 1)) ≤ 2 ^ (3 * (6 - k)) * 6 := Nat.mul_le_mul_left _ (by omega)
      omega
    · have e : 2 ^ (3 * (7 - k)) = 2 ^ (3 * (6 - k)) * 8 := by
        rw [show 3 * (7 - k) = 3 * (6 - k) + 3 by omega, Nat.pow_add]
      have e2 : pk + 2 ^ (3 * (6 - k)) * pm_enc (pm_list (k + 1) rest there) = pk + 2 ^ (3 * (6 - k)) * pm_nx there 7 (rest % (k + 1)) + 2 ^ (3 * (7 - k)) * pm_enc (pm_list k (rest / (k + 1)) (there &&& (127 ^^^ 2 ^ pm_nx there 7 (rest % (k + 1))))) := by
        show pk + 2 ^ (3 * (6 - k)) * (pm_nx there 7 (rest % (k + 1)) + 8 * pm_enc (pm_list k (rest / (k + 1)) (there &&& (127 ^^^ 2 ^ pm_nx there 7 (rest % (k + 1)))))) = _
        rw [e, Nat.mul_add, Nat.mul_assoc, Nat.add_assoc]
      rw [← e2]; exact hp
theorem or_make {post : SY → Prop} (hO : gr_O rd od) (h : ∀ (rd' : Int32) (od' : Nat → Int32), gr_O rd' od' → (∀ c, c < 5040 → od' c = nI (pm_enc (pm_o c))) → post (rd', aw, od', li, pt, ps, cf, fl, lv, lf)) : wpY_makeOrders post (rd, aw, od, li, pt, ps, cf, fl, lv, lf) := by
  rcases hO with h0 | ⟨h0, hc⟩
  · refine br_t h0 ?_
    have main := gb_lp (fun n i => ∀ q : Nat → Int32, (∀ c, c < i → q c = nI (pm_enc (pm_o c))) → wY_makeOrders_15 post 1 n (nI i) aw q li pt ps cf fl lv lf) 5040 0 (by omega) (fun n q hq => br_t (nI_le (a := 5040) (Nat.le_refl _) (by decide)) (h 1 q (Or.inr ⟨by decide, hq⟩) hq)) (fun n i _ hi K q hq => br_f (nI_ge (b := 5040) hi (by decide)) (or_pack i hi ⟨vp_in_nI hi (by decide), nm_r rfl (nm_r (nI_1 i) (K _ (fun c hc => ?_)))⟩))
    · obtain ⟨n, hn⟩ := main
      exact ⟨n, hn od (fun c hc => absurd hc (Nat.not_lt_zero c))⟩
    · rw [nI_clamp (by omega)]
      by_cases e : c = i
      · subst e; exact pk_us
      · rw [pk_un e]; exact hq c (by omega)
  · exact br_f h0 (h rd od (Or.inr ⟨h0, hc⟩) hc)
end
def pm_at (c k : Nat) : Nat := (pm_o c).getD k 0
theorem or_enc : ∀ (l : List Nat) (k : Nat), (∀ x, x ∈ l → x < 8) → pm_enc l / 2 ^ (3 * k) % 8 = l.getD k 0
  | [], k, _ => by
    show 0 / _ % 8 = _
    rw [Nat.zero_div]; rfl
  | v :: l, 0, h => by
    show (v + 8 * pm_enc l) / 1 % 8 = v
    have := h v (List.mem_cons_self ..)
    omega
  | v :: l, k + 1, h => by
    have hv := h v (List.mem_cons_self ..)
    show (v + 8 * pm_enc l) / 2 ^ (3 * (k + 1)) % 8 = l.getD k 0
    rw [show 3 * (k + 1) = 3 + 3 * k by omega, Nat.pow_add, ← Nat.div_div_eq_div_mul, show (v + 8 * pm_enc l) / 2 ^ 3 = pm_enc l by omega]
    exact or_enc l k (fun x hx => h x (List.mem_cons_of_mem _ hx))
theorem or_mem : ∀ k rest there x, x ∈ pm_list k rest there → x < 7
  | 0, _, _, x, h => by cases h
  | k + 1, rest, there, x, h => by
    rcases List.mem_cons.mp h with e | e
    · rw [e]; exact or_nx there 7 _ (Nat.le_refl 7)
    · exact or_mem k _ _ x e
theorem or_encl : ∀ (l : List Nat), (∀ x, x ∈ l → x < 8) → pm_enc l < 8 ^ l.length
  | [], _ => by decide
  | v :: l, h => by
    have hv := h v (List.mem_cons_self ..)
    have ih := or_encl l (fun x hx => h x (List.mem_cons_of_mem _ hx))
    show v + 8 * pm_enc l < 8 ^ (l.length + 1)
    rw [Nat.pow_succ]
    omega
theorem or_len : ∀ k rest there, (pm_list k rest there).length = k
  | 0, _, _ => rfl
  | k + 1, rest, there => congrArg (· + 1) (or_len k _ _)
theorem or_e31 (c : Nat) : pm_enc (pm_o c) < 2 ^ 21 := by
  have := or_encl (pm_o c) (fun x hx => by have := or_mem _ _ _ _ hx; omega)
  rw [show (pm_o c).length = 7 from or_len 7 c 127] at this
  exact this
theorem or_at (c k : Nat) : pm_enc (pm_o c) / 2 ^ (3 * k) % 8 = pm_at c k := or_enc _ _ (fun x hx => by have := or_mem _ _ _ _ hx; omega)
theorem or_a8 (c k : Nat) : pm_at c k < 8 := by
  rw [← or_at]; exact Nat.mod_lt _ (by decide)
section
variable {aw : Nat → Int32} {rd : Int32} {od li pt ps cf fl lv lf : Nat → Int32}
theorem or_write {post : SY → Prop} (c : Nat) (hc : c < 5040) (ho : ∀ c, c < 5040 → od c = nI (pm_enc (pm_o c))) (h : ∀ li' : Nat → Int32, (∀ k, k < 7 → li' k = nI (pm_at c k)) → post (rd, aw, od, li', pt, ps, cf, fl, lv, lf)) : wpY_write post (rd, aw, od, li, pt, ps, cf, fl, lv, lf) (nI c) := by
  have main := gb_lp (fun n i => ∀ q : Nat → Int32, (∀ k, k < i → q k = nI (pm_at c k)) → wY_write_2 post (nI c) rd n (nI i) aw od q pt ps cf fl lv lf) 7 0 (by omega) (fun n q hq => br_t (nI_le (a := 7) (Nat.le_refl _) (by decide)) (h q hq)) (fun n i _ hi K q hq => br_f (nI_ge (b := 7) hi (by decide)) ⟨vp_in_nI hc (by decide), vp_in_nI hi (by decide), nm_r (e' := upd q i (nI (pm_at c i))) ?_ (nm_r (nI_1 i) (K _ (fun k hk => ?_)))⟩)
  · obtain ⟨n, hn⟩ := main
    exact ⟨n, hn li (fun k hk => absurd hk (Nat.not_lt_zero k))⟩
  · have e31 := or_e31 c
    have hd : pm_enc (pm_o c) / 2 ^ (3 * i) ≤ pm_enc (pm_o c) := Nat.div_le_self _ _
    rw [nI_clamp (by omega), nI_clamp (by omega), ho c hc, show 3 * nI i = nI (3 * i) from pk_mul 3 i, pk_shrN (by omega) _ (3 * i) (s_l _ (by omega)), pk_andN (by omega) 3 (by decide)]
    exact congrArg (fun z => upd q i (nI z)) (or_at c i)
  · by_cases e : k = i
    · subst e; exact pk_us
    · rw [pk_un e]; exact hq k (by omega)
/-- the first and the last vertex, read from the code's number -/
theorem or_first (c : Nat) (x : Int32) (hx : x = nI (pm_enc (pm_o c))) : x &&& 7 = nI (pm_at c 0) := by
  subst hx
  have e31 := or_e31 c
  rw [pk_andN (by omega) 3 (by decide), ← or_at c 0]
  show _ = nI (pm_enc (pm_o c) / 1 % 8)
  rw [Nat.div_one]
theorem or_last (c : Nat) (x : Int32) (hx : x = nI (pm_enc (pm_o c))) : x >>> ((18 : Int32) &&& 31) = nI (pm_at c 6) := by
  subst hx
  have e31 := or_e31 c
  rw [pk_shrN (by omega) _ 18 (by decide), ← or_at c 6]
  have : pm_enc (pm_o c) / 2 ^ 18 < 8 := by omega
  show _ = nI (pm_enc (pm_o c) / 2 ^ 18 % 8)
  rw [Nat.mod_eq_of_lt this]
end

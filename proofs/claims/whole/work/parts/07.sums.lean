/-! sums over naturals and over lists, in Int32 -/
def ls_n (g : Nat → Int32) : Nat → Int32
  | 0 => 0
  | n + 1 => ls_n g n + g n
def ls_l {α : Type} (g : α → Int32) : List α → Int32
  | [] => 0
  | a :: l => g a + ls_l g l
theorem ls_app {α : Type} (g : α → Int32) : ∀ l m : List α, ls_l g (l ++ m) = ls_l g l + ls_l g m
  | [], m => (Int32.zero_add _).symm
  | a :: l, m => by
    show g a + ls_l g (l ++ m) = g a + ls_l g l + ls_l g m
    rw [ls_app g l m, Int32.add_assoc]
theorem ls_flat {α β : Type} (g : β → Int32) (f : α → List β) : ∀ l : List α, ls_l g (l.flatMap f) = ls_l (fun a => ls_l g (f a)) l
  | [] => rfl
  | a :: l => by
    rw [List.flatMap_cons, ls_app, ls_flat g f l]; rfl
theorem ls_map {α β : Type} (g : β → Int32) (f : α → β) : ∀ l : List α, ls_l g (l.map f) = ls_l (fun a => g (f a)) l
  | [] => rfl
  | a :: l => by
    show g (f a) + ls_l g (l.map f) = _
    rw [ls_map g f l]; rfl
theorem ls_congr {α : Type} {g h : α → Int32} : ∀ l : List α, (∀ a, a ∈ l → g a = h a) → ls_l g l = ls_l h l
  | [], _ => rfl
  | a :: l, e => by
    show g a + ls_l g l = h a + ls_l h l
    rw [e a (List.mem_cons_self ..), ls_congr l (fun b hb => e b (List.mem_cons_of_mem _ hb))]
theorem ls_zero {α : Type} : ∀ l : List α, ls_l (fun _ => (0 : Int32)) l = 0
  | [] => rfl
  | a :: l => by
    show (0 : Int32) + ls_l _ l = 0
    rw [ls_zero l]; rfl
theorem ls_range (g : Nat → Int32) : ∀ n, ls_n g n = ls_l g (List.range n)
  | 0 => rfl
  | n + 1 => by
    rw [List.range_succ, ls_app, ← ls_range g n]
    show ls_n g n + g n = ls_n g n + (g n + 0)
    rw [Int32.add_zero]
theorem ls_ncongr {g h : Nat → Int32} : ∀ n, (∀ i, i < n → g i = h i) → ls_n g n = ls_n h n
  | 0, _ => rfl
  | n + 1, e => by
    show ls_n g n + g n = ls_n h n + h n
    rw [ls_ncongr n (fun i hi => e i (by omega)), e n (by omega)]
theorem ls_nzero {g : Nat → Int32} : ∀ n, (∀ i, i < n → g i = 0) → ls_n g n = 0
  | 0, _ => rfl
  | n + 1, e => by
    show ls_n g n + g n = 0
    rw [ls_nzero n (fun i hi => e i (by omega)), e n (by omega)]; rfl
/-! sorting lists of lists keeps the sum -/
def ls_le : List Nat → List Nat → Bool
  | [], _ => true
  | _ :: _, [] => false
  | a :: l, b :: m => if a < b then true else if b < a then false else ls_le l m
def ls_ins (x : List Nat) : List (List Nat) → List (List Nat)
  | [] => [x]
  | y :: l => if ls_le x y = true then x :: y :: l else y :: ls_ins x l
def ls_srt : List (List Nat) → List (List Nat)
  | [] => []
  | x :: l => ls_ins x (ls_srt l)
theorem ls_ins_s (g : List Nat → Int32) (x : List Nat) : ∀ l, ls_l g (ls_ins x l) = g x + ls_l g l
  | [] => rfl
  | y :: l => by
    show ls_l g (if ls_le x y = true then x :: y :: l else y :: ls_ins x l) = _
    split
    · rfl
    · show g y + ls_l g (ls_ins x l) = g x + (g y + ls_l g l)
      rw [ls_ins_s g x l, ← Int32.add_assoc, ← Int32.add_assoc, Int32.add_comm (g y)]
theorem ls_srt_s (g : List Nat → Int32) : ∀ l, ls_l g (ls_srt l) = ls_l g l
  | [] => rfl
  | x :: l => by
    show ls_l g (ls_ins x (ls_srt l)) = g x + ls_l g l
    rw [ls_ins_s, ls_srt_s g l]
/-- the indicator: all of a list's members have g -/
def ls_all (b : Nat → Bool) (m : List Nat) : Int32 := if m.all b = true then 1 else 0
theorem ls_cons (b : Nat → Bool) (e : Nat) : ∀ l : List (List Nat), ls_l (ls_all b) (l.map (fun m => e :: m)) = if b e = true then ls_l (ls_all b) l else 0 := by
  intro l
  rw [ls_map]
  by_cases h : b e = true
  · rw [if_pos h]
    apply ls_congr
    intro a _
    unfold ls_all
    rw [List.all_cons, h, Bool.true_and]
  · rw [if_neg h]
    have : b e = false := by simpa using h
    rw [← ls_zero l]
    apply ls_congr
    intro a _
    unfold ls_all
    rw [List.all_cons, this, Bool.false_and]; rfl

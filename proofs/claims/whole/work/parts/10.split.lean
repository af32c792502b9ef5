/-! partitions: the lists -/
def sl_ok (s b : Nat) : Bool := decide (b &&& s = b) && !decide (b &&& gb_lo s = 0)
def sl_L : Nat → Nat → List (List Nat)
  | 0, s => if s = 0 then [[]] else []
  | n + 1, s => if s = 0 then [] else (List.range (s + 1)).flatMap (fun b => if sl_ok s b = true then (sl_L n (s ^^^ b)).map (fun m => b :: m) else [])
/-- what is left of the code at vertex v, and the vertex's block -/
def sl_r (c : Nat) : Nat → Nat
  | 0 => c
  | v + 1 => sl_r c v / (v + 1)
def sl_d (c v : Nat) : Nat := sl_r c v % (v + 1)
def sl_v (c : Nat) : Nat → Option Nat
  | 0 => some 0
  | v + 1 => match sl_v c v with
    | none => none
    | some m => if sl_d c v ≤ m then (if sl_d c v = m then some (m + 1) else some m) else none
def sl_m (c j : Nat) : Nat → Nat
  | 0 => 0
  | v + 1 => if sl_d c v = j then sl_m c j v ||| 2 ^ v else sl_m c j v
def sl_B (c m : Nat) : List Nat := (List.range m).map (fun j => sl_m c j 7)
def sl_Y (k : Nat) : List (List Nat) := (List.range 5040).flatMap (fun c => match sl_v c 7 with | none => [] | some m => if m = k then [sl_B c m] else [])
theorem sl_c1 : ls_srt (sl_L 1 127) = ls_srt (sl_Y 1) := by decide +kernel
theorem sl_c2 : ls_srt (sl_L 2 127) = ls_srt (sl_Y 2) := by decide +kernel
theorem sl_c3 : ls_srt (sl_L 3 127) = ls_srt (sl_Y 3) := by decide +kernel
theorem sl_c4 : ls_srt (sl_L 4 127) = ls_srt (sl_Y 4) := by decide +kernel
theorem sl_c5 : ls_srt (sl_L 5 127) = ls_srt (sl_Y 5) := by decide +kernel
theorem sl_c6 : ls_srt (sl_L 6 127) = ls_srt (sl_Y 6) := by decide +kernel
theorem sl_c7 : ls_srt (sl_L 7 127) = ls_srt (sl_Y 7) := by decide +kernel
theorem sl_7 : sl_L 7 127 = [[1, 2, 4, 8, 16, 32, 64]] := by decide +kernel

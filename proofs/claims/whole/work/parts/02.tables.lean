/-! the pure pictures of both sides' ways through the orders, and their finite tables -/
def ht_fact : Nat → Nat
  | 0 => 1
  | n + 1 => ht_fact n * (n + 1)
def ht_at (l : List Nat) (i : Nat) : Nat := l.getD i 0
def ht_el (s j : Nat) : List Nat := (List.range j).filter (fun i => s.testBit i)
def ht_cn (s : Nat) : Nat := (ht_el s 6).length
def ht_N (s : Nat) : Nat := ht_fact (ht_cn s)
def ht_rm (s j : Nat) : Nat := if s.testBit j then s - 2 ^ j else s
def ht_nt : Nat → Nat → Nat → Nat → Nat
  | 0, _, _, _ => 0
  | m + 1, s, k, j => if s.testBit j then (if k = 0 then j else ht_nt m s (k - 1) (j + 1)) else ht_nt m s k (j + 1)
def ht_un : Nat → Nat → Nat → List Nat
  | 0, _, _ => []
  | m + 1, s, c => ht_nt 6 s (c / ht_fact m) 0 :: ht_un m (ht_rm s (ht_nt 6 s (c / ht_fact m) 0)) (c % ht_fact m)
def ht_or (s c : Nat) : List Nat := ht_un (ht_cn s) s c
def ht_sw (l : List Nat) (a b : Nat) : List Nat := (l.set a (ht_at l b)).set b (ht_at l a)
def ht_lr (l : List Nat) : Nat → Option Nat
  | 0 => none
  | k + 1 => if ht_at l k < ht_at l (k + 1) then some k else ht_lr l k
def ht_la (l : List Nat) (t : Nat) : Nat → Nat
  | 0 => t
  | k + 1 => if k + 1 ≤ t then t else if ht_at l t < ht_at l (k + 1) then k + 1 else ht_la l t k
def ht_rv : Nat → List Nat → Nat → Nat → List Nat
  | 0, l, _, _ => l
  | m + 1, l, a, b => if b ≤ a then l else ht_rv m (ht_sw l a b) (a + 1) (b - 1)
def ht_nx (n : Nat) (l : List Nat) : Option (List Nat) := match ht_lr l (n - 1) with
  | none => none
  | some t => some (ht_rv 6 (ht_sw l t (ht_la l t (n - 1))) (t + 1) (n - 1))
def ht_ck (s c : Nat) : Bool := match ht_nx (ht_cn s) (ht_or s c) with
  | none => c + 1 == ht_N s
  | some l => Nat.blt (c + 1) (ht_N s) && l == ht_or s (c + 1)
def ht_nd : List Nat → Bool
  | [] => true
  | a :: l => !(l.contains a) && ht_nd l
def ht_ok (s c : Nat) : Bool := (ht_or s c).all (fun j => Nat.blt j 6 && s.testBit j) && ht_nd (ht_or s c) && (List.range 6).all (fun j => !s.testBit j || (ht_or s c).contains j)
def ht_cb : List Nat → Nat → Nat → Bool
  | [], _, _ => false
  | x :: l, i, j => if x = i then true else if x = j then false else ht_cb l i j
theorem ht_T1 : (List.range 64).all (fun s => (List.range (ht_N s)).all (fun c => ht_ck s c)) = true := by decide +kernel
theorem ht_T2 : (List.range 64).all (fun s => (List.range (ht_N s)).all (fun c => ht_ok s c)) = true := by decide +kernel
theorem ht_T3 : (List.range 64).all (fun s => (List.range 6).all (fun j => !s.testBit j || (List.range (ht_N s)).any (fun c => ht_at (ht_or s c) 0 == j))) = true := by decide +kernel
theorem ht_T4 : (List.range 64).all (fun s => (List.range 6).all (fun i => (List.range 6).all (fun j => !s.testBit i || !s.testBit j || i == j || ht_cb (ht_or s 0) i j || ht_cb (ht_or s (ht_N s - 1)) i j))) = true := by decide +kernel
theorem ht_T5 : (List.range 64).all (fun s => ht_or s 0 == ht_el s 6 && Nat.blt 0 (ht_N s) && Nat.ble (ht_N s) 720 && Nat.ble (ht_cn s) 6) = true := by decide +kernel
theorem ht_T6 : (List.range 64).all (fun s => (List.range 6).all (fun j => s.testBit j || (Nat.blt (s + 2 ^ j) 64 && (ht_cn (s + 2 ^ j) == ht_cn s + 1) && (List.range 6).all (fun i => (s + 2 ^ j).testBit i == (i == j || s.testBit i))))) = true := by decide +kernel
theorem ht_T7 : (List.range 64).all (fun s => (List.range 6).all (fun j => !s.testBit j || (Nat.blt (s - 2 ^ j) 64 && (ht_cn (s - 2 ^ j) + 1 == ht_cn s) && (List.range 6).all (fun i => (s - 2 ^ j).testBit i == (!(i == j) && s.testBit i))))) = true := by decide +kernel
theorem ht_T8 : (List.range 64).all (fun s => (List.range 6).all (fun j => decide (nI s &&& (((1 : Int32) <<< (nI j &&& 31)) ^^^ (-1)) = nI (ht_rm s j)) && Nat.blt (ht_rm s j) 64)) = true := by decide +kernel
theorem ht_T9 : (List.range 64).all (fun s => (List.range 6).all (fun j => decide (((nI s >>> (nI j &&& 31)) &&& 1) = 1) == s.testBit j)) = true := by decide +kernel
theorem ht_T10 : (List.range 64).all (fun s => (List.range 6).all (fun j => if s.testBit j then decide (nI (s % 2 ^ j) ||| ((1 : Int32) <<< (nI j &&& 31)) = nI (s % 2 ^ (j + 1))) else s % 2 ^ j == s % 2 ^ (j + 1))) = true := by decide +kernel
theorem ht_T11 : (List.range 64).all (fun t => (List.range 64).all (fun s => decide ((nI t &&& (nI s ^^^ (-1))) = 0) == (t &&& s == t))) = true := by decide +kernel

-- the next row by numbers
def dnW (c : Int → Bool) : Nat → Int → Int
  | 0, i => i
  | m + 1, i => if 0 ≤ i ∧ c i = true then dnW c m (i - 1) else i
def nxA (n : Int) (row : Int → Int) : Int := dnW (fun i => decide (row (i + 1) < row i)) 8 (n - 2)
def nxO (n : Int) (row : Int → Int) (at' : Int) : Int := dnW (fun i => decide (row i < row at')) 8 (n - 1)
def swpF (row : Int → Int) (a b : Int) : Int → Int := fun k => if k = b then row a else if k = a then row b else row k
def revF : Nat → Int → Int → (Int → Int) → Int → Int
  | 0, _, _, row => row
  | m + 1, lo, hi, row => if lo < hi then revF m (lo + 1) (hi - 1) (swpF row lo hi) else row
def nxR (n : Int) (row : Int → Int) : Int → Int := revF 4 (nxA n row + 1) (n - 1) (swpF row (nxA n row) (nxO n row (nxA n row)))
def okStep (n : Nat) (L L' : List Int) : Bool := decide (0 ≤ nxA (n : Int) (lf L)) && (List.range n).all (fun i => decide (nxR (n : Int) (lf L) (i : Int) = lf L' (i : Int)) && (decide (nxA (n : Int) (lf L) ≤ (i : Int)) || decide (lf L' (i : Int) = lf L (i : Int))))
def chain (n : Nat) : List (List Int) → Bool
  | [] => false
  | [L] => decide (nxA (n : Int) (lf L) < 0)
  | L :: L' :: t => okStep n L L' && chain n (L' :: t)
def rowOK (n : Nat) (L : List Int) : Bool := (List.range n).all (fun i => decide (0 ≤ lf L (i : Int)) && (decide (lf L (i : Int) < (n : Int)) && ((List.range n).all (fun j => decide (lf L (i : Int) = lf L (j : Int) → i = j)) && ((List.range n).any (fun j => decide (lf L (j : Int) = (i : Int))) && decide (dgF (lf L) n / 10 ^ (n - 1 - i) % 10 = lf L (i : Int))))))
theorem chain_t : ∀ n : Fin 7, chain n.val (PR n.val) = true := by decide +kernel
theorem rowOK_t : ∀ n : Fin 7, (PR n.val).all (rowOK n.val) = true := by decide +kernel
theorem PRm_t : ∀ n : Fin 7, 1 ≤ PRm n.val ∧ PRm n.val ≤ 720 := by decide +kernel
theorem PR0_t : ∀ n : Fin 7, (List.range n.val).all (fun i => decide (lf (PRk n.val 0) (i : Int) = (i : Int))) = true := by decide +kernel
theorem dg_t : ∀ n : Fin 7, (PR n.val).all (fun L => decide (0 ≤ dgF (lf L) n.val) && decide (dgF (lf L) n.val ≤ 2000000)) = true := by decide +kernel

/-! orders of a turn -/
def upF (f : Int → Int) (i v : Int) : Int → Int := fun k => if k = i then v else f k
def swF (f : Int → Int) (i j : Int) : Int → Int := upF (upF f i (f j)) j (f i)
/-- the class's sort: one row, then all -/
def sjC (i : Nat) : Nat → Nat → (Int → Int) → Int → Int
  | 0, _, f => f
  | m + 1, j, f => sjC i m (j + 1) (if f i ≤ f j then f else swF f i j)
def siC : Nat → Nat → (Int → Int) → Int → Int
  | 0, _, f => f
  | m + 1, i, f => siC m (i + 1) (sjC i m (i + 1) f)
/-- the reference's sort: one put in, then all -/
def inM (v : Int) : Nat → (Int → Int) → Int → Int
  | 0, o => upF o 0 v
  | j + 1, o => if o j ≤ v then upF o ((j : Int) + 1) v else inM v j (upF o ((j : Int) + 1) (o j))
def isM (h : Int → Int) : Nat → Nat → (Int → Int) → Int → Int
  | 0, _, o => o
  | m + 1, k, o => isM h m (k + 1) (inM (h k) k o)
def tup (a b c d : Nat) : Int → Int := fun k => if k = 0 then a else if k = 1 then b else if k = 2 then c else d
theorem so_1 : ∀ a : Nat, a < 8 → siC 1 0 (tup a 0 0 0) 0 = isM (tup a 0 0 0) 1 0 (fun _ => 0) 0 := by decide +kernel
theorem so_2 : ∀ a : Nat, a < 8 → ∀ b : Nat, b < 8 → ∀ j : Nat, j < 2 → siC 2 0 (tup a b 0 0) j = isM (tup a b 0 0) 2 0 (fun _ => 0) j := by decide +kernel
theorem so_3 : ∀ a : Nat, a < 8 → ∀ b : Nat, b < 8 → ∀ c : Nat, c < 8 → ∀ j : Nat, j < 3 → siC 3 0 (tup a b c 0) j = isM (tup a b c 0) 3 0 (fun _ => 0) j := by decide +kernel
set_option maxRecDepth 100000 in
theorem so_4 : ∀ a : Nat, a < 8 → ∀ b : Nat, b < 8 → ∀ c : Nat, c < 8 → ∀ d : Nat, d < 8 → ∀ j : Nat, j < 4 → siC 4 0 (tup a b c d) j = isM (tup a b c d) 4 0 (fun _ => 0) j := by decide +kernel
/-- the next order: where it rises last (from 1; 0 if nowhere), whom it is changed with, the rest turned round -/
def fiF (f : Int → Int) : Nat → Nat
  | 0 => 0
  | i + 1 => if f i ≤ f ((i : Int) + 1) then i + 1 else fiF f i
def fjF (f : Int → Int) (i : Nat) : Nat → Nat
  | 0 => 0
  | j + 1 => if j ≤ i ∨ f i ≤ f ((j : Int) + 1) then j + 1 else fjF f i j
def rvF : Nat → Nat → Nat → (Int → Int) → Int → Int
  | 0, _, _, f => f
  | m + 1, lo, hi, f => if hi ≤ lo then f else rvF m (lo + 1) (hi - 1) (swF f lo hi)
def nxF (z : Nat) (f : Int → Int) : Nat × (Int → Int) := if fiF f (z - 1) = 0 then (0, f) else (1, rvF 4 (fiF f (z - 1)) (z - 1) (swF f ((fiF f (z - 1) : Int) - 1) (fjF f (fiF f (z - 1) - 1) (z - 1))))
/-- n rounds come to an end -/
def rdF (z : Nat) : Nat → (Int → Int) → Bool
  | 0, _ => false
  | n + 1, f => if (nxF z f).1 = 0 then true else rdF z n (nxF z f).2
theorem rd_1 : ∀ a : Nat, a < 8 → rdF 1 24 (tup a 0 0 0) = true := by decide +kernel
theorem rd_2 : ∀ a : Nat, a < 8 → ∀ b : Nat, b < 8 → a < b → rdF 2 24 (tup a b 0 0) = true := by decide +kernel
theorem rd_3 : ∀ a : Nat, a < 8 → ∀ b : Nat, b < 8 → ∀ c : Nat, c < 8 → a < b → b < c → rdF 3 24 (tup a b c 0) = true := by decide +kernel

/-! what the calls answer: the finding's code (0: none), for a land s -/
def fPass (c p o : Int) : Int := if 0 ≤ c ∧ c ≤ 23 ∧ (p = 0 ∨ (2 ≤ p ∧ p ≤ 9 ∧ 0 ≤ o ∧ o ≤ p)) then 0 else 1
def fCell (c w : Int) : Int := if 0 ≤ c ∧ c ≤ 23 ∧ 0 ≤ w ∧ w ≤ 3 then 0 else 1
def aCell (s : Int → Int) (c w : Int) : Int := if w = 0 then s (7 + c) else if w = 1 then s (31 + c) else if w = 2 then bI (opn s c) else who s c
def fVil (s : Int → Int) (c : Int) : Int := if 0 ≤ c ∧ c ≤ 23 then (if s 2 = 6 then 2 else 0) else 1
def nVil (s : Int → Int) (c : Int) : Int → Int := up (up s (55 + s 2) c) 2 (s 2 + 1)
def fVOf (s : Int → Int) (v w : Int) : Int := if 0 ≤ v ∧ v < s 2 ∧ 0 ≤ w ∧ w ≤ 1 then 0 else 1
def aVOf (s : Int → Int) (v w : Int) : Int := if w = 0 then s (55 + v) else bI (litP s v)
def fOrd (w v : Int) : Int := if 0 ≤ w ∧ w ≤ 3 ∧ -9 ≤ v ∧ v ≤ 9 then 0 else 1
def fRan (s : Int → Int) (k c : Int) : Int := if 0 ≤ k ∧ k ≤ 5 ∧ 0 ≤ c ∧ c ≤ 23 then (if 0 ≤ who s c then 5 else if s 1 = 8 then 2 else 0) else 1
def fOf (s : Int → Int) (r w : Int) : Int := if 0 ≤ r ∧ r < s 1 ∧ 0 ≤ w ∧ w ≤ 7 then 0 else 1
def aOf (s : Int → Int) (r w : Int) : Int := if w < 5 then s (61 + 5 * r + w) else if w = 5 then stride s r else if w = 6 then val s r else raT s r (s 1).toNat
def fSet (s : Int → Int) (r w v : Int) : Int := if 0 ≤ r ∧ r < s 1 ∧ 1 ≤ w ∧ w ≤ 2 ∧ 0 ≤ v ∧ (w = 1 → v ≤ 23) ∧ (w = 2 → v ≤ 9) then (if w = 1 ∧ 0 ≤ who s v ∧ who s v ≠ r then 5 else 0) else 1
def fTurn (s : Int → Int) (r k : Int) : Int := if 0 ≤ r ∧ r < s 1 ∧ 0 ≤ k ∧ k ≤ 5 then 0 else 1
def fAs (s : Int → Int) (r k : Int) : Int := if 0 ≤ r ∧ r < s 1 ∧ 0 ≤ k ∧ k ≤ 5 then (if s (61 + 5 * r + 0) = k ∨ k = 0 ∨ (s (61 + 5 * r + 0) = 4 ∧ k = 1) ∨ (s (61 + 5 * r + 0) = 5 ∧ k = 2) then 0 else 3) else 1
def fLev (s : Int → Int) (r : Int) : Int := if 0 ≤ r ∧ r < s 1 then 0 else 1
def nLev (s : Int → Int) (r : Int) : Int → Int := up (lvT s (61 + 5 * r + 0) (61 + 5 * (s 1 - 1) + 0)) 1 (s 1 - 1)
def fSea (s : Int → Int) (n : Int) : Int := if 1 ≤ n ∧ n ≤ 80 then (if 9999 < s 0 + n then 5 else 0) else 1
def sumA (s : Int → Int) (w : Int) : Int := sumT s w (s 1).toNat
def fBtw (x lo hi : Int) : Int := if lo ≤ x ∧ x ≤ hi then 0 else 1
def plT (s : Int → Int) (k : Int) : Int32 := bit (s (61 + 5 * k + 1))
def opT (s : Int → Int) (k : Int) : Int32 := if 0 < s (7 + k) ∧ opn s k then bit k else iI 0
def liT (s : Int → Int) (k : Int) : Int32 := if litP s k then bit k else iI 0
def aNow (s : Int → Int) (w : Int) : Int32 := if w = 0 then iI (s 0) else if w = 1 then iI (sumA s 3) else if w = 2 then iI (sumA s 4) else if w = 3 then orT (plT s) (s 1).toNat else if w = 4 then orT (opT s) 24 else if w = 5 then orT (liT s) (s 2).toNat else iI (bI (s 0 % 4 < 2))
def aCnt (s : Int → Int) (tp w : Int) : Int := if w = 0 then s 1 else if w = 1 then s 2 else if w = 2 then tp else if w = 3 then psT s 24 else sumA s 2
def stT (t : Int → Int) (w : Int) : Nat → Int
  | 0 => 0
  | k + 1 => stT t w k + (if w < 0 ∨ (k : Int) = w then t (k : Int) else 0)

def n8 (v : Int) : Int := (Int8.ofInt v).toInt
def n16 (v : Int) : Int := (Int16.ofInt v).toInt
theorem n8_b (v : Int) : -128 ≤ n8 v ∧ n8 v ≤ 127 := ⟨by have := Int8.le_toInt (Int8.ofInt v); unfold n8; omega, by have := Int8.toInt_lt (Int8.ofInt v); unfold n8; omega⟩
theorem n16_b (v : Int) : -32768 ≤ n16 v ∧ n16 v ≤ 32767 := ⟨by have := Int16.le_toInt (Int16.ofInt v); unfold n16; omega, by have := Int16.toInt_lt (Int16.ofInt v); unfold n16; omega⟩
theorem n8_eq (v : Int) : (iI v).toInt8.toInt32 = iI (n8 v) := by
  have := n8_b v
  rw [← Int32.toInt_inj, Int8.toInt_toInt32, iI_toInt ⟨by omega, by omega⟩]
  show ((Int32.ofInt v).toInt8).toInt = _
  rw [Int32.toInt8_ofInt]
  rfl
theorem n16_eq (v : Int) : (iI v).toInt16.toInt32 = iI (n16 v) := by
  have := n16_b v
  rw [← Int32.toInt_inj, Int16.toInt_toInt32, iI_toInt ⟨by omega, by omega⟩]
  show ((Int32.ofInt v).toInt16).toInt = _
  rw [Int32.toInt16_ofInt]
  rfl
theorem l2i_eq (v : Int) : (lI v).toInt32 = iI v := Int64.toInt32_ofInt
section XE
variable {p : Program} {l : Launch} {e : Env} {R : Room} {s : State} {m : MethodId} {args : Array Value} {below : List Frame} {meth : Method} {c : Code} {H : Heap} {locs : List Loc} {cells slots : Nat} {Q : State → Prop} {cc : ByteArray} {pc : Nat} {ls : Array Slot} {rest : List Value} {g : Gd}
theorem xi_l2i (hx : p.tables.exec = Jvm.exec) (hb : c.code = cc) {a : Int} (d : decode cc pc = .ok (.l2i, 1)) (k : W p l e R s m args below meth c H locs cells slots Q (F0 m (pc + 1) ls (.int (iI a) :: rest))) : W p l e R s m args below meth c H locs cells slots Q (F0 m pc ls (.long (lI a) :: rest)) := lv_l2i hx hb d (l2i_eq a) k
theorem xi_i2b (hx : p.tables.exec = Jvm.exec) (hb : c.code = cc) {a : Int} (d : decode cc pc = .ok (.i2b, 1)) (k : W p l e R s m args below meth c H locs cells slots Q (F0 m (pc + 1) ls (.int (iI (n8 a)) :: rest))) : W p l e R s m args below meth c H locs cells slots Q (F0 m pc ls (.int (iI a) :: rest)) := lv_i2b hx hb d (n8_eq a) k
theorem xi_i2s (hx : p.tables.exec = Jvm.exec) (hb : c.code = cc) {a : Int} (d : decode cc pc = .ok (.i2s, 1)) (k : W p l e R s m args below meth c H locs cells slots Q (F0 m (pc + 1) ls (.int (iI (n16 a)) :: rest))) : W p l e R s m args below meth c H locs cells slots Q (F0 m pc ls (.int (iI a) :: rest)) := lv_i2s hx hb d (n16_eq a) k
theorem xi_ldcw (hx : p.tables.exec = Jvm.exec) (hb : c.code = cc) {own : String} {index : Nat} {v : Int} (hown : s.vm.findClass own = some m.cls) (hts : ∀ w ∈ T0, w.before args s = true) (hc : Cond.constant own index (iI v) ∈ T0) (d : decode cc pc = .ok (.ldc_w index, 3)) (k : W p l e R s m args below meth c H locs cells slots Q (F0 m (pc + 3) ls (.int (iI v) :: rest))) : W p l e R s m args below meth c H locs cells slots Q (F0 m pc ls rest) := lv_ldcw hx hb hown (hts _ hc) d k
theorem xi_raw (hx : p.tables.exec = Jvm.exec) (hb : c.code = cc) {x : Int32} (k : W p l e R s m args below meth c H locs cells slots Q (F0 m pc ls (.int (iI x.toInt) :: rest))) : W p l e R s m args below meth c H locs cells slots Q (F0 m pc ls (.int x :: rest)) := by rw [iI_of] at k; exact k
end XE
/-! sheets -/
def nrw (b v : Int) : Int := if b = 8 then n8 v else if b = 16 then n16 v else v
def fWro (b : Int → Int) (k : Int) : Int := if 0 ≤ k ∧ k ≤ 3 then (if b k = 0 then 6 else 0) else 1
def fSht (k bits n : Int) : Int := if 0 ≤ k ∧ k ≤ 3 ∧ (bits = 0 ∨ bits = 8 ∨ bits = 16 ∨ bits = 64) then (if n < 0 then 7 else if 40 < n then 1 else 0) else 1
def zrT (f : Int → Int) (a k : Int) : Int → Int := fun j => if a ≤ j ∧ j < a + k then 0 else f j
theorem zrT_0 (f : Int → Int) (a : Int) : f = zrT f a 0 := by funext j; simp only [zrT]; rw [if_neg (by omega)]
theorem zrT_S (f : Int → Int) (a : Int) {k : Int} (h : 0 ≤ k) : up (zrT f a k) (a + k) 0 = zrT f a (k + 1) := by
  funext j
  simp only [up, zrT]
  by_cases h1 : j = a + k
  · rw [if_pos h1, if_pos (by omega)]
  · rw [if_neg h1]
    by_cases h2 : a ≤ j ∧ j < a + k
    · rw [if_pos h2, if_pos (by omega)]
    · rw [if_neg h2, if_neg (by omega)]
def abL (f x : Int) : Int := if f = 0 then x else -1000000000 - f
theorem abL_0 (x : Int) : abL 0 x = x := if_pos rfl
def fWrt (b z : Int → Int) (k i : Int) : Int := if fWro b k = 0 then (if 0 ≤ i ∧ i < z k then 0 else 1) else fWro b k
def fCpy (b z : Int → Int) (k x t y n : Int) : Int := if 0 ≤ k ∧ k ≤ 3 ∧ 0 ≤ t ∧ t ≤ 3 then (if b k = 0 ∨ b t = 0 then 6 else if b k = b t then (if 0 ≤ x ∧ 0 ≤ y ∧ 0 ≤ n ∧ n ≤ z k - x ∧ n ≤ z t - y then 0 else 1) else 3) else 1
/-- n numbers from x on come to y on -/
def cyT (f h : Int → Int) (x y n : Int) : Int → Int := fun j => if y ≤ j ∧ j < y + n then f (x + (j - y)) else h j
theorem cyT_0 (f h : Int → Int) (x y : Int) : h = cyT f h x y 0 := by funext j; simp only [cyT]; rw [if_neg (by omega)]
theorem cyT_S (f h : Int → Int) (x y : Int) {n : Int} (hn : 0 ≤ n) : up (cyT f h x y n) (y + n) (f (x + n)) = cyT f h x y (n + 1) := by
  funext j
  simp only [up, cyT]
  by_cases h1 : j = y + n
  · rw [if_pos h1, if_pos (by omega), h1]; congr 1; omega
  · rw [if_neg h1]
    by_cases h2 : y ≤ j ∧ j < y + n
    · rw [if_pos h2, if_pos (by omega)]
    · rw [if_neg h2, if_neg (by omega)]
/-- HASTE out of a sheet -/
def lyT (s N : Int → Int) (a : Int) : Nat → Int → Int
  | 0 => s
  | k + 1 => if 0 ≤ N (a + k) ∧ N (a + k) ≤ 9 then up (lyT s N a k) (61 + 5 * (k : Int) + 2) (N (a + k)) else lyT s N a k
def lyC (N : Int → Int) (a : Int) : Nat → Int
  | 0 => 0
  | k + 1 => lyC N a k + (if 0 ≤ N (a + k) ∧ N (a + k) ≤ 9 then 1 else 0)
theorem lyT_1 (s N : Int → Int) (a : Int) : ∀ k j, j < 61 → lyT s N a k j = s j
  | 0 => fun j h => rfl
  | k + 1 => fun j h => by
    simp only [lyT]
    split
    · rw [up_n (by omega)]; exact lyT_1 s N a k j h
    · exact lyT_1 s N a k j h
def lyN (s z : Int → Int) (k : Int) : Nat := (min (z k) (s 1)).toNat
def fBok (s b : Int → Int) (k r : Int) : Int := if fWro b k = 0 then (if 0 ≤ r ∧ r < s 1 then 0 else 1) else fWro b k
def bkT (s N : Int → Int) (a r : Int) (k : Int) : Int → Int := fun j => if a ≤ j ∧ j < a + k then seaN s (j - a).toNat (61 + 5 * r + 1) else N j
theorem bkT_0 (s N : Int → Int) (a r : Int) : N = bkT s N a r 0 := by funext j; simp only [bkT]; rw [if_neg (by omega)]
theorem bkT_S (s N : Int → Int) (a r : Int) (k : Nat) : up (bkT s N a r k) (a + k) (seaN s k (61 + 5 * r + 1)) = bkT s N a r ((k + 1 : Nat) : Int) := by
  funext j
  simp only [up, bkT]
  by_cases h1 : j = a + k
  · rw [if_pos h1, if_pos (by omega), show (j - a).toNat = k by omega]
  · rw [if_neg h1]
    by_cases h2 : a ≤ j ∧ j < a + k
    · rw [if_pos h2, if_pos (by omega)]
    · rw [if_neg h2, if_neg (by omega)]
/-- the reader: so far it goes as told -/
def soT (s N : Int → Int) (a r : Int) : Nat → Bool
  | 0 => true
  | k + 1 => soT s N a r k && decide (N (a + k) = seaN s k (61 + 5 * r + 1))
def rdV (s N : Int → Int) (a r z : Int) (h w : Nat) : Int := if soT (up (up s (61 + 5 * r + 2) (h : Int)) 3 ((w : Int) - 9)) N a r z.toNat = true then 1 else 0
def rdI (v : Nat → Nat → Int) (h : Nat) (st : Int) : Nat → Int
  | 0 => st
  | w + 1 => rdI v h st w + v h w
def rdO (v : Nat → Nat → Int) : Nat → Int
  | 0 => 0
  | h + 1 => rdI v h (rdO v h) 19
/-- the tape -/
def byI (b k : Int) : Int := (((iI b) >>> ((iI (8 * k)) &&& 31)) &&& (iI 255)).toInt
def fFed (t n : Int) : Int := if 1 ≤ n ∧ n ≤ 4 then (if 120 < t + n then 2 else 0) else 1
def fdT (f : Int → Int) (t b n i : Int) : Int → Int := fun j => if t ≤ j ∧ j < t + i then byI b (n - 1 - (j - t)) else f j
theorem fdT_0 (f : Int → Int) (t b n : Int) : f = fdT f t b n 0 := by funext j; simp only [fdT]; rw [if_neg (by omega)]
theorem fdT_S (f : Int → Int) (t b n : Int) {i : Int} (h : 0 ≤ i) : up (fdT f t b n i) (t + i) (byI b (n - 1 - i)) = fdT f t b n (i + 1) := by
  funext j
  simp only [up, fdT]
  by_cases h1 : j = t + i
  · rw [if_pos h1, if_pos (by omega)]; congr 1; omega
  · rw [if_neg h1]
    by_cases h2 : t ≤ j ∧ j < t + i
    · rw [if_pos h2, if_pos (by omega)]
    · rw [if_neg h2, if_neg (by omega)]
theorem wroC (b : Int → Int) (k : Int) : (((0 ≤ k ∧ k ≤ 3) ∧ ¬ b k = 0) ∧ abL (fWro b k) 0 = 0) ∨ ((¬ (0 ≤ k ∧ k ≤ 3)) ∧ abL (fWro b k) 0 = -1000000001) ∨ (((0 ≤ k ∧ k ≤ 3) ∧ b k = 0) ∧ abL (fWro b k) 0 = -1000000006) := by
  unfold fWro
  by_cases h : 0 ≤ k ∧ k ≤ 3
  · rw [if_pos h]
    by_cases h2 : b k = 0
    · rw [if_pos h2]; exact Or.inr (Or.inr ⟨⟨h, h2⟩, rfl⟩)
    · rw [if_neg h2]; exact Or.inl ⟨⟨h, h2⟩, rfl⟩
  · rw [if_neg h]; exact Or.inr (Or.inl ⟨h, rfl⟩)
theorem bokC (s b : Int → Int) (k r : Int) : ((((0 ≤ k ∧ k ≤ 3) ∧ ¬ b k = 0) ∧ 0 ≤ r ∧ r < s 1) ∧ abL (fBok s b k r) 0 = 0) ∨ ((¬ (0 ≤ k ∧ k ≤ 3)) ∧ abL (fBok s b k r) 0 = -1000000001) ∨ (((0 ≤ k ∧ k ≤ 3) ∧ b k = 0) ∧ abL (fBok s b k r) 0 = -1000000006) ∨ ((((0 ≤ k ∧ k ≤ 3) ∧ ¬ b k = 0) ∧ ¬ (0 ≤ r ∧ r < s 1)) ∧ abL (fBok s b k r) 0 = -1000000001) := by
  unfold fBok fWro
  by_cases h : 0 ≤ k ∧ k ≤ 3
  · rw [if_pos h]
    by_cases h2 : b k = 0
    · rw [if_pos h2]; exact Or.inr (Or.inr (Or.inl ⟨⟨h, h2⟩, rfl⟩))
    · rw [if_neg h2, if_pos rfl]
      by_cases h3 : 0 ≤ r ∧ r < s 1
      · rw [if_pos h3]; exact Or.inl ⟨⟨⟨h, h2⟩, h3⟩, rfl⟩
      · rw [if_neg h3]; exact Or.inr (Or.inr (Or.inr ⟨⟨⟨h, h2⟩, h3⟩, rfl⟩))
  · rw [if_neg h]; exact Or.inr (Or.inl ⟨h, rfl⟩)
/-- sheets as they are kept -/
def InvS (b z : Int → Int) : Prop := ∀ k, 0 ≤ k → k ≤ 3 → (b k = 0 ∨ b k = 8 ∨ b k = 16 ∨ b k = 64) ∧ 0 ≤ z k ∧ z k ≤ 40

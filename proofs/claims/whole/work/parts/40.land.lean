def bt (x : Int32) (i : Nat) : Bool := x.toBitVec.getLsbD i
theorem b_ext {x y : Int32} (h : ∀ i, i < 32 → bt x i = bt y i) : x = y := Int32.toBitVec_inj.mp (BitVec.eq_of_getLsbD_eq (fun i hi => h i hi))
theorem b_or (x y : Int32) (i : Nat) : bt (x ||| y) i = (bt x i || bt y i) := by unfold bt; rw [Int32.toBitVec_or, BitVec.getLsbD_or]
theorem b_and (x y : Int32) (i : Nat) : bt (x &&& y) i = (bt x i && bt y i) := by unfold bt; rw [Int32.toBitVec_and, BitVec.getLsbD_and]
theorem b_xor (x y : Int32) (i : Nat) : bt (x ^^^ y) i = (bt x i ^^ bt y i) := by unfold bt; rw [Int32.toBitVec_xor, BitVec.getLsbD_xor]
theorem b_big {x : Int32} {i : Nat} (h : 32 ≤ i) : bt x i = false := BitVec.getLsbD_of_ge _ _ h
theorem b_255 (i : Nat) : bt 255 i = decide (i < 8) := by
  rcases Nat.lt_or_ge i 32 with h | h
  · exact (by decide +kernel : ∀ i, i < 32 → bt 255 i = decide (i < 8)) i h
  · rw [b_big h, decide_eq_false (by omega)]
theorem b_65535 (i : Nat) : bt 65535 i = decide (i < 16) := by
  rcases Nat.lt_or_ge i 32 with h | h
  · exact (by decide +kernel : ∀ i, i < 32 → bt 65535 i = decide (i < 16)) i h
  · rw [b_big h, decide_eq_false (by omega)]
theorem b_m1 : ∀ i, i < 32 → bt (-1) i = true := by decide +kernel
theorem b_0 (i : Nat) : bt 0 i = false := BitVec.getLsbD_zero
theorem s_l : ∀ n, n < 32 → ((nI n &&& 31).toBitVec.smod 32).toNat = n := by decide +kernel
theorem s_u : ∀ n, n < 32 → (((nI n).toUInt32 &&& Int32.toUInt32 31).toBitVec % 32).toNat = n := by decide +kernel
theorem b_shl (n : Nat) (hn : n < 32) (x : Int32) {i : Nat} (hi : i < 32) : bt (x <<< (nI n &&& 31)) i = (decide (n ≤ i) && bt x (i - n)) := by
  unfold bt
  rw [Int32.toBitVec_shiftLeft]
  show (x.toBitVec <<< ((nI n &&& 31).toBitVec.smod 32).toNat).getLsbD i = _
  rw [s_l n hn, BitVec.getLsbD_shiftLeft]
  rcases Nat.lt_or_ge i n with h | h
  · simp [h, Nat.not_le.mpr h]
  · simp [hi, h, Nat.not_lt.mpr h]
theorem b_ushr (n : Nat) (hn : n < 32) (x : Int32) (i : Nat) : bt ((x.toUInt32 >>> ((nI n).toUInt32 &&& Int32.toUInt32 31)).toInt32) i = bt x (n + i) := by
  show (x.toUInt32 >>> ((nI n).toUInt32 &&& Int32.toUInt32 31)).toBitVec.getLsbD i = x.toUInt32.toBitVec.getLsbD (n + i)
  rw [UInt32.toBitVec_shiftRight]
  show (x.toUInt32.toBitVec >>> (((nI n).toUInt32 &&& Int32.toUInt32 31).toBitVec % 32).toNat).getLsbD i = _
  rw [s_u n hn, BitVec.getLsbD_ushiftRight]
theorem b_sshr (n : Nat) (hn : n < 32) (x : Int32) {i : Nat} (hi : i < 32) : bt (x >>> (nI n &&& 31)) i = if n + i < 32 then bt x (n + i) else bt x 31 := by
  unfold bt
  rw [Int32.toBitVec_shiftRight]
  show (x.toBitVec.sshiftRight ((nI n &&& 31).toBitVec.smod 32).toNat).getLsbD i = _
  rw [s_l n hn, BitVec.getLsbD_sshiftRight, BitVec.msb_eq_getLsbD_last]
  simp [hi]
theorem D_perm {A : Nat → Prop} {a b : va_W} (h : List.Perm a b) (hD : va_D A a) : va_D A b := by
  refine ⟨?_, fun k q hk => ?_⟩
  · have hn : List.Pairwise (fun x y : Nat => x ≠ y) (a.map (fun q => q.1)) := by
      rw [List.pairwise_iff_getElem]
      intro i j hi hj hij e
      have hil : i < a.length := by simpa using hi
      have hjl : j < a.length := by simpa using hj
      have := hD.1 i j a[i] a[j] (List.getElem?_eq_getElem hil) (List.getElem?_eq_getElem hjl) (by simpa using e)
      omega
    have hb : List.Pairwise (fun x y : Nat => x ≠ y) (b.map (fun q => q.1)) := (h.map _).pairwise hn (fun h => h.symm)
    rw [List.pairwise_iff_getElem] at hb
    intro i j x y hi hj e
    obtain ⟨li, ei⟩ := List.getElem?_eq_some_iff.mp hi
    obtain ⟨lj, ej⟩ := List.getElem?_eq_some_iff.mp hj
    rcases Nat.lt_trichotomy i j with hl | hl | hl
    · refine absurd ?_ (hb i j (by simpa using li) (by simpa using lj) hl)
      simp only [List.getElem_map, ei, ej]; exact e
    · exact hl
    · refine absurd ?_ (hb j i (by simpa using lj) (by simpa using li) hl)
      simp only [List.getElem_map, ei, ej]; exact e.symm
  · have hm : q ∈ a := h.mem_iff.mpr (List.mem_of_getElem? hk)
    obtain ⟨j, hj⟩ := List.getElem?_of_mem hm
    exact hD.2 j q hj
/-- rows of a Land, out of its one row -/
def pj (p : Int) (n : Nat) (s : Int → Int) : Int → Int := fun j => if 0 ≤ j ∧ j < n then s (p + j) else 0
def pz (w : Int) (s : Int → Int) : Int → Int := fun j => if 0 ≤ j ∧ j < 8 then s (61 + 5 * j + w) else 0
theorem pq_e {p i v : Int} {n : Nat} {s : Int → Int} (h : 0 ≤ i ∧ i < n) : up (pj p n s) i v = pj p n (up s (p + i) v) := by
  funext j
  simp only [pj, up]
  by_cases h1 : j = i
  · subst h1; rw [if_pos rfl, if_pos h, if_pos rfl]
  · rw [if_neg h1]
    by_cases h2 : 0 ≤ j ∧ j < n
    · rw [if_pos h2, if_pos h2, if_neg (by omega)]
    · rw [if_neg h2, if_neg h2]
theorem pz_e {w i v : Int} {s : Int → Int} (h : 0 ≤ i ∧ i < 8) : up (pz w s) i v = pz w (up s (61 + 5 * i + w) v) := by
  funext j
  simp only [pz, up]
  by_cases h1 : j = i
  · subst h1; rw [if_pos rfl, if_pos h, if_pos rfl]
  · rw [if_neg h1]
    by_cases h2 : 0 ≤ j ∧ j < 8
    · rw [if_pos h2, if_pos h2, if_neg (by omega)]
    · rw [if_neg h2, if_neg h2]
theorem pq_n {p k v : Int} {n : Nat} {s : Int → Int} (h : k < p ∨ p + n ≤ k) : pj p n (up s k v) = pj p n s := by
  funext j
  simp only [pj, up]
  by_cases h2 : 0 ≤ j ∧ j < n
  · rw [if_pos h2, if_pos h2, if_neg (by omega)]
  · rw [if_neg h2, if_neg h2]
theorem pz_n {w k v : Int} {s : Int → Int} (h : ∀ j : Int, 0 ≤ j → j < 8 → 61 + 5 * j + w ≠ k) : pz w (up s k v) = pz w s := by
  funext j
  simp only [pz, up]
  by_cases h2 : 0 ≤ j ∧ j < 8
  · rw [if_pos h2, if_pos h2, if_neg (h j h2.1 h2.2)]
  · rw [if_neg h2, if_neg h2]
/-- a Land by its one row, and its two rows of scratch -/
def wLs (g : Gd) (a : Nat → Nat) (f1 f10 f11 : Int → Int) : va_W := wL g a (pj 7 24 f1) (pj 31 24 f1) (pj 55 6 f1) (pj 3 4 f1) (pz 0 f1) (pz 1 f1) (pz 2 f1) (pz 3 f1) (pz 4 f1) f10 f11 (f1 0) (f1 1) (f1 2)
section LS
variable {g : Gd} {a : Nat → Nat} {s x10 x11 : Int → Int} {i v : Int}
theorem Ls_periods (h : 0 ≤ i ∧ i < 24) : wL g a (up (pj 7 24 s) i v) (pj 31 24 s) (pj 55 6 s) (pj 3 4 s) (pz 0 s) (pz 1 s) (pz 2 s) (pz 3 s) (pz 4 s) x10 x11 (s 0) (s 1) (s 2) = wLs g a (up s (7 + i) v) x10 x11 := by
  unfold wLs
  rw [pq_e h, pq_n (p := 31) (n := 24) (k := 7 + i) (by omega), pq_n (p := 55) (n := 6) (k := 7 + i) (by omega), pq_n (p := 3) (n := 4) (k := 7 + i) (by omega), pz_n (w := 0) (k := 7 + i) (fun j h0 h1 => by omega), pz_n (w := 1) (k := 7 + i) (fun j h0 h1 => by omega), pz_n (w := 2) (k := 7 + i) (fun j h0 h1 => by omega), pz_n (w := 3) (k := 7 + i) (fun j h0 h1 => by omega), pz_n (w := 4) (k := 7 + i) (fun j h0 h1 => by omega), up_n (j := 0) (k := 7 + i) (by omega), up_n (j := 1) (k := 7 + i) (by omega), up_n (j := 2) (k := 7 + i) (by omega)]
theorem Ls_opens (h : 0 ≤ i ∧ i < 24) : wL g a (pj 7 24 s) (up (pj 31 24 s) i v) (pj 55 6 s) (pj 3 4 s) (pz 0 s) (pz 1 s) (pz 2 s) (pz 3 s) (pz 4 s) x10 x11 (s 0) (s 1) (s 2) = wLs g a (up s (31 + i) v) x10 x11 := by
  unfold wLs
  rw [pq_n (p := 7) (n := 24) (k := 31 + i) (by omega), pq_e h, pq_n (p := 55) (n := 6) (k := 31 + i) (by omega), pq_n (p := 3) (n := 4) (k := 31 + i) (by omega), pz_n (w := 0) (k := 31 + i) (fun j h0 h1 => by omega), pz_n (w := 1) (k := 31 + i) (fun j h0 h1 => by omega), pz_n (w := 2) (k := 31 + i) (fun j h0 h1 => by omega), pz_n (w := 3) (k := 31 + i) (fun j h0 h1 => by omega), pz_n (w := 4) (k := 31 + i) (fun j h0 h1 => by omega), up_n (j := 0) (k := 31 + i) (by omega), up_n (j := 1) (k := 31 + i) (by omega), up_n (j := 2) (k := 31 + i) (by omega)]
theorem Ls_homes (h : 0 ≤ i ∧ i < 6) : wL g a (pj 7 24 s) (pj 31 24 s) (up (pj 55 6 s) i v) (pj 3 4 s) (pz 0 s) (pz 1 s) (pz 2 s) (pz 3 s) (pz 4 s) x10 x11 (s 0) (s 1) (s 2) = wLs g a (up s (55 + i) v) x10 x11 := by
  unfold wLs
  rw [pq_n (p := 7) (n := 24) (k := 55 + i) (by omega), pq_n (p := 31) (n := 24) (k := 55 + i) (by omega), pq_e h, pq_n (p := 3) (n := 4) (k := 55 + i) (by omega), pz_n (w := 0) (k := 55 + i) (fun j h0 h1 => by omega), pz_n (w := 1) (k := 55 + i) (fun j h0 h1 => by omega), pz_n (w := 2) (k := 55 + i) (fun j h0 h1 => by omega), pz_n (w := 3) (k := 55 + i) (fun j h0 h1 => by omega), pz_n (w := 4) (k := 55 + i) (fun j h0 h1 => by omega), up_n (j := 0) (k := 55 + i) (by omega), up_n (j := 1) (k := 55 + i) (by omega), up_n (j := 2) (k := 55 + i) (by omega)]
theorem Ls_weights (h : 0 ≤ i ∧ i < 4) : wL g a (pj 7 24 s) (pj 31 24 s) (pj 55 6 s) (up (pj 3 4 s) i v) (pz 0 s) (pz 1 s) (pz 2 s) (pz 3 s) (pz 4 s) x10 x11 (s 0) (s 1) (s 2) = wLs g a (up s (3 + i) v) x10 x11 := by
  unfold wLs
  rw [pq_n (p := 7) (n := 24) (k := 3 + i) (by omega), pq_n (p := 31) (n := 24) (k := 3 + i) (by omega), pq_n (p := 55) (n := 6) (k := 3 + i) (by omega), pq_e h, pz_n (w := 0) (k := 3 + i) (fun j h0 h1 => by omega), pz_n (w := 1) (k := 3 + i) (fun j h0 h1 => by omega), pz_n (w := 2) (k := 3 + i) (fun j h0 h1 => by omega), pz_n (w := 3) (k := 3 + i) (fun j h0 h1 => by omega), pz_n (w := 4) (k := 3 + i) (fun j h0 h1 => by omega), up_n (j := 0) (k := 3 + i) (by omega), up_n (j := 1) (k := 3 + i) (by omega), up_n (j := 2) (k := 3 + i) (by omega)]
theorem Ls_kinds (h : 0 ≤ i ∧ i < 8) : wL g a (pj 7 24 s) (pj 31 24 s) (pj 55 6 s) (pj 3 4 s) (up (pz 0 s) i v) (pz 1 s) (pz 2 s) (pz 3 s) (pz 4 s) x10 x11 (s 0) (s 1) (s 2) = wLs g a (up s (61 + 5 * i + 0) v) x10 x11 := by
  unfold wLs
  rw [pq_n (p := 7) (n := 24) (k := 61 + 5 * i + 0) (by omega), pq_n (p := 31) (n := 24) (k := 61 + 5 * i + 0) (by omega), pq_n (p := 55) (n := 6) (k := 61 + 5 * i + 0) (by omega), pq_n (p := 3) (n := 4) (k := 61 + 5 * i + 0) (by omega), pz_e h, pz_n (w := 1) (k := 61 + 5 * i + 0) (fun j h0 h1 => by omega), pz_n (w := 2) (k := 61 + 5 * i + 0) (fun j h0 h1 => by omega), pz_n (w := 3) (k := 61 + 5 * i + 0) (fun j h0 h1 => by omega), pz_n (w := 4) (k := 61 + 5 * i + 0) (fun j h0 h1 => by omega), up_n (j := 0) (k := 61 + 5 * i + 0) (by omega), up_n (j := 1) (k := 61 + 5 * i + 0) (by omega), up_n (j := 2) (k := 61 + 5 * i + 0) (by omega)]
theorem Ls_cells (h : 0 ≤ i ∧ i < 8) : wL g a (pj 7 24 s) (pj 31 24 s) (pj 55 6 s) (pj 3 4 s) (pz 0 s) (up (pz 1 s) i v) (pz 2 s) (pz 3 s) (pz 4 s) x10 x11 (s 0) (s 1) (s 2) = wLs g a (up s (61 + 5 * i + 1) v) x10 x11 := by
  unfold wLs
  rw [pq_n (p := 7) (n := 24) (k := 61 + 5 * i + 1) (by omega), pq_n (p := 31) (n := 24) (k := 61 + 5 * i + 1) (by omega), pq_n (p := 55) (n := 6) (k := 61 + 5 * i + 1) (by omega), pq_n (p := 3) (n := 4) (k := 61 + 5 * i + 1) (by omega), pz_n (w := 0) (k := 61 + 5 * i + 1) (fun j h0 h1 => by omega), pz_e h, pz_n (w := 2) (k := 61 + 5 * i + 1) (fun j h0 h1 => by omega), pz_n (w := 3) (k := 61 + 5 * i + 1) (fun j h0 h1 => by omega), pz_n (w := 4) (k := 61 + 5 * i + 1) (fun j h0 h1 => by omega), up_n (j := 0) (k := 61 + 5 * i + 1) (by omega), up_n (j := 1) (k := 61 + 5 * i + 1) (by omega), up_n (j := 2) (k := 61 + 5 * i + 1) (by omega)]
theorem Ls_hastes (h : 0 ≤ i ∧ i < 8) : wL g a (pj 7 24 s) (pj 31 24 s) (pj 55 6 s) (pj 3 4 s) (pz 0 s) (pz 1 s) (up (pz 2 s) i v) (pz 3 s) (pz 4 s) x10 x11 (s 0) (s 1) (s 2) = wLs g a (up s (61 + 5 * i + 2) v) x10 x11 := by
  unfold wLs
  rw [pq_n (p := 7) (n := 24) (k := 61 + 5 * i + 2) (by omega), pq_n (p := 31) (n := 24) (k := 61 + 5 * i + 2) (by omega), pq_n (p := 55) (n := 6) (k := 61 + 5 * i + 2) (by omega), pq_n (p := 3) (n := 4) (k := 61 + 5 * i + 2) (by omega), pz_n (w := 0) (k := 61 + 5 * i + 2) (fun j h0 h1 => by omega), pz_n (w := 1) (k := 61 + 5 * i + 2) (fun j h0 h1 => by omega), pz_e h, pz_n (w := 3) (k := 61 + 5 * i + 2) (fun j h0 h1 => by omega), pz_n (w := 4) (k := 61 + 5 * i + 2) (fun j h0 h1 => by omega), up_n (j := 0) (k := 61 + 5 * i + 2) (by omega), up_n (j := 1) (k := 61 + 5 * i + 2) (by omega), up_n (j := 2) (k := 61 + 5 * i + 2) (by omega)]
theorem Ls_steps (h : 0 ≤ i ∧ i < 8) : wL g a (pj 7 24 s) (pj 31 24 s) (pj 55 6 s) (pj 3 4 s) (pz 0 s) (pz 1 s) (pz 2 s) (up (pz 3 s) i v) (pz 4 s) x10 x11 (s 0) (s 1) (s 2) = wLs g a (up s (61 + 5 * i + 3) v) x10 x11 := by
  unfold wLs
  rw [pq_n (p := 7) (n := 24) (k := 61 + 5 * i + 3) (by omega), pq_n (p := 31) (n := 24) (k := 61 + 5 * i + 3) (by omega), pq_n (p := 55) (n := 6) (k := 61 + 5 * i + 3) (by omega), pq_n (p := 3) (n := 4) (k := 61 + 5 * i + 3) (by omega), pz_n (w := 0) (k := 61 + 5 * i + 3) (fun j h0 h1 => by omega), pz_n (w := 1) (k := 61 + 5 * i + 3) (fun j h0 h1 => by omega), pz_n (w := 2) (k := 61 + 5 * i + 3) (fun j h0 h1 => by omega), pz_e h, pz_n (w := 4) (k := 61 + 5 * i + 3) (fun j h0 h1 => by omega), up_n (j := 0) (k := 61 + 5 * i + 3) (by omega), up_n (j := 1) (k := 61 + 5 * i + 3) (by omega), up_n (j := 2) (k := 61 + 5 * i + 3) (by omega)]
theorem Ls_waits (h : 0 ≤ i ∧ i < 8) : wL g a (pj 7 24 s) (pj 31 24 s) (pj 55 6 s) (pj 3 4 s) (pz 0 s) (pz 1 s) (pz 2 s) (pz 3 s) (up (pz 4 s) i v) x10 x11 (s 0) (s 1) (s 2) = wLs g a (up s (61 + 5 * i + 4) v) x10 x11 := by
  unfold wLs
  rw [pq_n (p := 7) (n := 24) (k := 61 + 5 * i + 4) (by omega), pq_n (p := 31) (n := 24) (k := 61 + 5 * i + 4) (by omega), pq_n (p := 55) (n := 6) (k := 61 + 5 * i + 4) (by omega), pq_n (p := 3) (n := 4) (k := 61 + 5 * i + 4) (by omega), pz_n (w := 0) (k := 61 + 5 * i + 4) (fun j h0 h1 => by omega), pz_n (w := 1) (k := 61 + 5 * i + 4) (fun j h0 h1 => by omega), pz_n (w := 2) (k := 61 + 5 * i + 4) (fun j h0 h1 => by omega), pz_n (w := 3) (k := 61 + 5 * i + 4) (fun j h0 h1 => by omega), pz_e h, up_n (j := 0) (k := 61 + 5 * i + 4) (by omega), up_n (j := 1) (k := 61 + 5 * i + 4) (by omega), up_n (j := 2) (k := 61 + 5 * i + 4) (by omega)]
theorem Ls_season : wL g a (pj 7 24 s) (pj 31 24 s) (pj 55 6 s) (pj 3 4 s) (pz 0 s) (pz 1 s) (pz 2 s) (pz 3 s) (pz 4 s) x10 x11 v (s 1) (s 2) = wLs g a (up s 0 v) x10 x11 := by
  unfold wLs
  rw [pq_n (p := 7) (n := 24) (k := 0) (by omega), pq_n (p := 31) (n := 24) (k := 0) (by omega), pq_n (p := 55) (n := 6) (k := 0) (by omega), pq_n (p := 3) (n := 4) (k := 0) (by omega), pz_n (w := 0) (k := 0) (fun j h0 h1 => by omega), pz_n (w := 1) (k := 0) (fun j h0 h1 => by omega), pz_n (w := 2) (k := 0) (fun j h0 h1 => by omega), pz_n (w := 3) (k := 0) (fun j h0 h1 => by omega), pz_n (w := 4) (k := 0) (fun j h0 h1 => by omega), up_s, up_n (j := 1) (k := 0) (by omega), up_n (j := 2) (k := 0) (by omega)]
theorem Ls_ranges : wL g a (pj 7 24 s) (pj 31 24 s) (pj 55 6 s) (pj 3 4 s) (pz 0 s) (pz 1 s) (pz 2 s) (pz 3 s) (pz 4 s) x10 x11 (s 0) v (s 2) = wLs g a (up s 1 v) x10 x11 := by
  unfold wLs
  rw [pq_n (p := 7) (n := 24) (k := 1) (by omega), pq_n (p := 31) (n := 24) (k := 1) (by omega), pq_n (p := 55) (n := 6) (k := 1) (by omega), pq_n (p := 3) (n := 4) (k := 1) (by omega), pz_n (w := 0) (k := 1) (fun j h0 h1 => by omega), pz_n (w := 1) (k := 1) (fun j h0 h1 => by omega), pz_n (w := 2) (k := 1) (fun j h0 h1 => by omega), pz_n (w := 3) (k := 1) (fun j h0 h1 => by omega), pz_n (w := 4) (k := 1) (fun j h0 h1 => by omega), up_n (j := 0) (k := 1) (by omega), up_s, up_n (j := 2) (k := 1) (by omega)]
theorem Ls_villages : wL g a (pj 7 24 s) (pj 31 24 s) (pj 55 6 s) (pj 3 4 s) (pz 0 s) (pz 1 s) (pz 2 s) (pz 3 s) (pz 4 s) x10 x11 (s 0) (s 1) v = wLs g a (up s 2 v) x10 x11 := by
  unfold wLs
  rw [pq_n (p := 7) (n := 24) (k := 2) (by omega), pq_n (p := 31) (n := 24) (k := 2) (by omega), pq_n (p := 55) (n := 6) (k := 2) (by omega), pq_n (p := 3) (n := 4) (k := 2) (by omega), pz_n (w := 0) (k := 2) (fun j h0 h1 => by omega), pz_n (w := 1) (k := 2) (fun j h0 h1 => by omega), pz_n (w := 2) (k := 2) (fun j h0 h1 => by omega), pz_n (w := 3) (k := 2) (fun j h0 h1 => by omega), pz_n (w := 4) (k := 2) (fun j h0 h1 => by omega), up_n (j := 0) (k := 2) (by omega), up_n (j := 1) (k := 2) (by omega), up_s]
end LS
section XL
variable {p : Program} {l : Launch} {e : Env} {R : Room} {s : State} {m : MethodId} {args : Array Value} {below : List Frame} {meth : Method} {c : Code} {H : Heap} {locs : List Loc} {cells slots : Nat} {Q : State → Prop} {cc : ByteArray} {pc : Nat} {ls : Array Slot} {rest st : List Value} {g : Gd} {n : Nat} {a : Nat} {i : Int} {s0 : Int → Int}
theorem xi_alq (hx : p.tables.exec = Jvm.exec) (hb : c.code = cc) (hK : KX g s) {ws : va_W} (hP : va_P g.1 vwCl ws H) (q0 : Nat) {p0 : Int} (ha : ws[q0]? = some (a, .inl (g.2.1, n, .inl (ar (pj p0 n s0))))) (hi : 0 ≤ i ∧ i < n) (hn : Nat.ble n 2147483647 = true) (d : decode cc pc = .ok (.iaload, 1)) (k : W p l e R s m args below meth c H locs cells slots Q (F0 m (pc + 1) ls (.int (iI (s0 (p0 + i))) :: rest))) : W p l e R s m args below meth c H locs cells slots Q (F0 m pc ls (.int (iI i) :: .ref a :: rest)) := by
  refine xi_ald hx hb hK hP q0 ha hi hn d ?_
  have e : pj p0 n s0 i = s0 (p0 + i) := if_pos hi
  rw [e]
  exact k
theorem xi_alz (hx : p.tables.exec = Jvm.exec) (hb : c.code = cc) (hK : KX g s) {ws : va_W} (hP : va_P g.1 vwCl ws H) (q0 : Nat) {w : Int} (ha : ws[q0]? = some (a, .inl (g.2.1, 8, .inl (ar (pz w s0))))) (hi : 0 ≤ i ∧ i < 8) (hn : Nat.ble 8 2147483647 = true) (d : decode cc pc = .ok (.iaload, 1)) (k : W p l e R s m args below meth c H locs cells slots Q (F0 m (pc + 1) ls (.int (iI (s0 (61 + 5 * i + w))) :: rest))) : W p l e R s m args below meth c H locs cells slots Q (F0 m pc ls (.int (iI i) :: .ref a :: rest)) := by
  refine xi_ald hx hb hK hP q0 ha hi hn d ?_
  have e : pz w s0 i = s0 (61 + 5 * i + w) := if_pos hi
  rw [e]
  exact k
theorem xmF_v {mc ms : Nat} {S : Type} {w : S → va_W} {w0 w2 : va_W} {post : S → Prop} {a : Array Value} {A0 : Nat → Prop} {H0 : Heap} (run : va_Run p l e R s m args below meth c H locs cells slots mc ms (F0 m pc ls st) rest (QMv g w post (va_A w0 H.size) a) (va_A w0 H.size)) (hP : va_P g.1 vwCl (w0 ++ w2) H) (hD : va_D A0 (w0 ++ w2)) (hS : va_S A0 H0 H locs) (hA : ∀ q, H0.size ≤ q → A0 q) (kk : ∀ (u : S) (H1 : Heap) (locs1 : List Loc), post u → va_P g.1 vwCl (w u ++ w2) H1 → va_D A0 (w u ++ w2) → va_S A0 H0 H1 locs1 → W p l e R s m args below meth c H1 locs1 (cells + mc) (slots + ms) Q (F0 m (pc + 3) ls rest)) : W p l e R s m args below meth c H locs cells slots Q (F0 m pc ls st) := xmB_v (w1 := []) run hP hD hS hA kk
theorem xmF_i {mc ms : Nat} {S : Type} {w : S → va_W} {w0 w2 : va_W} {post : Int32 → S → Prop} {a : Array Value} {A0 : Nat → Prop} {H0 : Heap} (run : va_Run p l e R s m args below meth c H locs cells slots mc ms (F0 m pc ls st) rest (QMi g w post (va_A w0 H.size) a) (va_A w0 H.size)) (hP : va_P g.1 vwCl (w0 ++ w2) H) (hD : va_D A0 (w0 ++ w2)) (hS : va_S A0 H0 H locs) (hA : ∀ q, H0.size ≤ q → A0 q) (kk : ∀ (x : Int32) (u : S) (H1 : Heap) (locs1 : List Loc), post x u → va_P g.1 vwCl (w u ++ w2) H1 → va_D A0 (w u ++ w2) → va_S A0 H0 H1 locs1 → W p l e R s m args below meth c H1 locs1 (cells + mc) (slots + ms) Q (F0 m (pc + 3) ls (.int x :: rest))) : W p l e R s m args below meth c H locs cells slots Q (F0 m pc ls st) := xmB_i (w1 := []) run hP hD hS hA kk
theorem xmF_l {mc ms : Nat} {S : Type} {w : S → va_W} {w0 w2 : va_W} {post : Int64 → S → Prop} {a : Array Value} {A0 : Nat → Prop} {H0 : Heap} (run : va_Run p l e R s m args below meth c H locs cells slots mc ms (F0 m pc ls st) rest (QMl g w post (va_A w0 H.size) a) (va_A w0 H.size)) (hP : va_P g.1 vwCl (w0 ++ w2) H) (hD : va_D A0 (w0 ++ w2)) (hS : va_S A0 H0 H locs) (hA : ∀ q, H0.size ≤ q → A0 q) (kk : ∀ (x : Int64) (u : S) (H1 : Heap) (locs1 : List Loc), post x u → va_P g.1 vwCl (w u ++ w2) H1 → va_D A0 (w u ++ w2) → va_S A0 H0 H1 locs1 → W p l e R s m args below meth c H1 locs1 (cells + mc) (slots + ms) Q (F0 m (pc + 3) ls (.long x :: rest))) : W p l e R s m args below meth c H locs cells slots Q (F0 m pc ls st) := xmB_l (w1 := []) run hP hD hS hA kk
theorem xmF_r {mc ms : Nat} {S : Type} {w : S → va_W} {w0 w2 : va_W} {post : S → Prop} {ba : Nat} {a : Array Value} {A0 : Nat → Prop} {H0 : Heap} (run : va_Run p l e R s m args below meth c H locs cells slots mc ms (F0 m pc ls st) rest (QMr g w ba post (va_A w0 H.size) a) (va_A w0 H.size)) (hP : va_P g.1 vwCl (w0 ++ w2) H) (hD : va_D A0 (w0 ++ w2)) (hS : va_S A0 H0 H locs) (hA : ∀ q, H0.size ≤ q → A0 q) (kk : ∀ (u : S) (H1 : Heap) (locs1 : List Loc), post u → va_P g.1 vwCl (w u ++ w2) H1 → va_D A0 (w u ++ w2) → va_S A0 H0 H1 locs1 → W p l e R s m args below meth c H1 locs1 (cells + mc) (slots + ms) Q (F0 m (pc + 3) ls (.ref ba :: rest))) : W p l e R s m args below meth c H locs cells slots Q (F0 m pc ls st) := xmB_r (w1 := []) run hP hD hS hA kk
/-- Math.max and Math.min -/
def LkM (own : String) (idx : Nat) (y : MethodName) (cc2 : ByteArray) : Prop := Cond.methodLink own idx y ∈ T0 ∧ Cond.static y ∈ T0 ∧ Cond.initialized "java/lang/Math" ∈ T0 ∧ Cond.code y cc2 2 (some .int) ∈ T0
theorem xj_max (hx : p.tables.exec = Jvm.exec) (hb : c.code = cc) {own : String} {index nL : Nat} {lv : List (Nat × Value)} (hml : c.maxLocals = nL) (hown : s.vm.findClass own = some m.cls) (hts : ∀ w ∈ T0, w.before args s = true) (hl : lv_has ls nL lv) (lk : LkM own index Lib.Math.max.name Lib.Math.max.code) {x y : Int} (hxr : IR x) (hyr : IR y) (hf : 1 ≤ R.frames) (hlo : Nat.ble ((rest.map fun v => v.category).sum + 13) R.locals = true) (hc : cells ≤ R.cells) (hs : slots ≤ R.slots) (d : decode cc pc = .ok (.invokestatic index, 3)) (k : W p l e R s m args below meth c H locs cells slots Q (F0 m (pc + 3) ls (.int (iI (if x < y then y else x)) :: rest))) : W p l e R s m args below meth c H locs cells slots Q (F0 m pc ls (.int (iI y) :: .int (iI x) :: rest)) := by
  refine va_mmax hx hb (by rw [hml]; exact hl.1.symm) hown (hts _ lk.1) (hts _ lk.2.1) (hts _ lk.2.2.1) (hts _ lk.2.2.2) hf (Nat.le_of_ble_eq_true hlo) hc hs d ?_
  have e : (if iI x < iI y then iI y else iI x) = iI (if x < y then y else x) := by
    by_cases h : x < y
    · rw [if_pos h, if_pos ((iI_lt hxr hyr).mpr h)]
    · rw [if_neg h, if_neg (fun z => h ((iI_lt hxr hyr).mp z))]
  rw [e]
  exact k
theorem xj_min (hx : p.tables.exec = Jvm.exec) (hb : c.code = cc) {own : String} {index nL : Nat} {lv : List (Nat × Value)} (hml : c.maxLocals = nL) (hown : s.vm.findClass own = some m.cls) (hts : ∀ w ∈ T0, w.before args s = true) (hl : lv_has ls nL lv) (lk : LkM own index Lib.Math.min.name Lib.Math.min.code) {x y : Int} (hxr : IR x) (hyr : IR y) (hf : 1 ≤ R.frames) (hlo : Nat.ble ((rest.map fun v => v.category).sum + 13) R.locals = true) (hc : cells ≤ R.cells) (hs : slots ≤ R.slots) (d : decode cc pc = .ok (.invokestatic index, 3)) (k : W p l e R s m args below meth c H locs cells slots Q (F0 m (pc + 3) ls (.int (iI (if y < x then y else x)) :: rest))) : W p l e R s m args below meth c H locs cells slots Q (F0 m pc ls (.int (iI y) :: .int (iI x) :: rest)) := by
  refine va_mmin hx hb (by rw [hml]; exact hl.1.symm) hown (hts _ lk.1) (hts _ lk.2.1) (hts _ lk.2.2.1) (hts _ lk.2.2.2) hf (Nat.le_of_ble_eq_true hlo) hc hs d ?_
  have e : (if iI y < iI x then iI y else iI x) = iI (if y < x then y else x) := by
    by_cases h : y < x
    · rw [if_pos h, if_pos ((iI_lt hyr hxr).mpr h)]
    · rw [if_neg h, if_neg (fun z => h ((iI_lt hyr hxr).mp z))]
  rw [e]
  exact k
end XL
/-! sets of cells, by bits -/
theorem bit_n {c : Int} (h : 0 ≤ c ∧ c < 32) : bit c = (1 : Int32) <<< (nI c.toNat &&& 31) := by
  unfold bit
  rw [show c = (c.toNat : Int) by omega, iI_nat]
  rfl
theorem bt_1 : ∀ i, i < 32 → bt 1 i = decide (i = 0) := by decide +kernel
theorem bt_bit {c : Int} (h : 0 ≤ c ∧ c < 32) {i : Nat} (hi : i < 32) : bt (bit c) i = decide (i = c.toNat) := by
  rw [bit_n h, b_shl _ (by omega) _ hi, bt_1 _ (by omega)]
  by_cases e : i = c.toNat
  · simp [e]
  · rw [decide_eq_false e]
    by_cases h2 : c.toNat ≤ i
    · rw [decide_eq_false (show ¬ (i - c.toNat = 0) by omega)]; simp
    · rw [decide_eq_false h2]; simp
theorem bt_i0 (i : Nat) : bt (iI 0) i = false := by rw [iI_0]; exact b_0 i
theorem bt_not (x : Int32) {i : Nat} (hi : i < 32) : bt (x ^^^ iI (-1)) i = !bt x i := by
  rw [b_xor, show iI (-1) = -1 by decide, b_m1 i hi]; simp
theorem tst_i {x : Int32} {c : Int} (h : 0 ≤ c ∧ c < 32) : ((x >>> ((iI c) &&& 31)) &&& (iI 1)) = 0 ↔ bt x c.toNat = false := by
  have e : iI c = nI c.toNat := by rw [← iI_nat]; congr 1; omega
  rw [e]
  have k : bt (x >>> (nI c.toNat &&& 31)) 0 = bt x c.toNat := by rw [b_sshr _ (by omega) _ (by omega), if_pos (by omega)]; rfl
  rw [← k]
  constructor
  · intro z
    have := congrArg (fun y => bt y 0) z
    simp only [b_and, b_0] at this
    have h1 : bt (iI 1) 0 = true := by decide
    rw [h1] at this
    simpa using this
  · intro z
    apply b_ext
    intro i hi
    rw [b_and, b_0]
    have h1 : bt (iI 1) i = decide (i = 0) := bt_1 i hi
    rw [h1]
    by_cases e : i = 0
    · subst e; rw [z]; rfl
    · rw [decide_eq_false e]; simp
theorem orT_bt {f : Int → Int32} {i : Nat} : ∀ k : Nat, bt (orT f k) i = true ↔ ∃ j : Nat, j < k ∧ bt (f (j : Int)) i = true
  | 0 => by simp only [orT]; rw [bt_i0]; simp
  | k + 1 => by
    simp only [orT]
    rw [b_or, Bool.or_eq_true, orT_bt k]
    constructor
    · rintro (⟨j, h1, h2⟩ | h)
      · exact ⟨j, by omega, h2⟩
      · exact ⟨k, by omega, h⟩
    · rintro ⟨j, h1, h2⟩
      rcases Nat.lt_or_ge j k with h | h
      · exact Or.inl ⟨j, h, h2⟩
      · have : j = k := by omega
        subst this
        exact Or.inr h2

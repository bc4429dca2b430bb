theorem gOne_step {r st : Int} {cur : Int → Int} {gone : Int} (h : gone < st) (ho : opn cur (bh (cur (61 + 5 * r + 1)))) (hw : who cur (bh (cur (61 + 5 * r + 1))) < 0) : gOne r st (st - gone).toNat cur gone = gOne r st (st - (gone + 1)).toNat (up cur (61 + 5 * r + 1) (bh (cur (61 + 5 * r + 1)))) (gone + 1) := by
  have e : (st - gone).toNat = (st - (gone + 1)).toNat + 1 := by omega
  rw [e]
  simp only [gOne]
  rw [if_pos ⟨h, ho, hw⟩]
theorem gOne_stop {r st : Int} {cur : Int → Int} {gone : Int} (h : gone < st) (hn : ¬ (opn cur (bh (cur (61 + 5 * r + 1))) ∧ who cur (bh (cur (61 + 5 * r + 1))) < 0)) : gOne r st (st - gone).toNat cur gone = (cur, gone) := by
  have e : (st - gone).toNat = (st - (gone + 1)).toNat + 1 := by omega
  rw [e]
  simp only [gOne]
  rw [if_neg (fun z => hn z.2)]
theorem gOne_end {r st : Int} {cur : Int → Int} {gone : Int} (h : st ≤ gone) : gOne r st (st - gone).toNat cur gone = (cur, gone) := by
  rw [show (st - gone).toNat = 0 by omega]
  rfl
def GI (r st : Int) (F : (Int → Int) × Int) (cur : Int → Int) (gone on : Int) : Prop := (on = 1 ∧ gone < st ∧ gOne r st (st - gone).toNat cur gone = F) ∨ (on = 0 ∧ (cur, gone) = F)
theorem GI.on {r st : Int} {F : (Int → Int) × Int} {cur : Int → Int} {gone on : Int} (h : GI r st F cur gone on) (ho : ¬ on = 0) : gone < st ∧ gOne r st (st - gone).toNat cur gone = F := h.elim (fun z => z.2) (fun z => absurd z.1 ho)
theorem GI.off {r st : Int} {F : (Int → Int) × Int} {cur : Int → Int} {gone on : Int} (h : GI r st F cur gone on) (ho : on = 0) : (cur, gone) = F := h.elim (fun z => by have := z.1; omega) (fun z => z.2)
theorem GI.b {r st : Int} {F : (Int → Int) × Int} {cur : Int → Int} {gone on : Int} (h : GI r st F cur gone on) : 0 ≤ on ∧ on ≤ 1 := h.elim (fun z => by have := z.1; omega) (fun z => by have := z.1; omega)
theorem GI.m1 {r st : Int} {F : (Int → Int) × Int} {cur : Int → Int} {gone : Int} (h : gone < st ∧ gOne r st (st - gone).toNat cur gone = F) (ho : opn cur (bh (cur (61 + 5 * r + 1)))) (hw : who cur (bh (cur (61 + 5 * r + 1))) < 0) (h1 : gone + 1 < st) : GI r st F (up cur (61 + 5 * r + 1) (bh (cur (61 + 5 * r + 1)))) (gone + 1) 1 := Or.inl ⟨rfl, h1, by rw [← gOne_step h.1 ho hw]; exact h.2⟩
theorem GI.m2 {r st : Int} {F : (Int → Int) × Int} {cur : Int → Int} {gone : Int} (h : gone < st ∧ gOne r st (st - gone).toNat cur gone = F) (ho : opn cur (bh (cur (61 + 5 * r + 1)))) (hw : who cur (bh (cur (61 + 5 * r + 1))) < 0) (h1 : st ≤ gone + 1) : GI r st F (up cur (61 + 5 * r + 1) (bh (cur (61 + 5 * r + 1)))) (gone + 1) 0 := Or.inr ⟨rfl, by rw [← h.2, gOne_step h.1 ho hw, gOne_end h1]⟩
theorem GI.m3 {r st : Int} {F : (Int → Int) × Int} {cur : Int → Int} {gone : Int} (h : gone < st ∧ gOne r st (st - gone).toNat cur gone = F) (hn : ¬ (opn cur (bh (cur (61 + 5 * r + 1))) ∧ who cur (bh (cur (61 + 5 * r + 1))) < 0)) : GI r st F cur gone 0 := Or.inr ⟨rfl, by rw [← h.2, gOne_stop h.1 hn]⟩
theorem GI.i1 {r st : Int} {s : Int → Int} (h : 0 < st) : GI r st (gOne r st st.toNat s 0) s 0 1 := Or.inl ⟨rfl, h, by rw [Int.sub_zero]⟩
theorem GI.i0 {r st : Int} {s : Int → Int} (h : st ≤ 0) : GI r st (gOne r st st.toNat s 0) s 0 0 := Or.inr ⟨rfl, by rw [show st.toNat = 0 by omega]; rfl⟩
theorem rkT_bb {s : Int → Int} {r : Int} (h0 : 0 ≤ r) (o : Nat) : 0 ≤ rkT s r o ∧ rkT s r o ≤ o ∧ (r < o → rkT s r o < o) := ⟨(rkT_b s r o).1, (rkT_b s r o).2, rkT_lt s h0 o⟩
/-- sets by bits -/
def orT (f : Int → Int32) : Nat → Int32
  | 0 => iI 0
  | k + 1 => orT f k ||| f k
def bit (c : Int) : Int32 := (iI 1) <<< ((iI c) &&& 31)
/-- how many ones -/
def onesT : Nat → Int32 → Int → Int
  | 0, _, n => n
  | f + 1, x, n => if x = 0 then n else onesT f (x &&& (x - 1)) (n + 1)
/-- one walks -/
def wkT (to1 : Int) : Nat → (Int → Int) → Int → Int → Int
  | 0, _, at1, n => if at1 = to1 then n else -1
  | f + 1, s, at1, n => if at1 = to1 then n else wkT to1 f (sea s) (if opn s (bh at1) ∧ who s (bh at1) < 0 then bh at1 else at1) (n + 1)
def psT (s : Int → Int) : Nat → Int
  | 0 => 0
  | k + 1 => psT s k + (if 0 < s (7 + (k : Int)) then 1 else 0)

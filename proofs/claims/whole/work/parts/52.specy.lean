/-! the file, as the class goes through it -/
def clT (s : Int → Int) : Nat → Int32 → Int → Int32
  | 0, x, _ => x
  | f + 1, x, r => if 0 ≤ r then clT s f (x ||| bit r) (ahd s r) else x
theorem tb_all : ∀ (k : Fin 256) (r : Fin 8), ((((iI (k.val : Int)) >>> ((iI (r.val : Int)) &&& 31)) &&& iI 1) = 0 ↔ Nat.testBit k.val r.val = false) ∧ (Nat.testBit k.val r.val = false → popN (k.val ||| 2 ^ r.val) = popN k.val + 1) ∧ (Nat.testBit k.val r.val = true → (k.val ||| 2 ^ r.val) = k.val) := by decide +kernel
theorem pop_full : ∀ (k : Fin 256) (r : Fin 8), popN k.val = 8 → Nat.testBit k.val r.val = true := by decide +kernel
theorem tb_or (x r q : Nat) : Nat.testBit (x ||| 2 ^ r) q = (Nat.testBit x q || decide (r = q)) := by
  rw [Nat.testBit_or, Nat.testBit_two_pow]
theorem clT_in {s : Int → Int} {x : Nat} (hx : x < 256) (hn : 0 ≤ s 1 ∧ s 1 ≤ 8) (hc : ∀ q : Nat, q < 8 → Nat.testBit x q = true → ahd s q < 0 ∨ Nat.testBit x (ahd s q).toNat = true) : ∀ (f : Nat) (r : Int), -1 ≤ r → r < s 1 → (r < 0 ∨ Nat.testBit x r.toNat = true) → clT s f (iI (x : Int)) r = iI (x : Int)
  | 0, r, _, _, _ => rfl
  | f + 1, r, r0, r1, h => by
    simp only [clT]
    by_cases c : 0 ≤ r
    · rw [if_pos c]
      have hb := h.resolve_left (by omega)
      have hr8 : r.toNat < 8 := by omega
      have er : ((r.toNat : Nat) : Int) = r := by omega
      have h1 := bit_or ⟨x, hx⟩ ⟨r.toNat, hr8⟩
      have h2 := (tb_all ⟨x, hx⟩ ⟨r.toNat, hr8⟩).2.2 hb
      dsimp only at h1 h2
      rw [er] at h1
      rw [h1.1, h2]
      have ha := ahd_b hn r
      have h3 := hc r.toNat hr8 hb
      rw [er] at h3
      exact clT_in hx hn hc f (ahd s r) (by omega) (by omega) h3
    · rw [if_neg c]
theorem cl_fl {s : Int → Int} (hn : 0 ≤ s 1 ∧ s 1 ≤ 8) : ∀ (m f x : Nat) (r : Int), x < 256 → -1 ≤ r → r < s 1 → 255 - x < m → 8 ≤ f + popN x → (∀ q : Nat, q < 8 → Nat.testBit x q = true → ahd s q < 0 ∨ ahd s q = r ∨ Nat.testBit x (ahd s q).toNat = true) → clT s f (iI (x : Int)) r = flT s m (iI (x : Int)) r
  | 0, f, x, r, _, _, _, h, _, _ => by omega
  | m + 1, f, x, r, hx, r0, r1, hm, hf, hc => by
    simp only [flT]
    by_cases c : 0 ≤ r
    · have hr8 : r.toNat < 8 := by omega
      have er : ((r.toNat : Nat) : Int) = r := by omega
      have h0 := tb_all ⟨x, hx⟩ ⟨r.toNat, hr8⟩
      have h1 := bit_or ⟨x, hx⟩ ⟨r.toNat, hr8⟩
      dsimp only at h0 h1
      rw [er] at h0 h1
      by_cases b : Nat.testBit x r.toNat = false
      · have hz := h0.1.mpr b
        rw [if_pos ⟨c, hz⟩]
        have hp : popN x < 8 := by
          have h8 := (pop_le ⟨x, hx⟩).1
          dsimp only at h8
          rcases Nat.lt_or_ge (popN x) 8 with h | h
          · exact h
          · have := pop_full ⟨x, hx⟩ ⟨r.toNat, hr8⟩ (by dsimp only; omega)
            dsimp only at this
            rw [b] at this
            cases this
        obtain ⟨f9, rfl⟩ : ∃ z, f = z + 1 := ⟨f - 1, by omega⟩
        simp only [clT]
        rw [if_pos c, h1.1]
        have ha := ahd_b hn r
        refine cl_fl hn m f9 _ (ahd s r) h1.2.1 (by omega) (by omega) (by have := h1.2.2.2 hz; omega) (by rw [h0.2.1 b]; omega) (fun q q8 hq => ?_)
        rw [tb_or] at hq ⊢
        by_cases e : r.toNat = q
        · right; left
          rw [← e, er]
        · rw [decide_eq_false e, Bool.or_false] at hq
          rcases hc q q8 hq with h | h | h
          · exact Or.inl h
          · right; right
            rw [h, decide_eq_true rfl, Bool.or_true]
          · right; right
            rw [h, Bool.true_or]
      · have bt9 : Nat.testBit x r.toNat = true := by simpa using b
        have hz : ¬ (((iI (x : Int)) >>> ((iI r) &&& 31)) &&& iI 1) = 0 := fun z => b (h0.1.mp z)
        rw [if_neg (fun z => hz z.2)]
        refine clT_in hx hn (fun q q8 hq => ?_) f r r0 r1 (Or.inr bt9)
        rcases hc q q8 hq with h | h | h
        · exact Or.inl h
        · right; rw [h]; exact bt9
        · exact Or.inr h
    · rw [if_neg (fun z => c z.1)]
      cases f with
      | zero => rfl
      | succ f => simp only [clT]; rw [if_neg c]
theorem cl_file {s : Int → Int} (hn : 0 ≤ s 1 ∧ s 1 ≤ 8) {r : Int} (h0 : 0 ≤ r) (h1 : r < s 1) : clT s 8 (iI 0) r = flT s 256 (iI 0) r :=
  cl_fl hn 256 8 0 r (by omega) (by omega) h1 (by omega) (by decide) (fun q _ hq => by simp at hq)
theorem clT_go {s : Int → Int} {f : Nat} {x : Int32} {r : Int} (hf : 0 < f) (h : 0 ≤ r) : clT s f x r = clT s (f - 1) (x ||| bit r) (ahd s r) := by
  obtain ⟨m, rfl⟩ : ∃ m, f = m + 1 := ⟨f - 1, by omega⟩
  simp only [clT]
  rw [if_pos h]
  rfl
theorem clT_no {s : Int → Int} {x : Int32} {r : Int} (h : ¬ 0 ≤ r) : ∀ f, clT s f x r = x
  | 0 => rfl
  | f + 1 => by simp only [clT]; rw [if_neg h]
theorem nn_or (n m : Nat) : ((if m < n then (-1 : Int) else (n : Int)) = -1 ∧ m < n) ∨ ((if m < n then (-1 : Int) else (n : Int)) = (n : Int) ∧ ¬ m < n) := by
  by_cases h : m < n
  · exact Or.inl ⟨if_pos h, h⟩
  · exact Or.inr ⟨if_neg h, h⟩
theorem stT_one {t : Int → Int} {w : Int} (h : 0 ≤ w) : ∀ k : Nat, stT t w k = if w < (k : Int) then t w else 0
  | 0 => by rw [if_neg (by omega)]; rfl
  | k + 1 => by
    simp only [stT]
    rw [stT_one h k]
    by_cases e : (k : Int) = w
    · rw [if_neg (by omega), if_pos (Or.inr e), if_pos (by omega), e]; omega
    · rw [if_neg (show ¬ (w < 0 ∨ (k : Int) = w) by omega)]
      by_cases c : w < (k : Int)
      · rw [if_pos c, if_pos (by omega)]; omega
      · rw [if_neg c, if_neg (by omega)]; omega

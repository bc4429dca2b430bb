theorem InvK.cellw {k : Int} {s : Int → Int} (h : InvK k s) {r c : Int} (r0 : 0 ≤ r) (r1 : r < s 1) (hc : 0 ≤ c ∧ c ≤ 23) (hw : who s c < 0 ∨ who s c = r) : InvK k (up s (61 + 5 * r + 1) c) := by
  refine h.cell r0 r1 hc (fun q q0 q1 e => ?_)
  rcases hw with hw | hw
  · exact absurd e ((who_neg h.num.1).mp hw q q0 q1)
  · have := who_pos (s := s) (c := c) (by omega)
    rw [hw] at this
    exact h.dis q r q0 q1 r0 r1 (by rw [e, this])
def swp (s : Int → Int) (p q : Int) : Int → Int := up (up s (61 + 5 * p + 1) (s (61 + 5 * q + 1))) (61 + 5 * q + 1) (s (61 + 5 * p + 1))
theorem InvK.sw2 {k : Int} {s : Int → Int} (h : InvK k s) {p q : Int} (p0 : 0 ≤ p) (p1 : p < s 1) (q0 : 0 ≤ q) (q1 : q < s 1) (hpq : p ≠ q) : InvK k (swp s p q) := by
  have hn := h.num
  have hv := h.vil
  have o : ∀ j, j ≠ 61 + 5 * p + 1 → j ≠ 61 + 5 * q + 1 → swp s p q j = s j := fun j a b => by unfold swp; rw [up_n b, up_n a]
  have ep : swp s p q (61 + 5 * p + 1) = s (61 + 5 * q + 1) := by unfold swp; rw [up_n (by omega), up_s]
  have eq : swp s p q (61 + 5 * q + 1) = s (61 + 5 * p + 1) := by unfold swp; rw [up_s]
  have e1 := o 1 (by omega) (by omega)
  have e2 := o 2 (by omega) (by omega)
  have e0 := o 0 (by omega) (by omega)
  refine ⟨by rw [e0]; exact h.sea, by rw [e1]; exact hn, by rw [e2]; exact h.vil, fun j j0 j1 => by rw [o _ (by omega) (by omega)]; exact h.wei j j0 j1, fun j j0 j1 => by rw [o _ (by omega) (by omega), o _ (by omega) (by omega)]; exact h.pas j j0 j1, fun v v0 v1 => by rw [e2] at v1; rw [o _ (by omega) (by omega)]; exact h.home v v0 v1, fun r r0 r1 => ?_, fun a b a0 a1 b0 b1 e => ?_⟩
  · rw [e1] at r1
    have hr := h.ran r r0 r1
    rw [e0, o (61 + 5 * r + 0) (by omega) (by omega), o (61 + 5 * r + 2) (by omega) (by omega), o (61 + 5 * r + 3) (by omega) (by omega), o (61 + 5 * r + 4) (by omega) (by omega)]
    refine ⟨hr.1, ?_, hr.2.2⟩
    by_cases c1 : r = p
    · rw [c1, ep]; exact (h.ran q q0 q1).2.1
    · by_cases c2 : r = q
      · rw [c2, eq]; exact (h.ran p p0 p1).2.1
      · rw [o _ (by omega) (by omega)]; exact hr.2.1
  · rw [e1] at a1 b1
    have key : ∀ x, 0 ≤ x → x < s 1 → ∃ y, 0 ≤ y ∧ y < s 1 ∧ swp s p q (61 + 5 * x + 1) = s (61 + 5 * y + 1) ∧ y = (if x = p then q else if x = q then p else x) := by
      intro x x0 x1
      by_cases c1 : x = p
      · exact ⟨q, q0, q1, by rw [c1, ep], by rw [if_pos c1]⟩
      · by_cases c2 : x = q
        · exact ⟨p, p0, p1, by rw [c2, eq], by rw [if_neg c1, if_pos c2]⟩
        · exact ⟨x, x0, x1, o _ (by omega) (by omega), by rw [if_neg c1, if_neg c2]⟩
    obtain ⟨ya, ya0, ya1, ea, fa⟩ := key a a0 a1
    obtain ⟨yb, yb0, yb1, eb, fb⟩ := key b b0 b1
    have := h.dis ya yb ya0 ya1 yb0 yb1 (by rw [← ea, ← eb]; exact e)
    rw [fa, fb] at this
    split at this <;> (try split at this) <;> (try split at this) <;> omega
def swV (s : Int → Int) (n : Int) : Nat → Nat → Int := fun p q => sumA (seaN (swp s (p : Int) (q : Int)) n.toNat) 3
def swI (v : Nat → Nat → Int) (p : Nat) (st : Int × Int) : Nat → Int × Int
  | 0 => st
  | j + 1 => if (swI v p st j).2 < v p (p + 1 + j) then (10 * (p : Int) + ((p + 1 + j : Nat) : Int), v p (p + 1 + j)) else swI v p st j
def swO (v : Nat → Nat → Int) (n : Nat) (st : Int × Int) : Nat → Int × Int
  | 0 => st
  | p + 1 => swI v p (swO v n st p) (n - (p + 1))
theorem swI_b {v : Nat → Nat → Int} {p : Nat} {M : Int} {st : Int × Int} (h0 : 0 ≤ st.2 ∧ st.2 ≤ M) (h1 : -1 ≤ st.1 ∧ st.1 ≤ 100) (hp : p < 8) : ∀ j, p + 1 + j ≤ 8 → (∀ i, i < j → 0 ≤ v p (p + 1 + i) ∧ v p (p + 1 + i) ≤ M) → (0 ≤ (swI v p st j).2 ∧ (swI v p st j).2 ≤ M) ∧ -1 ≤ (swI v p st j).1 ∧ (swI v p st j).1 ≤ 100
  | 0 => fun _ _ => ⟨h0, h1⟩
  | j + 1 => fun hj h => by
    have ih := swI_b h0 h1 hp j (by omega) (fun i hi => h i (by omega))
    have h2 := h j (by omega)
    simp only [swI]
    split
    · exact ⟨h2, by dsimp only; omega, by dsimp only; omega⟩
    · exact ih
theorem swO_b {v : Nat → Nat → Int} {n : Nat} {M : Int} {st : Int × Int} (h0 : 0 ≤ st.2 ∧ st.2 ≤ M) (h1 : -1 ≤ st.1 ∧ st.1 ≤ 100) (hn : n ≤ 8) (hv : ∀ p q, p < n → q < n → p ≠ q → 0 ≤ v p q ∧ v p q ≤ M) : ∀ p, p ≤ n → (0 ≤ (swO v n st p).2 ∧ (swO v n st p).2 ≤ M) ∧ -1 ≤ (swO v n st p).1 ∧ (swO v n st p).1 ≤ 100
  | 0 => fun _ => ⟨h0, h1⟩
  | p + 1 => fun hp => by
    have ih := swO_b h0 h1 hn hv p (by omega)
    exact swI_b ih.1 ih.2 (by omega) _ (by omega) (fun i hi => hv p _ (by omega) (by omega) (by omega))
def swS (s : Int → Int) (n : Int) : Int × Int := swO (swV s n) (s 1).toNat (-1, sumA (seaN s n.toNat) 3) (s 1).toNat
def fSwap (s : Int → Int) (n : Int) : Int := if 0 ≤ n ∧ n ≤ 40 then (if (swS s n).1 < 0 then 4 else 0) else 1
/-- journeys -/
theorem wkT_b (to1 : Int) : ∀ (f : Nat) (s : Int → Int) (a n : Int), 0 ≤ n → -1 ≤ wkT to1 f s a n ∧ wkT to1 f s a n ≤ n + f
  | 0, s, a, n, h => by simp only [wkT]; split <;> omega
  | f + 1, s, a, n, h => by
    simp only [wkT]
    split
    · omega
    · have := wkT_b to1 f (sea s) (if opn s (bh a) ∧ who s (bh a) < 0 then bh a else a) (n + 1) (by omega)
      omega
def wlk (s : Int → Int) (a b : Int) : Int := wkT b 80 s a 0
def fJrn (s : Int → Int) (a b : Int) : Int := if 0 ≤ a ∧ a ≤ 23 ∧ 0 ≤ b ∧ b ≤ 23 then (if wlk s a b < 0 then 4 else 0) else 1
def bdV (s : Int → Int) (a b : Int) : Nat → Int := fun k => wlk (seaN s k) a b
def bdT (v : Nat → Int) : Nat → Int × Int
  | 0 => (-1, 0)
  | k + 1 => if 0 ≤ v k ∧ ((bdT v k).1 < 0 ∨ v k < (bdT v k).2) then ((k : Int), v k) else bdT v k
theorem bdT_b {v : Nat → Int} {M : Int} (hM : 0 ≤ M) : ∀ k, (∀ j, j < k → v j ≤ M) → (-1 ≤ (bdT v k).1 ∧ (bdT v k).1 < (k : Int)) ∧ 0 ≤ (bdT v k).2 ∧ (bdT v k).2 ≤ M
  | 0 => fun _ => ⟨⟨by simp [bdT], by simp [bdT]⟩, by simp [bdT], by simpa [bdT] using hM⟩
  | k + 1 => fun h => by
    have ih := bdT_b hM k (fun j hj => h j (by omega))
    have h2 := h k (by omega)
    simp only [bdT]
    split
    · rename_i hc
      exact ⟨⟨by dsimp only; omega, by dsimp only; omega⟩, hc.1, h2⟩
    · exact ⟨⟨ih.1.1, by omega⟩, ih.2⟩
def fSets (s : Int → Int) (a b : Int) : Int := if 0 ≤ a ∧ a ≤ 23 ∧ 0 ≤ b ∧ b ≤ 23 then (if (bdT (bdV s a b) 21).1 < 0 then 4 else 0) else 1
/-- who is taken out of the way -/
def frT (v : Nat → Int) (l0 : Int) : Nat → Int × Int
  | 0 => (-1, l0)
  | k + 1 => if v k < (frT v l0 k).2 then ((k : Int), v k) else frT v l0 k
theorem frT_b {v : Nat → Int} {l0 : Int} (h0 : 0 ≤ l0 ∧ l0 ≤ 8) : ∀ k, (∀ j, j < k → 0 ≤ v j ∧ v j ≤ 8) → (-1 ≤ (frT v l0 k).1 ∧ (frT v l0 k).1 < (k : Int)) ∧ 0 ≤ (frT v l0 k).2 ∧ (frT v l0 k).2 ≤ 8
  | 0 => fun _ => ⟨⟨by simp [frT], by simp [frT]⟩, h0⟩
  | k + 1 => fun h => by
    have ih := frT_b h0 k (fun j hj => h j (by omega))
    have h2 := h k (by omega)
    simp only [frT]
    split
    · exact ⟨⟨by dsimp only; omega, by dsimp only; omega⟩, h2⟩
    · exact ⟨⟨ih.1.1, by omega⟩, ih.2⟩
def cntS (s : Int → Int) : Int := onesN (stdS s)
theorem cntS_b {s : Int → Int} (hn : 0 ≤ s 1 ∧ s 1 ≤ 8) : 0 ≤ cntS s ∧ cntS s ≤ 8 := by
  obtain ⟨x, hx, e⟩ := std_byte hn
  unfold cntS
  rw [e, onesN_of hx]
  have := (pop_le ⟨x, hx⟩).1
  dsimp only at this
  omega
def frV (s : Int → Int) : Nat → Int := fun k => cntS (nLev s (k : Int))
def frS (s : Int → Int) : Int := (frT (frV s) (cntS s) (s 1).toNat).1
theorem InvK.lev {k : Int} {s : Int → Int} (h : InvK k s) {r : Int} (r0 : 0 ≤ r) (r1 : r < s 1) : InvK k (nLev s r) := by
  have hn := h.num
  have hv := h.vil
  have e1 : nLev s r 1 = s 1 - 1 := up_s _ _ _
  have o : ∀ j, j ≠ 1 → j < 61 → nLev s r j = s j := fun j a b => by unfold nLev; rw [up_n a]; exact lvT_o (by omega)
  have lo : ∀ q w, 0 ≤ q → q < r → 0 ≤ w → w < 5 → nLev s r (61 + 5 * q + w) = s (61 + 5 * q + w) := fun q w q0 q1 w0 w1 => by unfold nLev; rw [up_n (by omega)]; exact lvT_o (by omega)
  have hi : ∀ q w, r ≤ q → q < s 1 - 1 → 0 ≤ w → w < 5 → nLev s r (61 + 5 * q + w) = s (61 + 5 * (q + 1) + w) := fun q w q0 q1 w0 w1 => by
    unfold nLev
    rw [up_n (by omega)]
    simp only [lvT]
    rw [if_pos (by omega), show 61 + 5 * q + w + 5 = 61 + 5 * (q + 1) + w by omega]
  refine ⟨by rw [o 0 (by omega) (by omega)]; exact h.sea, by rw [e1]; omega, by rw [o 2 (by omega) (by omega)]; exact h.vil, fun j j0 j1 => by rw [o _ (by omega) (by omega)]; exact h.wei j j0 j1, fun j j0 j1 => by rw [o _ (by omega) (by omega), o _ (by omega) (by omega)]; exact h.pas j j0 j1, fun v v0 v1 => by rw [o 2 (by omega) (by omega)] at v1; rw [o _ (by omega) (by omega)]; exact h.home v v0 v1, fun q q0 q1 => ?_, fun a b a0 a1 b0 b1 e => ?_⟩
  · rw [e1] at q1
    rw [o 0 (by omega) (by omega)]
    by_cases c : q < r
    · rw [lo q 0 q0 c (by omega) (by omega), lo q 1 q0 c (by omega) (by omega), lo q 2 q0 c (by omega) (by omega), lo q 3 q0 c (by omega) (by omega), lo q 4 q0 c (by omega) (by omega)]
      exact h.ran q q0 (by omega)
    · rw [hi q 0 (by omega) q1 (by omega) (by omega), hi q 1 (by omega) q1 (by omega) (by omega), hi q 2 (by omega) q1 (by omega) (by omega), hi q 3 (by omega) q1 (by omega) (by omega), hi q 4 (by omega) q1 (by omega) (by omega)]
      exact h.ran (q + 1) (by omega) (by omega)
  · rw [e1] at a1 b1
    have key : ∀ x, 0 ≤ x → x < s 1 - 1 → nLev s r (61 + 5 * x + 1) = s (61 + 5 * (if x < r then x else x + 1) + 1) := fun x x0 x1 => by
      by_cases c : x < r
      · rw [if_pos c]; exact lo x 1 x0 c (by omega) (by omega)
      · rw [if_neg c]; exact hi x 1 (by omega) x1 (by omega) (by omega)
    rw [key a a0 a1, key b b0 b1] at e
    have := h.dis _ _ (by split <;> omega) (by split <;> omega) (by split <;> omega) (by split <;> omega) e
    split at this <;> split at this <;> omega

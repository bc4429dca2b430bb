/-! what lies ahead -/
def aOn (s : Int → Int) (r n w : Int) : Int := if w = 0 then seaN s n.toNat (61 + 5 * r + 1) else if w = 1 then seaN s n.toNat (61 + 5 * r + 3) else seaN s n.toNat (61 + 5 * r + 4)
def fOn (s : Int → Int) (r n w : Int) : Int := if 0 ≤ r ∧ r < s 1 ∧ 0 ≤ n ∧ n ≤ 80 ∧ 0 ≤ w ∧ w ≤ 2 then 0 else 1
/-- the first place from n on, of so many, at which it is so -/
def fsT (p : Nat → Bool) : Nat → Nat → Nat
  | 0, n => n
  | f + 1, n => if p n = true then n else fsT p f (n + 1)
theorem fsT_hit {p : Nat → Bool} {n : Nat} (h : p n = true) : ∀ f, fsT p f n = n
  | 0 => rfl
  | f + 1 => by simp only [fsT]; rw [if_pos h]
theorem fsT_step {p : Nat → Bool} {n f : Nat} (h : ¬ p n = true) (hf : 0 < f) : fsT p f n = fsT p (f - 1) (n + 1) := by
  obtain ⟨m, rfl⟩ : ∃ m, f = m + 1 := ⟨f - 1, by omega⟩
  simp only [fsT]
  rw [if_neg h]
  rfl
theorem fsT_next {p : Nat → Bool} {n M : Nat} (h : ¬ p n = true) (hn : n < M) : fsT p (M - (n + 1)) (n + 1) = fsT p (M - n) n := by
  rw [fsT_step h (by omega), show M - n - 1 = M - (n + 1) by omega]
theorem fsT_b (p : Nat → Bool) : ∀ f n, n ≤ fsT p f n ∧ fsT p f n ≤ n + f
  | 0, n => ⟨Nat.le_refl _, Nat.le_refl _⟩
  | f + 1, n => by
    have := fsT_b p f (n + 1)
    simp only [fsT]
    split <;> omega
def whP (s : Int → Int) (r c : Int) : Nat → Bool := fun n => decide (seaN s n (61 + 5 * r + 1) = c)
def fWhen (s : Int → Int) (r c : Int) : Int := if 0 ≤ r ∧ r < s 1 ∧ 0 ≤ c ∧ c ≤ 23 then (if 80 < fsT (whP s r c) 81 0 then 4 else 0) else 1
def ltP (s : Int → Int) (v : Int) : Nat → Bool := fun n => decide (litP (seaN s n) v)
def fLit (s : Int → Int) (v : Int) : Int := if 0 ≤ v ∧ v < s 2 then (if 80 < fsT (ltP s v) 81 0 then 4 else 0) else 1
def fSun (s : Int → Int) (v n : Int) : Int := if 0 ≤ v ∧ v < s 2 ∧ 0 ≤ n ∧ n ≤ 80 then 0 else 1
def snT (s : Int → Int) (v : Int) : Nat → Int
  | 0 => 0
  | k + 1 => snT s v k + (if litP (seaN s (k + 1)) v then 1 else 0)
def sdT (s : Int → Int) (k : Int) : Int32 := if seaN s 80 (61 + 5 * k + 3) = s (61 + 5 * k + 3) then bit k else iI 0
def stdS (s : Int → Int) : Int32 := orT (sdT s) (s 1).toNat
/-- bytes -/
def popN (k : Nat) : Nat := k % 2 + k / 2 % 2 + k / 4 % 2 + k / 8 % 2 + k / 16 % 2 + k / 32 % 2 + k / 64 % 2 + k / 128 % 2
theorem pop_dec : ∀ k : Fin 256, k.val ≠ 0 → popN (k.val &&& (k.val - 1)) + 1 = popN k.val ∧ (k.val &&& (k.val - 1)) < 256 ∧ (iI (k.val : Int)) &&& (iI ((k.val : Int) - 1)) = iI ((k.val &&& (k.val - 1) : Nat) : Int) := by decide +kernel
theorem pop_le : ∀ k : Fin 256, popN k.val ≤ 8 ∧ (popN k.val = 0 ↔ k.val = 0) := by decide +kernel
theorem bit_or : ∀ (k : Fin 256) (r : Fin 8), (iI (k.val : Int)) ||| bit (r.val : Int) = iI ((k.val ||| 2 ^ r.val : Nat) : Int) ∧ (k.val ||| 2 ^ r.val) < 256 ∧ (k.val ≤ (k.val ||| 2 ^ r.val)) ∧ ((((iI (k.val : Int)) >>> ((iI (r.val : Int)) &&& 31)) &&& iI 1) = 0 → k.val < (k.val ||| 2 ^ r.val)) := by decide +kernel
theorem orT_byte {f : Int → Int32} (hf : ∀ j : Int, 0 ≤ j → j < 8 → f j = bit j ∨ f j = iI 0) : ∀ k : Nat, k ≤ 8 → ∃ x : Nat, x < 256 ∧ orT f k = iI (x : Int)
  | 0 => fun _ => ⟨0, by omega, rfl⟩
  | k + 1 => fun h => by
    obtain ⟨x, hx, e⟩ := orT_byte hf k (by omega)
    simp only [orT]
    rw [e]
    rcases hf k (by omega) (by omega) with h1 | h1
    · rw [h1]
      have := bit_or ⟨x, hx⟩ ⟨k, by omega⟩
      exact ⟨_, this.2.1, this.1⟩
    · rw [h1]
      refine ⟨x, hx, ?_⟩
      show iI (x : Int) ||| iI 0 = iI (x : Int)
      rw [iI_0, Int32.or_zero]
theorem std_byte {s : Int → Int} (hn : 0 ≤ s 1 ∧ s 1 ≤ 8) : ∃ x : Nat, x < 256 ∧ stdS s = iI (x : Int) := by
  unfold stdS
  refine orT_byte (fun j _ _ => ?_) _ (by omega)
  unfold sdT
  split
  · exact Or.inl rfl
  · exact Or.inr rfl
def onesN (x : Int32) : Int := (popN x.toInt.toNat : Int)
theorem onesN_of {x : Nat} (h : x < 256) : onesN (iI (x : Int)) = (popN x : Int) := by
  unfold onesN
  rw [iI_toInt ⟨by omega, by omega⟩]
  rfl
/-- who is ahead -/
def ahd (s : Int → Int) (r : Int) : Int := if opn s (bh (s (61 + 5 * r + 1))) then who s (bh (s (61 + 5 * r + 1))) else -1
theorem ahd_b {s : Int → Int} (hn : 0 ≤ s 1 ∧ s 1 ≤ 8) (r : Int) : -1 ≤ ahd s r ∧ ahd s r < s 1 := by
  have := who_b (s := s) (bh (s (61 + 5 * r + 1))) hn
  unfold ahd
  split <;> omega
def flT (s : Int → Int) : Nat → Int32 → Int → Int32
  | 0, x, _ => x
  | m + 1, x, r => if 0 ≤ r ∧ (x >>> ((iI r) &&& 31)) &&& iI 1 = 0 then flT s m (x ||| bit r) (ahd s r) else x
/-- the best of several -/
def bmT (v key : Nat → Int) : Nat → Int × Int
  | 0 => (0, -1)
  | k + 1 => if (bmT v key k).2 < v k then (key k, v k) else bmT v key k
theorem bmT_b {v key : Nat → Int} {M : Int} (hM : -1 ≤ M) : ∀ k, (∀ j, j < k → v j ≤ M) → -1 ≤ (bmT v key k).2 ∧ (bmT v key k).2 ≤ M
  | 0 => fun _ => ⟨by simp [bmT], by simpa [bmT] using hM⟩
  | k + 1 => fun h => by
    have := bmT_b (key := key) hM k (fun j hj => h j (by omega))
    have h2 := h k (by omega)
    simp only [bmT]
    split
    · exact ⟨by dsimp only; omega, h2⟩
    · exact this
def goneN (s : Int → Int) (r n : Int) : Int := seaN s n.toNat (61 + 5 * r + 3) - s (61 + 5 * r + 3)
def hsP (s : Int → Int) (r d n : Int) : Nat → Bool := fun h => decide (d ≤ goneN (up s (61 + 5 * r + 2) (h : Int)) r n)
def fHst (s : Int → Int) (r d n : Int) : Int := if 0 ≤ r ∧ r < s 1 ∧ 0 ≤ d ∧ d ≤ 999 ∧ 0 ≤ n ∧ n ≤ 40 then (if 9 < fsT (hsP s r d n) 10 0 then 4 else 0) else 1
def fBest (w n : Int) : Int := if 0 ≤ w ∧ w ≤ 3 ∧ 0 ≤ n ∧ n ≤ 40 then 0 else 1
def beV (s : Int → Int) (w n : Int) : Nat → Int := fun k => sumA (seaN (up s (3 + w) ((k : Int) - 9)) n.toNat) 3
def fStart (s : Int → Int) (r n : Int) : Int := if 0 ≤ r ∧ r < s 1 ∧ 0 ≤ n ∧ n ≤ 40 then 0 else 1
def srV (s : Int → Int) (r n : Int) : Nat → Int := fun k => if who s (k : Int) < 0 ∨ who s (k : Int) = r then goneN (up s (61 + 5 * r + 1) (k : Int)) r n else -1
def kiV (s : Int → Int) (r n : Int) : Nat → Int := fun k => goneN (up s (61 + 5 * r + 0) (k : Int)) r n
theorem sumT_b {k : Int} {s : Int → Int} (hI : InvK k s) (hk : 0 ≤ k ∧ k ≤ 8) : ∀ j : Nat, (j : Int) ≤ s 1 → 0 ≤ sumT s 3 j ∧ sumT s 3 j ≤ 2560128 * j
  | 0 => fun _ => ⟨by simp [sumT], by simp [sumT]⟩
  | j + 1 => fun h => by
    have := sumT_b hI hk j (by omega)
    have h2 := (hI.ran j (by omega) (by omega)).2.2.2.1
    have h3 := hI.sea
    simp only [sumT]
    omega
theorem sumA_b {s : Int → Int} (hI : InvK 0 s) : 0 ≤ sumA s 3 ∧ sumA s 3 ≤ 21000000 := by
  have hn := hI.num
  have := sumT_b hI ⟨by omega, by omega⟩ (s 1).toNat (by omega)
  unfold sumA
  omega
theorem goOne_mono {k : Int} {s : Int → Int} {r q : Int} (hI : InvK k s) (hk : 0 ≤ k ∧ k < 8) (r0 : 0 ≤ r) (r1 : r < s 1) (q0 : 0 ≤ q) (q1 : q < s 1) : s (61 + 5 * q + 3) ≤ goOne s r (61 + 5 * q + 3) := by
  have hb := stride_b (hI.mono (show k ≤ 8 by omega)) r0 r1
  obtain ⟨a, b, c, d⟩ := gOne_inv (k := k) (st := stride s r) r0 (stride s r).toNat s 0 hI r1 (by omega) (by omega)
  unfold goOne
  generalize (gOne r (stride s r) (stride s r).toNat s 0) = z at a b c d
  rw [up_n (by omega)]
  have e := b (61 + 5 * q + 3) (by omega)
  by_cases h : q = r
  · subst h; rw [up_s, e]; omega
  · rw [up_n (by omega), e]; omega
theorem seaT_mono {s ln : Int → Int} (hI : InvK 0 s) (hl : ∀ i, 0 ≤ i → i < s 1 → 0 ≤ ln i ∧ ln i < s 1) {q : Int} (q0 : 0 ≤ q) (q1 : q < s 1) : ∀ k : Nat, (k : Int) ≤ s 1 → s (61 + 5 * q + 3) ≤ seaT s ln k (61 + 5 * q + 3)
  | 0 => fun _ => Int.le_refl _
  | k + 1 => fun h => by
    have ih := seaT_mono hI hl q0 q1 k (by omega)
    obtain ⟨a, b, c⟩ := seaT_inv hI hl k (by omega)
    have hk := hl k (by omega) (by omega)
    have hn := hI.num
    have h1 : seaT s ln k 1 = s 1 := b 1 (by omega)
    have := goOne_mono a ⟨by omega, by omega⟩ hk.1 (by omega) q0 (by omega)
    simp only [seaT]
    omega
theorem sea_mono {s : Int → Int} (hI : InvK 0 s) {q : Int} (q0 : 0 ≤ q) (q1 : q < s 1) : s (61 + 5 * q + 3) ≤ sea s (61 + 5 * q + 3) := by
  have hn := hI.num
  have := seaT_mono hI (fun i i0 i1 => ⟨(ord_spec (s := s) i0 i1).1, (ord_spec i0 i1).2.1⟩) q0 q1 (s 1).toNat (by omega)
  unfold sea
  rw [up_n (by omega)]
  exact this
theorem seaN_mono {s : Int → Int} (hI : InvK 0 s) {q : Int} (q0 : 0 ≤ q) (q1 : q < s 1) : ∀ k : Nat, s 0 + k ≤ 20000 → s (61 + 5 * q + 3) ≤ seaN s k (61 + 5 * q + 3)
  | 0 => fun _ => Int.le_refl _
  | k + 1 => fun h => by
    have ih := seaN_mono hI q0 q1 k (by omega)
    obtain ⟨a, b, c⟩ := seaN_inv hI k (by omega)
    have hn := hI.num
    have := sea_mono a q0 (by rw [c 1 (by omega) (by omega)]; exact q1)
    simp only [seaN]
    omega
theorem goneN_b {s : Int → Int} (hI : InvK 0 s) {r n : Int} (r0 : 0 ≤ r) (r1 : r < s 1) (n0 : 0 ≤ n) (n1 : s 0 + n ≤ 20000) : 0 ≤ goneN s r n ∧ goneN s r n ≤ 2560000 := by
  have a := seaN_mono hI r0 r1 n.toNat (by omega)
  obtain ⟨b, c, d⟩ := seaN_inv hI n.toNat (by omega)
  have e := (b.ran r r0 (by rw [d 1 (by omega) (by omega)]; exact r1)).2.2.2.1
  have h := (hI.ran r r0 r1).2.2.2.1
  have h2 := b.sea
  unfold goneN
  omega
/-- an own WEIGHT -/
theorem InvK.wgt {k : Int} {s : Int → Int} (h : InvK k s) {w v : Int} (w0 : 0 ≤ w) (w1 : w < 4) (hv : -9 ≤ v ∧ v ≤ 9) : InvK k (up s (3 + w) v) := by
  have hn := h.num
  have hvi := h.vil
  refine ⟨by rw [up_n (by omega)]; exact h.sea, by rw [up_n (by omega)]; exact hn, by rw [up_n (by omega)]; exact h.vil, fun j j0 j1 => ?_, fun j j0 j1 => by rw [up_n (by omega), up_n (by omega)]; exact h.pas j j0 j1, fun v v0 v1 => by rw [up_n (by omega)] at v1; rw [up_n (by omega)]; exact h.home v v0 v1, fun q q0 q1 => ?_, fun a b a0 a1 b0 b1 e => ?_⟩
  · have := h.wei j j0 j1
    simp only [up]; split <;> omega
  · rw [up_n (by omega)] at q1
    rw [up_n (by omega), up_n (by omega), up_n (by omega), up_n (by omega), up_n (by omega), up_n (by omega)]
    exact h.ran q q0 q1
  · rw [up_n (by omega)] at a1 b1
    rw [up_n (by omega), up_n (by omega)] at e
    exact h.dis a b a0 a1 b0 b1 e

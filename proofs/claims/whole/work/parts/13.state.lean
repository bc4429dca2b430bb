def su (σ : Nat → Int → Int) (k : Nat) (f : Int → Int) : Nat → Int → Int := fun j => cond (Nat.beq j k) f (σ j)
section XD
variable {p : Program} {l : Launch} {e : Env} {R : Room} {s : State} {m : MethodId} {args : Array Value} {below : List Frame} {meth : Method} {c : Code} {H : Heap} {locs : List Loc} {cells slots : Nat} {Q : State → Prop} {pc : Nat} {ls : Array Slot} {rest st : List Value}
theorem xu_b {P : Prop} [Decidable P] {a : Array Value} (run : va_Run p l e R s m args below meth c H locs cells slots 0 0 (F0 m pc ls st) rest (vp_Si (fun r => r = iI (bI P)) a) (fun _ => False)) (k1 : P → W p l e R s m args below meth c H locs cells slots Q (F0 m (pc + 3) ls (.int (iI 1) :: rest))) (k0 : ¬ P → W p l e R s m args below meth c H locs cells slots Q (F0 m (pc + 3) ls (.int (iI 0) :: rest))) : W p l e R s m args below meth c H locs cells slots Q (F0 m pc ls st) :=
  vp_callSi run.run (fun r hr => by
    subst hr
    rcases bI_or P with ⟨h, e⟩ | ⟨h, e⟩
    · rw [e]; exact k1 h
    · rw [e]; exact k0 h)
end XD
/-- the reference: its cells, by its rows and numbers -/
def wM (g : Gd) (a : Nat → Nat) (f1 f2 f3 f4 f5 f6 f7 f8 f9 f10 f11 f12 f13 : Int → Int) (f20 f21 f22 f23 f24 f25 : Int) : va_W := [(a 0, .inr (5, [.ref (a 1), .ref (a 2), .ref (a 3), .ref (a 4), .ref (a 5), .ref (a 6), .int (iI f20), .ref (a 7), .ref (a 8), .ref (a 9), .int (iI f21), .int (iI f22), .int (iI f23), .int (iI f24), .int (iI f25), .ref (a 10), .ref (a 11), .ref (a 12), .ref (a 13)])), (a 1, .inl (g.2.1, 101, .inl (ar f1))), (a 2, .inl (g.2.1, 101, .inl (ar f2))), (a 3, .inl (g.2.1, 101, .inl (ar f3))), (a 4, .inl (g.2.1, 101, .inl (ar f4))), (a 5, .inl (g.2.1, 101, .inl (ar f5))), (a 6, .inl (g.2.1, 7, .inl (ar f6))), (a 7, .inl (g.2.1, 8, .inl (ar f7))), (a 8, .inl (g.2.1, 8, .inl (ar f8))), (a 9, .inl (g.2.1, 120, .inl (ar f9))), (a 10, .inl (g.2.1, 4, .inl (ar f10))), (a 11, .inl (g.2.1, 4, .inl (ar f11))), (a 12, .inl (g.2.2.1, 160, .inr (.inl (la f12)))), (a 13, .inl (g.2.2.1, 40, .inr (.inl (la f13))))]
/-- a Land -/
def wL (g : Gd) (a : Nat → Nat) (f1 f2 f3 f4 f5 f6 f7 f8 f9 f10 f11 : Int → Int) (f20 f21 f22 : Int) : va_W := [(a 0, .inr (1, [.int (iI f20), .int (iI f21), .int (iI f22), .ref (a 1), .ref (a 2), .ref (a 3), .ref (a 4), .ref (a 5), .ref (a 6), .ref (a 7), .ref (a 8), .ref (a 9), .ref (a 10), .ref (a 11)])), (a 1, .inl (g.2.1, 24, .inl (ar f1))), (a 2, .inl (g.2.1, 24, .inl (ar f2))), (a 3, .inl (g.2.1, 6, .inl (ar f3))), (a 4, .inl (g.2.1, 4, .inl (ar f4))), (a 5, .inl (g.2.1, 8, .inl (ar f5))), (a 6, .inl (g.2.1, 8, .inl (ar f6))), (a 7, .inl (g.2.1, 8, .inl (ar f7))), (a 8, .inl (g.2.1, 8, .inl (ar f8))), (a 9, .inl (g.2.1, 8, .inl (ar f9))), (a 10, .inl (g.2.1, 8, .inl (ar f10))), (a 11, .inl (g.2.1, 8, .inl (ar f11)))]
/-- a row up to a place as another one -/
def cpT (f h : Int → Int) (k : Int) : Int → Int := fun j => if 0 ≤ j ∧ j < k then f j else h j
theorem cpT_0 (f h : Int → Int) : h = cpT f h 0 := by funext j; simp only [cpT]; rw [if_neg (by omega)]
theorem cpT_S (f h : Int → Int) {k : Int} (hk : 0 ≤ k) : up (cpT f h k) k (f k) = cpT f h (k + 1) := by
  funext j
  simp only [up, cpT]
  by_cases h1 : j = k
  · subst h1; rw [if_pos rfl, if_pos (by omega)]
  · rw [if_neg h1]
    by_cases h2 : 0 ≤ j ∧ j < k
    · rw [if_pos h2, if_pos (by omega)]
    · rw [if_neg h2, if_neg (by omega)]
theorem cpT_in {f h : Int → Int} {k j : Int} (h0 : 0 ≤ j) (h1 : j < k) : cpT f h k j = f j := if_pos ⟨h0, h1⟩
/-- findings: 0 none, 1 BEYOND .. 7 SIZE -/
def fb (f : Int) (t : Int → Int) : Int → Int := if f = 0 then t else up t (f - 1) (t (f - 1) + 1)
def ab (f : Int) (x : Int32) : Int32 := if f = 0 then x else iI (-1000000000 - f)
theorem ab_0 (x : Int32) : ab 0 x = x := if_pos rfl
/-! the land as one row of numbers: 0 SEASON, 1 RANGES, 2 VILLAGES, 3 WEIGHTS, 7 PERIODS, 31 OPENS, 55 VILLAGES' CELLS, 61 RANGES (kind, cell, haste, steps, waits) -/
def bh (c : Int) : Int := if c = 23 then 0 else c + 1
def sumT (s : Int → Int) (w : Int) : Nat → Int
  | 0 => 0
  | k + 1 => sumT s w k + s (61 + 5 * (k : Int) + w)
def whoT (s : Int → Int) (c : Int) : Nat → Int
  | 0 => -1
  | k + 1 => if s (61 + 5 * (k : Int) + 1) = c then (k : Int) else whoT s c k
def who (s : Int → Int) (c : Int) : Int := whoT s c (s 1).toNat
abbrev opn (s : Int → Int) (c : Int) : Prop := s (7 + c) = 0 ∨ s 0 % s (7 + c) < s (31 + c)
abbrev litP (s : Int → Int) (v : Int) : Prop := who s (s (55 + v)) < 0 ∧ who s (bh (s (55 + v))) < 0
def twT (s : Int → Int) : Nat → Int
  | 0 => 0
  | k + 1 => twT s k + (if s (61 + 5 * (k : Int) + 0) = 5 then 1 else 0)
def twins (s : Int → Int) : Int := twT s (s 1).toNat
def stride (s : Int → Int) (r : Int) : Int :=
  let p := 2 + s (61 + 5 * r + 2) / 3
  let k := s (61 + 5 * r + 0)
  if k = 1 then p + 1 else if k = 2 then p / 2 else if k = 3 then (if s 0 % 4 < 2 then p else 0) else if k = 4 then p - 1 else if k = 5 then p / 2 + twins s - 1 else p
def val (s : Int → Int) (r : Int) : Int := r * s 3 + s (61 + 5 * r + 2) * s 4 + s (61 + 5 * r + 3) * s 5 + s (61 + 5 * r + 1) * s 6
abbrev gf (s : Int → Int) (r q : Int) : Prop := val s r < val s q ∨ (val s r = val s q ∧ r < q)
def InvK (k : Int) (s : Int → Int) : Prop := (0 ≤ s 0 ∧ s 0 ≤ 20000) ∧ (0 ≤ s 1 ∧ s 1 ≤ 8) ∧ (0 ≤ s 2 ∧ s 2 ≤ 6) ∧ (∀ j, 0 ≤ j → j < 4 → -9 ≤ s (3 + j) ∧ s (3 + j) ≤ 9) ∧
  (∀ c, 0 ≤ c → c < 24 → 0 ≤ s (7 + c) ∧ s (7 + c) ≤ 9 ∧ 0 ≤ s (31 + c) ∧ s (31 + c) ≤ 9) ∧ (∀ v, 0 ≤ v → v < s 2 → 0 ≤ s (55 + v) ∧ s (55 + v) ≤ 23) ∧
  (∀ r, 0 ≤ r → r < s 1 → (0 ≤ s (61 + 5 * r + 0) ∧ s (61 + 5 * r + 0) ≤ 5) ∧ (0 ≤ s (61 + 5 * r + 1) ∧ s (61 + 5 * r + 1) ≤ 23) ∧ (0 ≤ s (61 + 5 * r + 2) ∧ s (61 + 5 * r + 2) ≤ 9) ∧ (0 ≤ s (61 + 5 * r + 3) ∧ s (61 + 5 * r + 3) ≤ 128 * s 0 + 16 * k) ∧ (0 ≤ s (61 + 5 * r + 4) ∧ s (61 + 5 * r + 4) ≤ 8 * s 0 + k)) ∧
  (∀ r q, 0 ≤ r → r < s 1 → 0 ≤ q → q < s 1 → s (61 + 5 * r + 1) = s (61 + 5 * q + 1) → r = q)
abbrev Inv (s : Int → Int) : Prop := InvK 8 s
section IK
variable {k : Int} {s : Int → Int}
theorem InvK.sea (h : InvK k s) : 0 ≤ s 0 ∧ s 0 ≤ 20000 := h.1
theorem InvK.num (h : InvK k s) : 0 ≤ s 1 ∧ s 1 ≤ 8 := h.2.1
theorem InvK.vil (h : InvK k s) : 0 ≤ s 2 ∧ s 2 ≤ 6 := h.2.2.1
theorem InvK.wei (h : InvK k s) : ∀ j, 0 ≤ j → j < 4 → -9 ≤ s (3 + j) ∧ s (3 + j) ≤ 9 := h.2.2.2.1
theorem InvK.pas (h : InvK k s) : ∀ c, 0 ≤ c → c < 24 → 0 ≤ s (7 + c) ∧ s (7 + c) ≤ 9 ∧ 0 ≤ s (31 + c) ∧ s (31 + c) ≤ 9 := h.2.2.2.2.1
theorem InvK.home (h : InvK k s) : ∀ v, 0 ≤ v → v < s 2 → 0 ≤ s (55 + v) ∧ s (55 + v) ≤ 23 := h.2.2.2.2.2.1
theorem InvK.ran (h : InvK k s) : ∀ r, 0 ≤ r → r < s 1 → (0 ≤ s (61 + 5 * r + 0) ∧ s (61 + 5 * r + 0) ≤ 5) ∧ (0 ≤ s (61 + 5 * r + 1) ∧ s (61 + 5 * r + 1) ≤ 23) ∧ (0 ≤ s (61 + 5 * r + 2) ∧ s (61 + 5 * r + 2) ≤ 9) ∧ (0 ≤ s (61 + 5 * r + 3) ∧ s (61 + 5 * r + 3) ≤ 128 * s 0 + 16 * k) ∧ (0 ≤ s (61 + 5 * r + 4) ∧ s (61 + 5 * r + 4) ≤ 8 * s 0 + k) := h.2.2.2.2.2.2.1
theorem InvK.dis (h : InvK k s) : ∀ r q, 0 ≤ r → r < s 1 → 0 ≤ q → q < s 1 → s (61 + 5 * r + 1) = s (61 + 5 * q + 1) → r = q := h.2.2.2.2.2.2.2
theorem InvK.mono {k2 : Int} (h : InvK k s) (hk : k ≤ k2) : InvK k2 s := ⟨h.sea, h.num, h.vil, h.wei, h.pas, h.home, fun r h0 h1 => by have := h.ran r h0 h1; omega, h.dis⟩
end IK
theorem whoT_b (s : Int → Int) (c : Int) : ∀ k, -1 ≤ whoT s c k ∧ whoT s c k < (k : Int)
  | 0 => ⟨by simp [whoT], by simp [whoT]⟩
  | k + 1 => by
    have := whoT_b s c k
    simp only [whoT]
    split <;> omega
theorem who_b {s : Int → Int} (c : Int) (hn : 0 ≤ s 1 ∧ s 1 ≤ 8) : -1 ≤ who s c ∧ who s c < s 1 := by
  have := whoT_b s c (s 1).toNat
  unfold who
  omega
theorem twT_b (s : Int → Int) : ∀ k, 0 ≤ twT s k ∧ twT s k ≤ (k : Int)
  | 0 => ⟨by simp [twT], by simp [twT]⟩
  | k + 1 => by
    have := twT_b s k
    simp only [twT]
    split <;> omega
theorem twins_b {s : Int → Int} (hn : 0 ≤ s 1 ∧ s 1 ≤ 8) : 0 ≤ twins s ∧ twins s ≤ s 1 := by
  have := twT_b s (s 1).toNat
  unfold twins
  omega
theorem bh_b {c : Int} (h : 0 ≤ c ∧ c ≤ 23) : 0 ≤ bh c ∧ bh c ≤ 23 := by unfold bh; split <;> omega
theorem twT_in {s : Int → Int} {r : Int} (h0 : 0 ≤ r) (h1 : r < s 1) (h : s (61 + 5 * r + 0) = 5) : 1 ≤ twins s := by
  have key : ∀ k : Nat, r < (k : Int) → 1 ≤ twT s k := by
    intro k
    induction k with
    | zero => intro hk; omega
    | succ k ih =>
      intro hk
      have hb := twT_b s k
      simp only [twT]
      by_cases e : r = (k : Int)
      · rw [if_pos (by rw [← e]; exact h)]; omega
      · have := ih (by omega)
        split <;> omega
  unfold twins
  exact key _ (by omega)
theorem st0 {s : Int → Int} {r : Int} (h : s (61 + 5 * r + 0) = 0) : stride s r = 2 + s (61 + 5 * r + 2) / 3 := by unfold stride; simp only [h]; rfl
theorem st1 {s : Int → Int} {r : Int} (h : s (61 + 5 * r + 0) = 1) : stride s r = 2 + s (61 + 5 * r + 2) / 3 + 1 := by unfold stride; simp only [h]; rfl
theorem st2 {s : Int → Int} {r : Int} (h : s (61 + 5 * r + 0) = 2) : stride s r = (2 + s (61 + 5 * r + 2) / 3) / 2 := by unfold stride; simp only [h]; rfl
theorem st3 {s : Int → Int} {r : Int} (h : s (61 + 5 * r + 0) = 3) : stride s r = if s 0 % 4 < 2 then 2 + s (61 + 5 * r + 2) / 3 else 0 := by unfold stride; simp only [h]; rfl
theorem st4 {s : Int → Int} {r : Int} (h : s (61 + 5 * r + 0) = 4) : stride s r = 2 + s (61 + 5 * r + 2) / 3 - 1 := by unfold stride; simp only [h]; rfl
theorem st5 {s : Int → Int} {r : Int} (h : s (61 + 5 * r + 0) = 5) : stride s r = (2 + s (61 + 5 * r + 2) / 3) / 2 + twins s - 1 := by unfold stride; simp only [h]; rfl
theorem mulb {x w X : Int} (h0 : 0 ≤ x) (h1 : x ≤ X) (hw : -9 ≤ w ∧ w ≤ 9) : -(9 * X) ≤ x * w ∧ x * w ≤ 9 * X := by
  have a1 : x * w ≤ x * 9 := Int.mul_le_mul_of_nonneg_left hw.2 h0
  have a2 : x * (-9) ≤ x * w := Int.mul_le_mul_of_nonneg_left hw.1 h0
  omega
theorem val_b {s : Int → Int} (hI : Inv s) {r : Int} (h0 : 0 ≤ r) (h1 : r < s 1) : -24000000 ≤ val s r ∧ val s r ≤ 24000000 := by
  have hr := hI.ran r h0 h1
  have w0 := hI.wei 0 (by omega) (by omega)
  have w1 := hI.wei 1 (by omega) (by omega)
  have w2 := hI.wei 2 (by omega) (by omega)
  have w3 := hI.wei 3 (by omega) (by omega)
  have hn := hI.num
  have hs := hI.sea
  have b0 := mulb (x := r) (X := 7) h0 (by omega) w0
  have b1 := mulb (x := s (61 + 5 * r + 2)) (X := 9) hr.2.2.1.1 hr.2.2.1.2 w1
  have b2 := mulb (x := s (61 + 5 * r + 3)) (X := 2560128) hr.2.2.2.1.1 (by omega) w2
  have b3 := mulb (x := s (61 + 5 * r + 1)) (X := 23) hr.2.1.1 hr.2.1.2 w3
  unfold val
  simp only [Int.add_zero, Int.reduceAdd] at b0 b1 b2 b3
  omega
theorem stride_b {s : Int → Int} (hI : Inv s) {r : Int} (h0 : 0 ≤ r) (h1 : r < s 1) : 0 ≤ stride s r ∧ stride s r ≤ 12 := by
  have hr := hI.ran r h0 h1
  have hn := hI.num
  have ht := twins_b hn
  have hp : 2 ≤ 2 + s (61 + 5 * r + 2) / 3 ∧ 2 + s (61 + 5 * r + 2) / 3 ≤ 5 := by omega
  have hk : s (61 + 5 * r + 0) = 0 ∨ s (61 + 5 * r + 0) = 1 ∨ s (61 + 5 * r + 0) = 2 ∨ s (61 + 5 * r + 0) = 3 ∨ s (61 + 5 * r + 0) = 4 ∨ s (61 + 5 * r + 0) = 5 := by omega
  rcases hk with h | h | h | h | h | h
  · rw [st0 h]; omega
  · rw [st1 h]; omega
  · rw [st2 h]; omega
  · rw [st3 h]; split <;> omega
  · rw [st4 h]; omega
  · rw [st5 h]
    have : 1 ≤ twins s := twT_in h0 h1 h
    omega
def raT (s : Int → Int) (q : Int) : Nat → Int
  | 0 => -1
  | k + 1 => if (k : Int) ≠ q ∧ gf s k q ∧ (raT s q k < 0 ∨ gf s (raT s q k) k) then (k : Int) else raT s q k
theorem raT_b (s : Int → Int) (q : Int) : ∀ k, -1 ≤ raT s q k ∧ raT s q k < (k : Int)
  | 0 => ⟨by simp [raT], by simp [raT]⟩
  | k + 1 => by
    have := raT_b s q k
    simp only [raT]
    split <;> omega
def addR (s : Int → Int) (k c h : Int) : Int → Int := up (up (up (up (up (up s (61 + 5 * s 1 + 0) k) (61 + 5 * s 1 + 1) c) (61 + 5 * s 1 + 2) h) (61 + 5 * s 1 + 3) 0) (61 + 5 * s 1 + 4) 0) 1 (s 1 + 1)
def lvT (s : Int → Int) (a k : Int) : Int → Int := fun j => if a ≤ j ∧ j < k then s (j + 5) else s j
theorem lvT_0 (s : Int → Int) (a : Int) : s = lvT s a a := by funext j; simp only [lvT]; rw [if_neg (by omega)]
theorem lvT_S (s : Int → Int) {a k : Int} (h : a ≤ k) : up (lvT s a k) k (lvT s a k (k + 5)) = lvT s a (k + 1) := by
  funext j
  simp only [up, lvT]
  rw [if_neg (show ¬ (a ≤ k + 5 ∧ k + 5 < k) by omega)]
  by_cases h1 : j = k
  · subst h1; rw [if_pos rfl, if_pos (by omega)]
  · rw [if_neg h1]
    by_cases h2 : a ≤ j ∧ j < k
    · rw [if_pos h2, if_pos (by omega)]
    · rw [if_neg h2, if_neg (by omega)]
theorem lvT_o {s : Int → Int} {a k j : Int} (h : j < a) : lvT s a k j = s j := by simp only [lvT]; rw [if_neg (by omega)]


/-! the text: tokens -/
def bAt (b : Int → Int) (t k : Int) : Int := if k < t then b k else -1
def isL (x : Int) : Bool := decide (97 ≤ x ∧ x ≤ 122)
def isD (x : Int) : Bool := decide (48 ≤ x ∧ x ≤ 57)
def skT (b : Int → Int) (t : Int) : Nat → Int → Int
  | 0, k => k
  | f + 1, k => if bAt b t k = 32 then skT b t f (k + 1) else k
def rnT (b : Int → Int) (t : Int) (p : Int → Bool) : Nat → Int → Int
  | 0, k => k
  | f + 1, k => if p (bAt b t k) = true then rnT b t p f (k + 1) else k
def tkF (b : Int → Int) (t k : Int) : Int := skT b t 121 k
def tkE (b : Int → Int) (t k : Int) : Int := if k < t then (if isL (bAt b t k) = true then rnT b t isL 121 (k + 1) else if isD (bAt b t k) = true then rnT b t isD 121 (k + 1) else k + 1) else k
theorem skT_b {b : Int → Int} {t : Int} : ∀ (f : Nat) (k : Int), 0 ≤ k → k ≤ t → k ≤ skT b t f k ∧ skT b t f k ≤ t
  | 0, k, h0, h1 => ⟨Int.le_refl _, h1⟩
  | f + 1, k, h0, h1 => by
    simp only [skT]
    split
    · rename_i hc
      have : k < t := by unfold bAt at hc; split at hc <;> omega
      have := skT_b (b := b) (t := t) f (k + 1) (by omega) (by omega)
      omega
    · omega
theorem rnT_b {b : Int → Int} {t : Int} {p : Int → Bool} (hp : p (-1) = false) : ∀ (f : Nat) (k : Int), 0 ≤ k → k ≤ t → k ≤ rnT b t p f k ∧ rnT b t p f k ≤ t
  | 0, k, h0, h1 => ⟨Int.le_refl _, h1⟩
  | f + 1, k, h0, h1 => by
    simp only [rnT]
    split
    · rename_i hc
      have : k < t := by
        unfold bAt at hc
        split at hc
        · assumption
        · rw [hp] at hc; cases hc
      have := rnT_b (b := b) (t := t) hp f (k + 1) (by omega) (by omega)
      omega
    · omega
theorem tkF_b {b : Int → Int} {t k : Int} (h0 : 0 ≤ k) (h1 : k ≤ t) : k ≤ tkF b t k ∧ tkF b t k ≤ t := skT_b 121 k h0 h1
theorem tkE_b {b : Int → Int} {t k : Int} (h0 : 0 ≤ k) (h1 : k ≤ t) : k ≤ tkE b t k ∧ tkE b t k ≤ t := by
  unfold tkE
  split
  · split
    · have := rnT_b (b := b) (t := t) (p := isL) rfl 121 (k + 1) (by omega) (by omega); omega
    · split
      · have := rnT_b (b := b) (t := t) (p := isD) rfl 121 (k + 1) (by omega) (by omega); omega
      · omega
  · omega
theorem skT_step {b : Int → Int} {t k : Int} {f : Nat} (h : bAt b t k = 32) (hf : 0 < f) : skT b t (f - 1) (k + 1) = skT b t f k := by
  obtain ⟨m, rfl⟩ : ∃ m, f = m + 1 := ⟨f - 1, by omega⟩
  show skT b t m (k + 1) = _
  simp only [skT]
  rw [if_pos h]
theorem skT_stop {b : Int → Int} {t k : Int} (h : ¬ bAt b t k = 32) : ∀ f, skT b t f k = k
  | 0 => rfl
  | f + 1 => by simp only [skT]; rw [if_neg h]
theorem rnT_step {b : Int → Int} {t k : Int} {p : Int → Bool} {f : Nat} (h : p (bAt b t k) = true) (hf : 0 < f) : rnT b t p (f - 1) (k + 1) = rnT b t p f k := by
  obtain ⟨m, rfl⟩ : ∃ m, f = m + 1 := ⟨f - 1, by omega⟩
  show rnT b t p m (k + 1) = _
  simp only [rnT]
  rw [if_pos h]
theorem rnT_stop {b : Int → Int} {t k : Int} {p : Int → Bool} (h : ¬ p (bAt b t k) = true) : ∀ f, rnT b t p f k = k
  | 0 => rfl
  | f + 1 => by simp only [rnT]; rw [if_neg h]
theorem bAt_b {b : Int → Int} {t k : Int} (hb : ∀ j, 0 ≤ b j ∧ b j ≤ 255) : -1 ≤ bAt b t k ∧ bAt b t k ≤ 255 := by
  have := hb k
  unfold bAt
  split <;> omega
theorem bAt_d (b : Int → Int) (t k : Int) : k < t ∨ bAt b t k = -1 := by
  by_cases h : k < t
  · exact Or.inl h
  · exact Or.inr (if_neg h)
theorem isL_i (x : Int) : isL x = true ↔ 97 ≤ x ∧ x ≤ 122 := by unfold isL; exact decide_eq_true_iff
theorem isD_i (x : Int) : isD x = true ↔ 48 ≤ x ∧ x ≤ 57 := by unfold isD; exact decide_eq_true_iff
/-- how a token's end is sought: a word (w 1), a number (d 1), or neither -/
def rnW (b : Int → Int) (t w d : Int) (f : Nat) (k : Int) : Int := if w = 1 then rnT b t isL f k else if d = 1 then rnT b t isD f k else k
/-- the state of the reading: is it wrong, from, to, value -/
abbrev Q4 : Type := Int × Int × Int × Int
def wantQ (b : Int → Int) (t : Int) (q : Q4) (x : Int) : Q4 := if q.1 = 1 ∨ x = 0 then (1, q.2) else (0, tkF b t q.2.2.1, tkE b t (tkF b t q.2.2.1), q.2.2.2)
def nvT (b : Int → Int) (a : Int) : Nat → Int
  | 0 => 0
  | k + 1 => if 999 < nvT b a k then nvT b a k else 10 * nvT b a k + b (a + k) - 48
def nv (b : Int → Int) (t fr to1 : Int) : Int := if isD (bAt b t fr) = true then nvT b fr (to1 - fr).toNat else 0
def numQ (b : Int → Int) (t : Int) (q : Q4) (lo hi : Int) : Q4 := if q.1 = 1 then q else wantQ b t (q.1, q.2.1, q.2.2.1, nv b t q.2.1 q.2.2.1) (if isD (bAt b t q.2.1) = true ∧ lo ≤ nv b t q.2.1 q.2.2.1 ∧ nv b t q.2.1 q.2.2.1 ≤ hi then 1 else 0)
def wvT (b : Int → Int) (a : Int) : Nat → Int
  | 0 => 0
  | k + 1 => if 36028797018963967 < wvT b a k then wvT b a k else 32 * wvT b a k + (b (a + k) - 96)
def wdQ (b : Int → Int) (t : Int) (q : Q4) : Int := if q.1 = 1 ∨ ¬ isL (bAt b t q.2.1) = true then 0 else wvT b q.2.1 (q.2.2.1 - q.2.1).toNat
theorem rnT_all {b : Int → Int} {t : Int} {p : Int → Bool} : ∀ (f : Nat) (k j : Int), k ≤ j → j < rnT b t p f k → p (bAt b t j) = true
  | 0, k, j, h0, h1 => by simp only [rnT] at h1; omega
  | f + 1, k, j, h0, h1 => by
    simp only [rnT] at h1
    split at h1
    · rename_i hc
      by_cases e : j = k
      · rw [e]; exact hc
      · exact rnT_all f (k + 1) j (by omega) h1
    · omega
theorem bAt_lt {b : Int → Int} {t k : Int} (h : k < t) : bAt b t k = b k := if_pos h
/-- a token that begins with a digit (a letter) holds digits (letters) alone -/
theorem tk_dig {b : Int → Int} {t fr : Int} (h0 : 0 ≤ fr) (h1 : fr ≤ t) (hd : isD (bAt b t fr) = true) {j : Int} (j0 : fr ≤ j) (j1 : j < tkE b t fr) : 48 ≤ b j ∧ b j ≤ 57 := by
  have hb := tkE_b (b := b) h0 h1
  have hl : ¬ isL (bAt b t fr) = true := by rw [isL_i]; rw [isD_i] at hd; omega
  have hft : fr < t := by omega
  have hjt : j < t := by omega
  unfold tkE at j1
  rw [if_pos hft, if_neg hl, if_pos hd] at j1
  have key : isD (bAt b t j) = true := by
    by_cases e : j = fr
    · rw [e]; exact hd
    · exact rnT_all 121 (fr + 1) j (by omega) j1
  rw [bAt_lt hjt, isD_i] at key
  exact key
theorem tk_let {b : Int → Int} {t fr : Int} (h0 : 0 ≤ fr) (h1 : fr ≤ t) (hd : isL (bAt b t fr) = true) {j : Int} (j0 : fr ≤ j) (j1 : j < tkE b t fr) : 97 ≤ b j ∧ b j ≤ 122 := by
  have hb := tkE_b (b := b) h0 h1
  have hft : fr < t := by omega
  have hjt : j < t := by omega
  unfold tkE at j1
  rw [if_pos hft, if_pos hd] at j1
  have key : isL (bAt b t j) = true := by
    by_cases e : j = fr
    · rw [e]; exact hd
    · exact rnT_all 121 (fr + 1) j (by omega) j1
  rw [bAt_lt hjt, isL_i] at key
  exact key
theorem nvT_b {b : Int → Int} {a : Int} : ∀ k : Nat, (∀ j, a ≤ j → j < a + k → 48 ≤ b j ∧ b j ≤ 57) → 0 ≤ nvT b a k ∧ nvT b a k ≤ 9999
  | 0 => fun _ => ⟨by simp [nvT], by simp [nvT]⟩
  | k + 1 => fun h => by
    have := nvT_b (a := a) k (fun j j0 j1 => h j j0 (by omega))
    have h2 := h (a + k) (by omega) (by omega)
    simp only [nvT]
    split <;> omega
theorem wvT_b {b : Int → Int} {a : Int} : ∀ k : Nat, (∀ j, a ≤ j → j < a + k → 97 ≤ b j ∧ b j ≤ 122) → 0 ≤ wvT b a k ∧ wvT b a k ≤ 1152921504606847000
  | 0 => fun _ => ⟨by simp [wvT], by simp [wvT]⟩
  | k + 1 => fun h => by
    have := wvT_b (a := a) k (fun j j0 j1 => h j j0 (by omega))
    have h2 := h (a + k) (by omega) (by omega)
    simp only [wvT]
    split <;> omega
theorem nv_b {b : Int → Int} {t fr to1 : Int} (h0 : 0 ≤ fr) (h1 : fr ≤ t) (h : to1 = tkE b t fr) : 0 ≤ nv b t fr to1 ∧ nv b t fr to1 ≤ 9999 := by
  unfold nv
  split
  · rename_i hd
    exact nvT_b _ (fun j j0 j1 => tk_dig h0 h1 hd j0 (by have := tkE_b (b := b) h0 h1; omega))
  · omega
theorem rnW_stop {b : Int → Int} {t w d k : Int} (hw : w = 1 → ¬ isL (bAt b t k) = true) (hd : d = 1 → ¬ w = 1 → ¬ isD (bAt b t k) = true) (f : Nat) : rnW b t w d f k = k := by
  unfold rnW
  by_cases h : w = 1
  · rw [if_pos h]; exact rnT_stop (hw h) f
  · rw [if_neg h]
    by_cases h2 : d = 1
    · rw [if_pos h2]; exact rnT_stop (hd h2 h) f
    · rw [if_neg h2]
theorem rnW_step {b : Int → Int} {t w d k : Int} {f : Nat} (h : (w = 1 ∧ isL (bAt b t k) = true) ∨ (¬ w = 1 ∧ d = 1 ∧ isD (bAt b t k) = true)) (hf : 0 < f) : rnW b t w d (f - 1) (k + 1) = rnW b t w d f k := by
  unfold rnW
  rcases h with ⟨h1, h2⟩ | ⟨h1, h2, h3⟩
  · rw [if_pos h1, if_pos h1]; exact rnT_step h2 hf
  · rw [if_neg h1, if_neg h1, if_pos h2, if_pos h2]; exact rnT_step h3 hf
theorem tk_in {b : Int → Int} {t w d k : Int} (hk : k < t) (hw : w = 1 ↔ isL (bAt b t k) = true) (hd : d = 1 ↔ isD (bAt b t k) = true) : rnW b t w d 121 (k + 1) = tkE b t k := by
  unfold rnW tkE
  rw [if_pos hk]
  by_cases h : w = 1
  · rw [if_pos h, if_pos (hw.mp h)]
  · rw [if_neg h, if_neg (fun z => h (hw.mpr z))]
    by_cases h2 : d = 1
    · rw [if_pos h2, if_pos (hd.mp h2)]
    · rw [if_neg h2, if_neg (fun z => h2 (hd.mpr z))]
theorem tk_out {b : Int → Int} {t w d k : Int} (hk : ¬ k < t) (hw : w = 0) (hd : d = 0) : rnW b t w d 121 k = tkE b t k := by
  unfold rnW tkE
  rw [if_neg hk, if_neg (by omega), if_neg (by omega)]
def kdQ (w : Int) : Int := if w = 18921701 then 0 else if w = 271756 then 1 else if w = 529451 then 2 else if w = 7920002226 then 3 else if w = 441842 then 4 else if w = 679214 then 5 else -1
theorem wv_n1 {b : Int → Int} {a : Int} {k : Nat} {y : Int64} (hb : 0 ≤ wvT b a k ∧ wvT b a k ≤ 1152921504606847000) (e : y = lI (wvT b a k)) (h : 36028797018963967 < y.toInt) : lI y.toInt = lI (wvT b a (k + 1)) := by
  have e2 : y.toInt = wvT b a k := by rw [e, lI_toInt ⟨by omega, by omega⟩]
  rw [e2] at h ⊢
  simp only [wvT]
  rw [if_pos h]
theorem wv_n2 {b : Int → Int} {a : Int} {k : Nat} {y : Int64} (hb : 0 ≤ wvT b a k ∧ wvT b a k ≤ 1152921504606847000) (e : y = lI (wvT b a k)) (h : y.toInt ≤ 36028797018963967) : lI (32 * y.toInt + (b (a + k) - 96)) = lI (wvT b a (k + 1)) := by
  have e2 : y.toInt = wvT b a k := by rw [e, lI_toInt ⟨by omega, by omega⟩]
  rw [e2] at h ⊢
  simp only [wvT]
  rw [if_neg (by omega)]
theorem wv_bb {b : Int → Int} {t fr to1 : Int} (h0 : 0 ≤ fr) (h1 : fr ≤ t) (h : to1 = tkE b t fr) (hl : isL (bAt b t fr) = true) {k : Nat} (hk : fr + k ≤ to1) : 0 ≤ wvT b fr k ∧ wvT b fr k ≤ 1152921504606847000 :=
  wvT_b k (fun j j0 j1 => tk_let h0 h1 hl j0 (by omega))
theorem wdQ_b {b : Int → Int} {t w fr to1 v : Int} (h0 : 0 ≤ fr) (h1 : fr ≤ t) (h : w = 1 ∨ to1 = tkE b t fr) : 0 ≤ wdQ b t (w, fr, to1, v) ∧ wdQ b t (w, fr, to1, v) ≤ 1152921504606847000 := by
  unfold wdQ
  dsimp only
  by_cases hc : w = 1 ∨ ¬ isL (bAt b t fr) = true
  · rw [if_pos hc]; omega
  · rw [if_neg hc]
    have hl : isL (bAt b t fr) = true := Decidable.byContradiction (fun z => hc (Or.inr z))
    have ht : to1 = tkE b t fr := h.resolve_left (fun z => hc (Or.inl z))
    have hb := tkE_b (b := b) h0 h1
    exact wv_bb h0 h1 ht hl (by omega)
theorem wd_end {b : Int → Int} {t w fr to1 v : Int} (hw : ¬ w = 1) (hl : isL (bAt b t fr) = true) : wdQ b t (w, fr, to1, v) = wvT b fr (to1 - fr).toNat := by
  unfold wdQ
  dsimp only
  rw [if_neg (fun z => z.elim hw (fun y => y hl))]
theorem wd_no {b : Int → Int} {t w fr to1 v : Int} (h : w = 1 ∨ ¬ isL (bAt b t fr) = true) : wdQ b t (w, fr, to1, v) = 0 := by
  unfold wdQ
  dsimp only
  rw [if_pos h]
section XF
variable {p : Program} {l : Launch} {e : Env} {R : Room} {s : State} {m : MethodId} {args : Array Value} {below : List Frame} {meth : Method} {c : Code} {H : Heap} {locs : List Loc} {cells slots : Nat} {Q : State → Prop} {pc : Nat} {ls : Array Slot} {rest : List Value}
theorem xl_raw {x : Int64} (k : W p l e R s m args below meth c H locs cells slots Q (F0 m pc ls (.long (lI x.toInt) :: rest))) : W p l e R s m args below meth c H locs cells slots Q (F0 m pc ls (.long x :: rest)) := by rw [lI_of] at k; exact k
end XF

/-! the tape's tokens, as the class has them -/
def srt (b : Int → Int) (t k : Int) : Int := if k < t then (if isL (b k) = true then 1 else if isD (b k) = true then 2 else if b k = 59 then 3 else 4) else 0
theorem srt_0 {b : Int → Int} {t k : Int} (h : ¬ k < t) : srt b t k = 0 := if_neg h
theorem srt_1 {b : Int → Int} {t k : Int} (h : k < t) (h1 : 97 ≤ b k ∧ b k ≤ 122) : srt b t k = 1 := by unfold srt; rw [if_pos h, if_pos ((isL_i _).mpr h1)]
theorem srt_2 {b : Int → Int} {t k : Int} (h : k < t) (h1 : 48 ≤ b k ∧ b k ≤ 57) : srt b t k = 2 := by unfold srt; rw [if_pos h, if_neg (by rw [isL_i]; omega), if_pos ((isD_i _).mpr h1)]
theorem srt_3 {b : Int → Int} {t k : Int} (h : k < t) (h1 : b k = 59) : srt b t k = 3 := by unfold srt; rw [if_pos h, if_neg (by rw [isL_i]; omega), if_neg (by rw [isD_i]; omega), if_pos h1]
theorem srt_4 {b : Int → Int} {t k : Int} (h : k < t) (h1 : ¬ (97 ≤ b k ∧ b k ≤ 122)) (h2 : ¬ (48 ≤ b k ∧ b k ≤ 57)) (h3 : ¬ b k = 59) : srt b t k = 4 := by unfold srt; rw [if_pos h, if_neg (by rw [isL_i]; exact h1), if_neg (by rw [isD_i]; exact h2), if_neg h3]
/-- all that a sort says -/
theorem srt_c (b : Int → Int) (t k : Int) : (srt b t k = 0 ∧ ¬ k < t) ∨ (srt b t k = 1 ∧ k < t ∧ 97 ≤ b k ∧ b k ≤ 122) ∨ (srt b t k = 2 ∧ k < t ∧ 48 ≤ b k ∧ b k ≤ 57) ∨ (srt b t k = 3 ∧ k < t ∧ b k = 59) ∨ (srt b t k = 4 ∧ k < t ∧ ¬ (97 ≤ b k ∧ b k ≤ 122) ∧ ¬ (48 ≤ b k ∧ b k ≤ 57) ∧ ¬ b k = 59) := by
  by_cases h : k < t
  · by_cases h1 : 97 ≤ b k ∧ b k ≤ 122
    · exact Or.inr (Or.inl ⟨srt_1 h h1, h, h1⟩)
    · by_cases h2 : 48 ≤ b k ∧ b k ≤ 57
      · exact Or.inr (Or.inr (Or.inl ⟨srt_2 h h2, h, h2⟩))
      · by_cases h3 : b k = 59
        · exact Or.inr (Or.inr (Or.inr (Or.inl ⟨srt_3 h h3, h, h3⟩)))
        · exact Or.inr (Or.inr (Or.inr (Or.inr ⟨srt_4 h h1 h2 h3, h, h1, h2, h3⟩)))
  · exact Or.inl ⟨srt_0 h, h⟩
theorem srt_L {b : Int → Int} {t k : Int} : isL (bAt b t k) = true ↔ srt b t k = 1 := by
  rw [isL_i]
  unfold bAt
  rcases srt_c b t k with h | h | h | h | h
  · rw [if_neg h.2]; omega
  · rw [if_pos h.2.1]; omega
  · rw [if_pos h.2.1]; omega
  · rw [if_pos h.2.1]; omega
  · rw [if_pos h.2.1]; omega
theorem srt_D {b : Int → Int} {t k : Int} : isD (bAt b t k) = true ↔ srt b t k = 2 := by
  rw [isD_i]
  unfold bAt
  rcases srt_c b t k with h | h | h | h | h
  · rw [if_neg h.2]; omega
  · rw [if_pos h.2.1]; omega
  · rw [if_pos h.2.1]; omega
  · rw [if_pos h.2.1]; omega
  · rw [if_pos h.2.1]; omega
theorem srt_59 {b : Int → Int} {t k : Int} : bAt b t k = 59 ↔ srt b t k = 3 := by
  unfold bAt
  rcases srt_c b t k with h | h | h | h | h
  · rw [if_neg h.2]; omega
  · rw [if_pos h.2.1]; omega
  · rw [if_pos h.2.1]; omega
  · rw [if_pos h.2.1]; omega
  · rw [if_pos h.2.1]; omega
theorem srt_32 {b : Int → Int} {t k : Int} (h : k < t) : bAt b t k = 32 ↔ b k = 32 := by rw [bAt_lt h]
theorem nvT_st {b : Int → Int} {a : Int} {k : Nat} (h : 999 < nvT b a k) : ∀ j, nvT b a (k + j) = nvT b a k
  | 0 => rfl
  | j + 1 => by
    have ih := nvT_st h j
    show nvT b a (k + j + 1) = _
    simp only [nvT]
    rw [ih, if_pos h]
/-- how a token's end is sought, by its sort -/
theorem rn_sort {b : Int → Int} {t w k : Int} {f : Nat} (hw : w = 1 ∨ w = 2) (h : srt b t k = w) (hf : 0 < f) : rnW b t (if w = 1 then 1 else 0) (if w = 2 then 1 else 0) (f - 1) (k + 1) = rnW b t (if w = 1 then 1 else 0) (if w = 2 then 1 else 0) f k := by
  refine rnW_step ?_ hf
  rcases hw with hw | hw
  · subst hw; left; exact ⟨if_pos rfl, srt_L.mpr h⟩
  · subst hw; right; exact ⟨by rw [if_neg (by omega)]; omega, if_pos rfl, srt_D.mpr h⟩
theorem rn_stop {b : Int → Int} {t w k : Int} (f : Nat) (h : ¬ srt b t k = w) : rnW b t (if w = 1 then 1 else 0) (if w = 2 then 1 else 0) f k = k := by
  refine rnW_stop (fun h1 => ?_) (fun h1 h2 => ?_) f
  · rw [srt_L]; intro z; split at h1 <;> omega
  · rw [srt_D]; intro z; split at h1 <;> omega
theorem rn_tk {b : Int → Int} {t k : Int} (hk : k < t) : rnW b t (if srt b t k = 1 then 1 else 0) (if srt b t k = 2 then 1 else 0) 121 (k + 1) = tkE b t k := by
  refine tk_in hk ?_ ?_
  · rw [srt_L]; split <;> omega
  · rw [srt_D]; split <;> omega
/-- a tape with a token at hand -/
def TI (b : Int → Int) (t fr bh9 so nu : Int) : Prop := (0 ≤ fr ∧ fr ≤ bh9 ∧ bh9 ≤ t) ∧ bh9 = tkE b t fr ∧ so = srt b t fr ∧ nu = nv b t fr bh9
theorem TI.q {b : Int → Int} {t fr bh9 so nu : Int} (h : TI b t fr bh9 so nu) {v : Int} (hv : 0 ≤ v ∧ v ≤ 10000) : QI b t (0, fr, bh9, v) := ⟨Or.inl rfl, h.1, Or.inr h.2.1, hv⟩
theorem TI.nb {b : Int → Int} {t fr bh9 so nu : Int} (h : TI b t fr bh9 so nu) : 0 ≤ nu ∧ nu ≤ 9999 := by
  have := nv_b (b := b) (t := t) (fr := fr) (to1 := bh9) h.1.1 (by have := h.1; omega) h.2.1
  rw [h.2.2.2]; exact this
theorem TI.mk9 {b : Int → Int} {t fr : Int} (h0 : 0 ≤ fr) (h1 : fr ≤ t) : TI b t fr (tkE b t fr) (srt b t fr) (nv b t fr (tkE b t fr)) := by
  have := tkE_b (b := b) h0 h1
  exact ⟨⟨h0, this.1, this.2⟩, rfl, rfl, rfl⟩
/-- words -/
theorem wvT_cong {b c : Int → Int} {a : Int} : ∀ n : Nat, (∀ j : Nat, j < n → b (a + j) = c (0 + j)) → wvT b a n = wvT c 0 n
  | 0 => fun _ => rfl
  | n + 1 => fun h => by
    simp only [wvT]
    rw [wvT_cong n (fun j hj => h j (by omega)), h n (by omega)]
theorem wv_inj {b c : Int → Int} {a : Int} : ∀ n m : Nat, (∀ j : Nat, j < n → 97 ≤ b (a + j) ∧ b (a + j) ≤ 122) → (∀ j : Nat, j < m → 97 ≤ c (0 + j) ∧ c (0 + j) ≤ 122) → wvT b a n = wvT c 0 m → wvT c 0 m ≤ 36028797018963967 → n = m ∧ ∀ j : Nat, j < m → b (a + j) = c (0 + j)
  | 0, 0, _, _, _, _ => ⟨rfl, fun j hj => by omega⟩
  | 0, m + 1, _, hc, e, _ => by
    exfalso
    have h1 := hc m (by omega)
    have h2 := wvT_b (b := c) (a := 0) m (fun j j0 j1 => by have := hc j.toNat (by omega); rw [show (0 : Int) + ((j.toNat : Nat) : Int) = j by omega] at this; exact this)
    simp only [wvT] at e
    split at e <;> omega
  | n + 1, 0, hb, _, e, _ => by
    exfalso
    have h1 := hb n (by omega)
    have h2 := wvT_b (b := b) (a := a) n (fun j j0 j1 => by have := hb (j - a).toNat (by omega); rw [show a + (((j - a).toNat : Nat) : Int) = j by omega] at this; exact this)
    simp only [wvT] at e
    split at e <;> omega
  | n + 1, m + 1, hb, hc, e, hm => by
    have h1 := hb n (by omega)
    have h2 := hc m (by omega)
    have b1 := wvT_b (b := b) (a := a) n (fun j j0 j1 => by have := hb (j - a).toNat (by omega); rw [show a + (((j - a).toNat : Nat) : Int) = j by omega] at this; exact this)
    have b2 := wvT_b (b := c) (a := 0) m (fun j j0 j1 => by have := hc j.toNat (by omega); rw [show (0 : Int) + ((j.toNat : Nat) : Int) = j by omega] at this; exact this)
    simp only [wvT] at e hm
    have c2 : ¬ 36028797018963967 < wvT c 0 m := fun z => by rw [if_pos z] at hm; omega
    rw [if_neg c2] at e hm
    have c1 : ¬ 36028797018963967 < wvT b a n := fun z => by rw [if_pos z] at e; omega
    rw [if_neg c1] at e
    have e1 : wvT b a n = wvT c 0 m := by omega
    obtain ⟨i1, i2⟩ := wv_inj n m (fun j hj => hb j (by omega)) (fun j hj => hc j (by omega)) e1 (by omega)
    have e9 : b (a + n) = c (0 + m) := by omega
    refine ⟨by omega, fun j hj => ?_⟩
    by_cases ej : j = m
    · rw [ej, ← e9, ← i1]
    · exact i2 j (by omega)
/-- the token at hand is the word i -/
theorem wd_is {b : Int → Int} {t fr bh9 so nu : Int} (h : TI b t fr bh9 so nu) {i : Nat} (hi : i < 13) (v : Int) : wdQ b t (0, fr, bh9, v) = sHs.getD i 0 ↔ so = 1 ∧ bh9 - fr = ((sLen.getD i 0 : Nat) : Int) ∧ ∀ j : Nat, j < sLen.getD i 0 → b (fr + j) = sCh i (j : Int) := by
  have hs := sh_ok i hi
  have hl := sl_b i hi
  have hc := sc_b i hi
  by_cases h1 : so = 1
  · have hL : isL (bAt b t fr) = true := srt_L.mpr (by rw [← h.2.2.1]; exact h1)
    rw [wd_end (by omega) hL]
    have hn : (((bh9 - fr).toNat : Nat) : Int) = bh9 - fr := by have := h.1; omega
    have hlet : ∀ j : Nat, j < (bh9 - fr).toNat → 97 ≤ b (fr + j) ∧ b (fr + j) ≤ 122 := fun j hj => tk_let (b := b) (t := t) h.1.1 (by have := h.1; omega) hL (by omega) (by rw [← h.2.1]; omega)
    constructor
    · intro e
      rw [← hs.1] at e
      obtain ⟨a1, a2⟩ := wv_inj _ _ hlet (fun j hj => by have := (hc j (by omega)).2.2 hj; rw [Int.zero_add]; exact this) e (by rw [hs.1]; exact hs.2.2)
      exact ⟨h1, by omega, fun j hj => by rw [a2 j hj, Int.zero_add]⟩
    · rintro ⟨-, e, e2⟩
      rw [show (bh9 - fr).toNat = sLen.getD i 0 by omega, ← hs.1]
      exact wvT_cong _ (fun j hj => by rw [e2 j hj, Int.zero_add])
  · rw [wd_no (Or.inr (by rw [srt_L, ← h.2.2.1]; exact h1))]
    exact ⟨fun z => by omega, fun z => absurd z.1 h1⟩
/-- a number wanted -/
theorem num_is {b : Int → Int} {t fr bh9 so nu : Int} (h : TI b t fr bh9 so nu) (lo hi v : Int) : numQ b t (0, fr, bh9, v) lo hi = if so = 2 ∧ lo ≤ nu ∧ nu ≤ hi then (0, tkF b t bh9, tkE b t (tkF b t bh9), nu) else (1, fr, bh9, nu) := by
  unfold numQ
  dsimp only
  rw [if_neg (by omega), ← h.2.2.2]
  have e : isD (bAt b t fr) = true ↔ so = 2 := by rw [srt_D, h.2.2.1]
  by_cases c : so = 2 ∧ lo ≤ nu ∧ nu ≤ hi
  · rw [if_pos c, if_pos ⟨e.mpr c.1, c.2⟩]
    unfold wantQ
    dsimp only
    rw [if_neg (by omega)]
  · rw [if_neg c, if_neg (fun z => c ⟨e.mp z.1, z.2⟩)]
    unfold wantQ
    dsimp only
    rw [if_pos (Or.inr rfl)]
theorem want_1 {b : Int → Int} {t fr bh9 v : Int} : wantQ b t (0, fr, bh9, v) 1 = (0, tkF b t bh9, tkE b t (tkF b t bh9), v) := by unfold wantQ; dsimp only; rw [if_neg (by omega)]
theorem want_0 {b : Int → Int} {t fr bh9 v : Int} : wantQ b t (0, fr, bh9, v) 0 = (1, fr, bh9, v) := by unfold wantQ; dsimp only; rw [if_pos (Or.inr rfl)]
theorem num_w {b : Int → Int} {t : Int} {x : Int × Int × Int} {lo hi : Int} : numQ b t (1, x) lo hi = (1, x) := by unfold numQ; rw [if_pos rfl]
theorem want_w {b : Int → Int} {t : Int} {x : Int × Int × Int} {y : Int} : wantQ b t (1, x) y = (1, x) := by unfold wantQ; rw [if_pos (Or.inl rfl)]
theorem wd_w {b : Int → Int} {t : Int} {x : Int × Int × Int} : wdQ b t (1, x) = 0 := by unfold wdQ; rw [if_pos (Or.inl rfl)]
theorem wd_v {b : Int → Int} {t fr bh9 : Int} (v w : Int) : wdQ b t (0, fr, bh9, v) = wdQ b t (0, fr, bh9, w) := rfl
theorem wd_z {b : Int → Int} {t fr bh9 so nu : Int} (h : TI b t fr bh9 so nu) (v : Int) (hs : ¬ so = 1) : wdQ b t (0, fr, bh9, v) = 0 := wd_no (Or.inr (by rw [srt_L, ← h.2.2.1]; exact hs))
theorem addR_up {s : Int → Int} {k c h : Int} (hn : 0 ≤ s 1) : up (addR s k c 0) (61 + 5 * s 1 + 2) h = addR s k c h := by
  funext j
  unfold addR
  simp only [up]
  by_cases e : j = 61 + 5 * s 1 + 2
  · rw [if_pos e, if_neg (by omega), if_neg (by omega), if_neg (by omega), if_pos e]
  · rw [if_neg e, if_neg e, if_neg e]
/-- nothing is left of the text -/
theorem item_end {b : Int → Int} {t fr bh9 so nu : Int} {s : Int → Int} (h : TI b t fr bh9 so nu) (v : Int) (hs : so = 0) : itemQ b t s (0, fr, bh9, v) = ((1, fr, bh9, v), s) := by
  have hw := wd_z h v (by omega)
  unfold itemQ
  rw [hw, if_neg (by decide), if_neg (by decide), if_neg (by decide), if_neg (by decide), if_neg (by decide), want_0]
  unfold itO
  rw [if_neg (by dsimp only; omega)]

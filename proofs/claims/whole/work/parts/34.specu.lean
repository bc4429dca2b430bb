/-! the text: items -/
def QI (b : Int → Int) (t : Int) (q : Q4) : Prop := (q.1 = 0 ∨ q.1 = 1) ∧ (0 ≤ q.2.1 ∧ q.2.1 ≤ q.2.2.1 ∧ q.2.2.1 ≤ t) ∧ (q.1 = 1 ∨ q.2.2.1 = tkE b t q.2.1) ∧ (0 ≤ q.2.2.2 ∧ q.2.2.2 ≤ 10000)
theorem wantQ_inv {b : Int → Int} {t : Int} {q : Q4} (h : QI b t q) (x : Int) : QI b t (wantQ b t q x) := by
  obtain ⟨w, fr, to1, v⟩ := q
  obtain ⟨h1, h2, h3, h4⟩ := h
  dsimp only at h1 h2 h3 h4
  unfold wantQ
  split
  · exact ⟨Or.inr rfl, h2, Or.inl rfl, h4⟩
  · have a := tkF_b (b := b) (t := t) (k := to1) (by omega) (by omega)
    have c := tkE_b (b := b) (t := t) (k := tkF b t to1) (by omega) (by omega)
    exact ⟨Or.inl rfl, ⟨by dsimp only; omega, by dsimp only; omega, by dsimp only; omega⟩, Or.inr rfl, h4⟩
theorem numQ_inv {b : Int → Int} {t : Int} {q : Q4} (h : QI b t q) (lo hi : Int) : QI b t (numQ b t q lo hi) := by
  unfold numQ
  split
  · exact h
  · rename_i hc
    refine wantQ_inv (q := (q.1, q.2.1, q.2.2.1, nv b t q.2.1 q.2.2.1)) ⟨h.1, h.2.1, h.2.2.1, ?_⟩ _
    have := nv_b (b := b) (t := t) h.2.1.1 (Int.le_trans h.2.1.2.1 h.2.1.2.2) (h.2.2.1.resolve_left hc)
    dsimp only
    omega
theorem wantQ_ge {b : Int → Int} {t : Int} {q : Q4} (h : QI b t q) (x : Int) : q.2.1 ≤ (wantQ b t q x).2.1 ∧ q.2.2.1 ≤ (wantQ b t q x).2.2.1 := by
  obtain ⟨w, fr, to1, v⟩ := q
  obtain ⟨h1, h2, h3, h4⟩ := h
  dsimp only at h1 h2 h3 h4
  unfold wantQ
  split
  · exact ⟨Int.le_refl _, Int.le_refl _⟩
  · have a := tkF_b (b := b) (t := t) (k := to1) (by omega) (by omega)
    have c := tkE_b (b := b) (t := t) (k := tkF b t to1) (by omega) (by omega)
    dsimp only
    omega
theorem numQ_ge {b : Int → Int} {t : Int} {q : Q4} (h : QI b t q) (lo hi : Int) : q.2.1 ≤ (numQ b t q lo hi).2.1 ∧ q.2.2.1 ≤ (numQ b t q lo hi).2.2.1 := by
  unfold numQ
  split
  · exact ⟨Int.le_refl _, Int.le_refl _⟩
  · rename_i hc
    have := nv_b (b := b) (t := t) h.2.1.1 (Int.le_trans h.2.1.2.1 h.2.1.2.2) (h.2.2.1.resolve_left hc)
    exact wantQ_ge (q := (q.1, q.2.1, q.2.2.1, nv b t q.2.1 q.2.2.1)) ⟨h.1, h.2.1, h.2.2.1, by dsimp only; omega⟩ _
theorem wantQ_ok {b : Int → Int} {t : Int} {q r : Q4} {x : Int} (h : r = wantQ b t q x) (h0 : r.1 = 0) : ¬ q.1 = 1 ∧ ¬ x = 0 ∧ r.2.2.2 = q.2.2.2 := by
  subst h
  unfold wantQ at h0 ⊢
  by_cases c : q.1 = 1 ∨ x = 0
  · rw [if_pos c] at h0; dsimp only at h0; omega
  · rw [if_neg c]; exact ⟨fun z => c (Or.inl z), fun z => c (Or.inr z), rfl⟩
theorem numQ_ok {b : Int → Int} {t : Int} {q r : Q4} {lo hi : Int} (h : r = numQ b t q lo hi) (h0 : r.1 = 0) : ¬ q.1 = 1 ∧ lo ≤ r.2.2.2 ∧ r.2.2.2 ≤ hi := by
  subst h
  unfold numQ at h0 ⊢
  by_cases c : q.1 = 1
  · rw [if_pos c] at h0; omega
  · rw [if_neg c] at h0 ⊢
    have := wantQ_ok rfl h0
    refine ⟨c, ?_⟩
    rw [this.2.2]
    dsimp only
    by_cases d : isD (bAt b t q.2.1) = true ∧ lo ≤ nv b t q.2.1 q.2.2.1 ∧ nv b t q.2.1 q.2.2.1 ≤ hi
    · exact d.2
    · exact absurd (if_neg d) this.2.1
theorem numQ_d {b : Int → Int} {t : Int} {q r : Q4} {lo hi : Int} (hq : QI b t q) (h : r = numQ b t q lo hi) : r.1 = 1 ∨ (r.1 = 0 ∧ q.1 = 0 ∧ lo ≤ r.2.2.2 ∧ r.2.2.2 ≤ hi) := by
  have h1 := (numQ_inv hq lo hi).1
  rw [← h] at h1
  rcases h1 with h1 | h1
  · have := numQ_ok h h1
    have h2 := hq.1
    exact Or.inr ⟨h1, by omega, this.2⟩
  · exact Or.inl h1
theorem wantQ_d {b : Int → Int} {t : Int} {q r : Q4} {x : Int} (hq : QI b t q) (h : r = wantQ b t q x) : r.1 = 1 ∨ (r.1 = 0 ∧ q.1 = 0 ∧ ¬ x = 0 ∧ r.2.2.2 = q.2.2.2) := by
  have h1 := (wantQ_inv hq x).1
  rw [← h] at h1
  rcases h1 with h1 | h1
  · have := wantQ_ok h h1
    have h2 := hq.1
    exact Or.inr ⟨h1, by omega, this.2⟩
  · exact Or.inl h1
theorem numQ_g {b : Int → Int} {t : Int} {q r : Q4} {lo hi : Int} (hq : QI b t q) (h : r = numQ b t q lo hi) : q.2.1 ≤ r.2.1 ∧ q.2.2.1 ≤ r.2.2.1 := by rw [h]; exact numQ_ge hq lo hi
def rgF (s : Int → Int) (k c h : Int) (q : Q4) : Q4 × (Int → Int) := (q, if q.1 = 0 then up (addR s k c 0) (61 + 5 * s 1 + 2) h else s)
def rgE (b : Int → Int) (t : Int) (s : Int → Int) (k c : Int) (q : Q4) : Q4 × (Int → Int) := if wdQ b t q = 8441477 then rgF s k c (numQ b t (wantQ b t q 1) 0 9).2.2.2 (numQ b t (wantQ b t q 1) 0 9) else rgF s k c 0 q
def rgD (b : Int → Int) (t : Int) (s : Int → Int) (k wh : Int) (q : Q4) : Q4 × (Int → Int) := if q.1 = 0 ∧ 0 ≤ who s q.2.2.2 then rgE b t s k q.2.2.2 (1, wh, q.2.2.1, q.2.2.2) else rgE b t s k q.2.2.2 q
def rgC (b : Int → Int) (t : Int) (s : Int → Int) (k : Int) (q : Q4) : Q4 × (Int → Int) := rgD b t s k q.2.1 (numQ b t q 0 23)
def rgB (b : Int → Int) (t : Int) (s : Int → Int) (k : Int) (q : Q4) : Q4 × (Int → Int) := rgC b t s k (wantQ b t q (if wdQ b t q = 52 then 1 else 0))
def rangeQ (b : Int → Int) (t : Int) (s : Int → Int) (k : Int) (q : Q4) : Q4 × (Int → Int) := rgB b t s k (wantQ b t q (if s 1 < 8 then 1 else 0))
def paC (s : Int → Int) (c p : Int) (q : Q4) : Q4 × (Int → Int) := (q, if q.1 = 0 then up (up s (7 + c) p) (31 + c) (if p = 0 then 0 else q.2.2.2) else s)
def paB (b : Int → Int) (t : Int) (s : Int → Int) (c : Int) (q : Q4) : Q4 × (Int → Int) := paC s c q.2.2.2 (numQ b t q 0 q.2.2.2)
def paA (b : Int → Int) (t : Int) (s : Int → Int) (q : Q4) : Q4 × (Int → Int) := paB b t s q.2.2.2 (numQ b t q 2 9)
def passQ (b : Int → Int) (t : Int) (s : Int → Int) (q : Q4) : Q4 × (Int → Int) := paA b t s (numQ b t (wantQ b t q 1) 0 23)
def viA (s : Int → Int) (q : Q4) : Q4 × (Int → Int) := (q, if q.1 = 0 then nVil s q.2.2.2 else s)
def villQ (b : Int → Int) (t : Int) (s : Int → Int) (q : Q4) : Q4 × (Int → Int) := viA s (numQ b t (wantQ b t q (if s 2 < 6 then 1 else 0)) 0 23)
def frA (s : Int → Int) (q : Q4) : Q4 × (Int → Int) := (q, if q.1 = 0 then up (up s (7 + q.2.2.2) 0) (31 + q.2.2.2) (if (0 : Int) = 0 then 0 else 0) else s)
def freeQ (b : Int → Int) (t : Int) (s : Int → Int) (q : Q4) : Q4 × (Int → Int) := frA s (numQ b t (wantQ b t q 1) 0 23)
def orB (s : Int → Int) (w n : Int) (q : Q4) : Q4 × (Int → Int) := (q, if q.1 = 0 then up s (3 + w) (if n = 1 then -q.2.2.2 else q.2.2.2) else s)
def orA (b : Int → Int) (t : Int) (s : Int → Int) (q : Q4) : Q4 × (Int → Int) := if wdQ b t q = 398963 then orB s q.2.2.2 1 (numQ b t (wantQ b t q 1) 0 9) else orB s q.2.2.2 0 (numQ b t q 0 9)
def ordQ (b : Int → Int) (t : Int) (s : Int → Int) (q : Q4) : Q4 × (Int → Int) := orA b t s (numQ b t q 0 3)
def itO (b : Int → Int) (t : Int) (s : Int → Int) (q : Q4) : Q4 × (Int → Int) := if q.1 = 0 then ordQ b t s q else (q, s)
def itemQ (b : Int → Int) (t : Int) (s : Int → Int) (q : Q4) : Q4 × (Int → Int) := if 0 ≤ kdQ (wdQ b t q) then rangeQ b t s (kdQ (wdQ b t q)) q else if wdQ b t q = 525939 then passQ b t s q else if wdQ b t q = 215205 then freeQ b t s q else if wdQ b t q = 23937287397 then villQ b t s q else itO b t s (wantQ b t q (if wdQ b t q = 16322738 then 1 else 0))

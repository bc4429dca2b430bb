/-! the class's order of going, its sets of cells -/
theorem up_self (f : Int → Int) (k : Int) : up f k (f k) = f := by
  funext j
  simp only [up]
  split
  · rename_i h; rw [h]
  · rfl
theorem up_up (f : Int → Int) (k v w : Int) : up (up f k v) k w = up f k w := by
  funext j
  simp only [up]
  split <;> rfl
theorem bh_ne {c : Int} (h : 0 ≤ c ∧ c ≤ 23) : bh c ≠ c := by unfold bh; split <;> omega
/-- a row shifted by one, from behind p up to r -/
def sfT (t : Int → Int) (p r : Int) : Int → Int := fun j => if p < j ∧ j ≤ r then t (j - 1) else t j
theorem sfT_0 (t : Int → Int) (r : Int) : t = sfT t r r := by funext j; simp only [sfT]; rw [if_neg (by omega)]
theorem sfT_S (t : Int → Int) {p r q : Int} (h : p ≤ r) (hq : q = p - 1) : up (sfT t p r) p (sfT t p r q) = sfT t q r := by
  subst hq
  funext j
  simp only [up, sfT]
  rw [if_neg (show ¬ (p < p - 1 ∧ p - 1 ≤ r) by omega)]
  by_cases h1 : j = p
  · subst h1; rw [if_pos rfl, if_pos (by omega)]
  · rw [if_neg h1]
    by_cases h2 : p < j ∧ j ≤ r
    · rw [if_pos h2, if_pos (by omega)]
    · rw [if_neg h2, if_neg (by omega)]
theorem sfT_lo {t : Int → Int} {p r j : Int} (h : j ≤ p) : sfT t p r j = t j := if_neg (by omega)
theorem sfT_hi {t : Int → Int} {p r j : Int} (h0 : p < j) (h1 : j ≤ r) : sfT t p r j = t (j - 1) := if_pos ⟨h0, h1⟩
/-- the first k by their ranks among them -/
def RKs (s t : Int → Int) (k : Nat) : Prop := ∀ i : Int, 0 ≤ i → i < k → (0 ≤ t i ∧ t i < k) ∧ rkT s (t i) k = i
theorem RKs_ins {s t : Int → Int} {k : Nat} {p : Int} (h : RKs s t k) (h0 : 0 ≤ p) (h1 : p ≤ k) (hg : ∀ i : Int, p ≤ i → i < k → gf s k (t i)) (hn : 0 < p → ¬ gf s k (t (p - 1))) : RKs s (up (sfT t p k) p k) (k + 1) := by
  have hs : ∀ r : Int, rkT s r (k + 1) = rkT s r k + (if (k : Int) ≠ r ∧ gf s k r then 1 else 0) := fun r => rfl
  have hkb := rkT_b s k k
  have hk : rkT s k k = p := by
    rcases Int.lt_trichotomy (rkT s k k) p with c | c | c
    · exfalso
      have hm := h (rkT s k k) hkb.1 (by omega)
      have hp := h (p - 1) (by omega) (by omega)
      have g1 : gf s k (t (rkT s k k)) := by
        rcases gf_tot (s := s) (a := (k : Int)) (b := t (rkT s k k)) (by omega) with g | g
        · exact g
        · have := (rkT_mono g k).2 hm.1.1 hm.1.2
          have e := hm.2
          omega
      have e1 := hm.2
      have e2 := hp.2
      refine hn (by omega) ?_
      by_cases e : t (rkT s k k) = t (p - 1)
      · rw [← e]; exact g1
      · rcases gf_tot (s := s) e with g | g
        · exact gf_tr g1 g
        · have := (rkT_mono g k).2 hp.1.1 hp.1.2
          omega
    · exact c
    · exfalso
      have hp := h p h0 (by omega)
      have := (rkT_mono (hg p (by omega) (by omega)) k).1
      have e := hp.2
      omega
  intro i i0 i1
  by_cases e : i = p
  · subst e
    rw [up_s, hs, if_neg (fun z => z.1 rfl), hk]
    exact ⟨⟨by omega, by omega⟩, by omega⟩
  · rw [up_n e]
    by_cases c : i < p
    · rw [sfT_lo (by omega)]
      have hi := h i i0 (by omega)
      have ng : ¬ gf s k (t i) := fun z => by
        have := (rkT_mono z k).1
        have e := hi.2
        omega
      rw [hs, if_neg (fun z => ng z.2)]
      exact ⟨⟨hi.1.1, by omega⟩, by have e := hi.2; omega⟩
    · rw [sfT_hi (by omega) (by omega)]
      have hi := h (i - 1) (by omega) (by omega)
      rw [hs, if_pos ⟨by omega, hg (i - 1) (by omega) (by omega)⟩]
      exact ⟨⟨hi.1.1, by omega⟩, by have e := hi.2; omega⟩
theorem RKs_ord {s t : Int → Int} {k : Nat} (h : RKs s t k) (hk : (k : Int) = s 1) {i : Int} (i0 : 0 ≤ i) (i1 : i < s 1) : t i = ord s i := by
  have hi := h i i0 (by omega)
  obtain ⟨a, b, c⟩ := ord_spec i0 i1
  have e : (s 1).toNat = k := by omega
  refine rkT_inj (s := s) (k := k) hi.1.1 hi.1.2 a (by omega) ?_
  rw [hi.2]
  unfold rank at c
  rw [e] at c
  exact c.symm
theorem rk_gf {s : Int → Int} {a b : Int} (a0 : 0 ≤ a) (a1 : a < s 1) (b0 : 0 ≤ b) (b1 : b < s 1) : rank s a < rank s b ↔ gf s a b := by
  constructor
  · intro h
    by_cases e : a = b
    · rw [e] at h; omega
    · rcases gf_tot (s := s) e with g | g
      · exact g
      · have := (rkT_mono g (s 1).toNat).1
        unfold rank at h
        omega
  · intro g
    exact (rkT_mono g (s 1).toNat).2 a0 (by omega)
theorem raT_spec (s : Int → Int) (q : Int) : ∀ k : Nat, (raT s q k < 0 → ∀ o : Int, 0 ≤ o → o < k → o ≠ q → ¬ gf s o q) ∧ (0 ≤ raT s q k → raT s q k ≠ q ∧ gf s (raT s q k) q ∧ ∀ o : Int, 0 ≤ o → o < k → o ≠ q → gf s o q → o = raT s q k ∨ gf s o (raT s q k))
  | 0 => ⟨fun _ o h0 h1 => by omega, fun h => by simp [raT] at h⟩
  | k + 1 => by
    obtain ⟨i1, i2⟩ := raT_spec s q k
    have hb := raT_b s q k
    simp only [raT]
    by_cases c : (k : Int) ≠ q ∧ gf s k q ∧ (raT s q k < 0 ∨ gf s (raT s q k) k)
    · rw [if_pos c]
      refine ⟨fun h => by omega, fun _ => ⟨c.1, c.2.1, fun o o0 o1 oq og => ?_⟩⟩
      by_cases e : o = (k : Int)
      · exact Or.inl e
      · right
        by_cases hneg : raT s q k < 0
        · exact absurd og (i1 hneg o o0 (by omega) oq)
        · have h := c.2.2.resolve_left hneg
          rcases (i2 (by omega)).2.2 o o0 (by omega) oq og with h2 | h2
          · rw [h2]; exact h
          · exact gf_tr h2 h
    · rw [if_neg c]
      refine ⟨fun h o o0 o1 oq og => ?_, fun h => ⟨(i2 h).1, (i2 h).2.1, fun o o0 o1 oq og => ?_⟩⟩
      · by_cases e : o = (k : Int)
        · exact c ⟨by omega, by rw [← e]; exact og, Or.inl h⟩
        · exact i1 h o o0 (by omega) oq og
      · by_cases e : o = (k : Int)
        · right
          have hne : (k : Int) ≠ raT s q k := by omega
          rcases gf_tot (s := s) hne with g | g
          · rw [e]; exact g
          · exact absurd ⟨by omega, by rw [← e]; exact og, Or.inr g⟩ c
        · exact (i2 h).2.2 o o0 (by omega) oq og
theorem raT_ord {s : Int → Int} (hn : 0 ≤ s 1) {q : Int} (q0 : 0 ≤ q) (q1 : q < s 1) : raT s q (s 1).toNat = if rank s q = 0 then -1 else ord s (rank s q - 1) := by
  obtain ⟨i1, i2⟩ := raT_spec s q (s 1).toNat
  have hb := raT_b s q (s 1).toNat
  have hr := rank_b hn q0 q1
  by_cases c : rank s q = 0
  · rw [if_pos c]
    by_cases h : raT s q (s 1).toNat < 0
    · omega
    · have h2 := i2 (by omega)
      have h3 := (rk_gf (s := s) (by omega) (by omega) q0 q1).mpr h2.2.1
      have h4 := rank_b (s := s) hn (r := raT s q (s 1).toNat) (by omega) (by omega)
      omega
  · rw [if_neg c]
    obtain ⟨a, b, e⟩ := ord_spec (s := s) (i := rank s q - 1) (by omega) (by omega)
    have hg : gf s (ord s (rank s q - 1)) q := (rk_gf a b q0 q1).mp (by omega)
    have hne : ord s (rank s q - 1) ≠ q := fun z => by rw [z] at e; omega
    by_cases h : raT s q (s 1).toNat < 0
    · exact absurd hg (i1 h _ a (by omega) hne)
    · have h2 := i2 (by omega)
      rcases h2.2.2 _ a (by omega) hne hg with h3 | h3
      · exact h3.symm
      · have h4 := (rk_gf (s := s) (by omega) (by omega) q0 q1).mpr h2.2.1
        have h5 := (rk_gf (s := s) a b (by omega) (by omega)).mpr h3
        omega
/-! sets -/
theorem orT_congr {f h : Int → Int32} : ∀ k : Nat, (∀ j : Int, 0 ≤ j → j < k → f j = h j) → orT f k = orT h k
  | 0 => fun _ => rfl
  | k + 1 => fun e => by
    simp only [orT]
    rw [orT_congr k (fun j h0 h1 => e j h0 (by omega)), e k (by omega) (by omega)]
theorem pl_bt {k : Int} {s : Int → Int} (hI : InvK k s) {i : Nat} (hi : i < 32) : bt (orT (plT s) (s 1).toNat) i = true ↔ ∃ q : Int, 0 ≤ q ∧ q < s 1 ∧ s (61 + 5 * q + 1) = (i : Int) := by
  have hn := hI.num
  rw [orT_bt]
  constructor
  · rintro ⟨j, h1, h2⟩
    have hc := (hI.ran j (by omega) (by omega)).2.1
    unfold plT at h2
    rw [bt_bit (by omega) hi, decide_eq_true_eq] at h2
    exact ⟨j, by omega, by omega, by omega⟩
  · rintro ⟨q, q0, q1, e⟩
    have hc := (hI.ran q q0 q1).2.1
    refine ⟨q.toNat, by omega, ?_⟩
    have e2 : ((q.toNat : Nat) : Int) = q := by omega
    unfold plT
    rw [e2, bt_bit (by omega) hi, decide_eq_true_eq]
    omega
theorem sh_bt {s : Int → Int} {c : Int} (hc : 0 ≤ c ∧ c ≤ 23) : bt (orT (shT s) 24) c.toNat = true ↔ ¬ opn s c := by
  rw [orT_bt]
  have e2 : ((c.toNat : Nat) : Int) = c := by omega
  constructor
  · rintro ⟨j, h1, h2⟩
    unfold shT at h2
    by_cases o : opn s (j : Int)
    · rw [if_pos o, bt_i0] at h2; cases h2
    · rw [if_neg o, bt_bit (by omega) (by omega), decide_eq_true_eq] at h2
      have : c = (j : Int) := by omega
      rw [this]; exact o
  · intro o
    refine ⟨c.toNat, by omega, ?_⟩
    unfold shT
    rw [e2, if_neg o, bt_bit (by omega) (by omega), decide_eq_true_eq]
/-- the set without one range -/
theorem oth_bt {k : Int} {s : Int → Int} (hI : InvK k s) {r : Int} (r0 : 0 ≤ r) (r1 : r < s 1) {i : Nat} (hi : i < 32) : bt (orT (plT s) (s 1).toNat &&& (bit (s (61 + 5 * r + 1)) ^^^ iI (-1))) i = true ↔ ∃ q : Int, 0 ≤ q ∧ q < s 1 ∧ q ≠ r ∧ s (61 + 5 * q + 1) = (i : Int) := by
  have hc := (hI.ran r r0 r1).2.1
  rw [b_and, Bool.and_eq_true, pl_bt hI hi, bt_not _ hi, bt_bit (by omega) hi, Bool.not_eq_true', decide_eq_false_iff_not]
  constructor
  · rintro ⟨⟨q, q0, q1, e⟩, hne⟩
    exact ⟨q, q0, q1, fun z => hne (by rw [z] at e; omega), e⟩
  · rintro ⟨q, q0, q1, hqr, e⟩
    exact ⟨⟨q, q0, q1, e⟩, fun z => hqr (hI.dis q r q0 q1 r0 r1 (by omega))⟩
theorem blk_iff {k : Int} {s : Int → Int} (hI : InvK k s) {r : Int} (r0 : 0 ≤ r) (r1 : r < s 1) {a c : Int} (hc : 0 ≤ c ∧ c ≤ 23) (hne : c ≠ a) : bt (orT (shT s) 24 ||| (orT (plT s) (s 1).toNat &&& (bit (s (61 + 5 * r + 1)) ^^^ iI (-1)))) c.toNat = true ↔ ¬ (opn (up s (61 + 5 * r + 1) a) c ∧ who (up s (61 + 5 * r + 1) a) c < 0) := by
  have hn := hI.num
  have e1 : up s (61 + 5 * r + 1) a 1 = s 1 := up_n (by omega)
  have eo : opn (up s (61 + 5 * r + 1) a) c ↔ opn s c := by
    unfold opn
    rw [up_n (by omega), up_n (by omega), up_n (by omega)]
  rw [b_or, Bool.or_eq_true, sh_bt hc, oth_bt hI r0 r1 (by omega), eo, who_neg (by omega), e1]
  constructor
  · rintro (h | ⟨q, q0, q1, hqr, e⟩) ⟨z1, z2⟩
    · exact h z1
    · exact z2 q q0 q1 (by rw [up_n (by omega)]; omega)
  · intro h
    by_cases o : opn s c
    · right
      refine Classical.byContradiction fun hx => h ⟨o, fun q q0 q1 e => ?_⟩
      by_cases eq : q = r
      · rw [eq, up_s] at e; exact hne e.symm
      · rw [up_n (by omega)] at e
        exact hx ⟨q, q0, q1, eq, by omega⟩
    · exact Or.inl o
theorem gone_bt {s : Int → Int} (hI : InvK 7 s) {r : Int} (r0 : 0 ≤ r) (r1 : r < s 1) {a : Int} (ha : 0 ≤ a ∧ a ≤ 23) (hs : ∀ q, 0 ≤ q → q < s 1 → goOne s r (61 + 5 * q + 1) = up s (61 + 5 * r + 1) a (61 + 5 * q + 1)) : (orT (plT s) (s 1).toNat &&& (bit (s (61 + 5 * r + 1)) ^^^ iI (-1))) ||| bit a = orT (plT (goOne s r)) (s 1).toNat := by
  obtain ⟨hI2, h61, -⟩ := goOne_inv hI ⟨by omega, by omega⟩ r0 r1
  have e1 : goOne s r 1 = s 1 := h61 1 (by omega)
  apply b_ext
  intro i hi
  rw [Bool.eq_iff_iff, b_or, Bool.or_eq_true, oth_bt hI r0 r1 hi, bt_bit (by omega) hi, decide_eq_true_eq, ← e1, pl_bt hI2 hi, e1]
  constructor
  · rintro (⟨q, q0, q1, hqr, e⟩ | e)
    · exact ⟨q, q0, q1, by rw [hs q q0 q1, up_n (by omega)]; exact e⟩
    · exact ⟨r, r0, r1, by rw [hs r r0 r1, up_s]; omega⟩
  · rintro ⟨q, q0, q1, e⟩
    rw [hs q q0 q1] at e
    by_cases eq : q = r
    · rw [eq, up_s] at e; right; omega
    · rw [up_n (by omega)] at e
      exact Or.inl ⟨q, q0, q1, eq, e⟩
theorem goOne_of {s : Int → Int} {r st a g : Int} (hst : st = stride s r) (hF : gOne r st st.toNat s 0 = (up s (61 + 5 * r + 1) a, g)) : goOne s r = up (up (up s (61 + 5 * r + 1) a) (61 + 5 * r + 3) (up s (61 + 5 * r + 1) a (61 + 5 * r + 3) + g)) (61 + 5 * r + 4) (up (up s (61 + 5 * r + 1) a) (61 + 5 * r + 3) (up s (61 + 5 * r + 1) a (61 + 5 * r + 3) + g) (61 + 5 * r + 4) + (if g < st then 1 else 0)) := by
  subst hst
  unfold goOne
  rw [hF]
theorem goOne_c {s : Int → Int} {r st a g : Int} (hst : st = stride s r) (hF : gOne r st st.toNat s 0 = (up s (61 + 5 * r + 1) a, g)) (q : Int) : goOne s r (61 + 5 * q + 1) = up s (61 + 5 * r + 1) a (61 + 5 * q + 1) := by
  rw [goOne_of hst hF, up_n (by omega), up_n (by omega)]
theorem gst_step {s : Int → Int} {r st a g : Int} {F : (Int → Int) × Int} (h : gOne r st (st - g).toNat (up s (61 + 5 * r + 1) a) g = F) (hg : g < st) (hc : opn (up s (61 + 5 * r + 1) a) (bh a) ∧ who (up s (61 + 5 * r + 1) a) (bh a) < 0) : gOne r st (st - (g + 1)).toNat (up s (61 + 5 * r + 1) (bh a)) (g + 1) = F := by
  rw [← h]
  have ea : up s (61 + 5 * r + 1) a (61 + 5 * r + 1) = a := up_s _ _ _
  have := gOne_step (r := r) (st := st) (cur := up s (61 + 5 * r + 1) a) (gone := g) hg (by rw [ea]; exact hc.1) (by rw [ea]; exact hc.2)
  rw [this, ea, up_up]
theorem gst_stop {s : Int → Int} {r st a g : Int} {F : (Int → Int) × Int} (h : gOne r st (st - g).toNat (up s (61 + 5 * r + 1) a) g = F) (hg : g < st) (hc : ¬ (opn (up s (61 + 5 * r + 1) a) (bh a) ∧ who (up s (61 + 5 * r + 1) a) (bh a) < 0)) : F = (up s (61 + 5 * r + 1) a, g) := by
  rw [← h]
  have ea : up s (61 + 5 * r + 1) a (61 + 5 * r + 1) = a := up_s _ _ _
  exact gOne_stop hg (by rw [ea]; exact hc)
theorem gst_end {s : Int → Int} {r st a g : Int} {F : (Int → Int) × Int} (h : gOne r st (st - g).toNat (up s (61 + 5 * r + 1) a) g = F) (hg : st ≤ g) : F = (up s (61 + 5 * r + 1) a, g) := by
  rw [← h]
  exact gOne_end hg
theorem gst_0 {s : Int → Int} {r st : Int} : gOne r st (st - 0).toNat (up s (61 + 5 * r + 1) (s (61 + 5 * r + 1))) 0 = gOne r st st.toNat s 0 := by rw [up_self, Int.sub_zero]
theorem shT_sea {s u : Int → Int} (h : ∀ j, j < 61 → u j = s j) : orT (shT u) 24 = orT (shT s) 24 := by
  refine orT_congr 24 (fun j h0 h1 => ?_)
  unfold shT opn
  rw [h _ (by omega), h _ (by omega), h _ (by omega)]

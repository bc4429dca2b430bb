/-! how a land moves: pure rows -/
theorem whoT_neg (s : Int → Int) (c : Int) : ∀ k : Nat, whoT s c k < 0 ↔ ∀ r : Int, 0 ≤ r → r < k → s (61 + 5 * r + 1) ≠ c
  | 0 => by simp only [whoT]; exact ⟨fun _ r h0 h1 => by omega, fun _ => by omega⟩
  | k + 1 => by
    have ih := whoT_neg s c k
    simp only [whoT]
    by_cases h : s (61 + 5 * (k : Int) + 1) = c
    · rw [if_pos h]
      exact ⟨fun hk => by omega, fun ha => absurd h (ha k (by omega) (by omega))⟩
    · rw [if_neg h, ih]
      refine ⟨fun ha r h0 h1 => ?_, fun ha r h0 h1 => ha r h0 (by omega)⟩
      by_cases e : r = (k : Int)
      · rw [e]; exact h
      · exact ha r h0 (by omega)
theorem who_neg {s : Int → Int} {c : Int} (hn : 0 ≤ s 1) : who s c < 0 ↔ ∀ r : Int, 0 ≤ r → r < s 1 → s (61 + 5 * r + 1) ≠ c := by
  unfold who
  rw [whoT_neg]
  exact ⟨fun h r h0 h1 => h r h0 (by omega), fun h r h0 h1 => h r h0 (by omega)⟩
theorem whoT_pos (s : Int → Int) (c : Int) : ∀ k : Nat, 0 ≤ whoT s c k → s (61 + 5 * whoT s c k + 1) = c
  | 0 => by simp only [whoT]; omega
  | k + 1 => by
    have ih := whoT_pos s c k
    simp only [whoT]
    by_cases h : s (61 + 5 * (k : Int) + 1) = c
    · rw [if_pos h]; exact fun _ => h
    · rw [if_neg h]; exact ih
theorem who_pos {s : Int → Int} {c : Int} (h : 0 ≤ who s c) : s (61 + 5 * who s c + 1) = c := whoT_pos s c _ h
/-- ranks by the order -/
def rkT (s : Int → Int) (r : Int) : Nat → Int
  | 0 => 0
  | o + 1 => rkT s r o + (if (o : Int) ≠ r ∧ gf s o r then 1 else 0)
def rank (s : Int → Int) (r : Int) : Int := rkT s r (s 1).toNat
theorem rkT_b (s : Int → Int) (r : Int) : ∀ o, 0 ≤ rkT s r o ∧ rkT s r o ≤ (o : Int)
  | 0 => ⟨by simp [rkT], by simp [rkT]⟩
  | o + 1 => by
    have := rkT_b s r o
    simp only [rkT]
    split <;> omega
theorem rkT_lt (s : Int → Int) {r : Int} (h0 : 0 ≤ r) : ∀ o : Nat, r < (o : Int) → rkT s r o < (o : Int)
  | 0 => fun h => by omega
  | o + 1 => fun h => by
    have hb := rkT_b s r o
    simp only [rkT]
    by_cases e : (o : Int) = r
    · rw [if_neg (fun z => z.1 e)]; omega
    · have := rkT_lt s h0 o (by omega)
      split <;> omega
theorem rank_b {s : Int → Int} (hn : 0 ≤ s 1) {r : Int} (h0 : 0 ≤ r) (h1 : r < s 1) : 0 ≤ rank s r ∧ rank s r < s 1 := by
  have a := rkT_b s r (s 1).toNat
  have b := rkT_lt s h0 (s 1).toNat (by omega)
  unfold rank
  omega
def lineT (s : Int → Int) (l0 : Int → Int) : Nat → Int → Int
  | 0 => l0
  | r + 1 => up (lineT s l0 r) (rank s r) r
def ordT (s : Int → Int) (d i : Int) : Nat → Int
  | 0 => d
  | r + 1 => if i = rank s r then (r : Int) else ordT s d i r
theorem lineT_at (s l0 : Int → Int) (i : Int) : ∀ k, lineT s l0 k i = ordT s (l0 i) i k
  | 0 => rfl
  | k + 1 => by
    simp only [lineT, ordT, up]
    rw [lineT_at s l0 i k]
def ord (s : Int → Int) (i : Int) : Int := ordT s 0 i (s 1).toNat
theorem ordT_in (s : Int → Int) (d i : Int) : ∀ k : Nat, (∃ r : Int, 0 ≤ r ∧ r < k ∧ rank s r = i) → (0 ≤ ordT s d i k ∧ ordT s d i k < k ∧ rank s (ordT s d i k) = i) ∧ ∀ d2, ordT s d2 i k = ordT s d i k
  | 0 => fun ⟨r, h0, h1, _⟩ => by omega
  | k + 1 => fun ⟨r, h0, h1, h2⟩ => by
    simp only [ordT]
    by_cases e : i = rank s (k : Int)
    · rw [if_pos e]
      exact ⟨⟨by omega, by omega, e.symm⟩, fun d2 => by rw [if_pos e]⟩
    · rw [if_neg e]
      have hr : r ≠ (k : Int) := fun z => e (by rw [← h2, z])
      obtain ⟨⟨a, b, c⟩, d9⟩ := ordT_in s d i k ⟨r, h0, by omega, h2⟩
      exact ⟨⟨a, by omega, c⟩, fun d2 => by rw [if_neg e]; exact d9 d2⟩
/-- the order is a strict one -/
theorem gf_irr (s : Int → Int) (r : Int) : ¬ gf s r r := by unfold gf; omega
theorem gf_tr {s : Int → Int} {a b c : Int} (h1 : gf s a b) (h2 : gf s b c) : gf s a c := by unfold gf at *; omega
theorem gf_tot {s : Int → Int} {a b : Int} (h : a ≠ b) : gf s a b ∨ gf s b a := by unfold gf; omega
theorem gf_as {s : Int → Int} {a b : Int} (h1 : gf s a b) (h2 : gf s b a) : False := gf_irr s a (gf_tr h1 h2)
/-- who goes before a counts not more than who goes before b, if a goes before b -/
theorem rkT_mono {s : Int → Int} {a b : Int} (h : gf s a b) : ∀ k : Nat, rkT s a k ≤ rkT s b k ∧ (0 ≤ a → a < k → rkT s a k < rkT s b k)
  | 0 => ⟨by simp [rkT], fun h0 h1 => by omega⟩
  | k + 1 => by
    obtain ⟨i1, i2⟩ := rkT_mono h k
    simp only [rkT]
    by_cases e : (k : Int) ≠ a ∧ gf s k a
    · have e2 : (k : Int) ≠ b ∧ gf s k b := ⟨fun z => gf_as h (z ▸ e.2), gf_tr e.2 h⟩
      rw [if_pos e, if_pos e2]
      exact ⟨by omega, fun h0 h1 => by have := i2 h0 (by have := e.1; omega); omega⟩
    · rw [if_neg e]
      refine ⟨by split <;> omega, fun h0 h1 => ?_⟩
      by_cases e3 : (k : Int) = a
      · have e2 : (k : Int) ≠ b ∧ gf s k b := ⟨fun z => gf_irr s b (by have := h; rw [← e3, z] at this; exact this), by rw [e3]; exact h⟩
        rw [if_pos e2]; omega
      · have := i2 h0 (by omega)
        split <;> omega
theorem rkT_inj {s : Int → Int} {k : Nat} {a b : Int} (a0 : 0 ≤ a) (a1 : a < k) (b0 : 0 ≤ b) (b1 : b < k) (h : rkT s a k = rkT s b k) : a = b := by
  refine Decidable.byContradiction fun hne => ?_
  rcases gf_tot (s := s) hne with g | g
  · have := (rkT_mono g k).2 a0 a1; omega
  · have := (rkT_mono g k).2 b0 b1; omega
/-- each rank is somebody's -/
theorem rkT_ex (s : Int → Int) : ∀ (k : Nat) (i : Int), 0 ≤ i → i < k → ∃ r : Int, 0 ≤ r ∧ r < k ∧ rkT s r k = i
  | 0 => fun i h0 h1 => by omega
  | k + 1 => fun i h0 h1 => by
    have hs : ∀ r : Int, rkT s r (k + 1) = rkT s r k + (if (k : Int) ≠ r ∧ gf s k r then 1 else 0) := fun r => rfl
    have hk : rkT s k (k + 1) = rkT s k k := by rw [hs, if_neg (fun z => z.1 rfl)]; omega
    have hkb := rkT_b s k k
    by_cases c1 : i < rkT s k k
    · obtain ⟨r, r0, r1, r2⟩ := rkT_ex s k i h0 (by omega)
      refine ⟨r, r0, by omega, ?_⟩
      have : ¬ gf s k r := fun z => by have := (rkT_mono z k).1; omega
      rw [hs, if_neg (fun z => this z.2)]; omega
    · by_cases c2 : i = rkT s k k
      · exact ⟨k, by omega, by omega, by rw [hk]; exact c2.symm⟩
      · obtain ⟨r, r0, r1, r2⟩ := rkT_ex s k (i - 1) (by omega) (by omega)
        refine ⟨r, r0, by omega, ?_⟩
        have hne : (k : Int) ≠ r := by omega
        have : gf s k r := by
          rcases gf_tot (s := s) hne with g | g
          · exact g
          · have := (rkT_mono g k).2 r0 r1; omega
        rw [hs, if_pos ⟨hne, this⟩]; omega
theorem ord_spec {s : Int → Int} {i : Int} (h0 : 0 ≤ i) (h1 : i < s 1) : 0 ≤ ord s i ∧ ord s i < s 1 ∧ rank s (ord s i) = i := by
  obtain ⟨r, r0, r1, r2⟩ := rkT_ex s (s 1).toNat i h0 (by omega)
  have := (ordT_in s 0 i (s 1).toNat ⟨r, r0, r1, r2⟩).1
  unfold ord
  exact ⟨this.1, by omega, this.2.2⟩
theorem line_ord {s l0 : Int → Int} {i : Int} (h0 : 0 ≤ i) (h1 : i < s 1) : lineT s l0 (s 1).toNat i = ord s i := by
  obtain ⟨r, r0, r1, r2⟩ := rkT_ex s (s 1).toNat i h0 (by omega)
  rw [lineT_at]
  exact (ordT_in s 0 i (s 1).toNat ⟨r, r0, r1, r2⟩).2 _
theorem ord_of {s : Int → Int} {r : Int} (h0 : 0 ≤ r) (h1 : r < s 1) : ord s (rank s r) = r := by
  have hb := rank_b (by omega) h0 h1
  obtain ⟨a, b, c⟩ := ord_spec hb.1 hb.2
  exact rkT_inj (k := (s 1).toNat) a (by omega) h0 (by omega) c
/-- one goes -/
def gOne (r st : Int) : Nat → (Int → Int) → Int → (Int → Int) × Int
  | 0, s, gone => (s, gone)
  | f + 1, s, gone => if gone < st ∧ opn s (bh (s (61 + 5 * r + 1))) ∧ who s (bh (s (61 + 5 * r + 1))) < 0 then gOne r st f (up s (61 + 5 * r + 1) (bh (s (61 + 5 * r + 1)))) (gone + 1) else (s, gone)
def goOne (s : Int → Int) (r : Int) : Int → Int :=
  up (up (gOne r (stride s r) (stride s r).toNat s 0).1 (61 + 5 * r + 3) ((gOne r (stride s r) (stride s r).toNat s 0).1 (61 + 5 * r + 3) + (gOne r (stride s r) (stride s r).toNat s 0).2)) (61 + 5 * r + 4) ((up (gOne r (stride s r) (stride s r).toNat s 0).1 (61 + 5 * r + 3) ((gOne r (stride s r) (stride s r).toNat s 0).1 (61 + 5 * r + 3) + (gOne r (stride s r) (stride s r).toNat s 0).2)) (61 + 5 * r + 4) + (if (gOne r (stride s r) (stride s r).toNat s 0).2 < stride s r then 1 else 0))
def seaT (s ln : Int → Int) : Nat → Int → Int
  | 0 => s
  | k + 1 => goOne (seaT s ln k) (ln k)
def sea (s : Int → Int) : Int → Int := up (seaT s (ord s) (s 1).toNat) 0 (s 0 + 1)
def seaN (s : Int → Int) : Nat → Int → Int
  | 0 => s
  | k + 1 => sea (seaN s k)
section IM
variable {k : Int} {s : Int → Int}
theorem InvK.cell (h : InvK k s) {r c : Int} (r0 : 0 ≤ r) (r1 : r < s 1) (hc : 0 ≤ c ∧ c ≤ 23) (hw : ∀ q, 0 ≤ q → q < s 1 → s (61 + 5 * q + 1) = c → q = r) : InvK k (up s (61 + 5 * r + 1) c) := by
  have hn := h.num
  have e0 : up s (61 + 5 * r + 1) c 0 = s 0 := up_n (by omega)
  have e1 : up s (61 + 5 * r + 1) c 1 = s 1 := up_n (by omega)
  have e2 : up s (61 + 5 * r + 1) c 2 = s 2 := up_n (by omega)
  have hv := h.vil
  refine ⟨by rw [e0]; exact h.sea, by rw [e1]; exact hn, by rw [e2]; exact h.vil, fun j j0 j1 => by rw [up_n (by omega)]; exact h.wei j j0 j1, fun j j0 j1 => by rw [up_n (by omega), up_n (by omega)]; exact h.pas j j0 j1, fun v v0 v1 => by rw [e2] at v1; rw [up_n (by omega)]; exact h.home v v0 v1, fun q q0 q1 => ?_, fun a b a0 a1 b0 b1 e => ?_⟩
  · rw [e1] at q1
    have hq := h.ran q q0 q1
    rw [e0, up_n (show 61 + 5 * q + 0 ≠ 61 + 5 * r + 1 by omega), up_n (show 61 + 5 * q + 2 ≠ 61 + 5 * r + 1 by omega), up_n (show 61 + 5 * q + 3 ≠ 61 + 5 * r + 1 by omega), up_n (show 61 + 5 * q + 4 ≠ 61 + 5 * r + 1 by omega)]
    refine ⟨hq.1, ?_, hq.2.2⟩
    by_cases eq : q = r
    · rw [eq, up_s]; exact hc
    · rw [up_n (by omega)]; exact hq.2.1
  · rw [e1] at a1 b1
    by_cases ea : a = r
    · by_cases eb : b = r
      · omega
      · rw [ea, up_s, up_n (by omega)] at e
        exact absurd (hw b b0 b1 e.symm) eb
    · by_cases eb : b = r
      · rw [eb, up_s, up_n (by omega)] at e
        exact absurd (hw a a0 a1 e) ea
      · rw [up_n (by omega), up_n (by omega)] at e
        exact h.dis a b a0 a1 b0 b1 e
/-- any number of a range but its cell -/
theorem InvK.oth (h : InvK k s) {k2 r w v : Int} (hk : k ≤ k2) (r0 : 0 ≤ r) (r1 : r < s 1) (hw : w = 0 ∨ w = 2 ∨ w = 3 ∨ w = 4) (h0 : 0 ≤ v) (hv : (w = 0 → v ≤ 5) ∧ (w = 2 → v ≤ 9) ∧ (w = 3 → v ≤ 128 * s 0 + 16 * k2) ∧ (w = 4 → v ≤ 8 * s 0 + k2)) : InvK k2 (up s (61 + 5 * r + w) v) := by
  have hn := h.num
  have hs := h.sea
  have e0 : up s (61 + 5 * r + w) v 0 = s 0 := up_n (by omega)
  have e1 : up s (61 + 5 * r + w) v 1 = s 1 := up_n (by omega)
  have e2 : up s (61 + 5 * r + w) v 2 = s 2 := up_n (by omega)
  have hvi := h.vil
  refine ⟨by rw [e0]; exact h.sea, by rw [e1]; exact hn, by rw [e2]; exact h.vil, fun j j0 j1 => by rw [up_n (by omega)]; exact h.wei j j0 j1, fun j j0 j1 => by rw [up_n (by omega), up_n (by omega)]; exact h.pas j j0 j1, fun v v0 v1 => by rw [e2] at v1; rw [up_n (by omega)]; exact h.home v v0 v1, fun q q0 q1 => ?_, fun a b a0 a1 b0 b1 e => ?_⟩
  · rw [e1] at q1
    have hq := h.ran q q0 q1
    rw [e0, up_n (show 61 + 5 * q + 1 ≠ 61 + 5 * r + w by omega)]
    simp only [up]
    refine ⟨?_, hq.2.1, ?_, ?_, ?_⟩ <;> (split <;> omega)
  · rw [e1] at a1 b1
    rw [up_n (by omega), up_n (by omega)] at e
    exact h.dis a b a0 a1 b0 b1 e
end IM
theorem gOne_inv {k : Int} {r st : Int} (r0 : 0 ≤ r) : ∀ (f : Nat) (s : Int → Int) (gone : Int), InvK k s → r < s 1 → 0 ≤ gone → gone ≤ st → InvK k (gOne r st f s gone).1 ∧ (∀ j, j ≠ 61 + 5 * r + 1 → (gOne r st f s gone).1 j = s j) ∧ gone ≤ (gOne r st f s gone).2 ∧ (gOne r st f s gone).2 ≤ st
  | 0, s, gone, hI, hr, g0, g1 => ⟨hI, fun _ _ => rfl, Int.le_refl _, g1⟩
  | f + 1, s, gone, hI, hr, g0, g1 => by
    simp only [gOne]
    split
    · rename_i hc
      have hq := (hI.ran r r0 hr).2.1
      have hw := (who_neg hI.num.1).mp hc.2.2
      have hI2 := hI.cell r0 hr (bh_b hq) (fun q q0 q1 e => absurd e (hw q q0 q1))
      obtain ⟨a, b, c, d⟩ := gOne_inv (st := st) r0 f _ (gone + 1) hI2 (by rw [up_n (by omega)]; exact hr) (by omega) (by omega)
      exact ⟨a, fun j hj => by rw [b j hj, up_n hj], by omega, d⟩
    · exact ⟨hI, fun _ _ => rfl, Int.le_refl _, g1⟩
theorem goOne_inv {k : Int} {s : Int → Int} {r : Int} (hI : InvK k s) (hk : 0 ≤ k ∧ k < 8) (r0 : 0 ≤ r) (r1 : r < s 1) : InvK (k + 1) (goOne s r) ∧ (∀ j, j < 61 → goOne s r j = s j) ∧ (∀ q, 0 ≤ q → q < s 1 → goOne s r (61 + 5 * q + 0) = s (61 + 5 * q + 0) ∧ goOne s r (61 + 5 * q + 2) = s (61 + 5 * q + 2)) := by
  have hb := stride_b (hI.mono (show k ≤ 8 by omega)) r0 r1
  obtain ⟨a, b, c, d⟩ := gOne_inv (k := k) (st := stride s r) r0 (stride s r).toNat s 0 hI r1 (by omega) (by omega)
  unfold goOne
  generalize (gOne r (stride s r) (stride s r).toNat s 0) = q at a b c d
  have hq1 : q.1 1 = s 1 := b 1 (by omega)
  have hq0 : q.1 0 = s 0 := b 0 (by omega)
  have hr := a.ran r r0 (by omega)
  have hr2 := hI.ran r r0 r1
  have i1 := a.oth (k2 := k + 1) (r := r) (w := 3) (v := q.1 (61 + 5 * r + 3) + q.2) (by omega) r0 (by omega) (by omega) (by omega) ⟨by omega, by omega, by omega, by omega⟩
  have e4 : (up q.1 (61 + 5 * r + 3) (q.1 (61 + 5 * r + 3) + q.2)) (61 + 5 * r + 4) = q.1 (61 + 5 * r + 4) := up_n (by omega)
  have e0 : (up q.1 (61 + 5 * r + 3) (q.1 (61 + 5 * r + 3) + q.2)) 0 = q.1 0 := up_n (by omega)
  have e1 : (up q.1 (61 + 5 * r + 3) (q.1 (61 + 5 * r + 3) + q.2)) 1 = q.1 1 := up_n (by omega)
  rw [e4]
  refine ⟨i1.oth (k2 := k + 1) (r := r) (w := 4) (by omega) r0 (by omega) (by omega) (by split <;> omega) ⟨by omega, by omega, by omega, fun _ => by split <;> omega⟩, fun j hj => ?_, fun z z0 z1 => ⟨?_, ?_⟩⟩
  · rw [up_n (by omega), up_n (by omega)]; exact b j (by omega)
  · rw [up_n (by omega), up_n (by omega)]; exact b _ (by omega)
  · rw [up_n (by omega), up_n (by omega)]; exact b _ (by omega)
theorem seaT_inv {s ln : Int → Int} (hI : InvK 0 s) (hl : ∀ i, 0 ≤ i → i < s 1 → 0 ≤ ln i ∧ ln i < s 1) : ∀ k : Nat, (k : Int) ≤ s 1 → InvK k (seaT s ln k) ∧ (∀ j, j < 61 → seaT s ln k j = s j) ∧ (∀ q, 0 ≤ q → q < s 1 → seaT s ln k (61 + 5 * q + 0) = s (61 + 5 * q + 0) ∧ seaT s ln k (61 + 5 * q + 2) = s (61 + 5 * q + 2))
  | 0 => fun _ => ⟨hI, fun _ _ => rfl, fun _ _ _ => ⟨rfl, rfl⟩⟩
  | k + 1 => fun h => by
    obtain ⟨a, b, c⟩ := seaT_inv hI hl k (by omega)
    have hk := hl k (by omega) (by omega)
    have hn := hI.num
    have h1 : seaT s ln k 1 = s 1 := b 1 (by omega)
    obtain ⟨a2, b2, c2⟩ := goOne_inv a ⟨by omega, by omega⟩ hk.1 (by omega)
    simp only [seaT]
    exact ⟨a2, fun j hj => by rw [b2 j hj, b j hj], fun q q0 q1 => ⟨by rw [(c2 q q0 (by omega)).1, (c q q0 q1).1], by rw [(c2 q q0 (by omega)).2, (c q q0 q1).2]⟩⟩
theorem sea_inv {s : Int → Int} (hI : InvK 0 s) (hs : s 0 < 20000) : InvK 0 (sea s) ∧ sea s 0 = s 0 + 1 ∧ (∀ j, 0 < j → j < 61 → sea s j = s j) ∧ (∀ q, 0 ≤ q → q < s 1 → sea s (61 + 5 * q + 0) = s (61 + 5 * q + 0) ∧ sea s (61 + 5 * q + 2) = s (61 + 5 * q + 2)) := by
  have hn := hI.num
  have h0 := hI.sea
  obtain ⟨a, b, c⟩ := seaT_inv hI (fun i i0 i1 => ⟨(ord_spec i0 i1).1, (ord_spec i0 i1).2.1⟩) (s 1).toNat (by omega)
  unfold sea
  generalize (seaT s (ord s) (s 1).toNat) = q at a b c
  have q0 : q 0 = s 0 := b 0 (by omega)
  have q1 : q 1 = s 1 := b 1 (by omega)
  have q2 : q 2 = s 2 := b 2 (by omega)
  refine ⟨⟨by rw [up_s]; omega, by rw [up_n (by omega)]; exact a.num, by rw [up_n (by omega)]; exact a.vil, fun j j0 j1 => by rw [up_n (by omega)]; exact a.wei j j0 j1, fun j j0 j1 => by rw [up_n (by omega), up_n (by omega)]; exact a.pas j j0 j1, fun v v0 v1 => by rw [up_n (by omega)] at v1; rw [up_n (by omega)]; exact a.home v v0 v1, fun r r0 r1 => ?_, fun x y x0 x1 y0 y1 e => ?_⟩, up_s _ _ _, fun j j0 j1 => by rw [up_n (by omega)]; exact b j j1, fun z z0 z1 => ⟨by rw [up_n (by omega)]; exact (c z z0 z1).1, by rw [up_n (by omega)]; exact (c z z0 z1).2⟩⟩
  · rw [up_n (by omega)] at r1
    have hr := a.ran r r0 r1
    rw [up_s, up_n (by omega), up_n (by omega), up_n (by omega), up_n (by omega), up_n (by omega)]
    omega
  · rw [up_n (by omega)] at x1 y1
    rw [up_n (by omega), up_n (by omega)] at e
    exact a.dis x y x0 x1 y0 y1 e
theorem seaN_inv {s : Int → Int} (hI : InvK 0 s) : ∀ k : Nat, s 0 + k ≤ 20000 → InvK 0 (seaN s k) ∧ seaN s k 0 = s 0 + k ∧ (∀ j, 0 < j → j < 61 → seaN s k j = s j)
  | 0 => fun _ => ⟨hI, by simp [seaN], fun _ _ _ => rfl⟩
  | k + 1 => fun h => by
    obtain ⟨a, b, c⟩ := seaN_inv hI k (by omega)
    obtain ⟨a2, b2, c2, -⟩ := sea_inv a (by omega)
    simp only [seaN]
    exact ⟨a2, by rw [b2, b]; omega, fun j j0 j1 => by rw [c2 j j0 j1, c j j0 j1]⟩
theorem seaN_1 (s : Int → Int) : ∀ k : Nat, seaN (sea s) k = seaN s (k + 1)
  | 0 => rfl
  | k + 1 => by
    show sea (seaN (sea s) k) = sea (seaN s (k + 1))
    rw [seaN_1 s k]

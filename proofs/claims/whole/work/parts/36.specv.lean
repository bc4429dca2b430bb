theorem InvK.add {k : Int} {s : Int → Int} (h : InvK k s) {kd c : Int} (h8 : s 1 < 8) (hk : 0 ≤ kd ∧ kd ≤ 5) (hc : 0 ≤ c ∧ c ≤ 23) (hw : who s c < 0) (k0 : 0 ≤ k) {hs : Int} (hh : 0 ≤ hs ∧ hs ≤ 9) : InvK k (addR s kd c hs) := by
  have hn := h.num
  have hv := h.vil
  have hse := h.sea
  have e1 : addR s kd c hs 1 = s 1 + 1 := up_s _ _ _
  have o : ∀ j, j ≠ 1 → j < 61 → addR s kd c hs j = s j := fun j a b => by unfold addR; rw [up_n a, up_n (by omega), up_n (by omega), up_n (by omega), up_n (by omega), up_n (by omega)]
  have old : ∀ q w, 0 ≤ q → q < s 1 → 0 ≤ w → w < 5 → addR s kd c hs (61 + 5 * q + w) = s (61 + 5 * q + w) := fun q w q0 q1 w0 w1 => by unfold addR; rw [up_n (by omega), up_n (by omega), up_n (by omega), up_n (by omega), up_n (by omega), up_n (by omega)]
  have n0 : addR s kd c hs (61 + 5 * s 1 + 0) = kd := by unfold addR; rw [up_n (by omega), up_n (by omega), up_n (by omega), up_n (by omega), up_n (by omega), up_s]
  have n1 : addR s kd c hs (61 + 5 * s 1 + 1) = c := by unfold addR; rw [up_n (by omega), up_n (by omega), up_n (by omega), up_n (by omega), up_s]
  have n2 : addR s kd c hs (61 + 5 * s 1 + 2) = hs := by unfold addR; rw [up_n (by omega), up_n (by omega), up_n (by omega), up_s]
  have n3 : addR s kd c hs (61 + 5 * s 1 + 3) = 0 := by unfold addR; rw [up_n (by omega), up_n (by omega), up_s]
  have n4 : addR s kd c hs (61 + 5 * s 1 + 4) = 0 := by unfold addR; rw [up_n (by omega), up_s]
  have hfree := (who_neg hn.1).mp hw
  refine ⟨by rw [o 0 (by omega) (by omega)]; exact h.sea, by rw [e1]; omega, by rw [o 2 (by omega) (by omega)]; exact h.vil, fun j j0 j1 => by rw [o _ (by omega) (by omega)]; exact h.wei j j0 j1, fun j j0 j1 => by rw [o _ (by omega) (by omega), o _ (by omega) (by omega)]; exact h.pas j j0 j1, fun v v0 v1 => by rw [o 2 (by omega) (by omega)] at v1; rw [o _ (by omega) (by omega)]; exact h.home v v0 v1, fun q q0 q1 => ?_, fun a b a0 a1 b0 b1 e => ?_⟩
  · rw [e1] at q1
    rw [o 0 (by omega) (by omega)]
    by_cases cq : q = s 1
    · rw [cq, n0, n1, n2, n3, n4]
      refine ⟨hk, hc, hh, ?_, ?_⟩ <;> omega
    · rw [old q 0 q0 (by omega) (by omega) (by omega), old q 1 q0 (by omega) (by omega) (by omega), old q 2 q0 (by omega) (by omega) (by omega), old q 3 q0 (by omega) (by omega) (by omega), old q 4 q0 (by omega) (by omega) (by omega)]
      exact h.ran q q0 (by omega)
  · rw [e1] at a1 b1
    by_cases ca : a = s 1
    · by_cases cb : b = s 1
      · omega
      · rw [ca, n1, old b 1 b0 (by omega) (by omega) (by omega)] at e
        exact absurd e.symm (hfree b b0 (by omega))
    · by_cases cb : b = s 1
      · rw [cb, n1, old a 1 a0 (by omega) (by omega) (by omega)] at e
        exact absurd e (hfree a a0 (by omega))
      · rw [old a 1 a0 (by omega) (by omega) (by omega), old b 1 b0 (by omega) (by omega) (by omega)] at e
        exact h.dis a b a0 (by omega) b0 (by omega) e
theorem addR_h {s : Int → Int} {k c h : Int} : up (addR s k c 0) (61 + 5 * s 1 + 2) h = up (addR s k c 0) (61 + 5 * s 1 + 2) h := rfl
theorem InvK.addh {k : Int} {s : Int → Int} (h : InvK k s) {kd c hs : Int} (h8 : s 1 < 8) (hk : 0 ≤ kd ∧ kd ≤ 5) (hc : 0 ≤ c ∧ c ≤ 23) (hw : who s c < 0) (k0 : 0 ≤ k) (hh : 0 ≤ hs ∧ hs ≤ 9) : InvK k (up (addR s kd c 0) (61 + 5 * s 1 + 2) hs) := by
  have hn := h.num
  have e1 : addR s kd c 0 1 = s 1 + 1 := up_s _ _ _
  exact (h.add h8 hk hc hw k0 (hs := 0) ⟨by omega, by omega⟩).oth (k2 := k) (r := s 1) (w := 2) (v := hs) (by omega) (by omega) (by omega) (by omega) (by omega) ⟨by omega, by omega, by omega, by omega⟩
theorem InvK.pass {k : Int} {s : Int → Int} (h : InvK k s) {c p o : Int} (hc : 0 ≤ c ∧ c < 24) (hp : 0 ≤ p ∧ p ≤ 9) (ho : 0 ≤ o ∧ o ≤ 9) : InvK k (up (up s (7 + c) p) (31 + c) o) := by
  have hn := h.num
  have hv := h.vil
  have e : ∀ j, j ≠ 7 + c → j ≠ 31 + c → up (up s (7 + c) p) (31 + c) o j = s j := fun j a b => by rw [up_n b, up_n a]
  refine ⟨by rw [e 0 (by omega) (by omega)]; exact h.sea, by rw [e 1 (by omega) (by omega)]; exact hn, by rw [e 2 (by omega) (by omega)]; exact h.vil, fun j j0 j1 => by rw [e _ (by omega) (by omega)]; exact h.wei j j0 j1, fun j j0 j1 => ?_, fun v v0 v1 => by rw [e 2 (by omega) (by omega)] at v1; rw [e _ (by omega) (by omega)]; exact h.home v v0 v1, fun q q0 q1 => ?_, fun a b a0 a1 b0 b1 z => ?_⟩
  · have := h.pas j j0 j1
    by_cases ej : j = c
    · subst ej
      rw [up_s, up_n (by omega), up_s]
      omega
    · rw [e _ (by omega) (by omega), e _ (by omega) (by omega)]
      exact this
  · rw [e 1 (by omega) (by omega)] at q1
    rw [e 0 (by omega) (by omega), e _ (by omega) (by omega), e _ (by omega) (by omega), e _ (by omega) (by omega), e _ (by omega) (by omega), e _ (by omega) (by omega)]
    exact h.ran q q0 q1
  · rw [e 1 (by omega) (by omega)] at a1 b1
    rw [e _ (by omega) (by omega), e _ (by omega) (by omega)] at z
    exact h.dis a b a0 a1 b0 b1 z
theorem InvK.vill {k : Int} {s : Int → Int} (h : InvK k s) {c : Int} (hc : 0 ≤ c ∧ c ≤ 23) (h6 : s 2 < 6) : InvK k (nVil s c) := by
  have hn := h.num
  have hv := h.vil
  have e : ∀ j, j ≠ 2 → j ≠ 55 + s 2 → nVil s c j = s j := fun j a b => by unfold nVil; rw [up_n a, up_n b]
  have e2 : nVil s c 2 = s 2 + 1 := up_s _ _ _
  refine ⟨by rw [e 0 (by omega) (by omega)]; exact h.sea, by rw [e 1 (by omega) (by omega)]; exact hn, by rw [e2]; omega, fun j j0 j1 => by rw [e _ (by omega) (by omega)]; exact h.wei j j0 j1, fun j j0 j1 => by rw [e _ (by omega) (by omega), e _ (by omega) (by omega)]; exact h.pas j j0 j1, fun v v0 v1 => ?_, fun q q0 q1 => ?_, fun a b a0 a1 b0 b1 z => ?_⟩
  · rw [e2] at v1
    by_cases ev : v = s 2
    · subst ev
      unfold nVil
      rw [up_n (by omega), up_s]
      exact hc
    · rw [e _ (by omega) (by omega)]; exact h.home v v0 (by omega)
  · rw [e 1 (by omega) (by omega)] at q1
    rw [e 0 (by omega) (by omega), e _ (by omega) (by omega), e _ (by omega) (by omega), e _ (by omega) (by omega), e _ (by omega) (by omega), e _ (by omega) (by omega)]
    exact h.ran q q0 q1
  · rw [e 1 (by omega) (by omega)] at a1 b1
    rw [e _ (by omega) (by omega), e _ (by omega) (by omega)] at z
    exact h.dis a b a0 a1 b0 b1 z
/-- what an item leaves: the reading in order, the land in order, from not before where it began -/
def IQ (b : Int → Int) (t : Int) (q : Q4) (r : Q4 × (Int → Int)) : Prop := QI b t r.1 ∧ InvK 0 r.2 ∧ q.2.1 ≤ r.1.2.1
theorem wantQ_g {b : Int → Int} {t : Int} {q r : Q4} {x : Int} (hq : QI b t q) (h : r = wantQ b t q x) : q.2.1 ≤ r.2.1 ∧ q.2.2.1 ≤ r.2.2.1 := by rw [h]; exact wantQ_ge hq x
theorem kdQ_b (w : Int) : -1 ≤ kdQ w ∧ kdQ w ≤ 5 := by
  unfold kdQ
  split
  · omega
  · split
    · omega
    · split
      · omega
      · split
        · omega
        · split
          · omega
          · split <;> omega
theorem pass_iq {b : Int → Int} {t : Int} {s : Int → Int} {q : Q4} (hq : QI b t q) (hI : InvK 0 s) : IQ b t q (passQ b t s q) := by
  unfold passQ paA paB paC
  obtain ⟨q1, e1⟩ : ∃ z, z = wantQ b t q 1 := ⟨_, rfl⟩
  rw [← e1]
  obtain ⟨q2, e2⟩ : ∃ z, z = numQ b t q1 0 23 := ⟨_, rfl⟩
  rw [← e2]
  obtain ⟨q3, e3⟩ : ∃ z, z = numQ b t q2 2 9 := ⟨_, rfl⟩
  rw [← e3]
  obtain ⟨q4, e4⟩ : ∃ z, z = numQ b t q3 0 q3.2.2.2 := ⟨_, rfl⟩
  rw [← e4]
  have i1 : QI b t q1 := by rw [e1]; exact wantQ_inv hq 1
  have i2 : QI b t q2 := by rw [e2]; exact numQ_inv i1 _ _
  have i3 : QI b t q3 := by rw [e3]; exact numQ_inv i2 _ _
  have i4 : QI b t q4 := by rw [e4]; exact numQ_inv i3 _ _
  have g1 := wantQ_g hq e1
  have g2 := numQ_g i1 e2
  have g3 := numQ_g i2 e3
  have g4 := numQ_g i3 e4
  have d2 := numQ_d i1 e2
  have d3 := numQ_d i2 e3
  have d4 := numQ_d i3 e4
  refine ⟨i4, ?_, by dsimp only; omega⟩
  dsimp only
  split
  · exact hI.pass (by omega) (by omega) (by split <;> omega)
  · exact hI
theorem free_iq {b : Int → Int} {t : Int} {s : Int → Int} {q : Q4} (hq : QI b t q) (hI : InvK 0 s) : IQ b t q (freeQ b t s q) := by
  unfold freeQ frA
  obtain ⟨q1, e1⟩ : ∃ z, z = wantQ b t q 1 := ⟨_, rfl⟩
  rw [← e1]
  obtain ⟨q2, e2⟩ : ∃ z, z = numQ b t q1 0 23 := ⟨_, rfl⟩
  rw [← e2]
  have i1 : QI b t q1 := by rw [e1]; exact wantQ_inv hq 1
  have i2 : QI b t q2 := by rw [e2]; exact numQ_inv i1 _ _
  have g1 := wantQ_g hq e1
  have g2 := numQ_g i1 e2
  have d2 := numQ_d i1 e2
  refine ⟨i2, ?_, by dsimp only; omega⟩
  dsimp only
  split
  · exact hI.pass (by omega) (by omega) (by split <;> omega)
  · exact hI
theorem vill_iq {b : Int → Int} {t : Int} {s : Int → Int} {q : Q4} (hq : QI b t q) (hI : InvK 0 s) : IQ b t q (villQ b t s q) := by
  unfold villQ viA
  obtain ⟨x, ex⟩ : ∃ z : Int, z = (if s 2 < 6 then 1 else 0) := ⟨_, rfl⟩
  rw [← ex]
  obtain ⟨q1, e1⟩ : ∃ z, z = wantQ b t q x := ⟨_, rfl⟩
  rw [← e1]
  obtain ⟨q2, e2⟩ : ∃ z, z = numQ b t q1 0 23 := ⟨_, rfl⟩
  rw [← e2]
  have i1 : QI b t q1 := by rw [e1]; exact wantQ_inv hq x
  have i2 : QI b t q2 := by rw [e2]; exact numQ_inv i1 _ _
  have g1 := wantQ_g hq e1
  have g2 := numQ_g i1 e2
  have d1 := wantQ_d hq e1
  have d2 := numQ_d i1 e2
  refine ⟨i2, ?_, by dsimp only; omega⟩
  dsimp only
  split
  · exact hI.vill (by omega) (by split at ex <;> omega)
  · exact hI
theorem ord_iq {b : Int → Int} {t : Int} {s : Int → Int} {q : Q4} (hq : QI b t q) (hI : InvK 0 s) : IQ b t q (ordQ b t s q) := by
  unfold ordQ orA orB
  obtain ⟨q1, e1⟩ : ∃ z, z = numQ b t q 0 3 := ⟨_, rfl⟩
  rw [← e1]
  have i1 : QI b t q1 := by rw [e1]; exact numQ_inv hq _ _
  have g1 := numQ_g hq e1
  have d1 := numQ_d hq e1
  split
  · obtain ⟨q2, e2⟩ : ∃ z, z = wantQ b t q1 1 := ⟨_, rfl⟩
    rw [← e2]
    obtain ⟨q3, e3⟩ : ∃ z, z = numQ b t q2 0 9 := ⟨_, rfl⟩
    rw [← e3]
    have i2 : QI b t q2 := by rw [e2]; exact wantQ_inv i1 1
    have i3 : QI b t q3 := by rw [e3]; exact numQ_inv i2 _ _
    have g2 := wantQ_g i1 e2
    have g3 := numQ_g i2 e3
    have d2 := wantQ_d i1 e2
    have d3 := numQ_d i2 e3
    refine ⟨i3, ?_, by dsimp only; omega⟩
    dsimp only
    split
    · exact hI.wgt (by omega) (by omega) (by split <;> omega)
    · exact hI
  · obtain ⟨q3, e3⟩ : ∃ z, z = numQ b t q1 0 9 := ⟨_, rfl⟩
    rw [← e3]
    have i3 : QI b t q3 := by rw [e3]; exact numQ_inv i1 _ _
    have g3 := numQ_g i1 e3
    have d3 := numQ_d i1 e3
    refine ⟨i3, ?_, by dsimp only; omega⟩
    dsimp only
    split
    · exact hI.wgt (by omega) (by omega) (by split <;> omega)
    · exact hI
theorem rgE_iq {b : Int → Int} {t : Int} {s : Int → Int} {k c : Int} {q : Q4} (hq : QI b t q) (hI : InvK 0 s) (h : q.1 = 0 → s 1 < 8 ∧ (0 ≤ k ∧ k ≤ 5) ∧ (0 ≤ c ∧ c ≤ 23) ∧ who s c < 0) : IQ b t q (rgE b t s k c q) := by
  unfold rgE rgF
  split
  · obtain ⟨q2, e2⟩ : ∃ z, z = wantQ b t q 1 := ⟨_, rfl⟩
    rw [← e2]
    obtain ⟨q3, e3⟩ : ∃ z, z = numQ b t q2 0 9 := ⟨_, rfl⟩
    rw [← e3]
    have i2 : QI b t q2 := by rw [e2]; exact wantQ_inv hq 1
    have i3 : QI b t q3 := by rw [e3]; exact numQ_inv i2 _ _
    have g2 := wantQ_g hq e2
    have g3 := numQ_g i2 e3
    have d2 := wantQ_d hq e2
    have d3 := numQ_d i2 e3
    refine ⟨i3, ?_, by dsimp only; omega⟩
    dsimp only
    split
    · have h9 := h (by omega)
      exact hI.addh h9.1 h9.2.1 h9.2.2.1 h9.2.2.2 (by omega) (by omega)
    · exact hI
  · refine ⟨hq, ?_, Int.le_refl _⟩
    dsimp only
    split
    · rename_i h0
      have h9 := h h0
      exact hI.addh h9.1 h9.2.1 h9.2.2.1 h9.2.2.2 (by omega) ⟨by omega, by omega⟩
    · exact hI
theorem range_iq {b : Int → Int} {t : Int} {s : Int → Int} {k : Int} {q : Q4} (hq : QI b t q) (hI : InvK 0 s) (hk : 0 ≤ k ∧ k ≤ 5) : IQ b t q (rangeQ b t s k q) := by
  unfold rangeQ rgB rgC rgD
  obtain ⟨x, ex⟩ : ∃ z : Int, z = (if s 1 < 8 then 1 else 0) := ⟨_, rfl⟩
  rw [← ex]
  obtain ⟨q1, e1⟩ : ∃ z, z = wantQ b t q x := ⟨_, rfl⟩
  rw [← e1]
  obtain ⟨y, ey⟩ : ∃ z : Int, z = (if wdQ b t q1 = 52 then 1 else 0) := ⟨_, rfl⟩
  rw [← ey]
  obtain ⟨q2, e2⟩ : ∃ z, z = wantQ b t q1 y := ⟨_, rfl⟩
  rw [← e2]
  obtain ⟨q3, e3⟩ : ∃ z, z = numQ b t q2 0 23 := ⟨_, rfl⟩
  rw [← e3]
  have i1 : QI b t q1 := by rw [e1]; exact wantQ_inv hq x
  have i2 : QI b t q2 := by rw [e2]; exact wantQ_inv i1 y
  have i3 : QI b t q3 := by rw [e3]; exact numQ_inv i2 _ _
  have g1 := wantQ_g hq e1
  have g2 := wantQ_g i1 e2
  have g3 := numQ_g i2 e3
  have d1 := wantQ_d hq e1
  have d2 := wantQ_d i1 e2
  have d3 := numQ_d i2 e3
  have b2 := i2.2.1
  have b3 := i3.2.1
  have hx : x = 1 ∧ s 1 < 8 ∨ x = 0 := by split at ex <;> omega
  split
  · have i4 : QI b t (1, q2.2.1, q3.2.2.1, q3.2.2.2) := ⟨Or.inr rfl, ⟨by dsimp only; omega, by dsimp only; omega, by dsimp only; omega⟩, Or.inl rfl, i3.2.2.2⟩
    obtain ⟨a1, a2, a3⟩ := rgE_iq (k := k) (c := q3.2.2.2) i4 hI (fun z => by dsimp only at z; omega)
    exact ⟨a1, a2, by dsimp only at a3; omega⟩
  · rename_i hc
    obtain ⟨a1, a2, a3⟩ := rgE_iq (k := k) (c := q3.2.2.2) i3 hI (fun z => ⟨by omega, hk, by omega, by omega⟩)
    exact ⟨a1, a2, by omega⟩
theorem item_iq {b : Int → Int} {t : Int} {s : Int → Int} {q : Q4} (hq : QI b t q) (hI : InvK 0 s) : IQ b t q (itemQ b t s q) := by
  unfold itemQ
  split
  · exact range_iq hq hI ⟨by assumption, (kdQ_b _).2⟩
  · split
    · exact pass_iq hq hI
    · split
      · exact free_iq hq hI
      · split
        · exact vill_iq hq hI
        · obtain ⟨y, ey⟩ : ∃ z : Int, z = (if wdQ b t q = 16322738 then 1 else 0) := ⟨_, rfl⟩
          rw [← ey]
          obtain ⟨q1, e1⟩ : ∃ z, z = wantQ b t q y := ⟨_, rfl⟩
          rw [← e1]
          have i1 : QI b t q1 := by rw [e1]; exact wantQ_inv hq y
          have g1 := wantQ_g hq e1
          unfold itO
          split
          · obtain ⟨a1, a2, a3⟩ := ord_iq i1 hI
            exact ⟨a1, a2, by omega⟩
          · exact ⟨i1, hI, g1.1⟩
theorem tkE_gt {b : Int → Int} {t k : Int} (h0 : 0 ≤ k) (h1 : k < t) : k + 1 ≤ tkE b t k := by
  unfold tkE
  rw [if_pos h1]
  split
  · exact (rnT_b (b := b) (t := t) (p := isL) rfl 121 (k + 1) (by omega) (by omega)).1
  · split
    · exact (rnT_b (b := b) (t := t) (p := isD) rfl 121 (k + 1) (by omega) (by omega)).1
    · omega
/-- items, one behind the other -/
def lnT (b : Int → Int) (t : Int) : Nat → Q4 × (Int → Int) → Int → (Q4 × (Int → Int)) × Int
  | 0, r, n => (r, n)
  | f + 1, r, n => if r.1.1 = 0 ∧ bAt b t r.1.2.1 = 59 then lnT b t f (itemQ b t r.2 (wantQ b t r.1 1)) (n + 1) else (r, n)
def landR (b : Int → Int) (t : Int) (s : Int → Int) (v : Int) : (Q4 × (Int → Int)) × Int := lnT b t 121 (itemQ b t s (0, tkF b t 0, tkE b t (tkF b t 0), v)) 1
abbrev landW (b : Int → Int) (t : Int) (s : Int → Int) (v : Int) : Prop := (landR b t s v).1.1.1 = 1 ∨ (landR b t s v).1.1.2.1 < t
def aLand (b : Int → Int) (t : Int) (s : Int → Int) (v : Int) : Int := if landW b t s v then -1 - (landR b t s v).1.1.2.1 else (landR b t s v).2
def nLand (b : Int → Int) (t : Int) (s : Int → Int) (v : Int) : Int → Int := if landW b t s v then s else (landR b t s v).1.2
theorem QI_0 {b : Int → Int} {t v : Int} (ht : 0 ≤ t) (hv : 0 ≤ v ∧ v ≤ 10000) : QI b t (0, tkF b t 0, tkE b t (tkF b t 0), v) := by
  have a := tkF_b (b := b) (t := t) (k := 0) (by omega) ht
  have c := tkE_b (b := b) (t := t) (k := tkF b t 0) (by omega) (by omega)
  exact ⟨Or.inl rfl, ⟨by dsimp only; omega, by dsimp only; omega, by dsimp only; omega⟩, Or.inr rfl, hv⟩
theorem want_adv {b : Int → Int} {t : Int} {q r : Q4} (hq : QI b t q) (h0 : q.1 = 0) (h1 : q.2.1 < t) (h : r = wantQ b t q 1) : q.2.1 + 1 ≤ r.2.1 := by
  obtain ⟨w, fr, to1, v⟩ := q
  obtain ⟨g1, g2, g3, g4⟩ := hq
  dsimp only at g1 g2 g3 g4 h0 h1
  have e : to1 = tkE b t fr := g3.resolve_left (by omega)
  have c := tkE_gt (b := b) (t := t) (k := fr) (by omega) h1
  have a := tkF_b (b := b) (t := t) (k := to1) (by omega) (by omega)
  rw [h]
  unfold wantQ
  rw [if_neg (by dsimp only; omega)]
  dsimp only
  omega
theorem lnT_go {b : Int → Int} {t : Int} {m : Nat} {q q1 q2 : Q4} {s s2 : Int → Int} {n : Int} (hm : 0 < m) (h0 : q.1 = 0) (h59 : bAt b t q.2.1 = 59) (e1 : q1 = wantQ b t q 1) (e2 : (q2, s2) = itemQ b t s q1) : lnT b t (m - 1) (q2, s2) (n + 1) = lnT b t m (q, s) n := by
  obtain ⟨m9, rfl⟩ : ∃ z, m = z + 1 := ⟨m - 1, by omega⟩
  show lnT b t m9 _ _ = _
  simp only [lnT]
  rw [if_pos ⟨h0, h59⟩, ← e1, ← e2]
theorem lnT_end {b : Int → Int} {t : Int} {q : Q4} {s : Int → Int} {n : Int} (h : ¬ (q.1 = 0 ∧ bAt b t q.2.1 = 59)) : ∀ m, lnT b t m (q, s) n = ((q, s), n)
  | 0 => rfl
  | m + 1 => by simp only [lnT]; rw [if_neg h]

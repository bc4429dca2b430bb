/-- how many stand, counted one by one -/
def cdT (s : Int → Int) : Nat → Int
  | 0 => 0
  | k + 1 => cdT s k + (if seaN s 80 (61 + 5 * (k : Int) + 3) = s (61 + 5 * (k : Int) + 3) then 1 else 0)
theorem pop_or : ∀ (k : Fin 256) (r : Fin 8), k.val < 2 ^ r.val → popN (k.val ||| 2 ^ r.val) = popN k.val + 1 ∧ (k.val ||| 2 ^ r.val) < 2 ^ (r.val + 1) := by decide +kernel
theorem pow_le : ∀ r : Fin 9, 2 ^ r.val ≤ 256 ∧ 2 ^ r.val ≤ 2 ^ (r.val + 1) := by decide
theorem cd_pop (s : Int → Int) : ∀ k : Nat, k ≤ 8 → ∃ x : Nat, x < 2 ^ k ∧ orT (sdT s) k = iI (x : Int) ∧ (popN x : Int) = cdT s k
  | 0 => fun _ => ⟨0, by decide, rfl, rfl⟩
  | k + 1 => fun h => by
    obtain ⟨x, hx, e1, e2⟩ := cd_pop s k (by omega)
    have hp := pow_le ⟨k, by omega⟩
    dsimp only at hp
    simp only [orT, cdT, sdT]
    by_cases c : seaN s 80 (61 + 5 * (k : Int) + 3) = s (61 + 5 * (k : Int) + 3)
    · rw [if_pos c, if_pos c, e1]
      have h1 := bit_or ⟨x, by omega⟩ ⟨k, by omega⟩
      have h2 := pop_or ⟨x, by omega⟩ ⟨k, by omega⟩ hx
      dsimp only at h1 h2
      exact ⟨_, h2.2, h1.1, by omega⟩
    · rw [if_neg c, if_neg c, e1, or_0]
      exact ⟨x, by omega, rfl, by omega⟩
theorem cnt_cd {s : Int → Int} (hn : 0 ≤ s 1 ∧ s 1 ≤ 8) : cntS s = cdT s (s 1).toNat := by
  obtain ⟨x, hx, e1, e2⟩ := cd_pop s (s 1).toNat (by omega)
  have hp := pow_le ⟨(s 1).toNat, by omega⟩
  dsimp only at hp
  unfold cntS stdS
  rw [e1, onesN_of (by omega), e2]
theorem cdT_b (s : Int → Int) : ∀ k : Nat, 0 ≤ cdT s k ∧ cdT s k ≤ (k : Int)
  | 0 => ⟨by simp [cdT], by simp [cdT]⟩
  | k + 1 => by
    have := cdT_b s k
    simp only [cdT]
    split <;> omega
theorem nLev_1 (s : Int → Int) (r : Int) : nLev s r 1 = s 1 - 1 := up_s _ _ _
theorem nLev_0 {s : Int → Int} {r : Int} (h : 0 ≤ r) : nLev s r 0 = s 0 := by unfold nLev; rw [up_n (by omega)]; exact lvT_o (by omega)
theorem nLev_lo {s : Int → Int} {r q w : Int} (h0 : 0 ≤ q) (h : q < r) (w0 : 0 ≤ w) (w1 : w < 5) : nLev s r (61 + 5 * q + w) = s (61 + 5 * q + w) := by unfold nLev; rw [up_n (by omega)]; exact lvT_o (by omega)
theorem nLev_hi {s : Int → Int} {r q w : Int} (r0 : 0 ≤ r) (h : r ≤ q) (h1 : q < s 1 - 1) (w0 : 0 ≤ w) (w1 : w < 5) : nLev s r (61 + 5 * q + w) = s (61 + 5 * (q + 1) + w) := by
  unfold nLev
  rw [up_n (by omega)]
  simp only [lvT]
  rw [if_pos (by omega), show 61 + 5 * q + w + 5 = 61 + 5 * (q + 1) + w by omega]
theorem bmT_ge {v key : Nat → Int} : ∀ k j, j < k → v j ≤ (bmT v key k).2
  | 0, j, h => by omega
  | k + 1, j, h => by
    simp only [bmT]
    by_cases e : j = k
    · subst e
      split
      · exact Int.le_refl _
      · omega
    · have := bmT_ge (v := v) (key := key) k j (by omega)
      split
      · dsimp only; omega
      · exact this
/-- the best so far, or what it was at first -/
def bmI (v key : Nat → Int) (d : Int) (k : Nat) : Int := if (bmT v key k).2 < 0 then d else (bmT v key k).1
theorem bmI_0 (v key : Nat → Int) (d : Int) : d = bmI v key d 0 := by unfold bmI; rw [if_pos (by simp [bmT])]
theorem bmI_t {v key : Nat → Int} {d : Int} {k : Nat} (h : (bmT v key k).2 < v k) (h0 : 0 ≤ v k) : key k = bmI v key d (k + 1) := by
  have e : bmT v key (k + 1) = (key k, v k) := by simp only [bmT]; rw [if_pos h]
  unfold bmI
  rw [e]
  dsimp only
  rw [if_neg (by omega)]
theorem bmI_f {v key : Nat → Int} {d : Int} {k : Nat} (h : ¬ (bmT v key k).2 < v k) : bmI v key d k = bmI v key d (k + 1) := by
  have e : bmT v key (k + 1) = bmT v key k := by simp only [bmT]; rw [if_neg h]
  unfold bmI
  rw [e]
theorem bmI_e {v key : Nat → Int} {d : Int} {k j : Nat} (hj : j < k) (h : 0 ≤ v j) : bmI v key d k = (bmT v key k).1 := by
  have := bmT_ge (v := v) (key := key) k j hj
  unfold bmI
  rw [if_neg (by omega)]
/-- cells that are shut or taken -/
def blS (s : Int → Int) : Int32 := orT (shT s) 24 ||| orT (plT s) (s 1).toNat
theorem blS_iff {k : Int} {s : Int → Int} (hI : InvK k s) {c : Int} (hc : 0 ≤ c ∧ c ≤ 23) : bt (blS s) c.toNat = true ↔ ¬ (opn s c ∧ who s c < 0) := by
  unfold blS
  rw [b_or, Bool.or_eq_true, sh_bt hc, pl_bt hI (by omega), who_neg hI.num.1]
  constructor
  · rintro (h | ⟨q, q0, q1, e⟩) ⟨z1, z2⟩
    · exact h z1
    · exact z2 q q0 q1 (by omega)
  · intro h
    by_cases o : opn s c
    · right
      refine Classical.byContradiction fun hx => h ⟨o, fun q q0 q1 e => hx ⟨q, q0, q1, by omega⟩⟩
    · exact Or.inl o
def bdI (v : Nat → Int) (k : Nat) : Int := if (bdT v k).1 < 0 then 81 else (bdT v k).2
theorem bdI_t {v : Nat → Int} {k : Nat} (h0 : 0 ≤ v k) (h : v k < bdI v k) : (v k = bdI v (k + 1)) ∧ (k : Int) = (bdT v (k + 1)).1 := by
  have hc : 0 ≤ v k ∧ ((bdT v k).1 < 0 ∨ v k < (bdT v k).2) := by
    unfold bdI at h
    split at h
    · exact ⟨h0, Or.inl (by assumption)⟩
    · exact ⟨h0, Or.inr h⟩
  have e : bdT v (k + 1) = ((k : Int), v k) := by simp only [bdT]; rw [if_pos hc]
  unfold bdI
  rw [e]
  dsimp only
  rw [if_neg (by omega)]
  exact ⟨rfl, rfl⟩
theorem bdI_f {v : Nat → Int} {k : Nat} (h8 : v k ≤ 80) (h : ¬ (0 ≤ v k ∧ v k < bdI v k)) : (bdI v k = bdI v (k + 1)) ∧ (bdT v k).1 = (bdT v (k + 1)).1 := by
  have hc : ¬ (0 ≤ v k ∧ ((bdT v k).1 < 0 ∨ v k < (bdT v k).2)) := by
    rintro ⟨h0, h1⟩
    refine h ⟨h0, ?_⟩
    unfold bdI
    split
    · omega
    · exact h1.resolve_left (by assumption)
  have e : bdT v (k + 1) = bdT v k := by simp only [bdT]; rw [if_neg hc]
  unfold bdI
  rw [e]
  exact ⟨rfl, rfl⟩
theorem bdI_b {v : Nat → Int} {k : Nat} (h : ∀ j, j < k → v j ≤ 80) : 0 ≤ bdI v k ∧ bdI v k ≤ 81 := by
  have := bdT_b (v := v) (M := 80) (by omega) k h
  unfold bdI
  split <;> omega
def bc1 (y : Int32) : Int32 := (y - ((((y).toUInt32 >>> ((iI 1).toUInt32 &&& Int32.toUInt32 31)).toInt32) &&& iI (1431655765)))
def bc2 (y : Int32) : Int32 := (y &&& iI (858993459)) + ((((y).toUInt32 >>> ((iI 2).toUInt32 &&& Int32.toUInt32 31)).toInt32) &&& iI (858993459))
def bc3 (y : Int32) : Int32 := (y + (((y).toUInt32 >>> ((iI 4).toUInt32 &&& Int32.toUInt32 31)).toInt32)) &&& iI (252645135)
def bc4 (y : Int32) : Int32 := y + (((y).toUInt32 >>> ((iI 8).toUInt32 &&& Int32.toUInt32 31)).toInt32)
def bc5 (y : Int32) : Int32 := y + (((y).toUInt32 >>> ((iI 16).toUInt32 &&& Int32.toUInt32 31)).toInt32)
theorem bc_dec : ∀ k : Fin 256, bc5 (bc4 (bc3 (bc2 (bc1 (iI (k.val : Int)))))) &&& iI 63 = iI (popN k.val : Int) := by decide +kernel
theorem bc_of {y : Int32} (h : ∃ x : Nat, x < 256 ∧ y = iI (x : Int)) : bc5 (bc4 (bc3 (bc2 (bc1 y)))) &&& iI 63 = iI (onesN y) := by
  obtain ⟨x, hx, rfl⟩ := h
  rw [onesN_of hx]
  exact bc_dec ⟨x, hx⟩

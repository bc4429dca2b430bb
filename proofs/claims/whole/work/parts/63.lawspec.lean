/-! what stays so, whatever is called -/
def IV (e : Int → Int) : Prop := InvK 0 e ∧ e 0 ≤ 9999
theorem iv_if {f : Int} {a e : Int → Int} (he : IV e) (h : f = 0 → IV a) : IV (if f = 0 then a else e) := by
  by_cases z : f = 0
  · rw [if_pos z]; exact h z
  · rw [if_neg z]; exact he
theorem k_pass {c p o : Int} (z : fPass c p o = 0) : 0 ≤ c ∧ c ≤ 23 ∧ (p = 0 ∨ (2 ≤ p ∧ p ≤ 9 ∧ 0 ≤ o ∧ o ≤ p)) := by
  unfold fPass at z
  split at z
  · assumption
  · omega
theorem iv_pass {e : Int → Int} {c p o : Int} (h : IV e) : IV (if fPass c p o = 0 then up (up e (7 + c) p) (31 + c) (if p = 0 then 0 else o) else e) := iv_if h (fun z => by
  have k := k_pass z
  exact ⟨h.1.pass (by omega) (by omega) (by split <;> omega), by rw [up_n (by omega), up_n (by omega)]; exact h.2⟩)
theorem iv_vil {e : Int → Int} {c : Int} (h : IV e) : IV (if fVil e c = 0 then nVil e c else e) := iv_if h (fun z => by
  have hv := h.1.vil
  have k : (0 ≤ c ∧ c ≤ 23) ∧ ¬ e 2 = 6 := by
    unfold fVil at z
    split at z
    · split at z
      · omega
      · exact ⟨by assumption, by assumption⟩
    · omega
  exact ⟨h.1.vill k.1 (by omega), by unfold nVil; rw [up_n (by omega), up_n (by omega)]; exact h.2⟩)
theorem iv_ord {e : Int → Int} {w v : Int} (h : IV e) : IV (if fOrd w v = 0 then up e (3 + w) v else e) := iv_if h (fun z => by
  have k : 0 ≤ w ∧ w ≤ 3 ∧ -9 ≤ v ∧ v ≤ 9 := by
    unfold fOrd at z
    split at z
    · assumption
    · omega
  exact ⟨h.1.wgt (by omega) (by omega) (by omega), by rw [up_n (by omega)]; exact h.2⟩)
theorem iv_ran {e : Int → Int} {kd c : Int} (h : IV e) : IV (if fRan e kd c = 0 then addR e kd c 0 else e) := iv_if h (fun z => by
  have hn := h.1.num
  have k : (0 ≤ kd ∧ kd ≤ 5 ∧ 0 ≤ c ∧ c ≤ 23) ∧ ¬ 0 ≤ who e c ∧ ¬ e 1 = 8 := by
    unfold fRan at z
    split at z
    · split at z
      · omega
      · split at z
        · omega
        · exact ⟨by assumption, by assumption, by assumption⟩
    · omega
  exact ⟨h.1.add (by omega) (by omega) (by omega) (by omega) (by omega) (hs := 0) ⟨by omega, by omega⟩, by unfold addR; rw [up_n (by omega), up_n (by omega), up_n (by omega), up_n (by omega), up_n (by omega), up_n (by omega)]; exact h.2⟩)
theorem iv_set {e : Int → Int} {r w v : Int} (h : IV e) : IV (if fSet e r w v = 0 then up e (61 + 5 * r + w) v else e) := iv_if h (fun z => by
  have k : (0 ≤ r ∧ r < e 1 ∧ 1 ≤ w ∧ w ≤ 2 ∧ 0 ≤ v ∧ (w = 1 → v ≤ 23) ∧ (w = 2 → v ≤ 9)) ∧ ¬ (w = 1 ∧ 0 ≤ who e v ∧ who e v ≠ r) := by
    unfold fSet at z
    split at z
    · split at z
      · omega
      · exact ⟨by assumption, by assumption⟩
    · omega
  refine ⟨?_, by rw [up_n (by omega)]; exact h.2⟩
  rcases (show w = 1 ∨ w = 2 by omega) with rfl | rfl
  · exact h.1.cellw (by omega) (by omega) (by omega) (by omega)
  · exact h.1.oth (by omega) (by omega) (by omega) (by omega) (by omega) ⟨by omega, by omega, by omega, by omega⟩)
theorem iv_turn {e : Int → Int} {r k : Int} (h : IV e) : IV (if fTurn e r k = 0 then up e (61 + 5 * r + 0) k else e) := iv_if h (fun z => by
  have c : 0 ≤ r ∧ r < e 1 ∧ 0 ≤ k ∧ k ≤ 5 := by
    unfold fTurn at z
    split at z
    · assumption
    · omega
  exact ⟨h.1.oth (by omega) (by omega) (by omega) (by omega) (by omega) ⟨by omega, by omega, by omega, by omega⟩, by rw [up_n (by omega)]; exact h.2⟩)
theorem iv_lev {e : Int → Int} {r : Int} (h : IV e) : IV (if fLev e r = 0 then nLev e r else e) := iv_if h (fun z => by
  have c : 0 ≤ r ∧ r < e 1 := by
    unfold fLev at z
    split at z
    · assumption
    · omega
  exact ⟨h.1.lev c.1 c.2, by rw [nLev_0 c.1]; exact h.2⟩)
theorem iv_sea {e : Int → Int} {n : Int} (h : IV e) : IV (if fSea e n = 0 then seaN e n.toNat else e) := iv_if h (fun z => by
  have c : (1 ≤ n ∧ n ≤ 80) ∧ ¬ 9999 < e 0 + n := by
    unfold fSea at z
    split at z
    · split at z
      · omega
      · exact ⟨by assumption, by assumption⟩
    · omega
  obtain ⟨a, b, -⟩ := seaN_inv h.1 n.toNat (by omega)
  exact ⟨a, by omega⟩)
theorem ly_iv {e N : Int → Int} (h : IV e) (a : Int) : ∀ k : Nat, (k : Int) ≤ e 1 → IV (lyT e N a k)
  | 0 => fun _ => h
  | k + 1 => fun hk => by
    have ih := ly_iv (N := N) h a k (by omega)
    have e1 : lyT e N a k 1 = e 1 := lyT_1 _ _ _ _ _ (by omega)
    simp only [lyT]
    split
    · rename_i c
      exact ⟨ih.1.oth (k2 := 0) (r := (k : Int)) (w := 2) (by omega) (by omega) (by omega) (by omega) (by omega) ⟨by omega, by omega, by omega, by omega⟩, by rw [up_n (by omega)]; exact ih.2⟩
    · exact ih
theorem iv_lays {e N b z : Int → Int} {k a : Int} (h : IV e) (hS : InvS b z) : IV (if fWro b k = 0 then lyT e N a (lyN e z k) else e) := iv_if h (fun c => by
  have hn := h.1.num
  have k9 : 0 ≤ k ∧ k ≤ 3 := by
    unfold fWro at c
    split at c
    · assumption
    · omega
  have hz := hS k k9.1 k9.2
  exact ly_iv h a _ (by unfold lyN; omega))
theorem iv_und {e k : Int → Int} {x : Int} (h : IV e) (hk : IV k) : IV (if fUnd x = 0 then k else e) := iv_if h (fun _ => hk)
section ZL
variable {b : Int → Int} {t : Int} {s : Int → Int} {q : Q4}
theorem z_pass (hq : QI b t q) : (passQ b t s q).2 0 = s 0 := by
  have i1 := (numQ_inv (wantQ_inv hq 1) 0 23).2.2.2.1
  unfold passQ paA paB paC
  dsimp only
  split
  · rw [up_n (by omega), up_n (by omega)]
  · rfl
theorem z_free (hq : QI b t q) : (freeQ b t s q).2 0 = s 0 := by
  have i1 := (numQ_inv (wantQ_inv hq 1) 0 23).2.2.2.1
  unfold freeQ frA
  dsimp only
  split
  · rw [up_n (by omega), up_n (by omega)]
  · rfl
theorem z_vill (hv : 0 ≤ s 2) : (villQ b t s q).2 0 = s 0 := by
  unfold villQ viA
  generalize numQ b t (wantQ b t q (if s 2 < 6 then 1 else 0)) 0 23 = r
  dsimp only
  split
  · unfold nVil; rw [up_n (by omega), up_n (by omega)]
  · rfl
theorem z_ord (hq : QI b t q) : (ordQ b t s q).2 0 = s 0 := by
  have i1 := (numQ_inv hq 0 3).2.2.2.1
  unfold ordQ orA
  split
  · unfold orB
    dsimp only
    split
    · rw [up_n (by omega)]
    · rfl
  · unfold orB
    dsimp only
    split
    · rw [up_n (by omega)]
    · rfl
theorem z_rgE (hn : 0 ≤ s 1) {k c : Int} : (rgE b t s k c q).2 0 = s 0 := by
  have key : ∀ (h : Int) (q : Q4), (rgF s k c h q).2 0 = s 0 := by
    intro h q
    unfold rgF
    dsimp only
    split
    · rw [up_n (by omega)]; unfold addR; rw [up_n (by omega), up_n (by omega), up_n (by omega), up_n (by omega), up_n (by omega), up_n (by omega)]
    · rfl
  unfold rgE
  split
  · exact key _ _
  · exact key _ _
theorem z_rgD (hn : 0 ≤ s 1) {k wh : Int} : (rgD b t s k wh q).2 0 = s 0 := by
  unfold rgD
  split
  · exact z_rgE hn
  · exact z_rgE hn
theorem z_itO (hq : QI b t q) : (itO b t s q).2 0 = s 0 := by
  unfold itO
  split
  · exact z_ord hq
  · rfl
theorem z_item (hq : QI b t q) (hI : InvK 0 s) : (itemQ b t s q).2 0 = s 0 := by
  have hn := hI.num
  have hv := hI.vil
  unfold itemQ
  split
  · exact z_rgD hn.1
  · split
    · exact z_pass hq
    · split
      · exact z_free hq
      · split
        · exact z_vill hv.1
        · exact z_itO (wantQ_inv hq _)
theorem z_ln : ∀ (m : Nat) (r : Q4 × (Int → Int)) (n : Int), QI b t r.1 → InvK 0 r.2 → (lnT b t m r n).1.2 0 = r.2 0 ∧ InvK 0 (lnT b t m r n).1.2
  | 0, r, n, _, hI => ⟨rfl, hI⟩
  | m + 1, r, n, hq, hI => by
    simp only [lnT]
    by_cases c : r.1.1 = 0 ∧ bAt b t r.1.2.1 = 59
    · rw [if_pos c]
      have hw := wantQ_inv hq 1
      have i1 := item_iq hw hI
      obtain ⟨a1, a2⟩ := z_ln m (itemQ b t r.2 (wantQ b t r.1 1)) (n + 1) i1.1 i1.2.1
      exact ⟨by rw [a1, z_item hw hI], a2⟩
    · rw [if_neg c]
      exact ⟨rfl, hI⟩
end ZL
theorem iv_land {b : Int → Int} {t v : Int} {e : Int → Int} (h : IV e) (ht : 0 ≤ t) (hv : 0 ≤ v ∧ v ≤ 10000) : IV (nLand b t e v) := by
  have hq := QI_0 (b := b) (t := t) (v := v) ht hv
  have i1 := item_iq hq h.1
  obtain ⟨a1, a2⟩ := z_ln 121 (itemQ b t e (0, tkF b t 0, tkE b t (tkF b t 0), v)) 1 i1.1 i1.2.1
  unfold nLand
  by_cases c : landW b t e v
  · rw [if_pos c]; exact h
  · rw [if_neg c]
    exact ⟨a2, by unfold landR; rw [a1, z_item hq h.1]; exact h.2⟩
/-! sheets -/
theorem is_sht {b z : Int → Int} {k bits n : Int} (h : InvS b z) : InvS (if fSht k bits n = 0 then up b k bits else b) (if fSht k bits n = 0 then up z k (if bits = 0 then 0 else n) else z) := by
  by_cases c : fSht k bits n = 0
  · rw [if_pos c, if_pos c]
    have k9 : (0 ≤ k ∧ k ≤ 3 ∧ (bits = 0 ∨ bits = 8 ∨ bits = 16 ∨ bits = 64)) ∧ ¬ n < 0 ∧ ¬ 40 < n := by
      unfold fSht at c
      split at c
      · split at c
        · omega
        · split at c
          · omega
          · exact ⟨by assumption, by assumption, by assumption⟩
      · omega
    intro j j0 j1
    have hj := h j j0 j1
    simp only [up]
    by_cases e : j = k
    · rw [if_pos e, if_pos e]; split <;> omega
    · rw [if_neg e, if_neg e]; exact hj
  · rw [if_neg c, if_neg c]; exact h
theorem lr_if {f : Int} {a e : Int → Int} (he : ∀ j, LR (e j)) (h : f = 0 → ∀ j, LR (a j)) : ∀ j, LR ((if f = 0 then a else e) j) := by
  by_cases z : f = 0
  · rw [if_pos z]; exact h z
  · rw [if_neg z]; exact he
theorem lr_zr {m : Int → Int} (h : ∀ j, LR (m j)) (a k : Int) : ∀ j, LR (zrT m a k j) := by
  intro j
  simp only [zrT]
  split
  · exact ⟨by decide, by decide⟩
  · exact h j
theorem lr_nrw {b v : Int} (h : LR v) : LR (nrw b v) := by
  unfold nrw
  have a := n8_b v
  have c := n16_b v
  split
  · exact ⟨by omega, by omega⟩
  · split
    · exact ⟨by omega, by omega⟩
    · exact h
theorem lr_up {m : Int → Int} (h : ∀ j, LR (m j)) {k v : Int} (hv : LR v) : ∀ j, LR (up m k v j) := by
  intro j
  simp only [up]
  split
  · exact hv
  · exact h j
theorem lr_cy {m : Int → Int} (h : ∀ j, LR (m j)) (x y n : Int) : ∀ j, LR (cyT m m x y n j) := by
  intro j
  simp only [cyT]
  split
  · exact h _
  · exact h j
theorem lr_bk {e m b z : Int → Int} {k r a : Int} (h : ∀ j, LR (m j)) (he : IV e) (hS : InvS b z) (c : fBok e b k r = 0) : ∀ j, LR (bkT e m a r (z k) j) := by
  have k9 : (0 ≤ k ∧ k ≤ 3) ∧ 0 ≤ r ∧ r < e 1 := by
    unfold fBok at c
    split at c
    · rename_i c1
      split at c
      · rename_i c2
        refine ⟨?_, c2⟩
        unfold fWro at c1
        split at c1
        · assumption
        · omega
      · omega
    · rename_i c1; exact absurd c c1
  have hz := hS k k9.1.1 k9.1.2
  intro j
  simp only [bkT]
  split
  · rename_i cj
    have h2 := he.2
    obtain ⟨a1, a2, a3⟩ := seaN_inv he.1 (j - a).toNat (by omega)
    have a4 := (a1.ran r k9.2.1 (by rw [a3 1 (by omega) (by omega)]; exact k9.2.2)).2.1
    exact ⟨by omega, by omega⟩
  · exact h j
theorem by_b (b k : Int) : 0 ≤ byI b k ∧ byI b k ≤ 255 := by
  unfold byI
  generalize (iI b) >>> ((iI (8 * k)) &&& 31) = x
  have h1 : (x &&& iI 255).toBitVec.toNat ≤ 255 := by
    rw [Int32.toBitVec_and, BitVec.toNat_and]
    exact Nat.and_le_right
  have h2 : (x &&& iI 255).toInt = ((x &&& iI 255).toBitVec.toNat : Int) := by
    show (x &&& iI 255).toBitVec.toInt = _
    exact BitVec.toInt_eq_toNat_of_lt (by omega)
  rw [h2]
  omega
theorem fd_b {p : Int → Int} (h : ∀ j, 0 ≤ p j ∧ p j ≤ 255) (f t b n i : Int) : ∀ j, 0 ≤ (if f = 0 then fdT p t b n i else p) j ∧ (if f = 0 then fdT p t b n i else p) j ≤ 255 := by
  intro j
  by_cases z : f = 0
  · rw [if_pos z]
    simp only [fdT]
    split
    · exact by_b _ _
    · exact h j
  · rw [if_neg z]; exact h j
theorem fd_t {t n : Int} (h : 0 ≤ t ∧ t ≤ 120) : 0 ≤ (if fFed t n = 0 then t + n else t) ∧ (if fFed t n = 0 then t + n else t) ≤ 120 := by
  by_cases z : fFed t n = 0
  · rw [if_pos z]
    unfold fFed at z
    split at z
    · split at z <;> omega
    · omega
  · rw [if_neg z]; exact h
theorem abL_b {f x : Int} (hf : 0 ≤ f ∧ f ≤ 9) (h : LR x) : LR (abL f x) := by
  unfold abL
  split
  · exact h
  · exact ⟨by omega, by omega⟩
theorem fW_b (b z : Int → Int) (k i : Int) : 0 ≤ fWrt b z k i ∧ fWrt b z k i ≤ 9 := by
  unfold fWrt fWro
  split <;> (try split) <;> (try split) <;> omega
def LVx (e k : Int → Int) (kp : Int) (p : Int → Int) (z : Int) (b s n : Int → Int) (v : Int) : Prop := IV e ∧ IV k ∧ (kp = 0 ∨ kp = 1) ∧ (∀ j, 0 ≤ p j ∧ p j ≤ 255) ∧ (0 ≤ z ∧ z ≤ 120) ∧ InvS b s ∧ (∀ j, LR (n j)) ∧ (0 ≤ v ∧ v ≤ 10000)
/-- the world of the law: the class's objects, and the reference -/
def LW (g : Gd) (A : Nat → Nat → Nat) (u : Nat → Int → Int) : va_W := wX g (A 0) (A 1) (A 2) (A 3) (A 5) (A 6) (u 0) (u 1 0) ++ (wLs g (A 1) (u 2) (u 3) (u 4) ++ (wLs g (A 2) (u 5) (u 6) (u 7) ++ (wF g (A 3) (A 1) (A 4) (u 8) ++ (wLs g (A 4) (u 9) (u 10) (u 11) ++ (wT g (A 5) (u 12) (u 13 0) (u 14 0) (u 15 0) (u 16 0) (u 17 0) ++ (wSs g (A 6) (u 18) (u 19) (u 20) ++ wM g (A 7) (u 2) (u 5) (u 21) (u 22) (u 23) (u 0) (u 24) (u 25) (u 12) (u 18) (u 19) (u 20) (u 26) (u 1 0) (u 13 0) (u 27 0) (u 28 0) (u 29 0) (u 30 0)))))))
def LV (u : Nat → Int → Int) : Prop := LVx (u 2) (u 5) (u 1 0) (u 12) (u 13 0) (u 18) (u 19) (u 20) (u 29 0)

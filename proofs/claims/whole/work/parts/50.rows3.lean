def vp_Sv (v : Value) : Array Value → State → Outcome → State → Prop := fun _ st o t => o = .returned (some v) ∧ t.heap = st.heap
section XV
variable {p : Program} {l : Launch} {e : Env} {R : Room} {s : State} {m : MethodId} {args : Array Value} {below : List Frame} {meth : Method} {c : Code} {H : Heap} {locs : List Loc} {cells slots : Nat} {Q : State → Prop} {cc : ByteArray} {pc : Nat} {ls : Array Slot} {rest st : List Value} {g : Gd} {n : Nat} {a : Nat} {i : Int} {s0 : Int → Int}
theorem xu_v {v : Value} {a : Array Value} (run : va_Run p l e R s m args below meth c H locs cells slots 0 0 (F0 m pc ls st) rest (vp_Sv v a) (fun _ => False)) (kk : W p l e R s m args below meth c H locs cells slots Q (F0 m (pc + 3) ls (v :: rest))) : W p l e R s m args below meth c H locs cells slots Q (F0 m pc ls st) := by
  intro T hT X
  obtain ⟨v9, st₀, t, T', L, h0, X', hL, e1, ⟨hv, hh⟩, st⟩ := run.run T hT X
  cases hv
  obtain ⟨t2, a1, b1⟩ := kk T' (by rw [e1, hh, h0]) (Stand.forget X' (fun q h => (hL q h).elim))
  exact ⟨t2, st t2 a1, b1⟩
theorem xa_ald (hx : p.tables.exec = Jvm.exec) (hb : c.code = cc) (hK : KX g s) {ws : va_W} (hP : va_P g.1 vwCl ws H) (q0 : Nat) {q : Nat → Nat} (ha : ws[q0]? = some (a, .inl (g.2.2.2, 4, .inr (.inr (.inr (.inr (fun j => some (q (2 * j))))))))) {j : Nat} (hi : i = (j : Int)) (hj : j < 4) (d : decode cc pc = .ok (.aaload, 1)) (k : W p l e R s m args below meth c H locs cells slots Q (F0 m (pc + 1) ls (.ref (q (2 * j)) :: rest))) : W p l e R s m args below meth c H locs cells slots Q (F0 m pc ls (.int (iI i) :: .ref a :: rest)) := by
  subst hi
  have e : (iI (j : Int)).toNatClampNeg = j := by rw [iI_cl' (by omega) (by omega)]; omega
  refine va_aldq hx hb hK.1 hP q0 2 ha rfl (iI_in (by omega) (by omega) rfl) d ?_
  rw [e]
  exact k
end XV
theorem cy_pj {m : Int → Int} {P Q x y n : Int} (h : 0 ≤ x ∧ 0 ≤ y ∧ 0 ≤ n ∧ x + n ≤ 40 ∧ y + n ≤ 40) : cyT (pj P 40 m) (pj Q 40 m) x y n = pj Q 40 (cyT m m (P + x) (Q + y) n) := by
  funext j
  simp only [cyT, pj]
  by_cases h1 : y ≤ j ∧ j < y + n
  · rw [if_pos h1, if_pos (by omega), if_pos (by omega), if_pos (by omega)]
    congr 1
    omega
  · rw [if_neg h1]
    by_cases h2 : 0 ≤ j ∧ j < (40 : Nat)
    · rw [if_pos h2, if_pos h2, if_neg (by omega)]
    · rw [if_neg h2, if_neg h2]
theorem cy_pn {m : Int → Int} {R a b n : Int} (h : b + n ≤ R ∨ R + 40 ≤ b) : pj R 40 (cyT m m a b n) = pj R 40 m := by
  funext j
  simp only [cyT, pj]
  by_cases h2 : 0 ≤ j ∧ j < (40 : Nat)
  · rw [if_pos h2, if_pos h2, if_neg (by omega)]
  · rw [if_neg h2, if_neg h2]
section SC
variable {g : Gd} {a : Nat → Nat} {s10 s11 s12 : Int → Int} {P y n : Int}
theorem Ss_cp_0 (h : 0 ≤ y ∧ 0 ≤ n ∧ y + n ≤ 40) : wS4 g a (pj 0 40 (cyT s12 s12 P (0 + y) n)) (pj 40 40 s12) (pj 80 40 s12) (pj 120 40 s12) (s10 0) (s10 1) (s10 2) (s10 3) (s11 0) (s11 1) (s11 2) (s11 3) = wSs g a s10 s11 (cyT s12 s12 P (0 + y) n) := by
  unfold wSs
  rw [cy_pn (R := 40) (b := 0 + y) (by omega), cy_pn (R := 80) (b := 0 + y) (by omega), cy_pn (R := 120) (b := 0 + y) (by omega)]
theorem Ss_cp_1 (h : 0 ≤ y ∧ 0 ≤ n ∧ y + n ≤ 40) : wS4 g a (pj 0 40 s12) (pj 40 40 (cyT s12 s12 P (40 + y) n)) (pj 80 40 s12) (pj 120 40 s12) (s10 0) (s10 1) (s10 2) (s10 3) (s11 0) (s11 1) (s11 2) (s11 3) = wSs g a s10 s11 (cyT s12 s12 P (40 + y) n) := by
  unfold wSs
  rw [cy_pn (R := 0) (b := 40 + y) (by omega), cy_pn (R := 80) (b := 40 + y) (by omega), cy_pn (R := 120) (b := 40 + y) (by omega)]
theorem Ss_cp_2 (h : 0 ≤ y ∧ 0 ≤ n ∧ y + n ≤ 40) : wS4 g a (pj 0 40 s12) (pj 40 40 s12) (pj 80 40 (cyT s12 s12 P (80 + y) n)) (pj 120 40 s12) (s10 0) (s10 1) (s10 2) (s10 3) (s11 0) (s11 1) (s11 2) (s11 3) = wSs g a s10 s11 (cyT s12 s12 P (80 + y) n) := by
  unfold wSs
  rw [cy_pn (R := 0) (b := 80 + y) (by omega), cy_pn (R := 40) (b := 80 + y) (by omega), cy_pn (R := 120) (b := 80 + y) (by omega)]
theorem Ss_cp_3 (h : 0 ≤ y ∧ 0 ≤ n ∧ y + n ≤ 40) : wS4 g a (pj 0 40 s12) (pj 40 40 s12) (pj 80 40 s12) (pj 120 40 (cyT s12 s12 P (120 + y) n)) (s10 0) (s10 1) (s10 2) (s10 3) (s11 0) (s11 1) (s11 2) (s11 3) = wSs g a s10 s11 (cyT s12 s12 P (120 + y) n) := by
  unfold wSs
  rw [cy_pn (R := 0) (b := 120 + y) (by omega), cy_pn (R := 40) (b := 120 + y) (by omega), cy_pn (R := 80) (b := 120 + y) (by omega)]
end SC

def vp_Sv (v : Value) : Array Value → State → Outcome → State → Prop := fun _ st o t => o = .returned (some v) ∧ t.heap = st.heap
section XV
variable {p : Program} {l : Launch} {e : Env} {R : Room} {s : State} {m : MethodId} {args : Array Value} {below : List Frame} {meth : Method} {c : Code} {H : Heap} {locs : List Loc} {cells slots : Nat} {Q : State → Prop} {cc : ByteArray} {pc : Nat} {ls : Array Slot} {rest st : List Value} {g : Gd} {n : Nat} {a : Nat} {i : Int} {s0 : Int → Int}
theorem xu_v {v : Value} {a : Array Value} (run : va_Run p l e R s m args below meth c H locs cells slots 0 0 (F0 m pc ls st) rest (vp_Sv v a) (fun _ => False)) (kk : W p l e R s m args below meth c H locs cells slots Q (F0 m (pc + 3) ls (v :: rest))) : W p l e R s m args below meth c H locs cells slots Q (F0 m pc ls st) := by
  intro T hT X
  obtain ⟨v9, st₀, t, T', L, h0, X', hL, e1, ⟨hv, hh⟩, st⟩ := run.run T hT X
  cases hv
  obtain ⟨t2, a1, b1⟩ := kk T' (by rw [e1, hh, h0]) (Stand.forget X' (fun q h => (hL q h).elim))
  exact ⟨t2, st t2 a1, b1⟩
theorem xa_ald (hx : p.tables.exec = Jvm.exec) (hb : c.code = cc) (hK : KX g s) {ws : va_W} (hP : va_P g.1 vwCl ws H) (q0 : Nat) {q : Nat → Nat} (ha : ws[q0]? = some (a, .inl (g.2.2.2, 4, .inr (.inr (.inr (.inr (fun j => some (q (2 * j))))))))) {j : Nat} (hi : i = (j : Int)) (hj : j < 4) (d : decode cc pc = .ok (.aaload, 1)) (k : W p l e R s m args below meth c H locs cells slots Q (F0 m (pc + 1) ls (.ref (q (2 * j)) :: rest))) : W p l e R s m args below meth c H locs cells slots Q (F0 m pc ls (.int (iI i) :: .ref a :: rest)) := by
  subst hi
  have e : (iI (j : Int)).toNatClampNeg = j := by rw [iI_cl' (by omega) (by omega)]; omega
  refine va_aldq hx hb hK.1 hP q0 2 ha rfl (iI_in (by omega) (by omega) rfl) d ?_
  rw [e]
  exact k
end XV

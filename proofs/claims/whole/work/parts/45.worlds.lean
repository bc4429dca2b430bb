/-- a Foresight: it knows two lands -/
def wF (g : Gd) (a b d : Nat → Nat) (f1 : Int → Int) : va_W := [(a 0, .inr (0, [.ref (b 0), .ref (d 0), .ref (a 1)])), (a 1, .inl (g.2.1, 100, .inl (ar f1)))]
/-- a Tape -/
def wT (g : Gd) (a : Nat → Nat) (f1 : Int → Int) (f20 f21 f22 f23 f24 : Int) : va_W := [(a 0, .inr (3, [.ref (a 1), .int (iI f20), .int (iI f21), .int (iI f22), .int (iI f23), .int (iI f24)])), (a 1, .inl (g.2.1, 120, .inl (ar f1)))]
/-- the object itself: land, kept land, foresight, tape, sheets -/
def wX (g : Gd) (a b d e t q : Nat → Nat) (f1 : Int → Int) (f20 : Int) : va_W := [(a 0, .inr (4, [.ref (b 0), .ref (d 0), .ref (e 0), .ref (t 0), .ref (a 1), .ref (a 2), .int (iI f20)])), (a 1, .inl (g.2.2.2, 4, .inr (.inr (.inr (.inr (fun j => some (q (2 * j)))))))), (a 2, .inl (g.2.1, 7, .inl (ar f1)))]
/-- four sheets -/
def wS4 (g : Gd) (a : Nat → Nat) (r0 r1 r2 r3 : Int → Int) (b0 b1 b2 b3 z0 z1 z2 z3 : Int) : va_W := [(a 0, .inr (2, [.ref (a 1), .int (iI b0), .int (iI z0)])), (a 1, .inl (g.2.2.1, 40, .inr (.inl (la r0)))), (a 2, .inr (2, [.ref (a 3), .int (iI b1), .int (iI z1)])), (a 3, .inl (g.2.2.1, 40, .inr (.inl (la r1)))), (a 4, .inr (2, [.ref (a 5), .int (iI b2), .int (iI z2)])), (a 5, .inl (g.2.2.1, 40, .inr (.inl (la r2)))), (a 6, .inr (2, [.ref (a 7), .int (iI b3), .int (iI z3)])), (a 7, .inl (g.2.2.1, 40, .inr (.inl (la r3))))]
def wSs (g : Gd) (a : Nat → Nat) (f10 f11 f12 : Int → Int) : va_W := wS4 g a (pj 0 40 f12) (pj 40 40 f12) (pj 80 40 f12) (pj 120 40 f12) (f10 0) (f10 1) (f10 2) (f10 3) (f11 0) (f11 1) (f11 2) (f11 3)
section SS
variable {g : Gd} {a : Nat → Nat} {s10 s11 s12 : Int → Int} {i v : Int}
theorem Ss_numbers_0 (h : 0 ≤ i ∧ i < 40) : wS4 g a (up (pj 0 40 s12) i v) (pj 40 40 s12) (pj 80 40 s12) (pj 120 40 s12) (s10 0) (s10 1) (s10 2) (s10 3) (s11 0) (s11 1) (s11 2) (s11 3) = wSs g a s10 s11 (up s12 (0 + i) v) := by
  unfold wSs
  rw [pq_e (p := 0) h, pq_n (p := 40) (n := 40) (k := 0 + i) (by omega), pq_n (p := 80) (n := 40) (k := 0 + i) (by omega), pq_n (p := 120) (n := 40) (k := 0 + i) (by omega)]
theorem Ss_bits_0 : wS4 g a (pj 0 40 s12) (pj 40 40 s12) (pj 80 40 s12) (pj 120 40 s12) v (s10 1) (s10 2) (s10 3) (s11 0) (s11 1) (s11 2) (s11 3) = wSs g a (up s10 0 v) s11 s12 := by
  unfold wSs
  rw [up_s, up_n (f := s10) (j := 1) (k := 0) (by omega), up_n (f := s10) (j := 2) (k := 0) (by omega), up_n (f := s10) (j := 3) (k := 0) (by omega)]
theorem Ss_size_0 : wS4 g a (pj 0 40 s12) (pj 40 40 s12) (pj 80 40 s12) (pj 120 40 s12) (s10 0) (s10 1) (s10 2) (s10 3) v (s11 1) (s11 2) (s11 3) = wSs g a s10 (up s11 0 v) s12 := by
  unfold wSs
  rw [up_s, up_n (f := s11) (j := 1) (k := 0) (by omega), up_n (f := s11) (j := 2) (k := 0) (by omega), up_n (f := s11) (j := 3) (k := 0) (by omega)]
theorem Ss_numbers_1 (h : 0 ≤ i ∧ i < 40) : wS4 g a (pj 0 40 s12) (up (pj 40 40 s12) i v) (pj 80 40 s12) (pj 120 40 s12) (s10 0) (s10 1) (s10 2) (s10 3) (s11 0) (s11 1) (s11 2) (s11 3) = wSs g a s10 s11 (up s12 (40 + i) v) := by
  unfold wSs
  rw [pq_n (p := 0) (n := 40) (k := 40 + i) (by omega), pq_e (p := 40) h, pq_n (p := 80) (n := 40) (k := 40 + i) (by omega), pq_n (p := 120) (n := 40) (k := 40 + i) (by omega)]
theorem Ss_bits_1 : wS4 g a (pj 0 40 s12) (pj 40 40 s12) (pj 80 40 s12) (pj 120 40 s12) (s10 0) v (s10 2) (s10 3) (s11 0) (s11 1) (s11 2) (s11 3) = wSs g a (up s10 1 v) s11 s12 := by
  unfold wSs
  rw [up_n (f := s10) (j := 0) (k := 1) (by omega), up_s, up_n (f := s10) (j := 2) (k := 1) (by omega), up_n (f := s10) (j := 3) (k := 1) (by omega)]
theorem Ss_size_1 : wS4 g a (pj 0 40 s12) (pj 40 40 s12) (pj 80 40 s12) (pj 120 40 s12) (s10 0) (s10 1) (s10 2) (s10 3) (s11 0) v (s11 2) (s11 3) = wSs g a s10 (up s11 1 v) s12 := by
  unfold wSs
  rw [up_n (f := s11) (j := 0) (k := 1) (by omega), up_s, up_n (f := s11) (j := 2) (k := 1) (by omega), up_n (f := s11) (j := 3) (k := 1) (by omega)]
theorem Ss_numbers_2 (h : 0 ≤ i ∧ i < 40) : wS4 g a (pj 0 40 s12) (pj 40 40 s12) (up (pj 80 40 s12) i v) (pj 120 40 s12) (s10 0) (s10 1) (s10 2) (s10 3) (s11 0) (s11 1) (s11 2) (s11 3) = wSs g a s10 s11 (up s12 (80 + i) v) := by
  unfold wSs
  rw [pq_n (p := 0) (n := 40) (k := 80 + i) (by omega), pq_n (p := 40) (n := 40) (k := 80 + i) (by omega), pq_e (p := 80) h, pq_n (p := 120) (n := 40) (k := 80 + i) (by omega)]
theorem Ss_bits_2 : wS4 g a (pj 0 40 s12) (pj 40 40 s12) (pj 80 40 s12) (pj 120 40 s12) (s10 0) (s10 1) v (s10 3) (s11 0) (s11 1) (s11 2) (s11 3) = wSs g a (up s10 2 v) s11 s12 := by
  unfold wSs
  rw [up_n (f := s10) (j := 0) (k := 2) (by omega), up_n (f := s10) (j := 1) (k := 2) (by omega), up_s, up_n (f := s10) (j := 3) (k := 2) (by omega)]
theorem Ss_size_2 : wS4 g a (pj 0 40 s12) (pj 40 40 s12) (pj 80 40 s12) (pj 120 40 s12) (s10 0) (s10 1) (s10 2) (s10 3) (s11 0) (s11 1) v (s11 3) = wSs g a s10 (up s11 2 v) s12 := by
  unfold wSs
  rw [up_n (f := s11) (j := 0) (k := 2) (by omega), up_n (f := s11) (j := 1) (k := 2) (by omega), up_s, up_n (f := s11) (j := 3) (k := 2) (by omega)]
theorem Ss_numbers_3 (h : 0 ≤ i ∧ i < 40) : wS4 g a (pj 0 40 s12) (pj 40 40 s12) (pj 80 40 s12) (up (pj 120 40 s12) i v) (s10 0) (s10 1) (s10 2) (s10 3) (s11 0) (s11 1) (s11 2) (s11 3) = wSs g a s10 s11 (up s12 (120 + i) v) := by
  unfold wSs
  rw [pq_n (p := 0) (n := 40) (k := 120 + i) (by omega), pq_n (p := 40) (n := 40) (k := 120 + i) (by omega), pq_n (p := 80) (n := 40) (k := 120 + i) (by omega), pq_e (p := 120) h]
theorem Ss_bits_3 : wS4 g a (pj 0 40 s12) (pj 40 40 s12) (pj 80 40 s12) (pj 120 40 s12) (s10 0) (s10 1) (s10 2) v (s11 0) (s11 1) (s11 2) (s11 3) = wSs g a (up s10 3 v) s11 s12 := by
  unfold wSs
  rw [up_n (f := s10) (j := 0) (k := 3) (by omega), up_n (f := s10) (j := 1) (k := 3) (by omega), up_n (f := s10) (j := 2) (k := 3) (by omega), up_s]
theorem Ss_size_3 : wS4 g a (pj 0 40 s12) (pj 40 40 s12) (pj 80 40 s12) (pj 120 40 s12) (s10 0) (s10 1) (s10 2) (s10 3) (s11 0) (s11 1) (s11 2) v = wSs g a s10 (up s11 3 v) s12 := by
  unfold wSs
  rw [up_n (f := s11) (j := 0) (k := 3) (by omega), up_n (f := s11) (j := 1) (k := 3) (by omega), up_n (f := s11) (j := 2) (k := 3) (by omega), up_s]
end SS
section XS
variable {p : Program} {l : Launch} {e : Env} {R : Room} {s : State} {m : MethodId} {args : Array Value} {below : List Frame} {meth : Method} {c : Code} {H : Heap} {locs : List Loc} {cells slots : Nat} {Q : State → Prop} {cc : ByteArray} {pc : Nat} {ls : Array Slot} {rest st : List Value} {g : Gd} {n : Nat} {a : Nat} {i : Int} {s0 : Int → Int}
theorem xl_alq (hx : p.tables.exec = Jvm.exec) (hb : c.code = cc) (hK : KX g s) {ws : va_W} (hP : va_P g.1 vwCl ws H) (q0 : Nat) {p0 : Int} (ha : ws[q0]? = some (a, .inl (g.2.2.1, n, .inr (.inl (la (pj p0 n s0)))))) (hi : 0 ≤ i ∧ i < n) (hn : Nat.ble n 2147483647 = true) (d : decode cc pc = .ok (.laload, 1)) (k : W p l e R s m args below meth c H locs cells slots Q (F0 m (pc + 1) ls (.long (lI (s0 (p0 + i))) :: rest))) : W p l e R s m args below meth c H locs cells slots Q (F0 m pc ls (.int (iI i) :: .ref a :: rest)) := by
  refine xl_ald hx hb hK hP q0 ha hi hn d ?_
  have e : pj p0 n s0 i = s0 (p0 + i) := if_pos hi
  rw [e]
  exact k
theorem xi_alen (hx : p.tables.exec = Jvm.exec) (hb : c.code = cc) (hK : KX g s) {ws : va_W} (hP : va_P g.1 vwCl ws H) (q0 : Nat) {f : Nat → Int32} (ha : ws[q0]? = some (a, .inl (g.2.1, n, .inl f))) {v : Int} (hv : (n : Int) = v) (d : decode cc pc = .ok (.arraylength, 1)) (k : W p l e R s m args below meth c H locs cells slots Q (F0 m (pc + 1) ls (.int (iI v) :: rest))) : W p l e R s m args below meth c H locs cells slots Q (F0 m pc ls (.ref a :: rest)) := by
  subst hv
  exact va_alen hx hb hK.1 hP q0 0 ha rfl (v := iI (n : Int)) (iI_nat n).symm d k
theorem xm_r {mc ms : Nat} {S : Type} {w : S → va_W} {w0 : va_W} {post : S → Prop} {ba : Nat} {a : Array Value} {A0 : Nat → Prop} {H0 : Heap} (run : va_Run p l e R s m args below meth c H locs cells slots mc ms (F0 m pc ls st) rest (QMr g w ba post (va_A w0 H.size) a) (va_A w0 H.size)) (hD : va_D A0 w0) (hS : va_S A0 H0 H locs) (hA : ∀ q, H0.size ≤ q → A0 q) (kk : ∀ (u : S) (H1 : Heap) (locs1 : List Loc), post u → va_P g.1 vwCl (w u) H1 → va_D A0 (w u) → va_S A0 H0 H1 locs1 → W p l e R s m args below meth c H1 locs1 (cells + mc) (slots + ms) Q (F0 m (pc + 3) ls (.ref ba :: rest))) : W p l e R s m args below meth c H locs cells slots Q (F0 m pc ls st) := by
  have hF := fr_all hD hS hA
  refine va_callr run hS (fun q _ h => hF q h) hF (fun u ra t H1 locs1 ht hvm hw hB hz1 hk1 hS1 => ?_)
  obtain ⟨rfl, hP1, hD1⟩ := hB
  rw [ht] at hP1
  exact kk u H1 locs1 hw hP1 (hD1.weaken (fun k q _ h => hF q.1 h)) hS1
end XS

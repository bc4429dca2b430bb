theorem lku_no2 {v1 o1 v2 o2 d x : Int} (h : ¬ x = v1 ∧ ¬ x = v2) : Op.lookupswitch.offset #[(v1, o1), (v2, o2)].toList d x = d := by
  show (if v1 = x then o1 else if v2 = x then o2 else d) = d
  rw [if_neg (fun z => h.1 z.symm), if_neg (fun z => h.2 z.symm)]
def LkC (own : String) (idx : Nat) : Prop := Cond.methodLink own idx arraycopyName ∈ T0 ∧ Cond.native arraycopyName ∈ T0 ∧ Cond.static arraycopyName ∈ T0 ∧ Cond.initialized "java/lang/System" ∈ T0
theorem ar_cpy (f h : Int → Int) (x y k : Nat) : va_cpy (ar f) (ar h) x y k = ar (cyT f h x y k) := by
  funext j
  simp only [va_cpy, ar, cyT]
  by_cases e : y ≤ j ∧ j < y + k
  · rw [if_pos e, if_pos (by omega)]
    congr 2
    omega
  · rw [if_neg e, if_neg (by omega)]
theorem la_cpy (f h : Int → Int) (x y k : Nat) : va_cpy (la f) (la h) x y k = la (cyT f h x y k) := by
  funext j
  simp only [va_cpy, la, cyT]
  by_cases e : y ≤ j ∧ j < y + k
  · rw [if_pos e, if_pos (by omega)]
    congr 2
    omega
  · rw [if_neg e, if_neg (by omega)]
section XM
variable {p : Program} {l : Launch} {e : Env} {R : Room} {s : State} {m : MethodId} {args : Array Value} {below : List Frame} {meth : Method} {c : Code} {H : Heap} {locs : List Loc} {cells slots : Nat} {Q : State → Prop} {cc : ByteArray} {pc : Nat} {ls : Array Slot} {rest st : List Value} {g : Gd} {n : Nat} {a : Nat} {i : Int} {s0 : Int → Int}
theorem xj_cpi (hx : p.tables.exec = Jvm.exec) (hb : c.code = cc) {own : String} {index nL : Nat} {lv : List (Nat × Value)} (hml : c.maxLocals = nL) (hown : s.vm.findClass own = some m.cls) (hts : ∀ w ∈ T0, w.before args s = true) (hK : KX g s) (hl : lv_has ls nL lv) (lk : LkC own index) {ws : va_W} {A : Nat → Prop} {H0 : Heap} (hP : va_P g.1 vwCl ws H) (hD : va_D A ws) (hS : va_S A H0 H locs) (q0 q1 : Nat) {a0 n0 n1 : Nat} {f h : Int → Int} (ha0 : ws[q0]? = some (a0, .inl (g.2.1, n0, .inl (ar f)))) (ha1 : ws[q1]? = some (a, .inl (g.2.1, n1, .inl (ar h)))) {sp dp k : Int} (hi : 0 ≤ sp ∧ 0 ≤ dp ∧ 0 ≤ k ∧ sp + k ≤ n0 ∧ dp + k ≤ n1) (hf : 1 ≤ R.frames) (hlo : (Nat.ble ((rest.map fun v => v.category).sum + 18) R.locals && Nat.ble n0 2147483647 && Nat.ble n1 2147483647) = true) (d : decode cc pc = .ok (.invokestatic index, 3)) {F : Int → Int} (hF : cyT f h sp dp k = F)
    (kk : ∀ (H1 : Heap) (locs1 : List Loc), va_P g.1 vwCl (ws.set q1 (a, .inl (g.2.1, n1, .inl (ar F)))) H1 → va_D A (ws.set q1 (a, .inl (g.2.1, n1, .inl (ar F)))) → va_S A H0 H1 locs1 → W p l e R s m args below meth c H1 locs1 cells slots Q (F0 m (pc + 3) ls rest)) : W p l e R s m args below meth c H locs cells slots Q (F0 m pc ls (.int (iI k) :: .int (iI dp) :: .ref a :: .int (iI sp) :: .ref a0 :: rest)) := by
  simp only [Bool.and_eq_true] at hlo
  have b0 := Nat.le_of_ble_eq_true hlo.1.2
  have b1 := Nat.le_of_ble_eq_true hlo.2
  obtain ⟨h1, h2, h3, h4, h5⟩ := hi
  have ng : ∀ x : Int, 0 ≤ x → x ≤ 2147483647 → ¬ iI x < 0 := fun x h0 h1 z => by rw [← iI_0, iI_lt ⟨by omega, by omega⟩ IR_0] at z; omega
  refine va_copyi hx hb (by rw [hml]; exact hl.1.symm) hown (hts _ lk.1) (hts _ lk.2.1) (hts _ lk.2.2.1) (hts _ lk.2.2.2) hK.1 hP hD hS q0 q1 0 0 ha0 ha1 rfl rfl rfl (sp := iI sp) (dp := iI dp) (n := iI k) (ng sp h1 (by omega)) (ng dp h2 (by omega)) (ng k h3 (by omega)) (by rw [iI_cl' h1 (by omega), iI_cl' h3 (by omega)]; omega) (by rw [iI_cl' h2 (by omega), iI_cl' h3 (by omega)]; omega) (fun i _ => rfl) hf (by have := Nat.le_of_ble_eq_true hlo.1.1; exact this) d (fun H1 locs1 p1 d1 s1 => ?_)
  rw [iI_cl' h1 (by omega), iI_cl' h2 (by omega), iI_cl' h3 (by omega), ar_cpy, show ((sp.toNat : Nat) : Int) = sp by omega, show ((dp.toNat : Nat) : Int) = dp by omega, show ((k.toNat : Nat) : Int) = k by omega, hF] at p1 d1
  exact kk H1 locs1 p1 d1 s1
theorem xj_cpl (hx : p.tables.exec = Jvm.exec) (hb : c.code = cc) {own : String} {index nL : Nat} {lv : List (Nat × Value)} (hml : c.maxLocals = nL) (hown : s.vm.findClass own = some m.cls) (hts : ∀ w ∈ T0, w.before args s = true) (hK : KX g s) (hl : lv_has ls nL lv) (lk : LkC own index) {ws : va_W} {A : Nat → Prop} {H0 : Heap} (hP : va_P g.1 vwCl ws H) (hD : va_D A ws) (hS : va_S A H0 H locs) (q0 q1 : Nat) {a0 n0 n1 : Nat} {f h : Int → Int} (ha0 : ws[q0]? = some (a0, .inl (g.2.2.1, n0, .inr (.inl (la f))))) (ha1 : ws[q1]? = some (a, .inl (g.2.2.1, n1, .inr (.inl (la h))))) {sp dp k : Int} (hi : 0 ≤ sp ∧ 0 ≤ dp ∧ 0 ≤ k ∧ sp + k ≤ n0 ∧ dp + k ≤ n1) (hf : 1 ≤ R.frames) (hlo : (Nat.ble ((rest.map fun v => v.category).sum + 18) R.locals && Nat.ble n0 2147483647 && Nat.ble n1 2147483647) = true) (d : decode cc pc = .ok (.invokestatic index, 3)) {F : Int → Int} (hF : cyT f h sp dp k = F)
    (kk : ∀ (H1 : Heap) (locs1 : List Loc), va_P g.1 vwCl (ws.set q1 (a, .inl (g.2.2.1, n1, .inr (.inl (la F))))) H1 → va_D A (ws.set q1 (a, .inl (g.2.2.1, n1, .inr (.inl (la F))))) → va_S A H0 H1 locs1 → W p l e R s m args below meth c H1 locs1 cells slots Q (F0 m (pc + 3) ls rest)) : W p l e R s m args below meth c H locs cells slots Q (F0 m pc ls (.int (iI k) :: .int (iI dp) :: .ref a :: .int (iI sp) :: .ref a0 :: rest)) := by
  simp only [Bool.and_eq_true] at hlo
  have b0 := Nat.le_of_ble_eq_true hlo.1.2
  have b1 := Nat.le_of_ble_eq_true hlo.2
  obtain ⟨h1, h2, h3, h4, h5⟩ := hi
  have ng : ∀ x : Int, 0 ≤ x → x ≤ 2147483647 → ¬ iI x < 0 := fun x h0 h1 z => by rw [← iI_0, iI_lt ⟨by omega, by omega⟩ IR_0] at z; omega
  refine va_copyl hx hb (by rw [hml]; exact hl.1.symm) hown (hts _ lk.1) (hts _ lk.2.1) (hts _ lk.2.2.1) (hts _ lk.2.2.2) hK.1 hP hD hS q0 q1 1 1 ha0 ha1 rfl rfl rfl (sp := iI sp) (dp := iI dp) (n := iI k) (ng sp h1 (by omega)) (ng dp h2 (by omega)) (ng k h3 (by omega)) (by rw [iI_cl' h1 (by omega), iI_cl' h3 (by omega)]; omega) (by rw [iI_cl' h2 (by omega), iI_cl' h3 (by omega)]; omega) (fun i _ => rfl) hf (by have := Nat.le_of_ble_eq_true hlo.1.1; exact this) d (fun H1 locs1 p1 d1 s1 => ?_)
  rw [iI_cl' h1 (by omega), iI_cl' h2 (by omega), iI_cl' h3 (by omega), la_cpy, show ((sp.toNat : Nat) : Int) = sp by omega, show ((dp.toNat : Nat) : Int) = dp by omega, show ((k.toNat : Nat) : Int) = k by omega, hF] at p1 d1
  exact kk H1 locs1 p1 d1 s1
end XM
theorem cy_q (p : Int) (n : Nat) (s t : Int → Int) : cyT (pj p n s) (pj p n t) 0 0 n = pj p n s := by
  funext j
  simp only [cyT]
  by_cases h : 0 ≤ j ∧ j < 0 + (n : Int)
  · rw [if_pos h]; congr 1; omega
  · rw [if_neg h]; simp only [pj]; rw [if_neg (by omega), if_neg (by omega)]
theorem cy_z (w : Int) (s t : Int → Int) : cyT (pz w s) (pz w t) 0 0 8 = pz w s := by
  funext j
  simp only [cyT]
  by_cases h : 0 ≤ j ∧ j < 0 + 8
  · rw [if_pos h]; congr 1; omega
  · rw [if_neg h]; simp only [pz]; rw [if_neg (by omega), if_neg (by omega)]
theorem mk_X1_76 : LkM RX1 76 Lib.Math.max.name Lib.Math.max.code := ⟨tm (List.mem_append_right _ (mT (List.mem_append_right _ (List.mem_append_left _ (List.mem_of_getElem? (i := 37) (by decide +kernel)))))) (by decide +kernel), tm (List.mem_append_right _ (mT (List.mem_append_right _ (List.mem_append_left _ (List.mem_of_getElem? (i := 38) (by decide +kernel)))))) (by decide +kernel), tm (List.mem_append_right _ (mT (List.mem_append_left _ (List.mem_of_getElem? (i := 7) (by decide +kernel))))) (by decide +kernel), tm (List.mem_append_right _ (mT (List.mem_append_right _ (List.mem_append_left _ (List.mem_of_getElem? (i := 39) rfl))))) rfl⟩
theorem mk_X1_55 : LkC RX1 55 := ⟨tm (List.mem_append_right _ (mT (List.mem_append_right _ (List.mem_append_left _ (List.mem_of_getElem? (i := 157) (by decide +kernel)))))) (by decide +kernel), tm (List.mem_append_right _ (mT (List.mem_append_right _ (List.mem_append_left _ (List.mem_of_getElem? (i := 159) (by decide +kernel)))))) (by decide +kernel), tm (List.mem_append_right _ (mT (List.mem_append_right _ (List.mem_append_left _ (List.mem_of_getElem? (i := 158) (by decide +kernel)))))) (by decide +kernel), tm (List.mem_append_right _ (mT (List.mem_append_left _ (List.mem_of_getElem? (i := 8) (by decide +kernel))))) (by decide +kernel)⟩
theorem mk_X3_141 : LkM RX3 141 Lib.Math.min.name Lib.Math.min.code := ⟨tm (List.mem_append_right _ (mT (List.mem_append_right _ (List.mem_append_right _ (List.mem_append_left _ (List.mem_of_getElem? (i := 103) (by decide +kernel))))))) (by decide +kernel), tm (List.mem_append_right _ (mT (List.mem_append_right _ (List.mem_append_right _ (List.mem_append_left _ (List.mem_of_getElem? (i := 104) (by decide +kernel))))))) (by decide +kernel), tm (List.mem_append_right _ (mT (List.mem_append_left _ (List.mem_of_getElem? (i := 7) (by decide +kernel))))) (by decide +kernel), tm (List.mem_append_right _ (mT (List.mem_append_right _ (List.mem_append_right _ (List.mem_append_left _ (List.mem_of_getElem? (i := 105) rfl)))))) rfl⟩
theorem mk_X4_276 : LkC RX4 276 := ⟨tm (List.mem_append_right _ (mT (List.mem_append_right _ (List.mem_append_right _ (List.mem_append_right _ (List.mem_append_left _ (List.mem_of_getElem? (i := 18) (by decide +kernel)))))))) (by decide +kernel), tm (List.mem_append_right _ (mT (List.mem_append_right _ (List.mem_append_left _ (List.mem_of_getElem? (i := 159) (by decide +kernel)))))) (by decide +kernel), tm (List.mem_append_right _ (mT (List.mem_append_right _ (List.mem_append_left _ (List.mem_of_getElem? (i := 158) (by decide +kernel)))))) (by decide +kernel), tm (List.mem_append_right _ (mT (List.mem_append_left _ (List.mem_of_getElem? (i := 8) (by decide +kernel))))) (by decide +kernel)⟩

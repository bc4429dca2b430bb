abbrev rm_X0_copyOfHere : Room := { frames := 2, cells := 0, slots := 0, locals := 101 }
set_option maxRecDepth 100000 in
set_option maxHeartbeats 4000000 in
theorem c_X0_copyOfHere (l : Launch) (g : Gd) (a : Nat → Nat) (f1 : Int → Int) (b : Nat → Nat) (e1 : Int → Int) (e10 : Int → Int) (e11 : Int → Int) (d : Nat → Nat) (t1 : Int → Int) (t10 : Int → Int) (t11 : Int → Int) (sz : Nat)  : Met l yX0_copyOfHere (wsOf yX0_copyOfHere cX0_copyOfHere 1 (some (.object "MountainFile$Land"))) rm_X0_copyOfHere (PX g (wP g (wF g a b d f1 ++ (wLs g b e1 e10 e11 ++ (wLs g d t1 t10 t11))) sz) [.ref (a 0)]) (QMr g (fun _ : Unit => wF g a b d f1 ++ (wLs g b e1 e10 e11 ++ (wLs g d e1 t10 t11))) (d 0) (fun _ => True) (va_A (wF g a b d f1 ++ (wLs g b e1 e10 e11 ++ (wLs g d t1 t10 t11))) sz)) 0 0 (va_A (wF g a b d f1 ++ (wLs g b e1 e10 e11 ++ (wLs g d t1 t10 t11))) sz) := by
  refine me (g := g) (by decide) rfl ?_
  intro pq eq s mq below meth cq C hnm hB ls hl
  obtain ⟨hx, hb, hr, hml, hown, hts, hlocks, hK⟩ := C
  have hown : s.vm.findClass RX0 = some mq.cls := hown
  have hl : lv_has ls 1 [(0, .ref (a 0))] := hl
  obtain ⟨hsz, hP, hD0⟩ := hB
  subst hsz
  have hD := hD0.self (sz := s.heap.size)
  have hA : ∀ q : Nat, s.heap.size ≤ q → va_A (wF g a b d f1 ++ (wLs g b e1 e10 e11 ++ (wLs g d t1 t10 t11))) s.heap.size q := fun q h => Or.inr h
  have hS : va_S (va_A (wF g a b d f1 ++ (wLs g b e1 e10 e11 ++ (wLs g d t1 t10 t11))) s.heap.size) s.heap s.heap [] := va_S.rf
  obtain ⟨hP0, hPr0⟩ := va_P_app.mp hP
  obtain ⟨hP1, hP2⟩ := va_P_app.mp hPr0
  refine lv_aload_n hx hb dX0_copyOfHere_0 rfl (lv_at hl 0 rfl) ?_
  refine xg_X0 hx hb hts hown hK hP0 0 rfl 1 (by decide) fk_X0_12 (v := .ref (d 0)) rfl dX0_copyOfHere_1 ?_
  refine lv_aload_n hx hb dX0_copyOfHere_4 rfl (lv_at hl 0 rfl) ?_
  refine xg_X0 hx hb hts hown hK hP0 0 rfl 0 (by decide) fk_X0_22 (v := .ref (b 0)) rfl dX0_copyOfHere_5 ?_
  have hD : va_D (va_A (wF g a b d f1 ++ (wLs g b e1 e10 e11 ++ (wLs g d t1 t10 t11))) s.heap.size) (wF g a b d f1 ++ (wLs g d t1 t10 t11 ++ (wLs g b e1 e10 e11))) := D_perm (List.Perm.append_left _ (List.perm_append_comm)) hD
  have hD : va_D (va_A (wF g a b d f1 ++ (wLs g b e1 e10 e11 ++ (wLs g d t1 t10 t11))) s.heap.size) (wLs g d t1 t10 t11 ++ (wF g a b d f1 ++ (wLs g b e1 e10 e11))) := D_perm (List.perm_append_comm_assoc _ _ _) hD
  have hD : va_D (va_A (wF g a b d f1 ++ (wLs g b e1 e10 e11 ++ (wLs g d t1 t10 t11))) s.heap.size) (wLs g d t1 t10 t11 ++ (wLs g b e1 e10 e11 ++ (wF g a b d f1))) := D_perm (List.Perm.append_left _ (List.perm_append_comm)) hD
  have hP : va_P g.1 vwCl (wLs g d t1 t10 t11 ++ (wLs g b e1 e10 e11 ++ (wF g a b d f1))) s.heap := va_P_app.mpr ⟨hP2, va_P_app.mpr ⟨hP1, hP0⟩⟩
  have hP : va_P g.1 vwCl ((wLs g d t1 t10 t11 ++ (wLs g b e1 e10 e11)) ++ (wF g a b d f1)) s.heap := by rw [List.append_assoc]; exact hP
  have hD : va_D (va_A (wF g a b d f1 ++ (wLs g b e1 e10 e11 ++ (wLs g d t1 t10 t11))) s.heap.size) ((wLs g d t1 t10 t11 ++ (wLs g b e1 e10 e11)) ++ (wF g a b d f1)) := by rw [List.append_assoc]; exact hD
  refine xmF_v (rVN (rest := []) hx hb hml hown hts hK hl (c_X1_becomes l g d t1 t10 t11 b e1 e10 e11 (s.heap).size ) lk_X0_25 ⟨rfl, (va_P_app.mp hP).1, (va_D_app hD).1.weaken (fun _ _ _ _ => trivial)⟩ (va_recv hK.1 hP2 (ci := 1) (q0 := 0) rfl rfl) rfl rfl rfl (Rm.of rfl) rfl rfl dX0_copyOfHere_8) hP hD hS hA (fun _ H locs hw hP hD hS => ?_)
  have hP : va_P g.1 vwCl ((wLs g d e1 t10 t11 ++ (wLs g b e1 e10 e11)) ++ (wF g a b d f1)) H := hP
  have hD : va_D (va_A (wF g a b d f1 ++ (wLs g b e1 e10 e11 ++ (wLs g d t1 t10 t11))) s.heap.size) ((wLs g d e1 t10 t11 ++ (wLs g b e1 e10 e11)) ++ (wF g a b d f1)) := hD
  rw [List.append_assoc] at hP hD
  have hP : va_P g.1 vwCl (wLs g d e1 t10 t11 ++ (wLs g b e1 e10 e11 ++ (wF g a b d f1))) H := hP
  have hD : va_D (va_A (wF g a b d f1 ++ (wLs g b e1 e10 e11 ++ (wLs g d t1 t10 t11))) s.heap.size) (wLs g d e1 t10 t11 ++ (wLs g b e1 e10 e11 ++ (wF g a b d f1))) := hD
  obtain ⟨hP2, hPr0⟩ := va_P_app.mp hP
  obtain ⟨hP1, hP0⟩ := va_P_app.mp hPr0
  refine lv_aload_n hx hb dX0_copyOfHere_11 rfl (lv_at hl 0 rfl) ?_
  refine xg_X0 hx hb hts hown hK hP0 0 rfl 1 (by decide) fk_X0_12 (v := .ref (d 0)) rfl dX0_copyOfHere_12 ?_
  have hD : va_D (va_A (wF g a b d f1 ++ (wLs g b e1 e10 e11 ++ (wLs g d t1 t10 t11))) s.heap.size) (wLs g d e1 t10 t11 ++ (wF g a b d f1 ++ (wLs g b e1 e10 e11))) := D_perm (List.Perm.append_left _ (List.perm_append_comm)) hD
  have hD : va_D (va_A (wF g a b d f1 ++ (wLs g b e1 e10 e11 ++ (wLs g d t1 t10 t11))) s.heap.size) (wF g a b d f1 ++ (wLs g d e1 t10 t11 ++ (wLs g b e1 e10 e11))) := D_perm (List.perm_append_comm_assoc _ _ _) hD
  have hD : va_D (va_A (wF g a b d f1 ++ (wLs g b e1 e10 e11 ++ (wLs g d t1 t10 t11))) s.heap.size) (wF g a b d f1 ++ (wLs g b e1 e10 e11 ++ (wLs g d e1 t10 t11))) := D_perm (List.Perm.append_left _ (List.perm_append_comm)) hD
  have hP : va_P g.1 vwCl (wF g a b d f1 ++ (wLs g b e1 e10 e11 ++ (wLs g d e1 t10 t11))) H := va_P_app.mpr ⟨hP0, va_P_app.mpr ⟨hP1, hP2⟩⟩
  have hP : va_P g.1 vwCl (wF g a b d f1 ++ (wLs g b e1 e10 e11 ++ (wLs g d e1 t10 t11))) H := hP
  have hD : va_D (va_A (wF g a b d f1 ++ (wLs g b e1 e10 e11 ++ (wLs g d t1 t10 t11))) s.heap.size) (wF g a b d f1 ++ (wLs g b e1 e10 e11 ++ (wLs g d e1 t10 t11))) := hD
  exact W.aret hx hb hr (Or.inl ⟨_, rfl⟩) (Or.inr ⟨_, rfl⟩) (fun t ht hW => ⟨⟨(), _, rfl, trivial, rfl, by rw [ht]; exact hP, hD⟩, hS.F ht⟩) hS.2.2 dX0_copyOfHere_15
abbrev rm_X0_after : Room := { frames := 4, cells := 0, slots := 0, locals := 101 }
set_option maxRecDepth 100000 in
set_option maxHeartbeats 4000000 in
theorem c_X0_after (l : Launch) (g : Gd) (a : Nat → Nat) (f1 : Int → Int) (b : Nat → Nat) (e1 : Int → Int) (e10 : Int → Int) (e11 : Int → Int) (d : Nat → Nat) (t1 : Int → Int) (t10 : Int → Int) (t11 : Int → Int) (n : Int) (sz : Nat) (h1 : InvK 0 e1) (h2 : 0 ≤ n ∧ e1 0 + n ≤ 20000) : Met l yX0_after (wsOf yX0_after cX0_after 2 (some (.object "MountainFile$Land"))) rm_X0_after (PX g (wP g (wF g a b d f1 ++ (wLs g b e1 e10 e11 ++ (wLs g d t1 t10 t11))) sz) [.ref (a 0), .int (iI n)]) (QMr g (fun u9 : Nat → Int → Int => wF g a b d f1 ++ (wLs g b e1 e10 e11 ++ (wLs g d (seaN e1 (Int.toNat n)) (u9 210) (u9 211)))) (d 0) (fun _ => True) (va_A (wF g a b d f1 ++ (wLs g b e1 e10 e11 ++ (wLs g d t1 t10 t11))) sz)) 0 0 (va_A (wF g a b d f1 ++ (wLs g b e1 e10 e11 ++ (wLs g d t1 t10 t11))) sz) := by
  refine me (g := g) (by decide) rfl ?_
  intro pq eq s mq below meth cq C hnm hB ls hl
  obtain ⟨hx, hb, hr, hml, hown, hts, hlocks, hK⟩ := C
  have hown : s.vm.findClass RX0 = some mq.cls := hown
  have hl : lv_has ls 2 [(0, .ref (a 0)), (1, .int (iI n))] := hl
  obtain ⟨hsz, hP, hD0⟩ := hB
  subst hsz
  have hD := hD0.self (sz := s.heap.size)
  have hA : ∀ q : Nat, s.heap.size ≤ q → va_A (wF g a b d f1 ++ (wLs g b e1 e10 e11 ++ (wLs g d t1 t10 t11))) s.heap.size q := fun q h => Or.inr h
  have hS : va_S (va_A (wF g a b d f1 ++ (wLs g b e1 e10 e11 ++ (wLs g d t1 t10 t11))) s.heap.size) s.heap s.heap [] := va_S.rf
  obtain ⟨hP0, hPr0⟩ := va_P_app.mp hP
  obtain ⟨hP1, hP2⟩ := va_P_app.mp hPr0
  refine lv_aload_n hx hb dX0_after_0 rfl (lv_at hl 0 rfl) ?_
  refine xg_X0 hx hb hts hown hK hP0 0 rfl 1 (by decide) fk_X0_12 (v := .ref (d 0)) rfl dX0_after_1 ?_
  refine lv_aload_n hx hb dX0_after_4 rfl (lv_at hl 0 rfl) ?_
  refine xg_X0 hx hb hts hown hK hP0 0 rfl 0 (by decide) fk_X0_22 (v := .ref (b 0)) rfl dX0_after_5 ?_
  have hD : va_D (va_A (wF g a b d f1 ++ (wLs g b e1 e10 e11 ++ (wLs g d t1 t10 t11))) s.heap.size) (wF g a b d f1 ++ (wLs g d t1 t10 t11 ++ (wLs g b e1 e10 e11))) := D_perm (List.Perm.append_left _ (List.perm_append_comm)) hD
  have hD : va_D (va_A (wF g a b d f1 ++ (wLs g b e1 e10 e11 ++ (wLs g d t1 t10 t11))) s.heap.size) (wLs g d t1 t10 t11 ++ (wF g a b d f1 ++ (wLs g b e1 e10 e11))) := D_perm (List.perm_append_comm_assoc _ _ _) hD
  have hD : va_D (va_A (wF g a b d f1 ++ (wLs g b e1 e10 e11 ++ (wLs g d t1 t10 t11))) s.heap.size) (wLs g d t1 t10 t11 ++ (wLs g b e1 e10 e11 ++ (wF g a b d f1))) := D_perm (List.Perm.append_left _ (List.perm_append_comm)) hD
  have hP : va_P g.1 vwCl (wLs g d t1 t10 t11 ++ (wLs g b e1 e10 e11 ++ (wF g a b d f1))) s.heap := va_P_app.mpr ⟨hP2, va_P_app.mpr ⟨hP1, hP0⟩⟩
  have hP : va_P g.1 vwCl ((wLs g d t1 t10 t11 ++ (wLs g b e1 e10 e11)) ++ (wF g a b d f1)) s.heap := by rw [List.append_assoc]; exact hP
  have hD : va_D (va_A (wF g a b d f1 ++ (wLs g b e1 e10 e11 ++ (wLs g d t1 t10 t11))) s.heap.size) ((wLs g d t1 t10 t11 ++ (wLs g b e1 e10 e11)) ++ (wF g a b d f1)) := by rw [List.append_assoc]; exact hD
  refine xmF_v (rVN (rest := []) hx hb hml hown hts hK hl (c_X1_becomes l g d t1 t10 t11 b e1 e10 e11 (s.heap).size ) lk_X0_25 ⟨rfl, (va_P_app.mp hP).1, (va_D_app hD).1.weaken (fun _ _ _ _ => trivial)⟩ (va_recv hK.1 hP2 (ci := 1) (q0 := 0) rfl rfl) rfl rfl rfl (Rm.of rfl) rfl rfl dX0_after_8) hP hD hS hA (fun _ H locs hw hP hD hS => ?_)
  have hP : va_P g.1 vwCl ((wLs g d e1 t10 t11 ++ (wLs g b e1 e10 e11)) ++ (wF g a b d f1)) H := hP
  have hD : va_D (va_A (wF g a b d f1 ++ (wLs g b e1 e10 e11 ++ (wLs g d t1 t10 t11))) s.heap.size) ((wLs g d e1 t10 t11 ++ (wLs g b e1 e10 e11)) ++ (wF g a b d f1)) := hD
  rw [List.append_assoc] at hP hD
  have hP : va_P g.1 vwCl (wLs g d e1 t10 t11 ++ (wLs g b e1 e10 e11 ++ (wF g a b d f1))) H := hP
  have hD : va_D (va_A (wF g a b d f1 ++ (wLs g b e1 e10 e11 ++ (wLs g d t1 t10 t11))) s.heap.size) (wLs g d e1 t10 t11 ++ (wLs g b e1 e10 e11 ++ (wF g a b d f1))) := hD
  obtain ⟨hP2, hPr0⟩ := va_P_app.mp hP
  obtain ⟨hP1, hP0⟩ := va_P_app.mp hPr0
  refine lv_aload_n hx hb dX0_after_11 rfl (lv_at hl 0 rfl) ?_
  refine xg_X0 hx hb hts hown hK hP0 0 rfl 1 (by decide) fk_X0_12 (v := .ref (d 0)) rfl dX0_after_12 ?_
  refine lv_iload_n hx hb dX0_after_15 rfl (lv_at hl 1 rfl) ?_
  refine xmF_v (rVN (rest := []) hx hb hml hown hts hK hl (c_X1_goSeasons l g d e1 t10 t11 n H.size (show InvK 0 e1 from h1) (show 0 ≤ n ∧ e1 0 + n ≤ 20000 from by omega)) lk_X0_29 ⟨rfl, hP2, (va_D_app hD).1.weaken (fun _ _ _ _ => trivial)⟩ (va_recv hK.1 hP2 (ci := 1) (q0 := 0) rfl rfl) rfl rfl rfl (Rm.of rfl) rfl rfl dX0_after_16) hP hD hS hA (fun u2 H locs hw hP hD hS => ?_)
  have hP : va_P g.1 vwCl (wLs g d (seaN e1 (Int.toNat n)) (u2 10) (u2 11) ++ (wLs g b e1 e10 e11 ++ (wF g a b d f1))) H := hP
  have hD : va_D (va_A (wF g a b d f1 ++ (wLs g b e1 e10 e11 ++ (wLs g d t1 t10 t11))) s.heap.size) (wLs g d (seaN e1 (Int.toNat n)) (u2 10) (u2 11) ++ (wLs g b e1 e10 e11 ++ (wF g a b d f1))) := hD
  obtain ⟨hP2, hPr0⟩ := va_P_app.mp hP
  obtain ⟨hP1, hP0⟩ := va_P_app.mp hPr0
  refine lv_aload_n hx hb dX0_after_19 rfl (lv_at hl 0 rfl) ?_
  refine xg_X0 hx hb hts hown hK hP0 0 rfl 1 (by decide) fk_X0_12 (v := .ref (d 0)) rfl dX0_after_20 ?_
  have hD : va_D (va_A (wF g a b d f1 ++ (wLs g b e1 e10 e11 ++ (wLs g d t1 t10 t11))) s.heap.size) (wLs g d (seaN e1 (Int.toNat n)) (u2 10) (u2 11) ++ (wF g a b d f1 ++ (wLs g b e1 e10 e11))) := D_perm (List.Perm.append_left _ (List.perm_append_comm)) hD
  have hD : va_D (va_A (wF g a b d f1 ++ (wLs g b e1 e10 e11 ++ (wLs g d t1 t10 t11))) s.heap.size) (wF g a b d f1 ++ (wLs g d (seaN e1 (Int.toNat n)) (u2 10) (u2 11) ++ (wLs g b e1 e10 e11))) := D_perm (List.perm_append_comm_assoc _ _ _) hD
  have hD : va_D (va_A (wF g a b d f1 ++ (wLs g b e1 e10 e11 ++ (wLs g d t1 t10 t11))) s.heap.size) (wF g a b d f1 ++ (wLs g b e1 e10 e11 ++ (wLs g d (seaN e1 (Int.toNat n)) (u2 10) (u2 11)))) := D_perm (List.Perm.append_left _ (List.perm_append_comm)) hD
  have hP : va_P g.1 vwCl (wF g a b d f1 ++ (wLs g b e1 e10 e11 ++ (wLs g d (seaN e1 (Int.toNat n)) (u2 10) (u2 11)))) H := va_P_app.mpr ⟨hP0, va_P_app.mpr ⟨hP1, hP2⟩⟩
  have hP : va_P g.1 vwCl (wF g a b d f1 ++ (wLs g b e1 e10 e11 ++ (wLs g d (seaN e1 (Int.toNat n)) ((su (su (fun _ _ => 0) 210 (u2 10)) 211 (u2 11)) 210) ((su (su (fun _ _ => 0) 210 (u2 10)) 211 (u2 11)) 211)))) H := hP
  have hD : va_D (va_A (wF g a b d f1 ++ (wLs g b e1 e10 e11 ++ (wLs g d t1 t10 t11))) s.heap.size) (wF g a b d f1 ++ (wLs g b e1 e10 e11 ++ (wLs g d (seaN e1 (Int.toNat n)) ((su (su (fun _ _ => 0) 210 (u2 10)) 211 (u2 11)) 210) ((su (su (fun _ _ => 0) 210 (u2 10)) 211 (u2 11)) 211)))) := hD
  exact W.aret hx hb hr (Or.inl ⟨_, rfl⟩) (Or.inr ⟨_, rfl⟩) (fun t ht hW => ⟨⟨(su (su (fun _ _ => 0) 210 (u2 10)) 211 (u2 11)), _, rfl, trivial, rfl, by rw [ht]; exact hP, hD⟩, hS.F ht⟩) hS.2.2 dX0_after_23
abbrev rm_X0_seasonsUntilIn : Room := { frames := 3, cells := 0, slots := 0, locals := 101 }
set_option maxRecDepth 100000 in
set_option maxHeartbeats 4000000 in
theorem c_X0_seasonsUntilIn (l : Launch) (g : Gd) (a : Nat → Nat) (f1 : Int → Int) (b : Nat → Nat) (e1 : Int → Int) (e10 : Int → Int) (e11 : Int → Int) (d : Nat → Nat) (t1 : Int → Int) (t10 : Int → Int) (t11 : Int → Int) (r : Int) (ce : Int) (sz : Nat) (h1 : InvK 0 e1) (h2 : e1 0 ≤ 9999) (h3 : 0 ≤ r ∧ r < e1 1) (h4 : 0 ≤ ce ∧ ce ≤ 23) : Met l yX0_seasonsUntilIn (wsOf yX0_seasonsUntilIn cX0_seasonsUntilIn 4 (some .int)) rm_X0_seasonsUntilIn (PX g (wP g (wF g a b d f1 ++ (wLs g b e1 e10 e11 ++ (wLs g d t1 t10 t11))) sz) [.ref (a 0), .int (iI r), .int (iI ce)]) (QMi g (fun u9 : Nat → Int → Int => wF g a b d f1 ++ (wLs g b e1 e10 e11 ++ (wLs g d (u9 201) (u9 210) (u9 211)))) (fun r9 _ => r9 = iI (if 80 < fsT (whP e1 r ce) 81 0 then -1 else (fsT (whP e1 r ce) 81 0 : Int))) (va_A (wF g a b d f1 ++ (wLs g b e1 e10 e11 ++ (wLs g d t1 t10 t11))) sz)) 0 0 (va_A (wF g a b d f1 ++ (wLs g b e1 e10 e11 ++ (wLs g d t1 t10 t11))) sz) := by
  refine me (g := g) (by decide) rfl ?_
  intro pq eq s mq below meth cq C hnm hB ls hl
  obtain ⟨hx, hb, hr, hml, hown, hts, hlocks, hK⟩ := C
  have hown : s.vm.findClass RX0 = some mq.cls := hown
  have hl : lv_has ls 4 [(0, .ref (a 0)), (1, .int (iI r)), (2, .int (iI ce))] := hl
  obtain ⟨hsz, hP, hD0⟩ := hB
  subst hsz
  have hD := hD0.self (sz := s.heap.size)
  have hA : ∀ q : Nat, s.heap.size ≤ q → va_A (wF g a b d f1 ++ (wLs g b e1 e10 e11 ++ (wLs g d t1 t10 t11))) s.heap.size q := fun q h => Or.inr h
  have hS : va_S (va_A (wF g a b d f1 ++ (wLs g b e1 e10 e11 ++ (wLs g d t1 t10 t11))) s.heap.size) s.heap s.heap [] := va_S.rf
  obtain ⟨hP0, hPr0⟩ := va_P_app.mp hP
  obtain ⟨hP1, hP2⟩ := va_P_app.mp hPr0
  have hI := h1
  have hI8 : Inv e1 := h1.mono (by omega)
  have hn := hI.num
  have hs := hI.sea
  have hv := hI.vil
  refine lv_aload_n hx hb dX0_seasonsUntilIn_0 rfl (lv_at hl 0 rfl) ?_
  refine xg_X0 hx hb hts hown hK hP0 0 rfl 1 (by decide) fk_X0_12 (v := .ref (d 0)) rfl dX0_seasonsUntilIn_1 ?_
  refine lv_aload_n hx hb dX0_seasonsUntilIn_4 rfl (lv_at hl 0 rfl) ?_
  refine xg_X0 hx hb hts hown hK hP0 0 rfl 0 (by decide) fk_X0_22 (v := .ref (b 0)) rfl dX0_seasonsUntilIn_5 ?_
  have hD : va_D (va_A (wF g a b d f1 ++ (wLs g b e1 e10 e11 ++ (wLs g d t1 t10 t11))) s.heap.size) (wF g a b d f1 ++ (wLs g d t1 t10 t11 ++ (wLs g b e1 e10 e11))) := D_perm (List.Perm.append_left _ (List.perm_append_comm)) hD
  have hD : va_D (va_A (wF g a b d f1 ++ (wLs g b e1 e10 e11 ++ (wLs g d t1 t10 t11))) s.heap.size) (wLs g d t1 t10 t11 ++ (wF g a b d f1 ++ (wLs g b e1 e10 e11))) := D_perm (List.perm_append_comm_assoc _ _ _) hD
  have hD : va_D (va_A (wF g a b d f1 ++ (wLs g b e1 e10 e11 ++ (wLs g d t1 t10 t11))) s.heap.size) (wLs g d t1 t10 t11 ++ (wLs g b e1 e10 e11 ++ (wF g a b d f1))) := D_perm (List.Perm.append_left _ (List.perm_append_comm)) hD
  have hP : va_P g.1 vwCl (wLs g d t1 t10 t11 ++ (wLs g b e1 e10 e11 ++ (wF g a b d f1))) s.heap := va_P_app.mpr ⟨hP2, va_P_app.mpr ⟨hP1, hP0⟩⟩
  have hP : va_P g.1 vwCl ((wLs g d t1 t10 t11 ++ (wLs g b e1 e10 e11)) ++ (wF g a b d f1)) s.heap := by rw [List.append_assoc]; exact hP
  have hD : va_D (va_A (wF g a b d f1 ++ (wLs g b e1 e10 e11 ++ (wLs g d t1 t10 t11))) s.heap.size) ((wLs g d t1 t10 t11 ++ (wLs g b e1 e10 e11)) ++ (wF g a b d f1)) := by rw [List.append_assoc]; exact hD
  refine xmF_v (rVN (rest := []) hx hb hml hown hts hK hl (c_X1_becomes l g d t1 t10 t11 b e1 e10 e11 (s.heap).size ) lk_X0_25 ⟨rfl, (va_P_app.mp hP).1, (va_D_app hD).1.weaken (fun _ _ _ _ => trivial)⟩ (va_recv hK.1 hP2 (ci := 1) (q0 := 0) rfl rfl) rfl rfl rfl (Rm.of rfl) rfl rfl dX0_seasonsUntilIn_8) hP hD hS hA (fun _ H locs hw hP hD hS => ?_)
  have hP : va_P g.1 vwCl ((wLs g d e1 t10 t11 ++ (wLs g b e1 e10 e11)) ++ (wF g a b d f1)) H := hP
  have hD : va_D (va_A (wF g a b d f1 ++ (wLs g b e1 e10 e11 ++ (wLs g d t1 t10 t11))) s.heap.size) ((wLs g d e1 t10 t11 ++ (wLs g b e1 e10 e11)) ++ (wF g a b d f1)) := hD
  rw [List.append_assoc] at hP hD
  have hP : va_P g.1 vwCl (wLs g d e1 t10 t11 ++ (wLs g b e1 e10 e11 ++ (wF g a b d f1))) H := hP
  have hD : va_D (va_A (wF g a b d f1 ++ (wLs g b e1 e10 e11 ++ (wLs g d t1 t10 t11))) s.heap.size) (wLs g d e1 t10 t11 ++ (wLs g b e1 e10 e11 ++ (wF g a b d f1))) := hD
  obtain ⟨hP2, hPr0⟩ := va_P_app.mp hP
  obtain ⟨hP1, hP0⟩ := va_P_app.mp hPr0
  refine lv_iconst (v := iI (0)) hx hb dX0_seasonsUntilIn_11 (by decide) ?_
  refine lv_istore_n (lv' := [(3, .int (iI 0)), (0, .ref (a 0)), (1, .int (iI r)), (2, .int (iI ce))]) hx hb dX0_seasonsUntilIn_12 rfl hl (by decide) rfl (fun ls hl => ?_)
  have lp13 : ∀ (n13 : Nat) (n : Nat) (x9 : Int → Int) (y9 : Int → Int), ((n : Int) ≤ 81) → (fsT (whP e1 r ce) (81 - n) n = fsT (whP e1 r ce) 81 0) → 81 - n < n13 → ∀ ls : Array Slot, lv_has ls 4 [(3, .int (iI (n : Int))), (0, .ref (a 0)), (1, .int (iI r)), (2, .int (iI ce))] → ∀ (H : Heap) (locs : List Loc), va_P g.1 vwCl (wLs g d (seaN e1 n) x9 y9 ++ (wLs g b e1 e10 e11 ++ (wF g a b d f1))) H → va_D (va_A (wF g a b d f1 ++ (wLs g b e1 e10 e11 ++ (wLs g d t1 t10 t11))) s.heap.size) (wLs g d (seaN e1 n) x9 y9 ++ (wLs g b e1 e10 e11 ++ (wF g a b d f1))) → va_S (va_A (wF g a b d f1 ++ (wLs g b e1 e10 e11 ++ (wLs g d t1 t10 t11))) s.heap.size) s.heap H locs → W pq l eq rm_X0_seasonsUntilIn s mq [.ref (a 0), .int (iI r), .int (iI ce)].toArray below meth cq H locs 0 0 (MQ below (QMi g (fun u9 : Nat → Int → Int => wF g a b d f1 ++ (wLs g b e1 e10 e11 ++ (wLs g d (u9 201) (u9 210) (u9 211)))) (fun r9 _ => r9 = iI (if 80 < fsT (whP e1 r ce) 81 0 then -1 else (fsT (whP e1 r ce) 81 0 : Int))) (va_A (wF g a b d f1 ++ (wLs g b e1 e10 e11 ++ (wLs g d t1 t10 t11))) s.heap.size)) [.ref (a 0), .int (iI r), .int (iI ce)].toArray s 0 0 (va_A (wF g a b d f1 ++ (wLs g b e1 e10 e11 ++ (wLs g d t1 t10 t11))) s.heap.size)) (F0 mq 13 ls []) := by
    intro n13
    induction n13 with
    | zero => intro n x9 y9 i13_1 i13_2 hm; exact absurd hm (Nat.not_lt_zero _)
    | succ n13 ih13 =>
      intro n x9 y9 i13_1 i13_2 hm13 ls hl H locs hP hD hS
      have hsn := seaN_inv hI n (by omega)
      have hs0 := hsn.2.1
      have hs1 := hsn.2.2 1 (by omega) (by omega)
      have hs2 := hsn.2.2 2 (by omega) (by omega)
      have hcr := hsn.1.ran r (by omega) (by omega)
      obtain ⟨hP2, hPr0⟩ := va_P_app.mp hP
      obtain ⟨hP1, hP0⟩ := va_P_app.mp hPr0
      refine lv_iload_n hx hb dX0_seasonsUntilIn_13 rfl (lv_at hl 0 rfl) ?_
      refine lv_bipush (v := iI (80)) hx hb dX0_seasonsUntilIn_14 (by decide) ?_
      refine xi_c_gt (tgt := 47) hx hb ⟨by omega, by omega⟩ ⟨by decide, by decide⟩ dX0_seasonsUntilIn_16 (by decide) (fun z2 => ?_) (fun z2 => ?_)
      · have hfs : fsT (whP e1 r ce) 81 0 = n := by rw [← i13_2, show 81 - n = 0 by omega]; rfl
        refine lv_iconst (v := iI (-1)) hx hb dX0_seasonsUntilIn_47 (by decide) ?_
        have hD : va_D (va_A (wF g a b d f1 ++ (wLs g b e1 e10 e11 ++ (wLs g d t1 t10 t11))) s.heap.size) (wLs g d (seaN e1 n) x9 y9 ++ (wF g a b d f1 ++ (wLs g b e1 e10 e11))) := D_perm (List.Perm.append_left _ (List.perm_append_comm)) hD
        have hD : va_D (va_A (wF g a b d f1 ++ (wLs g b e1 e10 e11 ++ (wLs g d t1 t10 t11))) s.heap.size) (wF g a b d f1 ++ (wLs g d (seaN e1 n) x9 y9 ++ (wLs g b e1 e10 e11))) := D_perm (List.perm_append_comm_assoc _ _ _) hD
        have hD : va_D (va_A (wF g a b d f1 ++ (wLs g b e1 e10 e11 ++ (wLs g d t1 t10 t11))) s.heap.size) (wF g a b d f1 ++ (wLs g b e1 e10 e11 ++ (wLs g d (seaN e1 n) x9 y9))) := D_perm (List.Perm.append_left _ (List.perm_append_comm)) hD
        have hP : va_P g.1 vwCl (wF g a b d f1 ++ (wLs g b e1 e10 e11 ++ (wLs g d (seaN e1 n) x9 y9))) H := va_P_app.mpr ⟨hP0, va_P_app.mpr ⟨hP1, hP2⟩⟩
        have hP : va_P g.1 vwCl (wF g a b d f1 ++ (wLs g b e1 e10 e11 ++ (wLs g d ((su (su (su (fun _ _ => 0) 201 (seaN e1 n)) 210 x9) 211 y9) 201) ((su (su (su (fun _ _ => 0) 201 (seaN e1 n)) 210 x9) 211 y9) 210) ((su (su (su (fun _ _ => 0) 201 (seaN e1 n)) 210 x9) 211 y9) 211)))) H := hP
        have hD : va_D (va_A (wF g a b d f1 ++ (wLs g b e1 e10 e11 ++ (wLs g d t1 t10 t11))) s.heap.size) (wF g a b d f1 ++ (wLs g b e1 e10 e11 ++ (wLs g d ((su (su (su (fun _ _ => 0) 201 (seaN e1 n)) 210 x9) 211 y9) 201) ((su (su (su (fun _ _ => 0) 201 (seaN e1 n)) 210 x9) 211 y9) 210) ((su (su (su (fun _ _ => 0) 201 (seaN e1 n)) 210 x9) 211 y9) 211)))) := hD
        exact W.iret hx hb hr (fun t ht hW => ⟨⟨_, (su (su (su (fun _ _ => 0) 201 (seaN e1 n)) 210 x9) 211 y9), rfl, congrArg iI (by rw [hfs, if_pos (by omega)]), by rw [ht]; exact hP, hD⟩, hS.F ht⟩) hS.2.2 dX0_seasonsUntilIn_48
      · refine lv_aload_n hx hb dX0_seasonsUntilIn_19 rfl (lv_at hl 1 rfl) ?_
        refine xg_X0 hx hb hts hown hK hP0 0 rfl 1 (by decide) fk_X0_12 (v := .ref (d 0)) rfl dX0_seasonsUntilIn_20 ?_
        refine xgN_X1 hx hb hts hown hK hP2 0 rfl 8 (by decide) fk_X0_33 (v := .ref (d 6)) rfl dX0_seasonsUntilIn_23 ?_
        refine lv_iload_n hx hb dX0_seasonsUntilIn_26 rfl (lv_at hl 2 rfl) ?_
        refine xi_alz hx hb hK hP2 6 (s0 := seaN e1 n) rfl (i := r) ⟨by omega, by omega⟩ rfl dX0_seasonsUntilIn_27 ?_
        refine lv_iload_n hx hb dX0_seasonsUntilIn_28 rfl (lv_at hl 3 rfl) ?_
        refine xi_c_ne (tgt := 34) hx hb ⟨by omega, by omega⟩ ⟨by omega, by omega⟩ dX0_seasonsUntilIn_29 (by decide) (fun z3 => ?_) (fun z3 => ?_)
        · refine lv_aload_n hx hb dX0_seasonsUntilIn_34 rfl (lv_at hl 1 rfl) ?_
          refine xg_X0 hx hb hts hown hK hP0 0 rfl 1 (by decide) fk_X0_12 (v := .ref (d 0)) rfl dX0_seasonsUntilIn_35 ?_
          refine xmF_v (rVN (rest := []) hx hb hml hown hts hK hl (c_X1_goSeason l g d (seaN e1 n) x9 y9 H.size (show InvK 0 (seaN e1 n) from hsn.1) (show (seaN e1 n) 0 < 20000 from by omega)) lk_X0_36 ⟨rfl, hP2, (va_D_app hD).1.weaken (fun _ _ _ _ => trivial)⟩ (va_recv hK.1 hP2 (ci := 1) (q0 := 0) rfl rfl) rfl rfl rfl (Rm.of rfl) rfl rfl dX0_seasonsUntilIn_38) hP hD hS hA (fun u4 H locs hw hP hD hS => ?_)
          have hP : va_P g.1 vwCl (wLs g d (sea (seaN e1 n)) (u4 10) (u4 11) ++ (wLs g b e1 e10 e11 ++ (wF g a b d f1))) H := hP
          have hD : va_D (va_A (wF g a b d f1 ++ (wLs g b e1 e10 e11 ++ (wLs g d t1 t10 t11))) s.heap.size) (wLs g d (sea (seaN e1 n)) (u4 10) (u4 11) ++ (wLs g b e1 e10 e11 ++ (wF g a b d f1))) := hD
          obtain ⟨hP2, hPr0⟩ := va_P_app.mp hP
          obtain ⟨hP1, hP0⟩ := va_P_app.mp hPr0
          refine xi_inc (lv' := [(3, .int (iI ((n : Int) + 1))), (0, .ref (a 0)), (1, .int (iI r)), (2, .int (iI ce))]) hx hb dX0_seasonsUntilIn_41 hl (k := 0) rfl (by decide) rfl (fun ls hl => ?_)
          refine lv_goto (tgt := 13) hx hb dX0_seasonsUntilIn_44 (by decide) ?_
          have hq5 : ((n : Int) + 1) = ((n + 1) : Int) := by omega
          have hl : lv_has ls 4 [(3, .int (iI ((n : Int) + 1))), (0, .ref (a 0)), (1, .int (iI r)), (2, .int (iI ce))] := lv_sub hl [0, 1, 2, 3] rfl
          have hl := Eq.mp (congrArg (fun z9 => lv_has ls 4 [(3, .int (iI z9)), (0, .ref (a 0)), (1, .int (iI r)), (2, .int (iI ce))]) hq5) hl
          have hq6 : (sea (seaN e1 n)) = (seaN e1 (n + 1)) := rfl
          have hP := Eq.mp (congrArg (fun z9 => va_P g.1 vwCl (wLs g d z9 (u4 10) (u4 11) ++ (wLs g b e1 e10 e11 ++ (wF g a b d f1))) H) hq6) hP
          have hD := Eq.mp (congrArg (fun z9 => va_D (va_A (wF g a b d f1 ++ (wLs g b e1 e10 e11 ++ (wLs g d t1 t10 t11))) s.heap.size) (wLs g d z9 (u4 10) (u4 11) ++ (wLs g b e1 e10 e11 ++ (wF g a b d f1)))) hq6) hD
          obtain ⟨hP2, hPr0⟩ := va_P_app.mp hP
          obtain ⟨hP1, hP0⟩ := va_P_app.mp hPr0
          exact ih13 (n + 1) (u4 10) (u4 11) (by omega) (by rw [← i13_2]; exact fsT_next (p := (whP e1 r ce)) (fun z => by have := of_decide_eq_true z; omega) (by omega)) (by omega) ls hl H locs hP hD hS
        · have hfs : fsT (whP e1 r ce) 81 0 = n := by rw [← i13_2]; exact fsT_hit (decide_eq_true (by omega)) _
          refine lv_iload_n hx hb dX0_seasonsUntilIn_32 rfl (lv_at hl 0 rfl) ?_
          have hD : va_D (va_A (wF g a b d f1 ++ (wLs g b e1 e10 e11 ++ (wLs g d t1 t10 t11))) s.heap.size) (wLs g d (seaN e1 n) x9 y9 ++ (wF g a b d f1 ++ (wLs g b e1 e10 e11))) := D_perm (List.Perm.append_left _ (List.perm_append_comm)) hD
          have hD : va_D (va_A (wF g a b d f1 ++ (wLs g b e1 e10 e11 ++ (wLs g d t1 t10 t11))) s.heap.size) (wF g a b d f1 ++ (wLs g d (seaN e1 n) x9 y9 ++ (wLs g b e1 e10 e11))) := D_perm (List.perm_append_comm_assoc _ _ _) hD
          have hD : va_D (va_A (wF g a b d f1 ++ (wLs g b e1 e10 e11 ++ (wLs g d t1 t10 t11))) s.heap.size) (wF g a b d f1 ++ (wLs g b e1 e10 e11 ++ (wLs g d (seaN e1 n) x9 y9))) := D_perm (List.Perm.append_left _ (List.perm_append_comm)) hD
          have hP : va_P g.1 vwCl (wF g a b d f1 ++ (wLs g b e1 e10 e11 ++ (wLs g d (seaN e1 n) x9 y9))) H := va_P_app.mpr ⟨hP0, va_P_app.mpr ⟨hP1, hP2⟩⟩
          have hP : va_P g.1 vwCl (wF g a b d f1 ++ (wLs g b e1 e10 e11 ++ (wLs g d ((su (su (su (fun _ _ => 0) 201 (seaN e1 n)) 210 x9) 211 y9) 201) ((su (su (su (fun _ _ => 0) 201 (seaN e1 n)) 210 x9) 211 y9) 210) ((su (su (su (fun _ _ => 0) 201 (seaN e1 n)) 210 x9) 211 y9) 211)))) H := hP
          have hD : va_D (va_A (wF g a b d f1 ++ (wLs g b e1 e10 e11 ++ (wLs g d t1 t10 t11))) s.heap.size) (wF g a b d f1 ++ (wLs g b e1 e10 e11 ++ (wLs g d ((su (su (su (fun _ _ => 0) 201 (seaN e1 n)) 210 x9) 211 y9) 201) ((su (su (su (fun _ _ => 0) 201 (seaN e1 n)) 210 x9) 211 y9) 210) ((su (su (su (fun _ _ => 0) 201 (seaN e1 n)) 210 x9) 211 y9) 211)))) := hD
          exact W.iret hx hb hr (fun t ht hW => ⟨⟨_, (su (su (su (fun _ _ => 0) 201 (seaN e1 n)) 210 x9) 211 y9), rfl, congrArg iI (by rw [hfs, if_neg (by omega)]), by rw [ht]; exact hP, hD⟩, hS.F ht⟩) hS.2.2 dX0_seasonsUntilIn_33
  have hq7 : 0 = (0 : Int) := rfl
  have hl : lv_has ls 4 [(3, .int (iI 0)), (0, .ref (a 0)), (1, .int (iI r)), (2, .int (iI ce))] := lv_sub hl [0, 1, 2, 3] rfl
  have hl := Eq.mp (congrArg (fun z9 => lv_has ls 4 [(3, .int (iI z9)), (0, .ref (a 0)), (1, .int (iI r)), (2, .int (iI ce))]) hq7) hl
  have hq8 : e1 = (seaN e1 0) := rfl
  have hP := Eq.mp (congrArg (fun z9 => va_P g.1 vwCl (wLs g d z9 t10 t11 ++ (wLs g b e1 e10 e11 ++ (wF g a b d f1))) H) hq8) hP
  have hD := Eq.mp (congrArg (fun z9 => va_D (va_A (wF g a b d f1 ++ (wLs g b e1 e10 e11 ++ (wLs g d t1 t10 t11))) s.heap.size) (wLs g d z9 t10 t11 ++ (wLs g b e1 e10 e11 ++ (wF g a b d f1)))) hq8) hD
  obtain ⟨hP2, hPr0⟩ := va_P_app.mp hP
  obtain ⟨hP1, hP0⟩ := va_P_app.mp hPr0
  exact lp13 (81 + 1) 0 t10 t11 (by omega) rfl (by omega) ls hl H locs hP hD hS
abbrev rm_X0_seasonsUntilLit : Room := { frames := 3, cells := 0, slots := 0, locals := 101 }
set_option maxRecDepth 100000 in
set_option maxHeartbeats 4000000 in
theorem c_X0_seasonsUntilLit (l : Launch) (g : Gd) (a : Nat → Nat) (f1 : Int → Int) (b : Nat → Nat) (e1 : Int → Int) (e10 : Int → Int) (e11 : Int → Int) (d : Nat → Nat) (t1 : Int → Int) (t10 : Int → Int) (t11 : Int → Int) (v : Int) (sz : Nat) (h1 : InvK 0 e1) (h2 : e1 0 ≤ 9999) (h3 : 0 ≤ v ∧ v < e1 2) : Met l yX0_seasonsUntilLit (wsOf yX0_seasonsUntilLit cX0_seasonsUntilLit 3 (some .int)) rm_X0_seasonsUntilLit (PX g (wP g (wF g a b d f1 ++ (wLs g b e1 e10 e11 ++ (wLs g d t1 t10 t11))) sz) [.ref (a 0), .int (iI v)]) (QMi g (fun u9 : Nat → Int → Int => wF g a b d f1 ++ (wLs g b e1 e10 e11 ++ (wLs g d (u9 201) (u9 210) (u9 211)))) (fun r9 _ => r9 = iI (if 80 < fsT (ltP e1 v) 81 0 then -1 else (fsT (ltP e1 v) 81 0 : Int))) (va_A (wF g a b d f1 ++ (wLs g b e1 e10 e11 ++ (wLs g d t1 t10 t11))) sz)) 0 0 (va_A (wF g a b d f1 ++ (wLs g b e1 e10 e11 ++ (wLs g d t1 t10 t11))) sz) := by
  refine me (g := g) (by decide) rfl ?_
  intro pq eq s mq below meth cq C hnm hB ls hl
  obtain ⟨hx, hb, hr, hml, hown, hts, hlocks, hK⟩ := C
  have hown : s.vm.findClass RX0 = some mq.cls := hown
  have hl : lv_has ls 3 [(0, .ref (a 0)), (1, .int (iI v))] := hl
  obtain ⟨hsz, hP, hD0⟩ := hB
  subst hsz
  have hD := hD0.self (sz := s.heap.size)
  have hA : ∀ q : Nat, s.heap.size ≤ q → va_A (wF g a b d f1 ++ (wLs g b e1 e10 e11 ++ (wLs g d t1 t10 t11))) s.heap.size q := fun q h => Or.inr h
  have hS : va_S (va_A (wF g a b d f1 ++ (wLs g b e1 e10 e11 ++ (wLs g d t1 t10 t11))) s.heap.size) s.heap s.heap [] := va_S.rf
  obtain ⟨hP0, hPr0⟩ := va_P_app.mp hP
  obtain ⟨hP1, hP2⟩ := va_P_app.mp hPr0
  have hI := h1
  have hI8 : Inv e1 := h1.mono (by omega)
  have hn := hI.num
  have hs := hI.sea
  have hv := hI.vil
  refine lv_aload_n hx hb dX0_seasonsUntilLit_0 rfl (lv_at hl 0 rfl) ?_
  refine xg_X0 hx hb hts hown hK hP0 0 rfl 1 (by decide) fk_X0_12 (v := .ref (d 0)) rfl dX0_seasonsUntilLit_1 ?_
  refine lv_aload_n hx hb dX0_seasonsUntilLit_4 rfl (lv_at hl 0 rfl) ?_
  refine xg_X0 hx hb hts hown hK hP0 0 rfl 0 (by decide) fk_X0_22 (v := .ref (b 0)) rfl dX0_seasonsUntilLit_5 ?_
  have hD : va_D (va_A (wF g a b d f1 ++ (wLs g b e1 e10 e11 ++ (wLs g d t1 t10 t11))) s.heap.size) (wF g a b d f1 ++ (wLs g d t1 t10 t11 ++ (wLs g b e1 e10 e11))) := D_perm (List.Perm.append_left _ (List.perm_append_comm)) hD
  have hD : va_D (va_A (wF g a b d f1 ++ (wLs g b e1 e10 e11 ++ (wLs g d t1 t10 t11))) s.heap.size) (wLs g d t1 t10 t11 ++ (wF g a b d f1 ++ (wLs g b e1 e10 e11))) := D_perm (List.perm_append_comm_assoc _ _ _) hD
  have hD : va_D (va_A (wF g a b d f1 ++ (wLs g b e1 e10 e11 ++ (wLs g d t1 t10 t11))) s.heap.size) (wLs g d t1 t10 t11 ++ (wLs g b e1 e10 e11 ++ (wF g a b d f1))) := D_perm (List.Perm.append_left _ (List.perm_append_comm)) hD
  have hP : va_P g.1 vwCl (wLs g d t1 t10 t11 ++ (wLs g b e1 e10 e11 ++ (wF g a b d f1))) s.heap := va_P_app.mpr ⟨hP2, va_P_app.mpr ⟨hP1, hP0⟩⟩
  have hP : va_P g.1 vwCl ((wLs g d t1 t10 t11 ++ (wLs g b e1 e10 e11)) ++ (wF g a b d f1)) s.heap := by rw [List.append_assoc]; exact hP
  have hD : va_D (va_A (wF g a b d f1 ++ (wLs g b e1 e10 e11 ++ (wLs g d t1 t10 t11))) s.heap.size) ((wLs g d t1 t10 t11 ++ (wLs g b e1 e10 e11)) ++ (wF g a b d f1)) := by rw [List.append_assoc]; exact hD
  refine xmF_v (rVN (rest := []) hx hb hml hown hts hK hl (c_X1_becomes l g d t1 t10 t11 b e1 e10 e11 (s.heap).size ) lk_X0_25 ⟨rfl, (va_P_app.mp hP).1, (va_D_app hD).1.weaken (fun _ _ _ _ => trivial)⟩ (va_recv hK.1 hP2 (ci := 1) (q0 := 0) rfl rfl) rfl rfl rfl (Rm.of rfl) rfl rfl dX0_seasonsUntilLit_8) hP hD hS hA (fun _ H locs hw hP hD hS => ?_)
  have hP : va_P g.1 vwCl ((wLs g d e1 t10 t11 ++ (wLs g b e1 e10 e11)) ++ (wF g a b d f1)) H := hP
  have hD : va_D (va_A (wF g a b d f1 ++ (wLs g b e1 e10 e11 ++ (wLs g d t1 t10 t11))) s.heap.size) ((wLs g d e1 t10 t11 ++ (wLs g b e1 e10 e11)) ++ (wF g a b d f1)) := hD
  rw [List.append_assoc] at hP hD
  have hP : va_P g.1 vwCl (wLs g d e1 t10 t11 ++ (wLs g b e1 e10 e11 ++ (wF g a b d f1))) H := hP
  have hD : va_D (va_A (wF g a b d f1 ++ (wLs g b e1 e10 e11 ++ (wLs g d t1 t10 t11))) s.heap.size) (wLs g d e1 t10 t11 ++ (wLs g b e1 e10 e11 ++ (wF g a b d f1))) := hD
  obtain ⟨hP2, hPr0⟩ := va_P_app.mp hP
  obtain ⟨hP1, hP0⟩ := va_P_app.mp hPr0
  refine lv_iconst (v := iI (0)) hx hb dX0_seasonsUntilLit_11 (by decide) ?_
  refine lv_istore_n (lv' := [(2, .int (iI 0)), (0, .ref (a 0)), (1, .int (iI v))]) hx hb dX0_seasonsUntilLit_12 rfl hl (by decide) rfl (fun ls hl => ?_)
  have lp13 : ∀ (n13 : Nat) (n : Nat) (x9 : Int → Int) (y9 : Int → Int), ((n : Int) ≤ 81) → (fsT (ltP e1 v) (81 - n) n = fsT (ltP e1 v) 81 0) → 81 - n < n13 → ∀ ls : Array Slot, lv_has ls 3 [(2, .int (iI (n : Int))), (0, .ref (a 0)), (1, .int (iI v))] → ∀ (H : Heap) (locs : List Loc), va_P g.1 vwCl (wLs g d (seaN e1 n) x9 y9 ++ (wLs g b e1 e10 e11 ++ (wF g a b d f1))) H → va_D (va_A (wF g a b d f1 ++ (wLs g b e1 e10 e11 ++ (wLs g d t1 t10 t11))) s.heap.size) (wLs g d (seaN e1 n) x9 y9 ++ (wLs g b e1 e10 e11 ++ (wF g a b d f1))) → va_S (va_A (wF g a b d f1 ++ (wLs g b e1 e10 e11 ++ (wLs g d t1 t10 t11))) s.heap.size) s.heap H locs → W pq l eq rm_X0_seasonsUntilLit s mq [.ref (a 0), .int (iI v)].toArray below meth cq H locs 0 0 (MQ below (QMi g (fun u9 : Nat → Int → Int => wF g a b d f1 ++ (wLs g b e1 e10 e11 ++ (wLs g d (u9 201) (u9 210) (u9 211)))) (fun r9 _ => r9 = iI (if 80 < fsT (ltP e1 v) 81 0 then -1 else (fsT (ltP e1 v) 81 0 : Int))) (va_A (wF g a b d f1 ++ (wLs g b e1 e10 e11 ++ (wLs g d t1 t10 t11))) s.heap.size)) [.ref (a 0), .int (iI v)].toArray s 0 0 (va_A (wF g a b d f1 ++ (wLs g b e1 e10 e11 ++ (wLs g d t1 t10 t11))) s.heap.size)) (F0 mq 13 ls []) := by
    intro n13
    induction n13 with
    | zero => intro n x9 y9 i13_1 i13_2 hm; exact absurd hm (Nat.not_lt_zero _)
    | succ n13 ih13 =>
      intro n x9 y9 i13_1 i13_2 hm13 ls hl H locs hP hD hS
      have hsn := seaN_inv hI n (by omega)
      have hs0 := hsn.2.1
      have hs1 := hsn.2.2 1 (by omega) (by omega)
      have hs2 := hsn.2.2 2 (by omega) (by omega)
      obtain ⟨hP2, hPr0⟩ := va_P_app.mp hP
      obtain ⟨hP1, hP0⟩ := va_P_app.mp hPr0
      refine lv_iload_n hx hb dX0_seasonsUntilLit_13 rfl (lv_at hl 0 rfl) ?_
      refine lv_bipush (v := iI (80)) hx hb dX0_seasonsUntilLit_14 (by decide) ?_
      refine xi_c_gt (tgt := 45) hx hb ⟨by omega, by omega⟩ ⟨by decide, by decide⟩ dX0_seasonsUntilLit_16 (by decide) (fun z2 => ?_) (fun z2 => ?_)
      · have hfs : fsT (ltP e1 v) 81 0 = n := by rw [← i13_2, show 81 - n = 0 by omega]; rfl
        refine lv_iconst (v := iI (-1)) hx hb dX0_seasonsUntilLit_45 (by decide) ?_
        have hD : va_D (va_A (wF g a b d f1 ++ (wLs g b e1 e10 e11 ++ (wLs g d t1 t10 t11))) s.heap.size) (wLs g d (seaN e1 n) x9 y9 ++ (wF g a b d f1 ++ (wLs g b e1 e10 e11))) := D_perm (List.Perm.append_left _ (List.perm_append_comm)) hD
        have hD : va_D (va_A (wF g a b d f1 ++ (wLs g b e1 e10 e11 ++ (wLs g d t1 t10 t11))) s.heap.size) (wF g a b d f1 ++ (wLs g d (seaN e1 n) x9 y9 ++ (wLs g b e1 e10 e11))) := D_perm (List.perm_append_comm_assoc _ _ _) hD
        have hD : va_D (va_A (wF g a b d f1 ++ (wLs g b e1 e10 e11 ++ (wLs g d t1 t10 t11))) s.heap.size) (wF g a b d f1 ++ (wLs g b e1 e10 e11 ++ (wLs g d (seaN e1 n) x9 y9))) := D_perm (List.Perm.append_left _ (List.perm_append_comm)) hD
        have hP : va_P g.1 vwCl (wF g a b d f1 ++ (wLs g b e1 e10 e11 ++ (wLs g d (seaN e1 n) x9 y9))) H := va_P_app.mpr ⟨hP0, va_P_app.mpr ⟨hP1, hP2⟩⟩
        have hP : va_P g.1 vwCl (wF g a b d f1 ++ (wLs g b e1 e10 e11 ++ (wLs g d ((su (su (su (fun _ _ => 0) 201 (seaN e1 n)) 210 x9) 211 y9) 201) ((su (su (su (fun _ _ => 0) 201 (seaN e1 n)) 210 x9) 211 y9) 210) ((su (su (su (fun _ _ => 0) 201 (seaN e1 n)) 210 x9) 211 y9) 211)))) H := hP
        have hD : va_D (va_A (wF g a b d f1 ++ (wLs g b e1 e10 e11 ++ (wLs g d t1 t10 t11))) s.heap.size) (wF g a b d f1 ++ (wLs g b e1 e10 e11 ++ (wLs g d ((su (su (su (fun _ _ => 0) 201 (seaN e1 n)) 210 x9) 211 y9) 201) ((su (su (su (fun _ _ => 0) 201 (seaN e1 n)) 210 x9) 211 y9) 210) ((su (su (su (fun _ _ => 0) 201 (seaN e1 n)) 210 x9) 211 y9) 211)))) := hD
        exact W.iret hx hb hr (fun t ht hW => ⟨⟨_, (su (su (su (fun _ _ => 0) 201 (seaN e1 n)) 210 x9) 211 y9), rfl, congrArg iI (by rw [hfs, if_pos (by omega)]), by rw [ht]; exact hP, hD⟩, hS.F ht⟩) hS.2.2 dX0_seasonsUntilLit_46
      · refine lv_aload_n hx hb dX0_seasonsUntilLit_19 rfl (lv_at hl 1 rfl) ?_
        refine xg_X0 hx hb hts hown hK hP0 0 rfl 1 (by decide) fk_X0_12 (v := .ref (d 0)) rfl dX0_seasonsUntilLit_20 ?_
        refine lv_iload_n hx hb dX0_seasonsUntilLit_23 rfl (lv_at hl 2 rfl) ?_
        refine xu_b (P := litP (seaN e1 n) v) (rVN (rest := []) hx hb hml hown hts hK hl (c_X1_isLit l g d (seaN e1 n) x9 y9 v (show Inv (seaN e1 n) from hsn.1.mono (by omega)) (show 0 ≤ v ∧ v < (seaN e1 n) 2 from by omega)) lk_X0_39 hP2 (va_recv hK.1 hP2 (ci := 1) (q0 := 0) rfl rfl) rfl rfl rfl (Rm.of rfl) rfl rfl dX0_seasonsUntilLit_24) (fun z3 => ?_) (fun z3 => ?_)
        · have hfs : fsT (ltP e1 v) 81 0 = n := by rw [← i13_2]; exact fsT_hit (decide_eq_true (by assumption)) _
          refine xi_zf_eq hx hb ⟨by decide, by decide⟩ (by decide) dX0_seasonsUntilLit_27 ⟨32, by decide⟩ ?_
          refine lv_iload_n hx hb dX0_seasonsUntilLit_30 rfl (lv_at hl 0 rfl) ?_
          have hD : va_D (va_A (wF g a b d f1 ++ (wLs g b e1 e10 e11 ++ (wLs g d t1 t10 t11))) s.heap.size) (wLs g d (seaN e1 n) x9 y9 ++ (wF g a b d f1 ++ (wLs g b e1 e10 e11))) := D_perm (List.Perm.append_left _ (List.perm_append_comm)) hD
          have hD : va_D (va_A (wF g a b d f1 ++ (wLs g b e1 e10 e11 ++ (wLs g d t1 t10 t11))) s.heap.size) (wF g a b d f1 ++ (wLs g d (seaN e1 n) x9 y9 ++ (wLs g b e1 e10 e11))) := D_perm (List.perm_append_comm_assoc _ _ _) hD
          have hD : va_D (va_A (wF g a b d f1 ++ (wLs g b e1 e10 e11 ++ (wLs g d t1 t10 t11))) s.heap.size) (wF g a b d f1 ++ (wLs g b e1 e10 e11 ++ (wLs g d (seaN e1 n) x9 y9))) := D_perm (List.Perm.append_left _ (List.perm_append_comm)) hD
          have hP : va_P g.1 vwCl (wF g a b d f1 ++ (wLs g b e1 e10 e11 ++ (wLs g d (seaN e1 n) x9 y9))) H := va_P_app.mpr ⟨hP0, va_P_app.mpr ⟨hP1, hP2⟩⟩
          have hP : va_P g.1 vwCl (wF g a b d f1 ++ (wLs g b e1 e10 e11 ++ (wLs g d ((su (su (su (fun _ _ => 0) 201 (seaN e1 n)) 210 x9) 211 y9) 201) ((su (su (su (fun _ _ => 0) 201 (seaN e1 n)) 210 x9) 211 y9) 210) ((su (su (su (fun _ _ => 0) 201 (seaN e1 n)) 210 x9) 211 y9) 211)))) H := hP
          have hD : va_D (va_A (wF g a b d f1 ++ (wLs g b e1 e10 e11 ++ (wLs g d t1 t10 t11))) s.heap.size) (wF g a b d f1 ++ (wLs g b e1 e10 e11 ++ (wLs g d ((su (su (su (fun _ _ => 0) 201 (seaN e1 n)) 210 x9) 211 y9) 201) ((su (su (su (fun _ _ => 0) 201 (seaN e1 n)) 210 x9) 211 y9) 210) ((su (su (su (fun _ _ => 0) 201 (seaN e1 n)) 210 x9) 211 y9) 211)))) := hD
          exact W.iret hx hb hr (fun t ht hW => ⟨⟨_, (su (su (su (fun _ _ => 0) 201 (seaN e1 n)) 210 x9) 211 y9), rfl, congrArg iI (by rw [hfs, if_neg (by omega)]), by rw [ht]; exact hP, hD⟩, hS.F ht⟩) hS.2.2 dX0_seasonsUntilLit_31
        · refine xi_zt_eq (tgt := 32) hx hb ⟨by decide, by decide⟩ (by decide) dX0_seasonsUntilLit_27 (by decide) ?_
          refine lv_aload_n hx hb dX0_seasonsUntilLit_32 rfl (lv_at hl 1 rfl) ?_
          refine xg_X0 hx hb hts hown hK hP0 0 rfl 1 (by decide) fk_X0_12 (v := .ref (d 0)) rfl dX0_seasonsUntilLit_33 ?_
          refine xmF_v (rVN (rest := []) hx hb hml hown hts hK hl (c_X1_goSeason l g d (seaN e1 n) x9 y9 H.size (show InvK 0 (seaN e1 n) from hsn.1) (show (seaN e1 n) 0 < 20000 from by omega)) lk_X0_36 ⟨rfl, hP2, (va_D_app hD).1.weaken (fun _ _ _ _ => trivial)⟩ (va_recv hK.1 hP2 (ci := 1) (q0 := 0) rfl rfl) rfl rfl rfl (Rm.of rfl) rfl rfl dX0_seasonsUntilLit_36) hP hD hS hA (fun u4 H locs hw hP hD hS => ?_)
          have hP : va_P g.1 vwCl (wLs g d (sea (seaN e1 n)) (u4 10) (u4 11) ++ (wLs g b e1 e10 e11 ++ (wF g a b d f1))) H := hP
          have hD : va_D (va_A (wF g a b d f1 ++ (wLs g b e1 e10 e11 ++ (wLs g d t1 t10 t11))) s.heap.size) (wLs g d (sea (seaN e1 n)) (u4 10) (u4 11) ++ (wLs g b e1 e10 e11 ++ (wF g a b d f1))) := hD
          obtain ⟨hP2, hPr0⟩ := va_P_app.mp hP
          obtain ⟨hP1, hP0⟩ := va_P_app.mp hPr0
          refine xi_inc (lv' := [(2, .int (iI ((n : Int) + 1))), (0, .ref (a 0)), (1, .int (iI v))]) hx hb dX0_seasonsUntilLit_39 hl (k := 0) rfl (by decide) rfl (fun ls hl => ?_)
          refine lv_goto (tgt := 13) hx hb dX0_seasonsUntilLit_42 (by decide) ?_
          have hq5 : ((n : Int) + 1) = ((n + 1) : Int) := by omega
          have hl : lv_has ls 3 [(2, .int (iI ((n : Int) + 1))), (0, .ref (a 0)), (1, .int (iI v))] := lv_sub hl [0, 1, 2] rfl
          have hl := Eq.mp (congrArg (fun z9 => lv_has ls 3 [(2, .int (iI z9)), (0, .ref (a 0)), (1, .int (iI v))]) hq5) hl
          have hq6 : (sea (seaN e1 n)) = (seaN e1 (n + 1)) := rfl
          have hP := Eq.mp (congrArg (fun z9 => va_P g.1 vwCl (wLs g d z9 (u4 10) (u4 11) ++ (wLs g b e1 e10 e11 ++ (wF g a b d f1))) H) hq6) hP
          have hD := Eq.mp (congrArg (fun z9 => va_D (va_A (wF g a b d f1 ++ (wLs g b e1 e10 e11 ++ (wLs g d t1 t10 t11))) s.heap.size) (wLs g d z9 (u4 10) (u4 11) ++ (wLs g b e1 e10 e11 ++ (wF g a b d f1)))) hq6) hD
          obtain ⟨hP2, hPr0⟩ := va_P_app.mp hP
          obtain ⟨hP1, hP0⟩ := va_P_app.mp hPr0
          exact ih13 (n + 1) (u4 10) (u4 11) (by omega) (by rw [← i13_2]; exact fsT_next (p := (ltP e1 v)) (fun z => absurd (of_decide_eq_true z) (by assumption)) (by omega)) (by omega) ls hl H locs hP hD hS
  have hq7 : 0 = (0 : Int) := rfl
  have hl : lv_has ls 3 [(2, .int (iI 0)), (0, .ref (a 0)), (1, .int (iI v))] := lv_sub hl [0, 1, 2] rfl
  have hl := Eq.mp (congrArg (fun z9 => lv_has ls 3 [(2, .int (iI z9)), (0, .ref (a 0)), (1, .int (iI v))]) hq7) hl
  have hq8 : e1 = (seaN e1 0) := rfl
  have hP := Eq.mp (congrArg (fun z9 => va_P g.1 vwCl (wLs g d z9 t10 t11 ++ (wLs g b e1 e10 e11 ++ (wF g a b d f1))) H) hq8) hP
  have hD := Eq.mp (congrArg (fun z9 => va_D (va_A (wF g a b d f1 ++ (wLs g b e1 e10 e11 ++ (wLs g d t1 t10 t11))) s.heap.size) (wLs g d z9 t10 t11 ++ (wLs g b e1 e10 e11 ++ (wF g a b d f1)))) hq8) hD
  obtain ⟨hP2, hPr0⟩ := va_P_app.mp hP
  obtain ⟨hP1, hP0⟩ := va_P_app.mp hPr0
  exact lp13 (81 + 1) 0 t10 t11 (by omega) rfl (by omega) ls hl H locs hP hD hS
abbrev rm_X0_litSeasons : Room := { frames := 3, cells := 0, slots := 0, locals := 101 }
set_option maxRecDepth 100000 in
set_option maxHeartbeats 4000000 in
theorem c_X0_litSeasons (l : Launch) (g : Gd) (a : Nat → Nat) (f1 : Int → Int) (b : Nat → Nat) (e1 : Int → Int) (e10 : Int → Int) (e11 : Int → Int) (d : Nat → Nat) (t1 : Int → Int) (t10 : Int → Int) (t11 : Int → Int) (v : Int) (n : Int) (sz : Nat) (h1 : InvK 0 e1) (h2 : e1 0 ≤ 9999) (h3 : 0 ≤ v ∧ v < e1 2) (h4 : 0 ≤ n ∧ n ≤ 80) : Met l yX0_litSeasons (wsOf yX0_litSeasons cX0_litSeasons 5 (some .int)) rm_X0_litSeasons (PX g (wP g (wF g a b d f1 ++ (wLs g b e1 e10 e11 ++ (wLs g d t1 t10 t11))) sz) [.ref (a 0), .int (iI v), .int (iI n)]) (QMi g (fun u9 : Nat → Int → Int => wF g a b d f1 ++ (wLs g b e1 e10 e11 ++ (wLs g d (u9 201) (u9 210) (u9 211)))) (fun r9 _ => r9 = iI (snT e1 v (Int.toNat n))) (va_A (wF g a b d f1 ++ (wLs g b e1 e10 e11 ++ (wLs g d t1 t10 t11))) sz)) 0 0 (va_A (wF g a b d f1 ++ (wLs g b e1 e10 e11 ++ (wLs g d t1 t10 t11))) sz) := by
  refine me (g := g) (by decide) rfl ?_
  intro pq eq s mq below meth cq C hnm hB ls hl
  obtain ⟨hx, hb, hr, hml, hown, hts, hlocks, hK⟩ := C
  have hown : s.vm.findClass RX0 = some mq.cls := hown
  have hl : lv_has ls 5 [(0, .ref (a 0)), (1, .int (iI v)), (2, .int (iI n))] := hl
  obtain ⟨hsz, hP, hD0⟩ := hB
  subst hsz
  have hD := hD0.self (sz := s.heap.size)
  have hA : ∀ q : Nat, s.heap.size ≤ q → va_A (wF g a b d f1 ++ (wLs g b e1 e10 e11 ++ (wLs g d t1 t10 t11))) s.heap.size q := fun q h => Or.inr h
  have hS : va_S (va_A (wF g a b d f1 ++ (wLs g b e1 e10 e11 ++ (wLs g d t1 t10 t11))) s.heap.size) s.heap s.heap [] := va_S.rf
  obtain ⟨hP0, hPr0⟩ := va_P_app.mp hP
  obtain ⟨hP1, hP2⟩ := va_P_app.mp hPr0
  have hI := h1
  have hI8 : Inv e1 := h1.mono (by omega)
  have hn := hI.num
  have hs := hI.sea
  have hv := hI.vil
  refine lv_aload_n hx hb dX0_litSeasons_0 rfl (lv_at hl 0 rfl) ?_
  refine xg_X0 hx hb hts hown hK hP0 0 rfl 1 (by decide) fk_X0_12 (v := .ref (d 0)) rfl dX0_litSeasons_1 ?_
  refine lv_aload_n hx hb dX0_litSeasons_4 rfl (lv_at hl 0 rfl) ?_
  refine xg_X0 hx hb hts hown hK hP0 0 rfl 0 (by decide) fk_X0_22 (v := .ref (b 0)) rfl dX0_litSeasons_5 ?_
  have hD : va_D (va_A (wF g a b d f1 ++ (wLs g b e1 e10 e11 ++ (wLs g d t1 t10 t11))) s.heap.size) (wF g a b d f1 ++ (wLs g d t1 t10 t11 ++ (wLs g b e1 e10 e11))) := D_perm (List.Perm.append_left _ (List.perm_append_comm)) hD
  have hD : va_D (va_A (wF g a b d f1 ++ (wLs g b e1 e10 e11 ++ (wLs g d t1 t10 t11))) s.heap.size) (wLs g d t1 t10 t11 ++ (wF g a b d f1 ++ (wLs g b e1 e10 e11))) := D_perm (List.perm_append_comm_assoc _ _ _) hD
  have hD : va_D (va_A (wF g a b d f1 ++ (wLs g b e1 e10 e11 ++ (wLs g d t1 t10 t11))) s.heap.size) (wLs g d t1 t10 t11 ++ (wLs g b e1 e10 e11 ++ (wF g a b d f1))) := D_perm (List.Perm.append_left _ (List.perm_append_comm)) hD
  have hP : va_P g.1 vwCl (wLs g d t1 t10 t11 ++ (wLs g b e1 e10 e11 ++ (wF g a b d f1))) s.heap := va_P_app.mpr ⟨hP2, va_P_app.mpr ⟨hP1, hP0⟩⟩
  have hP : va_P g.1 vwCl ((wLs g d t1 t10 t11 ++ (wLs g b e1 e10 e11)) ++ (wF g a b d f1)) s.heap := by rw [List.append_assoc]; exact hP
  have hD : va_D (va_A (wF g a b d f1 ++ (wLs g b e1 e10 e11 ++ (wLs g d t1 t10 t11))) s.heap.size) ((wLs g d t1 t10 t11 ++ (wLs g b e1 e10 e11)) ++ (wF g a b d f1)) := by rw [List.append_assoc]; exact hD
  refine xmF_v (rVN (rest := []) hx hb hml hown hts hK hl (c_X1_becomes l g d t1 t10 t11 b e1 e10 e11 (s.heap).size ) lk_X0_25 ⟨rfl, (va_P_app.mp hP).1, (va_D_app hD).1.weaken (fun _ _ _ _ => trivial)⟩ (va_recv hK.1 hP2 (ci := 1) (q0 := 0) rfl rfl) rfl rfl rfl (Rm.of rfl) rfl rfl dX0_litSeasons_8) hP hD hS hA (fun _ H locs hw hP hD hS => ?_)
  have hP : va_P g.1 vwCl ((wLs g d e1 t10 t11 ++ (wLs g b e1 e10 e11)) ++ (wF g a b d f1)) H := hP
  have hD : va_D (va_A (wF g a b d f1 ++ (wLs g b e1 e10 e11 ++ (wLs g d t1 t10 t11))) s.heap.size) ((wLs g d e1 t10 t11 ++ (wLs g b e1 e10 e11)) ++ (wF g a b d f1)) := hD
  rw [List.append_assoc] at hP hD
  have hP : va_P g.1 vwCl (wLs g d e1 t10 t11 ++ (wLs g b e1 e10 e11 ++ (wF g a b d f1))) H := hP
  have hD : va_D (va_A (wF g a b d f1 ++ (wLs g b e1 e10 e11 ++ (wLs g d t1 t10 t11))) s.heap.size) (wLs g d e1 t10 t11 ++ (wLs g b e1 e10 e11 ++ (wF g a b d f1))) := hD
  obtain ⟨hP2, hPr0⟩ := va_P_app.mp hP
  obtain ⟨hP1, hP0⟩ := va_P_app.mp hPr0
  refine lv_iconst (v := iI (0)) hx hb dX0_litSeasons_11 (by decide) ?_
  refine lv_istore_n (lv' := [(3, .int (iI 0)), (0, .ref (a 0)), (1, .int (iI v)), (2, .int (iI n))]) hx hb dX0_litSeasons_12 rfl hl (by decide) rfl (fun ls hl => ?_)
  refine lv_iconst (v := iI (0)) hx hb dX0_litSeasons_13 (by decide) ?_
  refine lv_istore (lv' := [(4, .int (iI 0)), (3, .int (iI 0)), (0, .ref (a 0)), (1, .int (iI v)), (2, .int (iI n))]) hx hb dX0_litSeasons_14 hl (by decide) rfl (fun ls hl => ?_)
  have lp16 : ∀ (n16 : Nat) (k : Nat) (x9 : Int → Int) (y9 : Int → Int), ((k : Int) ≤ n) → n.toNat - k < n16 → ∀ ls : Array Slot, lv_has ls 5 [(4, .int (iI (k : Int))), (3, .int (iI (snT e1 v k))), (0, .ref (a 0)), (1, .int (iI v)), (2, .int (iI n))] → ∀ (H : Heap) (locs : List Loc), va_P g.1 vwCl (wLs g d (seaN e1 k) x9 y9 ++ (wLs g b e1 e10 e11 ++ (wF g a b d f1))) H → va_D (va_A (wF g a b d f1 ++ (wLs g b e1 e10 e11 ++ (wLs g d t1 t10 t11))) s.heap.size) (wLs g d (seaN e1 k) x9 y9 ++ (wLs g b e1 e10 e11 ++ (wF g a b d f1))) → va_S (va_A (wF g a b d f1 ++ (wLs g b e1 e10 e11 ++ (wLs g d t1 t10 t11))) s.heap.size) s.heap H locs → W pq l eq rm_X0_litSeasons s mq [.ref (a 0), .int (iI v), .int (iI n)].toArray below meth cq H locs 0 0 (MQ below (QMi g (fun u9 : Nat → Int → Int => wF g a b d f1 ++ (wLs g b e1 e10 e11 ++ (wLs g d (u9 201) (u9 210) (u9 211)))) (fun r9 _ => r9 = iI (snT e1 v (Int.toNat n))) (va_A (wF g a b d f1 ++ (wLs g b e1 e10 e11 ++ (wLs g d t1 t10 t11))) s.heap.size)) [.ref (a 0), .int (iI v), .int (iI n)].toArray s 0 0 (va_A (wF g a b d f1 ++ (wLs g b e1 e10 e11 ++ (wLs g d t1 t10 t11))) s.heap.size)) (F0 mq 16 ls []) := by
    intro n16
    induction n16 with
    | zero => intro k x9 y9 i16_1 hm; exact absurd hm (Nat.not_lt_zero _)
    | succ n16 ih16 =>
      intro k x9 y9 i16_1 hm16 ls hl H locs hP hD hS
      have hsn := seaN_inv hI k (by omega)
      have hs0 := hsn.2.1
      obtain ⟨hP2, hPr0⟩ := va_P_app.mp hP
      obtain ⟨hP1, hP0⟩ := va_P_app.mp hPr0
      refine lv_iload hx hb dX0_litSeasons_16 (lv_at hl 0 rfl) ?_
      refine lv_iload_n hx hb dX0_litSeasons_18 rfl (lv_at hl 4 rfl) ?_
      refine xi_c_ge (tgt := 49) hx hb ⟨by omega, by omega⟩ ⟨by omega, by omega⟩ dX0_litSeasons_19 (by decide) (fun z2 => ?_) (fun z2 => ?_)
      · refine lv_iload_n hx hb dX0_litSeasons_49 rfl (lv_at hl 1 rfl) ?_
        have hD : va_D (va_A (wF g a b d f1 ++ (wLs g b e1 e10 e11 ++ (wLs g d t1 t10 t11))) s.heap.size) (wLs g d (seaN e1 k) x9 y9 ++ (wF g a b d f1 ++ (wLs g b e1 e10 e11))) := D_perm (List.Perm.append_left _ (List.perm_append_comm)) hD
        have hD : va_D (va_A (wF g a b d f1 ++ (wLs g b e1 e10 e11 ++ (wLs g d t1 t10 t11))) s.heap.size) (wF g a b d f1 ++ (wLs g d (seaN e1 k) x9 y9 ++ (wLs g b e1 e10 e11))) := D_perm (List.perm_append_comm_assoc _ _ _) hD
        have hD : va_D (va_A (wF g a b d f1 ++ (wLs g b e1 e10 e11 ++ (wLs g d t1 t10 t11))) s.heap.size) (wF g a b d f1 ++ (wLs g b e1 e10 e11 ++ (wLs g d (seaN e1 k) x9 y9))) := D_perm (List.Perm.append_left _ (List.perm_append_comm)) hD
        have hP : va_P g.1 vwCl (wF g a b d f1 ++ (wLs g b e1 e10 e11 ++ (wLs g d (seaN e1 k) x9 y9))) H := va_P_app.mpr ⟨hP0, va_P_app.mpr ⟨hP1, hP2⟩⟩
        have hP : va_P g.1 vwCl (wF g a b d f1 ++ (wLs g b e1 e10 e11 ++ (wLs g d ((su (su (su (fun _ _ => 0) 201 (seaN e1 k)) 210 x9) 211 y9) 201) ((su (su (su (fun _ _ => 0) 201 (seaN e1 k)) 210 x9) 211 y9) 210) ((su (su (su (fun _ _ => 0) 201 (seaN e1 k)) 210 x9) 211 y9) 211)))) H := hP
        have hD : va_D (va_A (wF g a b d f1 ++ (wLs g b e1 e10 e11 ++ (wLs g d t1 t10 t11))) s.heap.size) (wF g a b d f1 ++ (wLs g b e1 e10 e11 ++ (wLs g d ((su (su (su (fun _ _ => 0) 201 (seaN e1 k)) 210 x9) 211 y9) 201) ((su (su (su (fun _ _ => 0) 201 (seaN e1 k)) 210 x9) 211 y9) 210) ((su (su (su (fun _ _ => 0) 201 (seaN e1 k)) 210 x9) 211 y9) 211)))) := hD
        exact W.iret hx hb hr (fun t ht hW => ⟨⟨_, (su (su (su (fun _ _ => 0) 201 (seaN e1 k)) 210 x9) 211 y9), rfl, congrArg iI (by rw [show n.toNat = k by omega]), by rw [ht]; exact hP, hD⟩, hS.F ht⟩) hS.2.2 dX0_litSeasons_50
      · have hsn2 := seaN_inv hI (k + 1) (by omega)
        have hs2 := hsn2.2.2 2 (by omega) (by omega)
        refine lv_aload_n hx hb dX0_litSeasons_22 rfl (lv_at hl 2 rfl) ?_
        refine xg_X0 hx hb hts hown hK hP0 0 rfl 1 (by decide) fk_X0_12 (v := .ref (d 0)) rfl dX0_litSeasons_23 ?_
        refine xmF_v (rVN (rest := []) hx hb hml hown hts hK hl (c_X1_goSeason l g d (seaN e1 k) x9 y9 H.size (show InvK 0 (seaN e1 k) from hsn.1) (show (seaN e1 k) 0 < 20000 from by omega)) lk_X0_36 ⟨rfl, hP2, (va_D_app hD).1.weaken (fun _ _ _ _ => trivial)⟩ (va_recv hK.1 hP2 (ci := 1) (q0 := 0) rfl rfl) rfl rfl rfl (Rm.of rfl) rfl rfl dX0_litSeasons_26) hP hD hS hA (fun u3 H locs hw hP hD hS => ?_)
        have hP : va_P g.1 vwCl (wLs g d (sea (seaN e1 k)) (u3 10) (u3 11) ++ (wLs g b e1 e10 e11 ++ (wF g a b d f1))) H := hP
        have hD : va_D (va_A (wF g a b d f1 ++ (wLs g b e1 e10 e11 ++ (wLs g d t1 t10 t11))) s.heap.size) (wLs g d (sea (seaN e1 k)) (u3 10) (u3 11) ++ (wLs g b e1 e10 e11 ++ (wF g a b d f1))) := hD
        obtain ⟨hP2, hPr0⟩ := va_P_app.mp hP
        obtain ⟨hP1, hP0⟩ := va_P_app.mp hPr0
        refine lv_aload_n hx hb dX0_litSeasons_29 rfl (lv_at hl 2 rfl) ?_
        refine xg_X0 hx hb hts hown hK hP0 0 rfl 1 (by decide) fk_X0_12 (v := .ref (d 0)) rfl dX0_litSeasons_30 ?_
        refine lv_iload_n hx hb dX0_litSeasons_33 rfl (lv_at hl 3 rfl) ?_
        refine xu_b (P := litP (sea (seaN e1 k)) v) (rVN (rest := []) hx hb hml hown hts hK hl (c_X1_isLit l g d (sea (seaN e1 k)) (u3 10) (u3 11) v (show Inv (sea (seaN e1 k)) from hsn2.1.mono (by omega)) (show 0 ≤ v ∧ v < (sea (seaN e1 k)) 2 from by have := hs2; simp only [seaN] at this; omega)) lk_X0_39 hP2 (va_recv hK.1 hP2 (ci := 1) (q0 := 0) rfl rfl) rfl rfl rfl (Rm.of rfl) rfl rfl dX0_litSeasons_34) (fun z4 => ?_) (fun z4 => ?_)
        · refine xi_zf_eq hx hb ⟨by decide, by decide⟩ (by decide) dX0_litSeasons_37 ⟨43, by decide⟩ ?_
          refine xi_inc (lv' := [(3, .int (iI (snT e1 v k + 1))), (4, .int (iI (k : Int))), (0, .ref (a 0)), (1, .int (iI v)), (2, .int (iI n))]) hx hb dX0_litSeasons_40 hl (k := 1) rfl (by decide) rfl (fun ls hl => ?_)
          refine xi_inc (lv' := [(4, .int (iI ((k : Int) + 1))), (3, .int (iI (snT e1 v k + 1))), (0, .ref (a 0)), (1, .int (iI v)), (2, .int (iI n))]) hx hb dX0_litSeasons_43 hl (k := 1) rfl (by decide) rfl (fun ls hl => ?_)
          refine lv_goto (tgt := 16) hx hb dX0_litSeasons_46 (by decide) ?_
          have hq5 : ((k : Int) + 1) = ((k + 1) : Int) := by omega
          have hq6 : (snT e1 v k + 1) = (snT e1 v (k + 1)) := by show _ = snT e1 v k + (if litP (seaN e1 (k + 1)) v then 1 else 0); first | (rw [if_pos (show litP (seaN e1 (k + 1)) v by assumption)]; done) | (rw [if_neg (show ¬ litP (seaN e1 (k + 1)) v by assumption)]; omega)
          have hl : lv_has ls 5 [(4, .int (iI ((k : Int) + 1))), (3, .int (iI (snT e1 v k + 1))), (0, .ref (a 0)), (1, .int (iI v)), (2, .int (iI n))] := lv_sub hl [0, 1, 2, 3, 4] rfl
          have hl := Eq.mp (congrArg (fun z9 => lv_has ls 5 [(4, .int (iI z9)), (3, .int (iI (snT e1 v k + 1))), (0, .ref (a 0)), (1, .int (iI v)), (2, .int (iI n))]) hq5) hl
          have hl := Eq.mp (congrArg (fun z9 => lv_has ls 5 [(4, .int (iI ((k + 1) : Int))), (3, .int (iI z9)), (0, .ref (a 0)), (1, .int (iI v)), (2, .int (iI n))]) hq6) hl
          have hq7 : (sea (seaN e1 k)) = (seaN e1 (k + 1)) := rfl
          have hP := Eq.mp (congrArg (fun z9 => va_P g.1 vwCl (wLs g d z9 (u3 10) (u3 11) ++ (wLs g b e1 e10 e11 ++ (wF g a b d f1))) H) hq7) hP
          have hD := Eq.mp (congrArg (fun z9 => va_D (va_A (wF g a b d f1 ++ (wLs g b e1 e10 e11 ++ (wLs g d t1 t10 t11))) s.heap.size) (wLs g d z9 (u3 10) (u3 11) ++ (wLs g b e1 e10 e11 ++ (wF g a b d f1)))) hq7) hD
          obtain ⟨hP2, hPr0⟩ := va_P_app.mp hP
          obtain ⟨hP1, hP0⟩ := va_P_app.mp hPr0
          exact ih16 (k + 1) (u3 10) (u3 11) (by omega) (by omega) ls hl H locs hP hD hS
        · refine xi_zt_eq (tgt := 43) hx hb ⟨by decide, by decide⟩ (by decide) dX0_litSeasons_37 (by decide) ?_
          refine xi_inc (lv' := [(4, .int (iI ((k : Int) + 1))), (3, .int (iI (snT e1 v k))), (0, .ref (a 0)), (1, .int (iI v)), (2, .int (iI n))]) hx hb dX0_litSeasons_43 hl (k := 0) rfl (by decide) rfl (fun ls hl => ?_)
          refine lv_goto (tgt := 16) hx hb dX0_litSeasons_46 (by decide) ?_
          have hq8 : ((k : Int) + 1) = ((k + 1) : Int) := by omega
          have hq9 : (snT e1 v k) = (snT e1 v (k + 1)) := by show _ = snT e1 v k + (if litP (seaN e1 (k + 1)) v then 1 else 0); first | (rw [if_pos (show litP (seaN e1 (k + 1)) v by assumption)]; done) | (rw [if_neg (show ¬ litP (seaN e1 (k + 1)) v by assumption)]; omega)
          have hl : lv_has ls 5 [(4, .int (iI ((k : Int) + 1))), (3, .int (iI (snT e1 v k))), (0, .ref (a 0)), (1, .int (iI v)), (2, .int (iI n))] := lv_sub hl [0, 1, 2, 3, 4] rfl
          have hl := Eq.mp (congrArg (fun z9 => lv_has ls 5 [(4, .int (iI z9)), (3, .int (iI (snT e1 v k))), (0, .ref (a 0)), (1, .int (iI v)), (2, .int (iI n))]) hq8) hl
          have hl := Eq.mp (congrArg (fun z9 => lv_has ls 5 [(4, .int (iI ((k + 1) : Int))), (3, .int (iI z9)), (0, .ref (a 0)), (1, .int (iI v)), (2, .int (iI n))]) hq9) hl
          have hq10 : (sea (seaN e1 k)) = (seaN e1 (k + 1)) := rfl
          have hP := Eq.mp (congrArg (fun z9 => va_P g.1 vwCl (wLs g d z9 (u3 10) (u3 11) ++ (wLs g b e1 e10 e11 ++ (wF g a b d f1))) H) hq10) hP
          have hD := Eq.mp (congrArg (fun z9 => va_D (va_A (wF g a b d f1 ++ (wLs g b e1 e10 e11 ++ (wLs g d t1 t10 t11))) s.heap.size) (wLs g d z9 (u3 10) (u3 11) ++ (wLs g b e1 e10 e11 ++ (wF g a b d f1)))) hq10) hD
          obtain ⟨hP2, hPr0⟩ := va_P_app.mp hP
          obtain ⟨hP1, hP0⟩ := va_P_app.mp hPr0
          exact ih16 (k + 1) (u3 10) (u3 11) (by omega) (by omega) ls hl H locs hP hD hS
  have hq11 : 0 = (0 : Int) := rfl
  have hq12 : 0 = (snT e1 v 0) := rfl
  have hl : lv_has ls 5 [(4, .int (iI 0)), (3, .int (iI 0)), (0, .ref (a 0)), (1, .int (iI v)), (2, .int (iI n))] := lv_sub hl [0, 1, 2, 3, 4] rfl
  have hl := Eq.mp (congrArg (fun z9 => lv_has ls 5 [(4, .int (iI z9)), (3, .int (iI 0)), (0, .ref (a 0)), (1, .int (iI v)), (2, .int (iI n))]) hq11) hl
  have hl := Eq.mp (congrArg (fun z9 => lv_has ls 5 [(4, .int (iI (0 : Int))), (3, .int (iI z9)), (0, .ref (a 0)), (1, .int (iI v)), (2, .int (iI n))]) hq12) hl
  have hq13 : e1 = (seaN e1 0) := rfl
  have hP := Eq.mp (congrArg (fun z9 => va_P g.1 vwCl (wLs g d z9 t10 t11 ++ (wLs g b e1 e10 e11 ++ (wF g a b d f1))) H) hq13) hP
  have hD := Eq.mp (congrArg (fun z9 => va_D (va_A (wF g a b d f1 ++ (wLs g b e1 e10 e11 ++ (wLs g d t1 t10 t11))) s.heap.size) (wLs g d z9 t10 t11 ++ (wLs g b e1 e10 e11 ++ (wF g a b d f1)))) hq13) hD
  obtain ⟨hP2, hPr0⟩ := va_P_app.mp hP
  obtain ⟨hP1, hP0⟩ := va_P_app.mp hPr0
  exact lp16 (n.toNat + 1) 0 t10 t11 (by omega) (by omega) ls hl H locs hP hD hS
abbrev rm_X0_standing : Room := { frames := 4, cells := 0, slots := 0, locals := 101 }
set_option maxRecDepth 100000 in
set_option maxHeartbeats 4000000 in
theorem c_X0_standing (l : Launch) (g : Gd) (a : Nat → Nat) (f1 : Int → Int) (b : Nat → Nat) (e1 : Int → Int) (e10 : Int → Int) (e11 : Int → Int) (d : Nat → Nat) (t1 : Int → Int) (t10 : Int → Int) (t11 : Int → Int) (sz : Nat) (h1 : InvK 0 e1) (h2 : e1 0 ≤ 9999) : Met l yX0_standing (wsOf yX0_standing cX0_standing 3 (some .int)) rm_X0_standing (PX g (wP g (wF g a b d f1 ++ (wLs g b e1 e10 e11 ++ (wLs g d t1 t10 t11))) sz) [.ref (a 0)]) (QMi g (fun u9 : Nat → Int → Int => wF g a b d f1 ++ (wLs g b e1 e10 e11 ++ (wLs g d (seaN e1 80) (u9 210) (u9 211)))) (fun r9 _ => r9 = stdS e1) (va_A (wF g a b d f1 ++ (wLs g b e1 e10 e11 ++ (wLs g d t1 t10 t11))) sz)) 0 0 (va_A (wF g a b d f1 ++ (wLs g b e1 e10 e11 ++ (wLs g d t1 t10 t11))) sz) := by
  refine me (g := g) (by decide) rfl ?_
  intro pq eq s mq below meth cq C hnm hB ls hl
  obtain ⟨hx, hb, hr, hml, hown, hts, hlocks, hK⟩ := C
  have hown : s.vm.findClass RX0 = some mq.cls := hown
  have hl : lv_has ls 3 [(0, .ref (a 0))] := hl
  obtain ⟨hsz, hP, hD0⟩ := hB
  subst hsz
  have hD := hD0.self (sz := s.heap.size)
  have hA : ∀ q : Nat, s.heap.size ≤ q → va_A (wF g a b d f1 ++ (wLs g b e1 e10 e11 ++ (wLs g d t1 t10 t11))) s.heap.size q := fun q h => Or.inr h
  have hS : va_S (va_A (wF g a b d f1 ++ (wLs g b e1 e10 e11 ++ (wLs g d t1 t10 t11))) s.heap.size) s.heap s.heap [] := va_S.rf
  obtain ⟨hP0, hPr0⟩ := va_P_app.mp hP
  obtain ⟨hP1, hP2⟩ := va_P_app.mp hPr0
  have hI := h1
  have hI8 : Inv e1 := h1.mono (by omega)
  have hn := hI.num
  have hs := hI.sea
  have hv := hI.vil
  have hsn := seaN_inv hI 80 (by omega)
  have hs0 := hsn.2.1
  have hs1 := hsn.2.2 1 (by omega) (by omega)
  refine lv_aload_n hx hb dX0_standing_0 rfl (lv_at hl 0 rfl) ?_
  refine xg_X0 hx hb hts hown hK hP0 0 rfl 1 (by decide) fk_X0_12 (v := .ref (d 0)) rfl dX0_standing_1 ?_
  refine lv_aload_n hx hb dX0_standing_4 rfl (lv_at hl 0 rfl) ?_
  refine xg_X0 hx hb hts hown hK hP0 0 rfl 0 (by decide) fk_X0_22 (v := .ref (b 0)) rfl dX0_standing_5 ?_
  have hD : va_D (va_A (wF g a b d f1 ++ (wLs g b e1 e10 e11 ++ (wLs g d t1 t10 t11))) s.heap.size) (wF g a b d f1 ++ (wLs g d t1 t10 t11 ++ (wLs g b e1 e10 e11))) := D_perm (List.Perm.append_left _ (List.perm_append_comm)) hD
  have hD : va_D (va_A (wF g a b d f1 ++ (wLs g b e1 e10 e11 ++ (wLs g d t1 t10 t11))) s.heap.size) (wLs g d t1 t10 t11 ++ (wF g a b d f1 ++ (wLs g b e1 e10 e11))) := D_perm (List.perm_append_comm_assoc _ _ _) hD
  have hD : va_D (va_A (wF g a b d f1 ++ (wLs g b e1 e10 e11 ++ (wLs g d t1 t10 t11))) s.heap.size) (wLs g d t1 t10 t11 ++ (wLs g b e1 e10 e11 ++ (wF g a b d f1))) := D_perm (List.Perm.append_left _ (List.perm_append_comm)) hD
  have hP : va_P g.1 vwCl (wLs g d t1 t10 t11 ++ (wLs g b e1 e10 e11 ++ (wF g a b d f1))) s.heap := va_P_app.mpr ⟨hP2, va_P_app.mpr ⟨hP1, hP0⟩⟩
  have hP : va_P g.1 vwCl ((wLs g d t1 t10 t11 ++ (wLs g b e1 e10 e11)) ++ (wF g a b d f1)) s.heap := by rw [List.append_assoc]; exact hP
  have hD : va_D (va_A (wF g a b d f1 ++ (wLs g b e1 e10 e11 ++ (wLs g d t1 t10 t11))) s.heap.size) ((wLs g d t1 t10 t11 ++ (wLs g b e1 e10 e11)) ++ (wF g a b d f1)) := by rw [List.append_assoc]; exact hD
  refine xmF_v (rVN (rest := []) hx hb hml hown hts hK hl (c_X1_becomes l g d t1 t10 t11 b e1 e10 e11 (s.heap).size ) lk_X0_25 ⟨rfl, (va_P_app.mp hP).1, (va_D_app hD).1.weaken (fun _ _ _ _ => trivial)⟩ (va_recv hK.1 hP2 (ci := 1) (q0 := 0) rfl rfl) rfl rfl rfl (Rm.of rfl) rfl rfl dX0_standing_8) hP hD hS hA (fun _ H locs hw hP hD hS => ?_)
  have hP : va_P g.1 vwCl ((wLs g d e1 t10 t11 ++ (wLs g b e1 e10 e11)) ++ (wF g a b d f1)) H := hP
  have hD : va_D (va_A (wF g a b d f1 ++ (wLs g b e1 e10 e11 ++ (wLs g d t1 t10 t11))) s.heap.size) ((wLs g d e1 t10 t11 ++ (wLs g b e1 e10 e11)) ++ (wF g a b d f1)) := hD
  rw [List.append_assoc] at hP hD
  have hP : va_P g.1 vwCl (wLs g d e1 t10 t11 ++ (wLs g b e1 e10 e11 ++ (wF g a b d f1))) H := hP
  have hD : va_D (va_A (wF g a b d f1 ++ (wLs g b e1 e10 e11 ++ (wLs g d t1 t10 t11))) s.heap.size) (wLs g d e1 t10 t11 ++ (wLs g b e1 e10 e11 ++ (wF g a b d f1))) := hD
  obtain ⟨hP2, hPr0⟩ := va_P_app.mp hP
  obtain ⟨hP1, hP0⟩ := va_P_app.mp hPr0
  refine lv_aload_n hx hb dX0_standing_11 rfl (lv_at hl 0 rfl) ?_
  refine xg_X0 hx hb hts hown hK hP0 0 rfl 1 (by decide) fk_X0_12 (v := .ref (d 0)) rfl dX0_standing_12 ?_
  refine lv_bipush (v := iI (80)) hx hb dX0_standing_15 (by decide) ?_
  refine xmF_v (rVN (rest := []) hx hb hml hown hts hK hl (c_X1_goSeasons l g d e1 t10 t11 80 H.size (show InvK 0 e1 from h1) (show 0 ≤ 80 ∧ e1 0 + 80 ≤ 20000 from by omega)) lk_X0_29 ⟨rfl, hP2, (va_D_app hD).1.weaken (fun _ _ _ _ => trivial)⟩ (va_recv hK.1 hP2 (ci := 1) (q0 := 0) rfl rfl) rfl rfl rfl (Rm.of rfl) rfl rfl dX0_standing_17) hP hD hS hA (fun u2 H locs hw hP hD hS => ?_)
  have hP : va_P g.1 vwCl (wLs g d (seaN e1 80) (u2 10) (u2 11) ++ (wLs g b e1 e10 e11 ++ (wF g a b d f1))) H := hP
  have hD : va_D (va_A (wF g a b d f1 ++ (wLs g b e1 e10 e11 ++ (wLs g d t1 t10 t11))) s.heap.size) (wLs g d (seaN e1 80) (u2 10) (u2 11) ++ (wLs g b e1 e10 e11 ++ (wF g a b d f1))) := hD
  obtain ⟨hP2, hPr0⟩ := va_P_app.mp hP
  obtain ⟨hP1, hP0⟩ := va_P_app.mp hPr0
  refine lv_iconst (v := iI (0)) hx hb dX0_standing_20 (by decide) ?_
  refine lv_istore_n (lv' := [(1, .int (iI 0)), (0, .ref (a 0))]) hx hb dX0_standing_21 rfl hl (by decide) rfl (fun ls hl => ?_)
  refine lv_iconst (v := iI (0)) hx hb dX0_standing_22 (by decide) ?_
  refine lv_istore_n (lv' := [(2, .int (iI 0)), (1, .int (iI 0)), (0, .ref (a 0))]) hx hb dX0_standing_23 rfl hl (by decide) rfl (fun ls hl => ?_)
  have lp24 : ∀ (n24 : Nat) (j : Nat), ((j : Int) ≤ e1 1) → 8 - j < n24 → ∀ ls : Array Slot, lv_has ls 3 [(2, .int (iI (j : Int))), (1, .int (orT (sdT e1) j)), (0, .ref (a 0))] → ∀ (H : Heap) (locs : List Loc), va_P g.1 vwCl (wLs g d (seaN e1 80) (u2 10) (u2 11) ++ (wLs g b e1 e10 e11 ++ (wF g a b d f1))) H → va_D (va_A (wF g a b d f1 ++ (wLs g b e1 e10 e11 ++ (wLs g d t1 t10 t11))) s.heap.size) (wLs g d (seaN e1 80) (u2 10) (u2 11) ++ (wLs g b e1 e10 e11 ++ (wF g a b d f1))) → va_S (va_A (wF g a b d f1 ++ (wLs g b e1 e10 e11 ++ (wLs g d t1 t10 t11))) s.heap.size) s.heap H locs → W pq l eq rm_X0_standing s mq [.ref (a 0)].toArray below meth cq H locs 0 0 (MQ below (QMi g (fun u9 : Nat → Int → Int => wF g a b d f1 ++ (wLs g b e1 e10 e11 ++ (wLs g d (seaN e1 80) (u9 210) (u9 211)))) (fun r9 _ => r9 = stdS e1) (va_A (wF g a b d f1 ++ (wLs g b e1 e10 e11 ++ (wLs g d t1 t10 t11))) s.heap.size)) [.ref (a 0)].toArray s 0 0 (va_A (wF g a b d f1 ++ (wLs g b e1 e10 e11 ++ (wLs g d t1 t10 t11))) s.heap.size)) (F0 mq 24 ls []) := by
    intro n24
    induction n24 with
    | zero => intro j i24_1 hm; exact absurd hm (Nat.not_lt_zero _)
    | succ n24 ih24 =>
      intro j i24_1 hm24 ls hl H locs hP hD hS
      obtain ⟨hP2, hPr0⟩ := va_P_app.mp hP
      obtain ⟨hP1, hP0⟩ := va_P_app.mp hPr0
      refine lv_iload_n hx hb dX0_standing_24 rfl (lv_at hl 0 rfl) ?_
      refine lv_aload_n hx hb dX0_standing_25 rfl (lv_at hl 2 rfl) ?_
      refine xg_X0 hx hb hts hown hK hP0 0 rfl 0 (by decide) fk_X0_22 (v := .ref (b 0)) rfl dX0_standing_26 ?_
      refine xgN_X1 hx hb hts hown hK hP1 0 rfl 1 (by decide) fk_X0_43 (v := .int (iI (e1 1))) rfl dX0_standing_29 ?_
      refine xi_c_ge (tgt := 68) hx hb ⟨by omega, by omega⟩ ⟨by omega, by omega⟩ dX0_standing_32 (by decide) (fun z3 => ?_) (fun z3 => ?_)
      · refine lv_iload_n hx hb dX0_standing_68 rfl (lv_at hl 1 rfl) ?_
        have hD : va_D (va_A (wF g a b d f1 ++ (wLs g b e1 e10 e11 ++ (wLs g d t1 t10 t11))) s.heap.size) (wLs g d (seaN e1 80) (u2 10) (u2 11) ++ (wF g a b d f1 ++ (wLs g b e1 e10 e11))) := D_perm (List.Perm.append_left _ (List.perm_append_comm)) hD
        have hD : va_D (va_A (wF g a b d f1 ++ (wLs g b e1 e10 e11 ++ (wLs g d t1 t10 t11))) s.heap.size) (wF g a b d f1 ++ (wLs g d (seaN e1 80) (u2 10) (u2 11) ++ (wLs g b e1 e10 e11))) := D_perm (List.perm_append_comm_assoc _ _ _) hD
        have hD : va_D (va_A (wF g a b d f1 ++ (wLs g b e1 e10 e11 ++ (wLs g d t1 t10 t11))) s.heap.size) (wF g a b d f1 ++ (wLs g b e1 e10 e11 ++ (wLs g d (seaN e1 80) (u2 10) (u2 11)))) := D_perm (List.Perm.append_left _ (List.perm_append_comm)) hD
        have hP : va_P g.1 vwCl (wF g a b d f1 ++ (wLs g b e1 e10 e11 ++ (wLs g d (seaN e1 80) (u2 10) (u2 11)))) H := va_P_app.mpr ⟨hP0, va_P_app.mpr ⟨hP1, hP2⟩⟩
        have hP : va_P g.1 vwCl (wF g a b d f1 ++ (wLs g b e1 e10 e11 ++ (wLs g d (seaN e1 80) ((su (su (fun _ _ => 0) 210 (u2 10)) 211 (u2 11)) 210) ((su (su (fun _ _ => 0) 210 (u2 10)) 211 (u2 11)) 211)))) H := hP
        have hD : va_D (va_A (wF g a b d f1 ++ (wLs g b e1 e10 e11 ++ (wLs g d t1 t10 t11))) s.heap.size) (wF g a b d f1 ++ (wLs g b e1 e10 e11 ++ (wLs g d (seaN e1 80) ((su (su (fun _ _ => 0) 210 (u2 10)) 211 (u2 11)) 210) ((su (su (fun _ _ => 0) 210 (u2 10)) 211 (u2 11)) 211)))) := hD
        exact W.iret hx hb hr (fun t ht hW => ⟨⟨_, (su (su (fun _ _ => 0) 210 (u2 10)) 211 (u2 11)), rfl, by unfold stdS; rw [show j = (e1 1).toNat by omega], by rw [ht]; exact hP, hD⟩, hS.F ht⟩) hS.2.2 dX0_standing_69
      · have hcr := hsn.1.ran (j : Int) (by omega) (by omega)
        have hcr2 := hI.ran (j : Int) (by omega) (by omega)
        refine lv_aload_n hx hb dX0_standing_35 rfl (lv_at hl 2 rfl) ?_
        refine xg_X0 hx hb hts hown hK hP0 0 rfl 1 (by decide) fk_X0_12 (v := .ref (d 0)) rfl dX0_standing_36 ?_
        refine xgN_X1 hx hb hts hown hK hP2 0 rfl 10 (by decide) fk_X0_47 (v := .ref (d 8)) rfl dX0_standing_39 ?_
        refine lv_iload_n hx hb dX0_standing_42 rfl (lv_at hl 0 rfl) ?_
        refine xi_alz hx hb hK hP2 8 (s0 := seaN e1 80) rfl (i := (j : Int)) ⟨by omega, by omega⟩ rfl dX0_standing_43 ?_
        refine lv_aload_n hx hb dX0_standing_44 rfl (lv_at hl 2 rfl) ?_
        refine xg_X0 hx hb hts hown hK hP0 0 rfl 0 (by decide) fk_X0_22 (v := .ref (b 0)) rfl dX0_standing_45 ?_
        refine xgN_X1 hx hb hts hown hK hP1 0 rfl 10 (by decide) fk_X0_47 (v := .ref (b 8)) rfl dX0_standing_48 ?_
        refine lv_iload_n hx hb dX0_standing_51 rfl (lv_at hl 0 rfl) ?_
        refine xi_alz hx hb hK hP1 8 (s0 := e1) rfl (i := (j : Int)) ⟨by omega, by omega⟩ rfl dX0_standing_52 ?_
        refine xi_c_ne (tgt := 62) hx hb ⟨by omega, by omega⟩ ⟨by omega, by omega⟩ dX0_standing_53 (by decide) (fun z4 => ?_) (fun z4 => ?_)
        · refine xi_inc (lv' := [(2, .int (iI ((j : Int) + 1))), (1, .int (orT (sdT e1) j)), (0, .ref (a 0))]) hx hb dX0_standing_62 hl (k := 0) rfl (by decide) rfl (fun ls hl => ?_)
          refine lv_goto (tgt := 24) hx hb dX0_standing_65 (by decide) ?_
          have hq5 : ((j : Int) + 1) = ((j + 1) : Int) := by omega
          have hq6 : (orT (sdT e1) j) = (orT (sdT e1) (j + 1)) := by simp only [orT, sdT]; first | (rw [if_pos (by omega)]; rfl) | (rw [if_neg (by omega)]; exact (or_0 _).symm)
          have hl : lv_has ls 3 [(2, .int (iI ((j : Int) + 1))), (1, .int (orT (sdT e1) j)), (0, .ref (a 0))] := lv_sub hl [0, 1, 2] rfl
          have hl := Eq.mp (congrArg (fun z9 => lv_has ls 3 [(2, .int (iI z9)), (1, .int (orT (sdT e1) j)), (0, .ref (a 0))]) hq5) hl
          have hl := Eq.mp (congrArg (fun z9 => lv_has ls 3 [(2, .int (iI ((j + 1) : Int))), (1, .int z9), (0, .ref (a 0))]) hq6) hl
          exact ih24 (j + 1) (by omega) (by omega) ls hl H locs hP hD hS
        · refine lv_iload_n hx hb dX0_standing_56 rfl (lv_at hl 1 rfl) ?_
          refine lv_iconst (v := iI (1)) hx hb dX0_standing_57 (by decide) ?_
          refine lv_iload_n hx hb dX0_standing_58 rfl (lv_at hl 0 rfl) ?_
          refine lv_ishl hx hb dX0_standing_59 ?_
          refine lv_ior hx hb dX0_standing_60 ?_
          refine lv_istore_n (lv' := [(1, .int (((orT (sdT e1) j)) ||| (((iI 1) <<< ((iI (j : Int)) &&& 31))))), (2, .int (iI (j : Int))), (0, .ref (a 0))]) hx hb dX0_standing_61 rfl hl (by decide) rfl (fun ls hl => ?_)
          refine xi_inc (lv' := [(2, .int (iI ((j : Int) + 1))), (1, .int (((orT (sdT e1) j)) ||| (((iI 1) <<< ((iI (j : Int)) &&& 31))))), (0, .ref (a 0))]) hx hb dX0_standing_62 hl (k := 1) rfl (by decide) rfl (fun ls hl => ?_)
          refine lv_goto (tgt := 24) hx hb dX0_standing_65 (by decide) ?_
          have hq7 : ((j : Int) + 1) = ((j + 1) : Int) := by omega
          have hq8 : (((orT (sdT e1) j)) ||| (((iI 1) <<< ((iI (j : Int)) &&& 31)))) = (orT (sdT e1) (j + 1)) := by simp only [orT, sdT]; first | (rw [if_pos (by omega)]; rfl) | (rw [if_neg (by omega)]; exact (or_0 _).symm)
          have hl : lv_has ls 3 [(2, .int (iI ((j : Int) + 1))), (1, .int (((orT (sdT e1) j)) ||| (((iI 1) <<< ((iI (j : Int)) &&& 31))))), (0, .ref (a 0))] := lv_sub hl [0, 1, 2] rfl
          have hl := Eq.mp (congrArg (fun z9 => lv_has ls 3 [(2, .int (iI z9)), (1, .int (((orT (sdT e1) j)) ||| (((iI 1) <<< ((iI (j : Int)) &&& 31))))), (0, .ref (a 0))]) hq7) hl
          have hl := Eq.mp (congrArg (fun z9 => lv_has ls 3 [(2, .int (iI ((j + 1) : Int))), (1, .int z9), (0, .ref (a 0))]) hq8) hl
          exact ih24 (j + 1) (by omega) (by omega) ls hl H locs hP hD hS
  have hq9 : 0 = (0 : Int) := rfl
  have hq10 : (iI 0) = (orT (sdT e1) 0) := rfl
  have hl : lv_has ls 3 [(2, .int (iI 0)), (1, .int (iI 0)), (0, .ref (a 0))] := lv_sub hl [0, 1, 2] rfl
  have hl := Eq.mp (congrArg (fun z9 => lv_has ls 3 [(2, .int (iI z9)), (1, .int (iI 0)), (0, .ref (a 0))]) hq9) hl
  have hl := Eq.mp (congrArg (fun z9 => lv_has ls 3 [(2, .int (iI (0 : Int))), (1, .int z9), (0, .ref (a 0))]) hq10) hl
  exact lp24 (8 + 1) 0 (by omega) (by omega) ls hl H locs hP hD hS
abbrev rm_X0_goneInTrial : Room := { frames := 4, cells := 0, slots := 0, locals := 94 }
set_option maxRecDepth 100000 in
set_option maxHeartbeats 4000000 in
theorem c_X0_goneInTrial (l : Launch) (g : Gd) (a : Nat → Nat) (f1 : Int → Int) (b : Nat → Nat) (e1 : Int → Int) (e10 : Int → Int) (e11 : Int → Int) (d : Nat → Nat) (t1 : Int → Int) (t10 : Int → Int) (t11 : Int → Int) (r : Int) (n : Int) (sz : Nat) (h1 : InvK 0 t1) (h2 : 0 ≤ n ∧ t1 0 + n ≤ 20000) (h3 : 0 ≤ r ∧ r < t1 1) (h4 : t1 1 = e1 1) (h5 : t1 (61 + 5 * r + 3) = e1 (61 + 5 * r + 3)) : Met l yX0_goneInTrial (wsOf yX0_goneInTrial cX0_goneInTrial 3 (some .int)) rm_X0_goneInTrial (PX g (wP g (wF g a b d f1 ++ (wLs g b e1 e10 e11 ++ (wLs g d t1 t10 t11))) sz) [.ref (a 0), .int (iI r), .int (iI n)]) (QMi g (fun u9 : Nat → Int → Int => wF g a b d f1 ++ (wLs g b e1 e10 e11 ++ (wLs g d (seaN t1 (Int.toNat n)) (u9 210) (u9 211)))) (fun r9 _ => r9 = iI (goneN t1 r n)) (va_A (wF g a b d f1 ++ (wLs g b e1 e10 e11 ++ (wLs g d t1 t10 t11))) sz)) 0 0 (va_A (wF g a b d f1 ++ (wLs g b e1 e10 e11 ++ (wLs g d t1 t10 t11))) sz) := by
  refine me (g := g) (by decide) rfl ?_
  intro pq eq s mq below meth cq C hnm hB ls hl
  obtain ⟨hx, hb, hr, hml, hown, hts, hlocks, hK⟩ := C
  have hown : s.vm.findClass RX0 = some mq.cls := hown
  have hl : lv_has ls 3 [(0, .ref (a 0)), (1, .int (iI r)), (2, .int (iI n))] := hl
  obtain ⟨hsz, hP, hD0⟩ := hB
  subst hsz
  have hD := hD0.self (sz := s.heap.size)
  have hA : ∀ q : Nat, s.heap.size ≤ q → va_A (wF g a b d f1 ++ (wLs g b e1 e10 e11 ++ (wLs g d t1 t10 t11))) s.heap.size q := fun q h => Or.inr h
  have hS : va_S (va_A (wF g a b d f1 ++ (wLs g b e1 e10 e11 ++ (wLs g d t1 t10 t11))) s.heap.size) s.heap s.heap [] := va_S.rf
  obtain ⟨hP0, hPr0⟩ := va_P_app.mp hP
  obtain ⟨hP1, hP2⟩ := va_P_app.mp hPr0
  have hI := h1
  have hn := hI.num
  refine lv_aload_n hx hb dX0_goneInTrial_0 rfl (lv_at hl 0 rfl) ?_
  refine xg_X0 hx hb hts hown hK hP0 0 rfl 1 (by decide) fk_X0_12 (v := .ref (d 0)) rfl dX0_goneInTrial_1 ?_
  refine lv_iload_n hx hb dX0_goneInTrial_4 rfl (lv_at hl 2 rfl) ?_
  have hD : va_D (va_A (wF g a b d f1 ++ (wLs g b e1 e10 e11 ++ (wLs g d t1 t10 t11))) s.heap.size) (wF g a b d f1 ++ (wLs g d t1 t10 t11 ++ (wLs g b e1 e10 e11))) := D_perm (List.Perm.append_left _ (List.perm_append_comm)) hD
  have hD : va_D (va_A (wF g a b d f1 ++ (wLs g b e1 e10 e11 ++ (wLs g d t1 t10 t11))) s.heap.size) (wLs g d t1 t10 t11 ++ (wF g a b d f1 ++ (wLs g b e1 e10 e11))) := D_perm (List.perm_append_comm_assoc _ _ _) hD
  have hP : va_P g.1 vwCl (wLs g d t1 t10 t11 ++ (wF g a b d f1 ++ (wLs g b e1 e10 e11))) s.heap := va_P_app.mpr ⟨hP2, va_P_app.mpr ⟨hP0, hP1⟩⟩
  refine xmF_v (rVN (rest := []) hx hb hml hown hts hK hl (c_X1_goSeasons l g d t1 t10 t11 n (s.heap).size (show InvK 0 t1 from h1) (show 0 ≤ n ∧ t1 0 + n ≤ 20000 from by omega)) lk_X0_29 ⟨rfl, hP2, (va_D_app hD).1.weaken (fun _ _ _ _ => trivial)⟩ (va_recv hK.1 hP2 (ci := 1) (q0 := 0) rfl rfl) rfl rfl rfl (Rm.of rfl) rfl rfl dX0_goneInTrial_5) hP hD hS hA (fun u1 H locs hw hP hD hS => ?_)
  have hP : va_P g.1 vwCl (wLs g d (seaN t1 (Int.toNat n)) (u1 10) (u1 11) ++ (wF g a b d f1 ++ (wLs g b e1 e10 e11))) H := hP
  have hD : va_D (va_A (wF g a b d f1 ++ (wLs g b e1 e10 e11 ++ (wLs g d t1 t10 t11))) s.heap.size) (wLs g d (seaN t1 (Int.toNat n)) (u1 10) (u1 11) ++ (wF g a b d f1 ++ (wLs g b e1 e10 e11))) := hD
  obtain ⟨hP2, hPr0⟩ := va_P_app.mp hP
  obtain ⟨hP0, hP1⟩ := va_P_app.mp hPr0
  refine lv_aload_n hx hb dX0_goneInTrial_8 rfl (lv_at hl 0 rfl) ?_
  refine xg_X0 hx hb hts hown hK hP0 0 rfl 1 (by decide) fk_X0_12 (v := .ref (d 0)) rfl dX0_goneInTrial_9 ?_
  refine xgN_X1 hx hb hts hown hK hP2 0 rfl 10 (by decide) fk_X0_47 (v := .ref (d 8)) rfl dX0_goneInTrial_12 ?_
  refine lv_iload_n hx hb dX0_goneInTrial_15 rfl (lv_at hl 1 rfl) ?_
  refine xi_alz hx hb hK hP2 8 (s0 := seaN t1 (Int.toNat n)) rfl (i := r) ⟨by omega, by omega⟩ rfl dX0_goneInTrial_16 ?_
  refine lv_aload_n hx hb dX0_goneInTrial_17 rfl (lv_at hl 0 rfl) ?_
  refine xg_X0 hx hb hts hown hK hP0 0 rfl 0 (by decide) fk_X0_22 (v := .ref (b 0)) rfl dX0_goneInTrial_18 ?_
  refine xgN_X1 hx hb hts hown hK hP1 0 rfl 10 (by decide) fk_X0_47 (v := .ref (b 8)) rfl dX0_goneInTrial_21 ?_
  refine lv_iload_n hx hb dX0_goneInTrial_24 rfl (lv_at hl 1 rfl) ?_
  refine xi_alz hx hb hK hP1 8 (s0 := e1) rfl (i := r) ⟨by omega, by omega⟩ rfl dX0_goneInTrial_25 ?_
  refine xi_sub hx hb dX0_goneInTrial_26 ?_
  have hD : va_D (va_A (wF g a b d f1 ++ (wLs g b e1 e10 e11 ++ (wLs g d t1 t10 t11))) s.heap.size) (wF g a b d f1 ++ (wLs g d (seaN t1 (Int.toNat n)) (u1 10) (u1 11) ++ (wLs g b e1 e10 e11))) := D_perm (List.perm_append_comm_assoc _ _ _) hD
  have hD : va_D (va_A (wF g a b d f1 ++ (wLs g b e1 e10 e11 ++ (wLs g d t1 t10 t11))) s.heap.size) (wF g a b d f1 ++ (wLs g b e1 e10 e11 ++ (wLs g d (seaN t1 (Int.toNat n)) (u1 10) (u1 11)))) := D_perm (List.Perm.append_left _ (List.perm_append_comm)) hD
  have hP : va_P g.1 vwCl (wF g a b d f1 ++ (wLs g b e1 e10 e11 ++ (wLs g d (seaN t1 (Int.toNat n)) (u1 10) (u1 11)))) H := va_P_app.mpr ⟨hP0, va_P_app.mpr ⟨hP1, hP2⟩⟩
  have hP : va_P g.1 vwCl (wF g a b d f1 ++ (wLs g b e1 e10 e11 ++ (wLs g d (seaN t1 (Int.toNat n)) ((su (su (fun _ _ => 0) 210 (u1 10)) 211 (u1 11)) 210) ((su (su (fun _ _ => 0) 210 (u1 10)) 211 (u1 11)) 211)))) H := hP
  have hD : va_D (va_A (wF g a b d f1 ++ (wLs g b e1 e10 e11 ++ (wLs g d t1 t10 t11))) s.heap.size) (wF g a b d f1 ++ (wLs g b e1 e10 e11 ++ (wLs g d (seaN t1 (Int.toNat n)) ((su (su (fun _ _ => 0) 210 (u1 10)) 211 (u1 11)) 210) ((su (su (fun _ _ => 0) 210 (u1 10)) 211 (u1 11)) 211)))) := hD
  exact W.iret hx hb hr (fun t ht hW => ⟨⟨_, (su (su (fun _ _ => 0) 210 (u1 10)) 211 (u1 11)), rfl, congrArg iI (by unfold goneN; rw [h5]), by rw [ht]; exact hP, hD⟩, hS.F ht⟩) hS.2.2 dX0_goneInTrial_27

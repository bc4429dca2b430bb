abbrev rm_J6_bitCount_0f7a4 : Room := { frames := 0, cells := 0, slots := 0, locals := 0 }
set_option maxRecDepth 100000 in
set_option maxHeartbeats 4000000 in
theorem c_J6_bitCount_0f7a4 (l : Launch) (g : Gd) (y : Int32) (h1 : ∃ x : Nat, x < 256 ∧ y = iI (x : Int)) : Met l yJ6_bitCount_0f7a4 (wsOf yJ6_bitCount_0f7a4 cJ6_bitCount_0f7a4 1 (some .int)) rm_J6_bitCount_0f7a4 (PX g (fun _ => True) [.int y]) (vp_Si (fun r9 => r9 = iI (onesN y))) 0 0 (fun _ => False) := by
  refine me (g := g) (by decide) rfl ?_
  intro pq eq s mq below meth cq C hnm hB ls hl
  obtain ⟨hx, hb, hr, hml, hown, hts, hlocks, hK⟩ := C
  have hown : s.vm.findClass RJ6 = some mq.cls := hown
  have hl : lv_has ls 1 [(0, .int y)] := hl
  refine lv_iload_n hx hb dJ6_bitCount_0f7a4_0 rfl (lv_at hl 0 rfl) ?_
  refine lv_iload_n hx hb dJ6_bitCount_0f7a4_1 rfl (lv_at hl 0 rfl) ?_
  refine lv_iconst (v := iI (1)) hx hb dJ6_bitCount_0f7a4_2 (by decide) ?_
  refine lv_iushr hx hb dJ6_bitCount_0f7a4_3 rfl ?_
  refine xi_ldcw hx hb hown hts kk_J6_265 dJ6_bitCount_0f7a4_4 ?_
  refine lv_iand hx hb dJ6_bitCount_0f7a4_7 ?_
  refine lv_isub hx hb dJ6_bitCount_0f7a4_8 ?_
  refine lv_istore_n (lv' := [(0, .int (bc1 y))]) hx hb dJ6_bitCount_0f7a4_9 rfl hl (by decide) rfl (fun ls hl => ?_)
  refine lv_iload_n hx hb dJ6_bitCount_0f7a4_10 rfl (lv_at hl 0 rfl) ?_
  refine xi_ldcw hx hb hown hts kk_J6_266 dJ6_bitCount_0f7a4_11 ?_
  refine lv_iand hx hb dJ6_bitCount_0f7a4_14 ?_
  refine lv_iload_n hx hb dJ6_bitCount_0f7a4_15 rfl (lv_at hl 0 rfl) ?_
  refine lv_iconst (v := iI (2)) hx hb dJ6_bitCount_0f7a4_16 (by decide) ?_
  refine lv_iushr hx hb dJ6_bitCount_0f7a4_17 rfl ?_
  refine xi_ldcw hx hb hown hts kk_J6_266 dJ6_bitCount_0f7a4_18 ?_
  refine lv_iand hx hb dJ6_bitCount_0f7a4_21 ?_
  refine lv_iadd hx hb dJ6_bitCount_0f7a4_22 ?_
  refine lv_istore_n (lv' := [(0, .int (bc2 (bc1 y)))]) hx hb dJ6_bitCount_0f7a4_23 rfl hl (by decide) rfl (fun ls hl => ?_)
  refine lv_iload_n hx hb dJ6_bitCount_0f7a4_24 rfl (lv_at hl 0 rfl) ?_
  refine lv_iload_n hx hb dJ6_bitCount_0f7a4_25 rfl (lv_at hl 0 rfl) ?_
  refine lv_iconst (v := iI (4)) hx hb dJ6_bitCount_0f7a4_26 (by decide) ?_
  refine lv_iushr hx hb dJ6_bitCount_0f7a4_27 rfl ?_
  refine lv_iadd hx hb dJ6_bitCount_0f7a4_28 ?_
  refine xi_ldcw hx hb hown hts kk_J6_267 dJ6_bitCount_0f7a4_29 ?_
  refine lv_iand hx hb dJ6_bitCount_0f7a4_32 ?_
  refine lv_istore_n (lv' := [(0, .int (bc3 (bc2 (bc1 y))))]) hx hb dJ6_bitCount_0f7a4_33 rfl hl (by decide) rfl (fun ls hl => ?_)
  refine lv_iload_n hx hb dJ6_bitCount_0f7a4_34 rfl (lv_at hl 0 rfl) ?_
  refine lv_iload_n hx hb dJ6_bitCount_0f7a4_35 rfl (lv_at hl 0 rfl) ?_
  refine lv_bipush (v := iI (8)) hx hb dJ6_bitCount_0f7a4_36 (by decide) ?_
  refine lv_iushr hx hb dJ6_bitCount_0f7a4_38 rfl ?_
  refine lv_iadd hx hb dJ6_bitCount_0f7a4_39 ?_
  refine lv_istore_n (lv' := [(0, .int (bc4 (bc3 (bc2 (bc1 y)))))]) hx hb dJ6_bitCount_0f7a4_40 rfl hl (by decide) rfl (fun ls hl => ?_)
  refine lv_iload_n hx hb dJ6_bitCount_0f7a4_41 rfl (lv_at hl 0 rfl) ?_
  refine lv_iload_n hx hb dJ6_bitCount_0f7a4_42 rfl (lv_at hl 0 rfl) ?_
  refine lv_bipush (v := iI (16)) hx hb dJ6_bitCount_0f7a4_43 (by decide) ?_
  refine lv_iushr hx hb dJ6_bitCount_0f7a4_45 rfl ?_
  refine lv_iadd hx hb dJ6_bitCount_0f7a4_46 ?_
  refine lv_istore_n (lv' := [(0, .int (bc5 (bc4 (bc3 (bc2 (bc1 y))))))]) hx hb dJ6_bitCount_0f7a4_47 rfl hl (by decide) rfl (fun ls hl => ?_)
  refine lv_iload_n hx hb dJ6_bitCount_0f7a4_48 rfl (lv_at hl 0 rfl) ?_
  refine lv_bipush (v := iI (63)) hx hb dJ6_bitCount_0f7a4_49 (by decide) ?_
  refine lv_iand hx hb dJ6_bitCount_0f7a4_51 ?_
  exact W.iret hx hb hr (fun t ht hW => ⟨_, rfl, bc_of h1, ht⟩) (fun q h => by cases h) dJ6_bitCount_0f7a4_52
abbrev rm_X0_standingWithout : Room := { frames := 4, cells := 0, slots := 0, locals := 101 }
set_option maxRecDepth 100000 in
set_option maxHeartbeats 4000000 in
theorem c_X0_standingWithout (l : Launch) (g : Gd) (a : Nat → Nat) (f1 : Int → Int) (b : Nat → Nat) (e1 : Int → Int) (e10 : Int → Int) (e11 : Int → Int) (d : Nat → Nat) (t1 : Int → Int) (t10 : Int → Int) (t11 : Int → Int) (r : Int) (sz : Nat) (h1 : InvK 0 e1) (h2 : e1 0 ≤ 9999) (h3 : 0 ≤ r ∧ r < e1 1) : Met l yX0_standingWithout (wsOf yX0_standingWithout cX0_standingWithout 5 (some .int)) rm_X0_standingWithout (PX g (wP g (wF g a b d f1 ++ (wLs g b e1 e10 e11 ++ (wLs g d t1 t10 t11))) sz) [.ref (a 0), .int (iI r)]) (QMi g (fun u9 : Nat → Int → Int => wF g a b d f1 ++ (wLs g b e1 e10 e11 ++ (wLs g d (u9 201) (u9 210) (u9 211)))) (fun r9 _ => r9 = iI (cntS (nLev e1 r))) (va_A (wF g a b d f1 ++ (wLs g b e1 e10 e11 ++ (wLs g d t1 t10 t11))) sz)) 0 0 (va_A (wF g a b d f1 ++ (wLs g b e1 e10 e11 ++ (wLs g d t1 t10 t11))) sz) := by
  refine me (g := g) (by decide) rfl ?_
  intro pq eq s mq below meth cq C hnm hB ls hl
  obtain ⟨hx, hb, hr, hml, hown, hts, hlocks, hK⟩ := C
  have hown : s.vm.findClass RX0 = some mq.cls := hown
  have hl : lv_has ls 5 [(0, .ref (a 0)), (1, .int (iI r))] := hl
  obtain ⟨hsz, hP, hD0⟩ := hB
  subst hsz
  have hD := hD0.self (sz := s.heap.size)
  have hA : ∀ q : Nat, s.heap.size ≤ q → va_A (wF g a b d f1 ++ (wLs g b e1 e10 e11 ++ (wLs g d t1 t10 t11))) s.heap.size q := fun q h => Or.inr h
  have hS : va_S (va_A (wF g a b d f1 ++ (wLs g b e1 e10 e11 ++ (wLs g d t1 t10 t11))) s.heap.size) s.heap s.heap [] := va_S.rf
  obtain ⟨hP0, hPr0⟩ := va_P_app.mp hP
  obtain ⟨hP1, hP2⟩ := va_P_app.mp hPr0
  have hI := h1
  have hI8 : Inv e1 := h1.mono (by omega)
  have hn := hI.num
  have hs := hI.sea
  have hv := hI.vil
  have hIl := hI.lev h3.1 h3.2
  have e09 := nLev_0 (s := e1) h3.1
  have hsn := seaN_inv hIl 80 (by omega)
  have hs0 := hsn.2.1
  have hs1 := hsn.2.2 1 (by omega) (by omega)
  have hl1 := nLev_1 e1 r
  refine lv_aload_n hx hb dX0_standingWithout_0 rfl (lv_at hl 0 rfl) ?_
  refine xg_X0 hx hb hts hown hK hP0 0 rfl 1 (by decide) fk_X0_12 (v := .ref (d 0)) rfl dX0_standingWithout_1 ?_
  refine lv_aload_n hx hb dX0_standingWithout_4 rfl (lv_at hl 0 rfl) ?_
  refine xg_X0 hx hb hts hown hK hP0 0 rfl 0 (by decide) fk_X0_22 (v := .ref (b 0)) rfl dX0_standingWithout_5 ?_
  have hD : va_D (va_A (wF g a b d f1 ++ (wLs g b e1 e10 e11 ++ (wLs g d t1 t10 t11))) s.heap.size) (wF g a b d f1 ++ (wLs g d t1 t10 t11 ++ (wLs g b e1 e10 e11))) := D_perm (List.Perm.append_left _ (List.perm_append_comm)) hD
  have hD : va_D (va_A (wF g a b d f1 ++ (wLs g b e1 e10 e11 ++ (wLs g d t1 t10 t11))) s.heap.size) (wLs g d t1 t10 t11 ++ (wF g a b d f1 ++ (wLs g b e1 e10 e11))) := D_perm (List.perm_append_comm_assoc _ _ _) hD
  have hD : va_D (va_A (wF g a b d f1 ++ (wLs g b e1 e10 e11 ++ (wLs g d t1 t10 t11))) s.heap.size) (wLs g d t1 t10 t11 ++ (wLs g b e1 e10 e11 ++ (wF g a b d f1))) := D_perm (List.Perm.append_left _ (List.perm_append_comm)) hD
  have hP : va_P g.1 vwCl (wLs g d t1 t10 t11 ++ (wLs g b e1 e10 e11 ++ (wF g a b d f1))) s.heap := va_P_app.mpr ⟨hP2, va_P_app.mpr ⟨hP1, hP0⟩⟩
  have hP : va_P g.1 vwCl ((wLs g d t1 t10 t11 ++ (wLs g b e1 e10 e11)) ++ (wF g a b d f1)) s.heap := by rw [List.append_assoc]; exact hP
  have hD : va_D (va_A (wF g a b d f1 ++ (wLs g b e1 e10 e11 ++ (wLs g d t1 t10 t11))) s.heap.size) ((wLs g d t1 t10 t11 ++ (wLs g b e1 e10 e11)) ++ (wF g a b d f1)) := by rw [List.append_assoc]; exact hD
  refine xmF_v (rVN (rest := []) hx hb hml hown hts hK hl (c_X1_becomes l g d t1 t10 t11 b e1 e10 e11 (s.heap).size ) lk_X0_25 ⟨rfl, (va_P_app.mp hP).1, (va_D_app hD).1.weaken (fun _ _ _ _ => trivial)⟩ (va_recv hK.1 hP2 (ci := 1) (q0 := 0) rfl rfl) rfl rfl rfl (Rm.of rfl) rfl rfl dX0_standingWithout_8) hP hD hS hA (fun _ H locs hw hP hD hS => ?_)
  have hP : va_P g.1 vwCl ((wLs g d e1 t10 t11 ++ (wLs g b e1 e10 e11)) ++ (wF g a b d f1)) H := hP
  have hD : va_D (va_A (wF g a b d f1 ++ (wLs g b e1 e10 e11 ++ (wLs g d t1 t10 t11))) s.heap.size) ((wLs g d e1 t10 t11 ++ (wLs g b e1 e10 e11)) ++ (wF g a b d f1)) := hD
  rw [List.append_assoc] at hP hD
  have hP : va_P g.1 vwCl (wLs g d e1 t10 t11 ++ (wLs g b e1 e10 e11 ++ (wF g a b d f1))) H := hP
  have hD : va_D (va_A (wF g a b d f1 ++ (wLs g b e1 e10 e11 ++ (wLs g d t1 t10 t11))) s.heap.size) (wLs g d e1 t10 t11 ++ (wLs g b e1 e10 e11 ++ (wF g a b d f1))) := hD
  obtain ⟨hP2, hPr0⟩ := va_P_app.mp hP
  obtain ⟨hP1, hP0⟩ := va_P_app.mp hPr0
  refine lv_aload_n hx hb dX0_standingWithout_11 rfl (lv_at hl 0 rfl) ?_
  refine xg_X0 hx hb hts hown hK hP0 0 rfl 1 (by decide) fk_X0_12 (v := .ref (d 0)) rfl dX0_standingWithout_12 ?_
  refine lv_iload_n hx hb dX0_standingWithout_15 rfl (lv_at hl 1 rfl) ?_
  refine xmF_v (rVN (rest := []) hx hb hml hown hts hK hl (c_X1_removeRange l g d e1 t10 t11 r H.size (show 0 ≤ r ∧ r < e1 1 from by omega) (show 0 ≤ e1 1 ∧ e1 1 ≤ 8 from by omega)) lk_X0_50 ⟨rfl, hP2, (va_D_app hD).1.weaken (fun _ _ _ _ => trivial)⟩ (va_recv hK.1 hP2 (ci := 1) (q0 := 0) rfl rfl) rfl rfl rfl (Rm.of rfl) rfl rfl dX0_standingWithout_16) hP hD hS hA (fun _ H locs hw hP hD hS => ?_)
  have hP : va_P g.1 vwCl (wLs g d (nLev e1 r) t10 t11 ++ (wLs g b e1 e10 e11 ++ (wF g a b d f1))) H := hP
  have hD : va_D (va_A (wF g a b d f1 ++ (wLs g b e1 e10 e11 ++ (wLs g d t1 t10 t11))) s.heap.size) (wLs g d (nLev e1 r) t10 t11 ++ (wLs g b e1 e10 e11 ++ (wF g a b d f1))) := hD
  obtain ⟨hP2, hPr0⟩ := va_P_app.mp hP
  obtain ⟨hP1, hP0⟩ := va_P_app.mp hPr0
  refine lv_aload_n hx hb dX0_standingWithout_19 rfl (lv_at hl 0 rfl) ?_
  refine xg_X0 hx hb hts hown hK hP0 0 rfl 1 (by decide) fk_X0_12 (v := .ref (d 0)) rfl dX0_standingWithout_20 ?_
  refine lv_bipush (v := iI (80)) hx hb dX0_standingWithout_23 (by decide) ?_
  refine xmF_v (rVN (rest := []) hx hb hml hown hts hK hl (c_X1_goSeasons l g d (nLev e1 r) t10 t11 80 H.size (show InvK 0 (nLev e1 r) from hIl) (show 0 ≤ 80 ∧ (nLev e1 r) 0 + 80 ≤ 20000 from by omega)) lk_X0_29 ⟨rfl, hP2, (va_D_app hD).1.weaken (fun _ _ _ _ => trivial)⟩ (va_recv hK.1 hP2 (ci := 1) (q0 := 0) rfl rfl) rfl rfl rfl (Rm.of rfl) rfl rfl dX0_standingWithout_25) hP hD hS hA (fun u3 H locs hw hP hD hS => ?_)
  have hP : va_P g.1 vwCl (wLs g d (seaN (nLev e1 r) 80) (u3 10) (u3 11) ++ (wLs g b e1 e10 e11 ++ (wF g a b d f1))) H := hP
  have hD : va_D (va_A (wF g a b d f1 ++ (wLs g b e1 e10 e11 ++ (wLs g d t1 t10 t11))) s.heap.size) (wLs g d (seaN (nLev e1 r) 80) (u3 10) (u3 11) ++ (wLs g b e1 e10 e11 ++ (wF g a b d f1))) := hD
  obtain ⟨hP2, hPr0⟩ := va_P_app.mp hP
  obtain ⟨hP1, hP0⟩ := va_P_app.mp hPr0
  refine lv_iconst (v := iI (0)) hx hb dX0_standingWithout_28 (by decide) ?_
  refine lv_istore_n (lv' := [(2, .int (iI 0)), (0, .ref (a 0)), (1, .int (iI r))]) hx hb dX0_standingWithout_29 rfl hl (by decide) rfl (fun ls hl => ?_)
  refine lv_iconst (v := iI (0)) hx hb dX0_standingWithout_30 (by decide) ?_
  refine lv_istore_n (lv' := [(3, .int (iI 0)), (2, .int (iI 0)), (0, .ref (a 0)), (1, .int (iI r))]) hx hb dX0_standingWithout_31 rfl hl (by decide) rfl (fun ls hl => ?_)
  have lp32 : ∀ (n32 : Nat) (j : Nat), ((j : Int) ≤ e1 1 - 1) → 8 - j < n32 → ∀ ls : Array Slot, lv_has ls 5 [(3, .int (iI (j : Int))), (2, .int (iI (cdT (nLev e1 r) j))), (0, .ref (a 0)), (1, .int (iI r))] → ∀ (H : Heap) (locs : List Loc), va_P g.1 vwCl (wLs g d (seaN (nLev e1 r) 80) (u3 10) (u3 11) ++ (wLs g b e1 e10 e11 ++ (wF g a b d f1))) H → va_D (va_A (wF g a b d f1 ++ (wLs g b e1 e10 e11 ++ (wLs g d t1 t10 t11))) s.heap.size) (wLs g d (seaN (nLev e1 r) 80) (u3 10) (u3 11) ++ (wLs g b e1 e10 e11 ++ (wF g a b d f1))) → va_S (va_A (wF g a b d f1 ++ (wLs g b e1 e10 e11 ++ (wLs g d t1 t10 t11))) s.heap.size) s.heap H locs → W pq l eq rm_X0_standingWithout s mq [.ref (a 0), .int (iI r)].toArray below meth cq H locs 0 0 (MQ below (QMi g (fun u9 : Nat → Int → Int => wF g a b d f1 ++ (wLs g b e1 e10 e11 ++ (wLs g d (u9 201) (u9 210) (u9 211)))) (fun r9 _ => r9 = iI (cntS (nLev e1 r))) (va_A (wF g a b d f1 ++ (wLs g b e1 e10 e11 ++ (wLs g d t1 t10 t11))) s.heap.size)) [.ref (a 0), .int (iI r)].toArray s 0 0 (va_A (wF g a b d f1 ++ (wLs g b e1 e10 e11 ++ (wLs g d t1 t10 t11))) s.heap.size)) (F0 mq 32 ls []) := by
    intro n32
    induction n32 with
    | zero => intro j i32_1 hm; exact absurd hm (Nat.not_lt_zero _)
    | succ n32 ih32 =>
      intro j i32_1 hm32 ls hl H locs hP hD hS
      obtain ⟨hP2, hPr0⟩ := va_P_app.mp hP
      obtain ⟨hP1, hP0⟩ := va_P_app.mp hPr0
      refine lv_iload_n hx hb dX0_standingWithout_32 rfl (lv_at hl 0 rfl) ?_
      refine lv_aload_n hx hb dX0_standingWithout_33 rfl (lv_at hl 2 rfl) ?_
      refine xg_X0 hx hb hts hown hK hP0 0 rfl 1 (by decide) fk_X0_12 (v := .ref (d 0)) rfl dX0_standingWithout_34 ?_
      refine xgN_X1 hx hb hts hown hK hP2 0 rfl 1 (by decide) fk_X0_43 (v := .int (iI ((seaN (nLev e1 r) 80) 1))) rfl dX0_standingWithout_37 ?_
      refine xi_c_ge (tgt := 100) hx hb ⟨by omega, by omega⟩ ⟨by omega, by omega⟩ dX0_standingWithout_40 (by decide) (fun z4 => ?_) (fun z4 => ?_)
      · refine lv_iload_n hx hb dX0_standingWithout_100 rfl (lv_at hl 1 rfl) ?_
        have hD : va_D (va_A (wF g a b d f1 ++ (wLs g b e1 e10 e11 ++ (wLs g d t1 t10 t11))) s.heap.size) (wLs g d (seaN (nLev e1 r) 80) (u3 10) (u3 11) ++ (wF g a b d f1 ++ (wLs g b e1 e10 e11))) := D_perm (List.Perm.append_left _ (List.perm_append_comm)) hD
        have hD : va_D (va_A (wF g a b d f1 ++ (wLs g b e1 e10 e11 ++ (wLs g d t1 t10 t11))) s.heap.size) (wF g a b d f1 ++ (wLs g d (seaN (nLev e1 r) 80) (u3 10) (u3 11) ++ (wLs g b e1 e10 e11))) := D_perm (List.perm_append_comm_assoc _ _ _) hD
        have hD : va_D (va_A (wF g a b d f1 ++ (wLs g b e1 e10 e11 ++ (wLs g d t1 t10 t11))) s.heap.size) (wF g a b d f1 ++ (wLs g b e1 e10 e11 ++ (wLs g d (seaN (nLev e1 r) 80) (u3 10) (u3 11)))) := D_perm (List.Perm.append_left _ (List.perm_append_comm)) hD
        have hP : va_P g.1 vwCl (wF g a b d f1 ++ (wLs g b e1 e10 e11 ++ (wLs g d (seaN (nLev e1 r) 80) (u3 10) (u3 11)))) H := va_P_app.mpr ⟨hP0, va_P_app.mpr ⟨hP1, hP2⟩⟩
        have hP : va_P g.1 vwCl (wF g a b d f1 ++ (wLs g b e1 e10 e11 ++ (wLs g d ((su (su (su (fun _ _ => 0) 201 (seaN (nLev e1 r) 80)) 210 (u3 10)) 211 (u3 11)) 201) ((su (su (su (fun _ _ => 0) 201 (seaN (nLev e1 r) 80)) 210 (u3 10)) 211 (u3 11)) 210) ((su (su (su (fun _ _ => 0) 201 (seaN (nLev e1 r) 80)) 210 (u3 10)) 211 (u3 11)) 211)))) H := hP
        have hD : va_D (va_A (wF g a b d f1 ++ (wLs g b e1 e10 e11 ++ (wLs g d t1 t10 t11))) s.heap.size) (wF g a b d f1 ++ (wLs g b e1 e10 e11 ++ (wLs g d ((su (su (su (fun _ _ => 0) 201 (seaN (nLev e1 r) 80)) 210 (u3 10)) 211 (u3 11)) 201) ((su (su (su (fun _ _ => 0) 201 (seaN (nLev e1 r) 80)) 210 (u3 10)) 211 (u3 11)) 210) ((su (su (su (fun _ _ => 0) 201 (seaN (nLev e1 r) 80)) 210 (u3 10)) 211 (u3 11)) 211)))) := hD
        exact W.iret hx hb hr (fun t ht hW => ⟨⟨_, (su (su (su (fun _ _ => 0) 201 (seaN (nLev e1 r) 80)) 210 (u3 10)) 211 (u3 11)), rfl, congrArg iI (by rw [cnt_cd hIl.num, hl1, show (e1 1 - 1).toNat = j by omega]), by rw [ht]; exact hP, hD⟩, hS.F ht⟩) hS.2.2 dX0_standingWithout_101
      · have hcr := hsn.1.ran (j : Int) (by omega) (by omega)
        refine lv_iload_n hx hb dX0_standingWithout_43 rfl (lv_at hl 0 rfl) ?_
        refine lv_iload_n hx hb dX0_standingWithout_44 rfl (lv_at hl 3 rfl) ?_
        refine xi_c_ge (tgt := 52) hx hb ⟨by omega, by omega⟩ ⟨by omega, by omega⟩ dX0_standingWithout_45 (by decide) (fun z5 => ?_) (fun z5 => ?_)
        · have hcr2 := hI.ran ((j : Int) + 1) (by omega) (by omega)
          have hnl := nLev_hi (s := e1) (r := r) (q := (j : Int)) (w := 3) h3.1 (by omega) (by omega) (by omega) (by omega)
          refine lv_iload_n hx hb dX0_standingWithout_52 rfl (lv_at hl 0 rfl) ?_
          refine lv_iconst (v := iI (1)) hx hb dX0_standingWithout_53 (by decide) ?_
          refine xi_add hx hb dX0_standingWithout_54 ?_
          refine lv_istore (lv' := [(4, .int (iI ((j : Int) + 1))), (3, .int (iI (j : Int))), (2, .int (iI (cdT (nLev e1 r) j))), (0, .ref (a 0)), (1, .int (iI r))]) hx hb dX0_standingWithout_55 hl (by decide) rfl (fun ls hl => ?_)
          refine lv_iload hx hb dX0_standingWithout_57 (lv_at hl 0 rfl) ?_
          refine lv_aload_n hx hb dX0_standingWithout_59 rfl (lv_at hl 3 rfl) ?_
          refine xg_X0 hx hb hts hown hK hP0 0 rfl 0 (by decide) fk_X0_22 (v := .ref (b 0)) rfl dX0_standingWithout_60 ?_
          refine xgN_X1 hx hb hts hown hK hP1 0 rfl 1 (by decide) fk_X0_43 (v := .int (iI (e1 1))) rfl dX0_standingWithout_63 ?_
          refine xi_c_ge (tgt := 94) hx hb ⟨by omega, by omega⟩ ⟨by omega, by omega⟩ dX0_standingWithout_66 (by decide) (fun z6 => ?_) (fun z6 => ?_)
          · refine xi_inc (lv' := [(3, .int (iI ((j : Int) + 1))), (4, .int (iI ((j : Int) + 1))), (2, .int (iI (cdT (nLev e1 r) j))), (0, .ref (a 0)), (1, .int (iI r))]) hx hb dX0_standingWithout_94 hl (k := 1) rfl (by decide) rfl (fun ls hl => ?_)
            refine lv_goto (tgt := 32) hx hb dX0_standingWithout_97 (by decide) ?_
            have hq7 : ((j : Int) + 1) = ((j + 1) : Int) := by omega
            have hq8 : (cdT (nLev e1 r) j) = (cdT (nLev e1 r) (j + 1)) := by simp only [cdT]; first | (exfalso; omega) | (rw [if_pos (by omega)]; done) | (rw [if_neg (by omega)]; omega)
            have hl : lv_has ls 5 [(3, .int (iI ((j : Int) + 1))), (2, .int (iI (cdT (nLev e1 r) j))), (0, .ref (a 0)), (1, .int (iI r))] := lv_sub hl [0, 2, 3, 4] rfl
            have hl := Eq.mp (congrArg (fun z9 => lv_has ls 5 [(3, .int (iI z9)), (2, .int (iI (cdT (nLev e1 r) j))), (0, .ref (a 0)), (1, .int (iI r))]) hq7) hl
            have hl := Eq.mp (congrArg (fun z9 => lv_has ls 5 [(3, .int (iI ((j + 1) : Int))), (2, .int (iI z9)), (0, .ref (a 0)), (1, .int (iI r))]) hq8) hl
            exact ih32 (j + 1) (by omega) (by omega) ls hl H locs hP hD hS
          · refine lv_aload_n hx hb dX0_standingWithout_69 rfl (lv_at hl 3 rfl) ?_
            refine xg_X0 hx hb hts hown hK hP0 0 rfl 1 (by decide) fk_X0_12 (v := .ref (d 0)) rfl dX0_standingWithout_70 ?_
            refine xgN_X1 hx hb hts hown hK hP2 0 rfl 10 (by decide) fk_X0_47 (v := .ref (d 8)) rfl dX0_standingWithout_73 ?_
            refine lv_iload_n hx hb dX0_standingWithout_76 rfl (lv_at hl 1 rfl) ?_
            refine xi_alz hx hb hK hP2 8 (s0 := seaN (nLev e1 r) 80) rfl (i := (j : Int)) ⟨by omega, by omega⟩ rfl dX0_standingWithout_77 ?_
            refine lv_aload_n hx hb dX0_standingWithout_78 rfl (lv_at hl 3 rfl) ?_
            refine xg_X0 hx hb hts hown hK hP0 0 rfl 0 (by decide) fk_X0_22 (v := .ref (b 0)) rfl dX0_standingWithout_79 ?_
            refine xgN_X1 hx hb hts hown hK hP1 0 rfl 10 (by decide) fk_X0_47 (v := .ref (b 8)) rfl dX0_standingWithout_82 ?_
            refine lv_iload hx hb dX0_standingWithout_85 (lv_at hl 0 rfl) ?_
            refine xi_alz hx hb hK hP1 8 (s0 := e1) rfl (i := (j : Int) + 1) ⟨by omega, by omega⟩ rfl dX0_standingWithout_87 ?_
            refine xi_c_ne (tgt := 94) hx hb ⟨by omega, by omega⟩ ⟨by omega, by omega⟩ dX0_standingWithout_88 (by decide) (fun z9 => ?_) (fun z9 => ?_)
            · refine xi_inc (lv' := [(3, .int (iI ((j : Int) + 1))), (4, .int (iI ((j : Int) + 1))), (2, .int (iI (cdT (nLev e1 r) j))), (0, .ref (a 0)), (1, .int (iI r))]) hx hb dX0_standingWithout_94 hl (k := 1) rfl (by decide) rfl (fun ls hl => ?_)
              refine lv_goto (tgt := 32) hx hb dX0_standingWithout_97 (by decide) ?_
              have hq10 : ((j : Int) + 1) = ((j + 1) : Int) := by omega
              have hq11 : (cdT (nLev e1 r) j) = (cdT (nLev e1 r) (j + 1)) := by simp only [cdT]; first | (exfalso; omega) | (rw [if_pos (by omega)]; done) | (rw [if_neg (by omega)]; omega)
              have hl : lv_has ls 5 [(3, .int (iI ((j : Int) + 1))), (2, .int (iI (cdT (nLev e1 r) j))), (0, .ref (a 0)), (1, .int (iI r))] := lv_sub hl [0, 2, 3, 4] rfl
              have hl := Eq.mp (congrArg (fun z9 => lv_has ls 5 [(3, .int (iI z9)), (2, .int (iI (cdT (nLev e1 r) j))), (0, .ref (a 0)), (1, .int (iI r))]) hq10) hl
              have hl := Eq.mp (congrArg (fun z9 => lv_has ls 5 [(3, .int (iI ((j + 1) : Int))), (2, .int (iI z9)), (0, .ref (a 0)), (1, .int (iI r))]) hq11) hl
              exact ih32 (j + 1) (by omega) (by omega) ls hl H locs hP hD hS
            · refine xi_inc (lv' := [(2, .int (iI (cdT (nLev e1 r) j + 1))), (4, .int (iI ((j : Int) + 1))), (3, .int (iI (j : Int))), (0, .ref (a 0)), (1, .int (iI r))]) hx hb dX0_standingWithout_91 hl (k := 2) rfl (by decide) rfl (fun ls hl => ?_)
              refine xi_inc (lv' := [(3, .int (iI ((j : Int) + 1))), (2, .int (iI (cdT (nLev e1 r) j + 1))), (4, .int (iI ((j : Int) + 1))), (0, .ref (a 0)), (1, .int (iI r))]) hx hb dX0_standingWithout_94 hl (k := 2) rfl (by decide) rfl (fun ls hl => ?_)
              refine lv_goto (tgt := 32) hx hb dX0_standingWithout_97 (by decide) ?_
              have hq12 : ((j : Int) + 1) = ((j + 1) : Int) := by omega
              have hq13 : (cdT (nLev e1 r) j + 1) = (cdT (nLev e1 r) (j + 1)) := by simp only [cdT]; first | (exfalso; omega) | (rw [if_pos (by omega)]; done) | (rw [if_neg (by omega)]; omega)
              have hl : lv_has ls 5 [(3, .int (iI ((j : Int) + 1))), (2, .int (iI (cdT (nLev e1 r) j + 1))), (0, .ref (a 0)), (1, .int (iI r))] := lv_sub hl [0, 1, 3, 4] rfl
              have hl := Eq.mp (congrArg (fun z9 => lv_has ls 5 [(3, .int (iI z9)), (2, .int (iI (cdT (nLev e1 r) j + 1))), (0, .ref (a 0)), (1, .int (iI r))]) hq12) hl
              have hl := Eq.mp (congrArg (fun z9 => lv_has ls 5 [(3, .int (iI ((j + 1) : Int))), (2, .int (iI z9)), (0, .ref (a 0)), (1, .int (iI r))]) hq13) hl
              exact ih32 (j + 1) (by omega) (by omega) ls hl H locs hP hD hS
        · have hcr2 := hI.ran (j : Int) (by omega) (by omega)
          have hnl := nLev_lo (s := e1) (r := r) (q := (j : Int)) (w := 3) (by omega) (by omega) (by omega) (by omega)
          refine lv_iload_n hx hb dX0_standingWithout_48 rfl (lv_at hl 0 rfl) ?_
          refine lv_goto (tgt := 55) hx hb dX0_standingWithout_49 (by decide) ?_
          refine lv_istore (lv' := [(4, .int (iI (j : Int))), (3, .int (iI (j : Int))), (2, .int (iI (cdT (nLev e1 r) j))), (0, .ref (a 0)), (1, .int (iI r))]) hx hb dX0_standingWithout_55 hl (by decide) rfl (fun ls hl => ?_)
          refine lv_iload hx hb dX0_standingWithout_57 (lv_at hl 0 rfl) ?_
          refine lv_aload_n hx hb dX0_standingWithout_59 rfl (lv_at hl 3 rfl) ?_
          refine xg_X0 hx hb hts hown hK hP0 0 rfl 0 (by decide) fk_X0_22 (v := .ref (b 0)) rfl dX0_standingWithout_60 ?_
          refine xgN_X1 hx hb hts hown hK hP1 0 rfl 1 (by decide) fk_X0_43 (v := .int (iI (e1 1))) rfl dX0_standingWithout_63 ?_
          refine xi_c_ge (tgt := 94) hx hb ⟨by omega, by omega⟩ ⟨by omega, by omega⟩ dX0_standingWithout_66 (by decide) (fun z14 => ?_) (fun z14 => ?_)
          · refine xi_inc (lv' := [(3, .int (iI ((j : Int) + 1))), (4, .int (iI (j : Int))), (2, .int (iI (cdT (nLev e1 r) j))), (0, .ref (a 0)), (1, .int (iI r))]) hx hb dX0_standingWithout_94 hl (k := 1) rfl (by decide) rfl (fun ls hl => ?_)
            refine lv_goto (tgt := 32) hx hb dX0_standingWithout_97 (by decide) ?_
            have hq15 : ((j : Int) + 1) = ((j + 1) : Int) := by omega
            have hq16 : (cdT (nLev e1 r) j) = (cdT (nLev e1 r) (j + 1)) := by simp only [cdT]; first | (exfalso; omega) | (rw [if_pos (by omega)]; done) | (rw [if_neg (by omega)]; omega)
            have hl : lv_has ls 5 [(3, .int (iI ((j : Int) + 1))), (2, .int (iI (cdT (nLev e1 r) j))), (0, .ref (a 0)), (1, .int (iI r))] := lv_sub hl [0, 2, 3, 4] rfl
            have hl := Eq.mp (congrArg (fun z9 => lv_has ls 5 [(3, .int (iI z9)), (2, .int (iI (cdT (nLev e1 r) j))), (0, .ref (a 0)), (1, .int (iI r))]) hq15) hl
            have hl := Eq.mp (congrArg (fun z9 => lv_has ls 5 [(3, .int (iI ((j + 1) : Int))), (2, .int (iI z9)), (0, .ref (a 0)), (1, .int (iI r))]) hq16) hl
            exact ih32 (j + 1) (by omega) (by omega) ls hl H locs hP hD hS
          · refine lv_aload_n hx hb dX0_standingWithout_69 rfl (lv_at hl 3 rfl) ?_
            refine xg_X0 hx hb hts hown hK hP0 0 rfl 1 (by decide) fk_X0_12 (v := .ref (d 0)) rfl dX0_standingWithout_70 ?_
            refine xgN_X1 hx hb hts hown hK hP2 0 rfl 10 (by decide) fk_X0_47 (v := .ref (d 8)) rfl dX0_standingWithout_73 ?_
            refine lv_iload_n hx hb dX0_standingWithout_76 rfl (lv_at hl 1 rfl) ?_
            refine xi_alz hx hb hK hP2 8 (s0 := seaN (nLev e1 r) 80) rfl (i := (j : Int)) ⟨by omega, by omega⟩ rfl dX0_standingWithout_77 ?_
            refine lv_aload_n hx hb dX0_standingWithout_78 rfl (lv_at hl 3 rfl) ?_
            refine xg_X0 hx hb hts hown hK hP0 0 rfl 0 (by decide) fk_X0_22 (v := .ref (b 0)) rfl dX0_standingWithout_79 ?_
            refine xgN_X1 hx hb hts hown hK hP1 0 rfl 10 (by decide) fk_X0_47 (v := .ref (b 8)) rfl dX0_standingWithout_82 ?_
            refine lv_iload hx hb dX0_standingWithout_85 (lv_at hl 0 rfl) ?_
            refine xi_alz hx hb hK hP1 8 (s0 := e1) rfl (i := (j : Int)) ⟨by omega, by omega⟩ rfl dX0_standingWithout_87 ?_
            refine xi_c_ne (tgt := 94) hx hb ⟨by omega, by omega⟩ ⟨by omega, by omega⟩ dX0_standingWithout_88 (by decide) (fun z17 => ?_) (fun z17 => ?_)
            · refine xi_inc (lv' := [(3, .int (iI ((j : Int) + 1))), (4, .int (iI (j : Int))), (2, .int (iI (cdT (nLev e1 r) j))), (0, .ref (a 0)), (1, .int (iI r))]) hx hb dX0_standingWithout_94 hl (k := 1) rfl (by decide) rfl (fun ls hl => ?_)
              refine lv_goto (tgt := 32) hx hb dX0_standingWithout_97 (by decide) ?_
              have hq18 : ((j : Int) + 1) = ((j + 1) : Int) := by omega
              have hq19 : (cdT (nLev e1 r) j) = (cdT (nLev e1 r) (j + 1)) := by simp only [cdT]; first | (exfalso; omega) | (rw [if_pos (by omega)]; done) | (rw [if_neg (by omega)]; omega)
              have hl : lv_has ls 5 [(3, .int (iI ((j : Int) + 1))), (2, .int (iI (cdT (nLev e1 r) j))), (0, .ref (a 0)), (1, .int (iI r))] := lv_sub hl [0, 2, 3, 4] rfl
              have hl := Eq.mp (congrArg (fun z9 => lv_has ls 5 [(3, .int (iI z9)), (2, .int (iI (cdT (nLev e1 r) j))), (0, .ref (a 0)), (1, .int (iI r))]) hq18) hl
              have hl := Eq.mp (congrArg (fun z9 => lv_has ls 5 [(3, .int (iI ((j + 1) : Int))), (2, .int (iI z9)), (0, .ref (a 0)), (1, .int (iI r))]) hq19) hl
              exact ih32 (j + 1) (by omega) (by omega) ls hl H locs hP hD hS
            · refine xi_inc (lv' := [(2, .int (iI (cdT (nLev e1 r) j + 1))), (4, .int (iI (j : Int))), (3, .int (iI (j : Int))), (0, .ref (a 0)), (1, .int (iI r))]) hx hb dX0_standingWithout_91 hl (k := 2) rfl (by decide) rfl (fun ls hl => ?_)
              refine xi_inc (lv' := [(3, .int (iI ((j : Int) + 1))), (2, .int (iI (cdT (nLev e1 r) j + 1))), (4, .int (iI (j : Int))), (0, .ref (a 0)), (1, .int (iI r))]) hx hb dX0_standingWithout_94 hl (k := 2) rfl (by decide) rfl (fun ls hl => ?_)
              refine lv_goto (tgt := 32) hx hb dX0_standingWithout_97 (by decide) ?_
              have hq20 : ((j : Int) + 1) = ((j + 1) : Int) := by omega
              have hq21 : (cdT (nLev e1 r) j + 1) = (cdT (nLev e1 r) (j + 1)) := by simp only [cdT]; first | (exfalso; omega) | (rw [if_pos (by omega)]; done) | (rw [if_neg (by omega)]; omega)
              have hl : lv_has ls 5 [(3, .int (iI ((j : Int) + 1))), (2, .int (iI (cdT (nLev e1 r) j + 1))), (0, .ref (a 0)), (1, .int (iI r))] := lv_sub hl [0, 1, 3, 4] rfl
              have hl := Eq.mp (congrArg (fun z9 => lv_has ls 5 [(3, .int (iI z9)), (2, .int (iI (cdT (nLev e1 r) j + 1))), (0, .ref (a 0)), (1, .int (iI r))]) hq20) hl
              have hl := Eq.mp (congrArg (fun z9 => lv_has ls 5 [(3, .int (iI ((j + 1) : Int))), (2, .int (iI z9)), (0, .ref (a 0)), (1, .int (iI r))]) hq21) hl
              exact ih32 (j + 1) (by omega) (by omega) ls hl H locs hP hD hS
  have hq22 : 0 = (0 : Int) := rfl
  have hq23 : 0 = (cdT (nLev e1 r) 0) := rfl
  have hl : lv_has ls 5 [(3, .int (iI 0)), (2, .int (iI 0)), (0, .ref (a 0)), (1, .int (iI r))] := lv_sub hl [0, 1, 2, 3] rfl
  have hl := Eq.mp (congrArg (fun z9 => lv_has ls 5 [(3, .int (iI z9)), (2, .int (iI 0)), (0, .ref (a 0)), (1, .int (iI r))]) hq22) hl
  have hl := Eq.mp (congrArg (fun z9 => lv_has ls 5 [(3, .int (iI (0 : Int))), (2, .int (iI z9)), (0, .ref (a 0)), (1, .int (iI r))]) hq23) hl
  exact lp32 (8 + 1) 0 (by omega) (by omega) ls hl H locs hP hD hS
abbrev rm_X0_bestToLevel : Room := { frames := 5, cells := 0, slots := 0, locals := 125 }
set_option maxRecDepth 100000 in
set_option maxHeartbeats 4000000 in
theorem c_X0_bestToLevel (l : Launch) (g : Gd) (a : Nat → Nat) (f1 : Int → Int) (b : Nat → Nat) (e1 : Int → Int) (e10 : Int → Int) (e11 : Int → Int) (d : Nat → Nat) (t1 : Int → Int) (t10 : Int → Int) (t11 : Int → Int) (sz : Nat) (h1 : InvK 0 e1) (h2 : e1 0 ≤ 9999) : Met l yX0_bestToLevel (wsOf yX0_bestToLevel cX0_bestToLevel 5 (some .int)) rm_X0_bestToLevel (PX g (wP g (wF g a b d f1 ++ (wLs g b e1 e10 e11 ++ (wLs g d t1 t10 t11))) sz) [.ref (a 0)]) (QMi g (fun u9 : Nat → Int → Int => wF g a b d f1 ++ (wLs g b e1 e10 e11 ++ (wLs g d (u9 201) (u9 210) (u9 211)))) (fun r9 _ => r9 = iI (frS e1)) (va_A (wF g a b d f1 ++ (wLs g b e1 e10 e11 ++ (wLs g d t1 t10 t11))) sz)) 0 0 (va_A (wF g a b d f1 ++ (wLs g b e1 e10 e11 ++ (wLs g d t1 t10 t11))) sz) := by
  refine me (g := g) (by decide) rfl ?_
  intro pq eq s mq below meth cq C hnm hB ls hl
  obtain ⟨hx, hb, hr, hml, hown, hts, hlocks, hK⟩ := C
  have hown : s.vm.findClass RX0 = some mq.cls := hown
  have hl : lv_has ls 5 [(0, .ref (a 0))] := hl
  obtain ⟨hsz, hP, hD0⟩ := hB
  subst hsz
  have hD := hD0.self (sz := s.heap.size)
  have hA : ∀ q : Nat, s.heap.size ≤ q → va_A (wF g a b d f1 ++ (wLs g b e1 e10 e11 ++ (wLs g d t1 t10 t11))) s.heap.size q := fun q h => Or.inr h
  have hS : va_S (va_A (wF g a b d f1 ++ (wLs g b e1 e10 e11 ++ (wLs g d t1 t10 t11))) s.heap.size) s.heap s.heap [] := va_S.rf
  obtain ⟨hP0, hPr0⟩ := va_P_app.mp hP
  obtain ⟨hP1, hP2⟩ := va_P_app.mp hPr0
  have hI := h1
  have hI8 : Inv e1 := h1.mono (by omega)
  have hn := hI.num
  have hs := hI.sea
  have hv := hI.vil
  have hcb := cntS_b (s := e1) hn
  refine lv_aload_n hx hb dX0_bestToLevel_0 rfl (lv_at hl 0 rfl) ?_
  refine xm_i (rV (rest := []) hx hb hml hown hts hK hl (c_X0_standing l g a f1 b e1 e10 e11 d t1 t10 t11 (s.heap).size (show InvK 0 e1 from h1) (show e1 0 ≤ 9999 from by omega)) lk_X0_53 ⟨rfl, hP, hD.weaken (fun _ _ _ _ => trivial)⟩ (va_recv hK.1 hP0 (ci := 0) (q0 := 0) rfl rfl) rfl rfl rfl (Rm.of rfl) rfl rfl dX0_bestToLevel_1) hD hS hA (fun x9 u1 H locs hw hP hD hS => ?_)
  obtain rfl : x9 = stdS e1 := hw
  have hP : va_P g.1 vwCl (wF g a b d f1 ++ (wLs g b e1 e10 e11 ++ (wLs g d (seaN e1 80) (u1 210) (u1 211)))) H := hP
  have hD : va_D (va_A (wF g a b d f1 ++ (wLs g b e1 e10 e11 ++ (wLs g d t1 t10 t11))) s.heap.size) (wF g a b d f1 ++ (wLs g b e1 e10 e11 ++ (wLs g d (seaN e1 80) (u1 210) (u1 211)))) := hD
  obtain ⟨hP0, hPr0⟩ := va_P_app.mp hP
  obtain ⟨hP1, hP2⟩ := va_P_app.mp hPr0
  refine xu_i (x := iI (onesN (stdS e1))) (rS (rest := []) hx hb hml hown hts hK hl (c_J6_bitCount_0f7a4 l g (stdS e1) (show ∃ x : Nat, x < 256 ∧ (stdS e1) = iI (x : Int) from std_byte hn)) lk_X0_57 trivial rfl rfl rfl (Rm.of rfl) rfl rfl dX0_bestToLevel_4) ?_
  refine lv_istore_n (lv' := [(1, .int (iI (onesN (stdS e1)))), (0, .ref (a 0))]) hx hb dX0_bestToLevel_7 rfl hl (by decide) rfl (fun ls hl => ?_)
  refine lv_iconst (v := iI (-1)) hx hb dX0_bestToLevel_8 (by decide) ?_
  refine lv_istore_n (lv' := [(2, .int (iI (-1))), (1, .int (iI (onesN (stdS e1)))), (0, .ref (a 0))]) hx hb dX0_bestToLevel_9 rfl hl (by decide) rfl (fun ls hl => ?_)
  refine lv_iconst (v := iI (0)) hx hb dX0_bestToLevel_10 (by decide) ?_
  refine lv_istore_n (lv' := [(3, .int (iI 0)), (2, .int (iI (-1))), (1, .int (iI (onesN (stdS e1)))), (0, .ref (a 0))]) hx hb dX0_bestToLevel_11 rfl hl (by decide) rfl (fun ls hl => ?_)
  have lp12 : ∀ (n12 : Nat) (k : Nat) (v9 : Int → Int) (x9 : Int → Int) (y9 : Int → Int), ((k : Int) ≤ e1 1) → 8 - k < n12 → ∀ ls : Array Slot, lv_has ls 5 [(3, .int (iI (k : Int))), (2, .int (iI ((frT (frV e1) (cntS e1) k).1))), (1, .int (iI ((frT (frV e1) (cntS e1) k).2))), (0, .ref (a 0))] → ∀ (H : Heap) (locs : List Loc), va_P g.1 vwCl (wF g a b d f1 ++ (wLs g b e1 e10 e11 ++ (wLs g d v9 x9 y9))) H → va_D (va_A (wF g a b d f1 ++ (wLs g b e1 e10 e11 ++ (wLs g d t1 t10 t11))) s.heap.size) (wF g a b d f1 ++ (wLs g b e1 e10 e11 ++ (wLs g d v9 x9 y9))) → va_S (va_A (wF g a b d f1 ++ (wLs g b e1 e10 e11 ++ (wLs g d t1 t10 t11))) s.heap.size) s.heap H locs → W pq l eq rm_X0_bestToLevel s mq [.ref (a 0)].toArray below meth cq H locs 0 0 (MQ below (QMi g (fun u9 : Nat → Int → Int => wF g a b d f1 ++ (wLs g b e1 e10 e11 ++ (wLs g d (u9 201) (u9 210) (u9 211)))) (fun r9 _ => r9 = iI (frS e1)) (va_A (wF g a b d f1 ++ (wLs g b e1 e10 e11 ++ (wLs g d t1 t10 t11))) s.heap.size)) [.ref (a 0)].toArray s 0 0 (va_A (wF g a b d f1 ++ (wLs g b e1 e10 e11 ++ (wLs g d t1 t10 t11))) s.heap.size)) (F0 mq 12 ls []) := by
    intro n12
    induction n12 with
    | zero => intro k v9 x9 y9 i12_1 hm; exact absurd hm (Nat.not_lt_zero _)
    | succ n12 ih12 =>
      intro k v9 x9 y9 i12_1 hm12 ls hl H locs hP hD hS
      have hfb := frT_b (v := (frV e1)) (l0 := (cntS e1)) hcb k (fun j hj => cntS_b (hI.lev (r := (j : Int)) (by omega) (by omega)).num)
      obtain ⟨hP0, hPr0⟩ := va_P_app.mp hP
      obtain ⟨hP1, hP2⟩ := va_P_app.mp hPr0
      refine lv_iload_n hx hb dX0_bestToLevel_12 rfl (lv_at hl 0 rfl) ?_
      refine lv_aload_n hx hb dX0_bestToLevel_13 rfl (lv_at hl 3 rfl) ?_
      refine xg_X0 hx hb hts hown hK hP0 0 rfl 0 (by decide) fk_X0_22 (v := .ref (b 0)) rfl dX0_bestToLevel_14 ?_
      refine xgN_X1 hx hb hts hown hK hP1 0 rfl 1 (by decide) fk_X0_43 (v := .int (iI (e1 1))) rfl dX0_bestToLevel_17 ?_
      refine xi_c_ge (tgt := 47) hx hb ⟨by omega, by omega⟩ ⟨by omega, by omega⟩ dX0_bestToLevel_20 (by decide) (fun z3 => ?_) (fun z3 => ?_)
      · refine lv_iload_n hx hb dX0_bestToLevel_47 rfl (lv_at hl 1 rfl) ?_
        have hP : va_P g.1 vwCl (wF g a b d f1 ++ (wLs g b e1 e10 e11 ++ (wLs g d ((su (su (su (fun _ _ => 0) 201 v9) 210 x9) 211 y9) 201) ((su (su (su (fun _ _ => 0) 201 v9) 210 x9) 211 y9) 210) ((su (su (su (fun _ _ => 0) 201 v9) 210 x9) 211 y9) 211)))) H := hP
        have hD : va_D (va_A (wF g a b d f1 ++ (wLs g b e1 e10 e11 ++ (wLs g d t1 t10 t11))) s.heap.size) (wF g a b d f1 ++ (wLs g b e1 e10 e11 ++ (wLs g d ((su (su (su (fun _ _ => 0) 201 v9) 210 x9) 211 y9) 201) ((su (su (su (fun _ _ => 0) 201 v9) 210 x9) 211 y9) 210) ((su (su (su (fun _ _ => 0) 201 v9) 210 x9) 211 y9) 211)))) := hD
        exact W.iret hx hb hr (fun t ht hW => ⟨⟨_, (su (su (su (fun _ _ => 0) 201 v9) 210 x9) 211 y9), rfl, congrArg iI (by unfold frS; rw [show k = (e1 1).toNat by omega]), by rw [ht]; exact hP, hD⟩, hS.F ht⟩) hS.2.2 dX0_bestToLevel_48
      · have hvb := cntS_b (hI.lev (r := (k : Int)) (by omega) (by omega)).num
        have hv9 : frV e1 k = cntS (nLev e1 (k : Int)) := rfl
        refine lv_aload_n hx hb dX0_bestToLevel_23 rfl (lv_at hl 3 rfl) ?_
        refine lv_iload_n hx hb dX0_bestToLevel_24 rfl (lv_at hl 0 rfl) ?_
        refine xm_i (rV (rest := []) hx hb hml hown hts hK hl (c_X0_standingWithout l g a f1 b e1 e10 e11 d v9 x9 y9 (k : Int) H.size (show InvK 0 e1 from h1) (show e1 0 ≤ 9999 from by omega) (show 0 ≤ (k : Int) ∧ (k : Int) < e1 1 from by omega)) lk_X0_63 ⟨rfl, hP, hD.weaken (fun _ _ _ _ => trivial)⟩ (va_recv hK.1 hP0 (ci := 0) (q0 := 0) rfl rfl) rfl rfl rfl (Rm.of rfl) rfl rfl dX0_bestToLevel_25) hD hS hA (fun x9 u4 H locs hw hP hD hS => ?_)
        obtain rfl : x9 = iI (cntS (nLev e1 (k : Int))) := hw
        have hP : va_P g.1 vwCl (wF g a b d f1 ++ (wLs g b e1 e10 e11 ++ (wLs g d (u4 201) (u4 210) (u4 211)))) H := hP
        have hD : va_D (va_A (wF g a b d f1 ++ (wLs g b e1 e10 e11 ++ (wLs g d t1 t10 t11))) s.heap.size) (wF g a b d f1 ++ (wLs g b e1 e10 e11 ++ (wLs g d (u4 201) (u4 210) (u4 211)))) := hD
        obtain ⟨hP0, hPr0⟩ := va_P_app.mp hP
        obtain ⟨hP1, hP2⟩ := va_P_app.mp hPr0
        refine lv_istore (lv' := [(4, .int (iI (cntS (nLev e1 (k : Int))))), (3, .int (iI (k : Int))), (2, .int (iI ((frT (frV e1) (cntS e1) k).1))), (1, .int (iI ((frT (frV e1) (cntS e1) k).2))), (0, .ref (a 0))]) hx hb dX0_bestToLevel_28 hl (by decide) rfl (fun ls hl => ?_)
        refine lv_iload hx hb dX0_bestToLevel_30 (lv_at hl 0 rfl) ?_
        refine lv_iload_n hx hb dX0_bestToLevel_32 rfl (lv_at hl 3 rfl) ?_
        refine xi_c_ge (tgt := 41) hx hb ⟨by omega, by omega⟩ ⟨by omega, by omega⟩ dX0_bestToLevel_33 (by decide) (fun z5 => ?_) (fun z5 => ?_)
        · refine xi_inc (lv' := [(3, .int (iI ((k : Int) + 1))), (4, .int (iI (cntS (nLev e1 (k : Int))))), (2, .int (iI ((frT (frV e1) (cntS e1) k).1))), (1, .int (iI ((frT (frV e1) (cntS e1) k).2))), (0, .ref (a 0))]) hx hb dX0_bestToLevel_41 hl (k := 1) rfl (by decide) rfl (fun ls hl => ?_)
          refine lv_goto (tgt := 12) hx hb dX0_bestToLevel_44 (by decide) ?_
          have hq6 : ((k : Int) + 1) = ((k + 1) : Int) := by omega
          have hq7 : ((frT (frV e1) (cntS e1) k).1) = ((frT (frV e1) (cntS e1) (k + 1)).1) := by simp only [frT]; first | (rw [if_pos (by omega)]; done) | (rw [if_pos (by omega)]; dsimp only; omega) | (rw [if_neg (by omega)]; done) | (exfalso; omega)
          have hq8 : ((frT (frV e1) (cntS e1) k).2) = ((frT (frV e1) (cntS e1) (k + 1)).2) := by simp only [frT]; first | (rw [if_pos (by omega)]; done) | (rw [if_pos (by omega)]; dsimp only; omega) | (rw [if_neg (by omega)]; done) | (exfalso; omega)
          have hl : lv_has ls 5 [(3, .int (iI ((k : Int) + 1))), (2, .int (iI ((frT (frV e1) (cntS e1) k).1))), (1, .int (iI ((frT (frV e1) (cntS e1) k).2))), (0, .ref (a 0))] := lv_sub hl [0, 2, 3, 4] rfl
          have hl := Eq.mp (congrArg (fun z9 => lv_has ls 5 [(3, .int (iI z9)), (2, .int (iI ((frT (frV e1) (cntS e1) k).1))), (1, .int (iI ((frT (frV e1) (cntS e1) k).2))), (0, .ref (a 0))]) hq6) hl
          have hl := Eq.mp (congrArg (fun z9 => lv_has ls 5 [(3, .int (iI ((k + 1) : Int))), (2, .int (iI z9)), (1, .int (iI ((frT (frV e1) (cntS e1) k).2))), (0, .ref (a 0))]) hq7) hl
          have hl := Eq.mp (congrArg (fun z9 => lv_has ls 5 [(3, .int (iI ((k + 1) : Int))), (2, .int (iI ((frT (frV e1) (cntS e1) (k + 1)).1))), (1, .int (iI z9)), (0, .ref (a 0))]) hq8) hl
          exact ih12 (k + 1) (u4 201) (u4 210) (u4 211) (by omega) (by omega) ls hl H locs hP hD hS
        · refine lv_iload hx hb dX0_bestToLevel_36 (lv_at hl 0 rfl) ?_
          refine lv_istore_n (lv' := [(1, .int (iI (cntS (nLev e1 (k : Int))))), (4, .int (iI (cntS (nLev e1 (k : Int))))), (3, .int (iI (k : Int))), (2, .int (iI ((frT (frV e1) (cntS e1) k).1))), (0, .ref (a 0))]) hx hb dX0_bestToLevel_38 rfl hl (by decide) rfl (fun ls hl => ?_)
          refine lv_iload_n hx hb dX0_bestToLevel_39 rfl (lv_at hl 2 rfl) ?_
          refine lv_istore_n (lv' := [(2, .int (iI (k : Int))), (1, .int (iI (cntS (nLev e1 (k : Int))))), (4, .int (iI (cntS (nLev e1 (k : Int))))), (3, .int (iI (k : Int))), (0, .ref (a 0))]) hx hb dX0_bestToLevel_40 rfl hl (by decide) rfl (fun ls hl => ?_)
          refine xi_inc (lv' := [(3, .int (iI ((k : Int) + 1))), (2, .int (iI (k : Int))), (1, .int (iI (cntS (nLev e1 (k : Int))))), (4, .int (iI (cntS (nLev e1 (k : Int))))), (0, .ref (a 0))]) hx hb dX0_bestToLevel_41 hl (k := 3) rfl (by decide) rfl (fun ls hl => ?_)
          refine lv_goto (tgt := 12) hx hb dX0_bestToLevel_44 (by decide) ?_
          have hq9 : ((k : Int) + 1) = ((k + 1) : Int) := by omega
          have hq10 : (k : Int) = ((frT (frV e1) (cntS e1) (k + 1)).1) := by simp only [frT]; first | (rw [if_pos (by omega)]; done) | (rw [if_pos (by omega)]; dsimp only; omega) | (rw [if_neg (by omega)]; done) | (exfalso; omega)
          have hq11 : (cntS (nLev e1 (k : Int))) = ((frT (frV e1) (cntS e1) (k + 1)).2) := by simp only [frT]; first | (rw [if_pos (by omega)]; done) | (rw [if_pos (by omega)]; dsimp only; omega) | (rw [if_neg (by omega)]; done) | (exfalso; omega)
          have hl : lv_has ls 5 [(3, .int (iI ((k : Int) + 1))), (2, .int (iI (k : Int))), (1, .int (iI (cntS (nLev e1 (k : Int))))), (0, .ref (a 0))] := lv_sub hl [0, 1, 2, 4] rfl
          have hl := Eq.mp (congrArg (fun z9 => lv_has ls 5 [(3, .int (iI z9)), (2, .int (iI (k : Int))), (1, .int (iI (cntS (nLev e1 (k : Int))))), (0, .ref (a 0))]) hq9) hl
          have hl := Eq.mp (congrArg (fun z9 => lv_has ls 5 [(3, .int (iI ((k + 1) : Int))), (2, .int (iI z9)), (1, .int (iI (cntS (nLev e1 (k : Int))))), (0, .ref (a 0))]) hq10) hl
          have hl := Eq.mp (congrArg (fun z9 => lv_has ls 5 [(3, .int (iI ((k + 1) : Int))), (2, .int (iI ((frT (frV e1) (cntS e1) (k + 1)).1))), (1, .int (iI z9)), (0, .ref (a 0))]) hq11) hl
          exact ih12 (k + 1) (u4 201) (u4 210) (u4 211) (by omega) (by omega) ls hl H locs hP hD hS
  have hq12 : 0 = (0 : Int) := rfl
  have hq13 : (-1) = ((frT (frV e1) (cntS e1) 0).1) := rfl
  have hq14 : (onesN (stdS e1)) = ((frT (frV e1) (cntS e1) 0).2) := rfl
  have hl : lv_has ls 5 [(3, .int (iI 0)), (2, .int (iI (-1))), (1, .int (iI (onesN (stdS e1)))), (0, .ref (a 0))] := lv_sub hl [0, 1, 2, 3] rfl
  have hl := Eq.mp (congrArg (fun z9 => lv_has ls 5 [(3, .int (iI z9)), (2, .int (iI (-1))), (1, .int (iI (onesN (stdS e1)))), (0, .ref (a 0))]) hq12) hl
  have hl := Eq.mp (congrArg (fun z9 => lv_has ls 5 [(3, .int (iI (0 : Int))), (2, .int (iI z9)), (1, .int (iI (onesN (stdS e1)))), (0, .ref (a 0))]) hq13) hl
  have hl := Eq.mp (congrArg (fun z9 => lv_has ls 5 [(3, .int (iI (0 : Int))), (2, .int (iI ((frT (frV e1) (cntS e1) 0).1))), (1, .int (iI z9)), (0, .ref (a 0))]) hq14) hl
  exact lp12 (8 + 1) 0 (seaN e1 80) (u1 210) (u1 211) (by omega) (by omega) ls hl H locs hP hD hS
abbrev rm_X0_leastHaste : Room := { frames := 5, cells := 0, slots := 0, locals := 116 }
set_option maxRecDepth 100000 in
set_option maxHeartbeats 4000000 in
theorem c_X0_leastHaste (l : Launch) (g : Gd) (a : Nat → Nat) (f1 : Int → Int) (b : Nat → Nat) (e1 : Int → Int) (e10 : Int → Int) (e11 : Int → Int) (d : Nat → Nat) (t1 : Int → Int) (t10 : Int → Int) (t11 : Int → Int) (r : Int) (d9 : Int) (n : Int) (sz : Nat) (h1 : InvK 0 e1) (h2 : e1 0 ≤ 9999) (h3 : 0 ≤ r ∧ r < e1 1) (h4 : 0 ≤ d9 ∧ d9 ≤ 999) (h5 : 0 ≤ n ∧ n ≤ 40) : Met l yX0_leastHaste (wsOf yX0_leastHaste cX0_leastHaste 5 (some .int)) rm_X0_leastHaste (PX g (wP g (wF g a b d f1 ++ (wLs g b e1 e10 e11 ++ (wLs g d t1 t10 t11))) sz) [.ref (a 0), .int (iI r), .int (iI d9), .int (iI n)]) (QMi g (fun u9 : Nat → Int → Int => wF g a b d f1 ++ (wLs g b e1 e10 e11 ++ (wLs g d (u9 201) (u9 210) (u9 211)))) (fun r9 _ => r9 = iI (if 9 < fsT (hsP e1 r d9 n) 10 0 then -1 else (fsT (hsP e1 r d9 n) 10 0 : Int))) (va_A (wF g a b d f1 ++ (wLs g b e1 e10 e11 ++ (wLs g d t1 t10 t11))) sz)) 0 0 (va_A (wF g a b d f1 ++ (wLs g b e1 e10 e11 ++ (wLs g d t1 t10 t11))) sz) := by
  refine me (g := g) (by decide) rfl ?_
  intro pq eq s mq below meth cq C hnm hB ls hl
  obtain ⟨hx, hb, hr, hml, hown, hts, hlocks, hK⟩ := C
  have hown : s.vm.findClass RX0 = some mq.cls := hown
  have hl : lv_has ls 5 [(0, .ref (a 0)), (1, .int (iI r)), (2, .int (iI d9)), (3, .int (iI n))] := hl
  obtain ⟨hsz, hP, hD0⟩ := hB
  subst hsz
  have hD := hD0.self (sz := s.heap.size)
  have hA : ∀ q : Nat, s.heap.size ≤ q → va_A (wF g a b d f1 ++ (wLs g b e1 e10 e11 ++ (wLs g d t1 t10 t11))) s.heap.size q := fun q h => Or.inr h
  have hS : va_S (va_A (wF g a b d f1 ++ (wLs g b e1 e10 e11 ++ (wLs g d t1 t10 t11))) s.heap.size) s.heap s.heap [] := va_S.rf
  obtain ⟨hP0, hPr0⟩ := va_P_app.mp hP
  obtain ⟨hP1, hP2⟩ := va_P_app.mp hPr0
  have hI := h1
  have hI8 : Inv e1 := h1.mono (by omega)
  have hn := hI.num
  have hs := hI.sea
  have hv := hI.vil
  refine lv_iconst (v := iI (0)) hx hb dX0_leastHaste_0 (by decide) ?_
  refine lv_istore (lv' := [(4, .int (iI 0)), (0, .ref (a 0)), (1, .int (iI r)), (2, .int (iI d9)), (3, .int (iI n))]) hx hb dX0_leastHaste_1 hl (by decide) rfl (fun ls hl => ?_)
  have lp3 : ∀ (n3 : Nat) (k : Nat) (v9 : Int → Int) (x9 : Int → Int) (y9 : Int → Int), (k ≤ 10) → (fsT (hsP e1 r d9 n) (10 - k) k = fsT (hsP e1 r d9 n) 10 0) → 10 - k < n3 → ∀ ls : Array Slot, lv_has ls 5 [(4, .int (iI (k : Int))), (0, .ref (a 0)), (1, .int (iI r)), (2, .int (iI d9)), (3, .int (iI n))] → ∀ (H : Heap) (locs : List Loc), va_P g.1 vwCl (wF g a b d f1 ++ (wLs g b e1 e10 e11 ++ (wLs g d v9 x9 y9))) H → va_D (va_A (wF g a b d f1 ++ (wLs g b e1 e10 e11 ++ (wLs g d t1 t10 t11))) s.heap.size) (wF g a b d f1 ++ (wLs g b e1 e10 e11 ++ (wLs g d v9 x9 y9))) → va_S (va_A (wF g a b d f1 ++ (wLs g b e1 e10 e11 ++ (wLs g d t1 t10 t11))) s.heap.size) s.heap H locs → W pq l eq rm_X0_leastHaste s mq [.ref (a 0), .int (iI r), .int (iI d9), .int (iI n)].toArray below meth cq H locs 0 0 (MQ below (QMi g (fun u9 : Nat → Int → Int => wF g a b d f1 ++ (wLs g b e1 e10 e11 ++ (wLs g d (u9 201) (u9 210) (u9 211)))) (fun r9 _ => r9 = iI (if 9 < fsT (hsP e1 r d9 n) 10 0 then -1 else (fsT (hsP e1 r d9 n) 10 0 : Int))) (va_A (wF g a b d f1 ++ (wLs g b e1 e10 e11 ++ (wLs g d t1 t10 t11))) s.heap.size)) [.ref (a 0), .int (iI r), .int (iI d9), .int (iI n)].toArray s 0 0 (va_A (wF g a b d f1 ++ (wLs g b e1 e10 e11 ++ (wLs g d t1 t10 t11))) s.heap.size)) (F0 mq 3 ls []) := by
    intro n3
    induction n3 with
    | zero => intro k v9 x9 y9 i3_1 i3_2 hm; exact absurd hm (Nat.not_lt_zero _)
    | succ n3 ih3 =>
      intro k v9 x9 y9 i3_1 i3_2 hm3 ls hl H locs hP hD hS
      obtain ⟨hP0, hPr0⟩ := va_P_app.mp hP
      obtain ⟨hP1, hP2⟩ := va_P_app.mp hPr0
      refine lv_iload hx hb dX0_leastHaste_3 (lv_at hl 0 rfl) ?_
      refine lv_bipush (v := iI (9)) hx hb dX0_leastHaste_5 (by decide) ?_
      refine xi_c_gt (tgt := 51) hx hb ⟨by omega, by omega⟩ ⟨by decide, by decide⟩ dX0_leastHaste_7 (by decide) (fun z1 => ?_) (fun z1 => ?_)
      · have hfs : fsT (hsP e1 r d9 n) 10 0 = 10 := by rw [← i3_2, show k = 10 by omega]; rfl
        refine lv_iconst (v := iI (-1)) hx hb dX0_leastHaste_51 (by decide) ?_
        have hP : va_P g.1 vwCl (wF g a b d f1 ++ (wLs g b e1 e10 e11 ++ (wLs g d ((su (su (su (fun _ _ => 0) 201 v9) 210 x9) 211 y9) 201) ((su (su (su (fun _ _ => 0) 201 v9) 210 x9) 211 y9) 210) ((su (su (su (fun _ _ => 0) 201 v9) 210 x9) 211 y9) 211)))) H := hP
        have hD : va_D (va_A (wF g a b d f1 ++ (wLs g b e1 e10 e11 ++ (wLs g d t1 t10 t11))) s.heap.size) (wF g a b d f1 ++ (wLs g b e1 e10 e11 ++ (wLs g d ((su (su (su (fun _ _ => 0) 201 v9) 210 x9) 211 y9) 201) ((su (su (su (fun _ _ => 0) 201 v9) 210 x9) 211 y9) 210) ((su (su (su (fun _ _ => 0) 201 v9) 210 x9) 211 y9) 211)))) := hD
        exact W.iret hx hb hr (fun t ht hW => ⟨⟨_, (su (su (su (fun _ _ => 0) 201 v9) 210 x9) 211 y9), rfl, congrArg iI (by rw [hfs, if_pos (by omega)]), by rw [ht]; exact hP, hD⟩, hS.F ht⟩) hS.2.2 dX0_leastHaste_52
      · have hIu := hI.oth (k2 := 0) (r := r) (w := 2) (v := (k : Int)) (by omega) (by omega) (by omega) (by omega) (by omega) ⟨by omega, by omega, by omega, by omega⟩
        have hgb := goneN_b hIu (r := r) (n := n) (by omega) (by rw [up_n (by omega)]; omega) (by omega) (by rw [up_n (by omega)]; omega)
        refine lv_aload_n hx hb dX0_leastHaste_10 rfl (lv_at hl 1 rfl) ?_
        refine xg_X0 hx hb hts hown hK hP0 0 rfl 1 (by decide) fk_X0_12 (v := .ref (d 0)) rfl dX0_leastHaste_11 ?_
        refine lv_aload_n hx hb dX0_leastHaste_14 rfl (lv_at hl 1 rfl) ?_
        refine xg_X0 hx hb hts hown hK hP0 0 rfl 0 (by decide) fk_X0_22 (v := .ref (b 0)) rfl dX0_leastHaste_15 ?_
        have hD : va_D (va_A (wF g a b d f1 ++ (wLs g b e1 e10 e11 ++ (wLs g d t1 t10 t11))) s.heap.size) (wF g a b d f1 ++ (wLs g d v9 x9 y9 ++ (wLs g b e1 e10 e11))) := D_perm (List.Perm.append_left _ (List.perm_append_comm)) hD
        have hD : va_D (va_A (wF g a b d f1 ++ (wLs g b e1 e10 e11 ++ (wLs g d t1 t10 t11))) s.heap.size) (wLs g d v9 x9 y9 ++ (wF g a b d f1 ++ (wLs g b e1 e10 e11))) := D_perm (List.perm_append_comm_assoc _ _ _) hD
        have hD : va_D (va_A (wF g a b d f1 ++ (wLs g b e1 e10 e11 ++ (wLs g d t1 t10 t11))) s.heap.size) (wLs g d v9 x9 y9 ++ (wLs g b e1 e10 e11 ++ (wF g a b d f1))) := D_perm (List.Perm.append_left _ (List.perm_append_comm)) hD
        have hP : va_P g.1 vwCl (wLs g d v9 x9 y9 ++ (wLs g b e1 e10 e11 ++ (wF g a b d f1))) H := va_P_app.mpr ⟨hP2, va_P_app.mpr ⟨hP1, hP0⟩⟩
        have hP : va_P g.1 vwCl ((wLs g d v9 x9 y9 ++ (wLs g b e1 e10 e11)) ++ (wF g a b d f1)) H := by rw [List.append_assoc]; exact hP
        have hD : va_D (va_A (wF g a b d f1 ++ (wLs g b e1 e10 e11 ++ (wLs g d t1 t10 t11))) s.heap.size) ((wLs g d v9 x9 y9 ++ (wLs g b e1 e10 e11)) ++ (wF g a b d f1)) := by rw [List.append_assoc]; exact hD
        refine xmF_v (rVN (rest := []) hx hb hml hown hts hK hl (c_X1_becomes l g d v9 x9 y9 b e1 e10 e11 H.size ) lk_X0_25 ⟨rfl, (va_P_app.mp hP).1, (va_D_app hD).1.weaken (fun _ _ _ _ => trivial)⟩ (va_recv hK.1 hP2 (ci := 1) (q0 := 0) rfl rfl) rfl rfl rfl (Rm.of rfl) rfl rfl dX0_leastHaste_18) hP hD hS hA (fun _ H locs hw hP hD hS => ?_)
        have hP : va_P g.1 vwCl ((wLs g d e1 x9 y9 ++ (wLs g b e1 e10 e11)) ++ (wF g a b d f1)) H := hP
        have hD : va_D (va_A (wF g a b d f1 ++ (wLs g b e1 e10 e11 ++ (wLs g d t1 t10 t11))) s.heap.size) ((wLs g d e1 x9 y9 ++ (wLs g b e1 e10 e11)) ++ (wF g a b d f1)) := hD
        rw [List.append_assoc] at hP hD
        have hP : va_P g.1 vwCl (wLs g d e1 x9 y9 ++ (wLs g b e1 e10 e11 ++ (wF g a b d f1))) H := hP
        have hD : va_D (va_A (wF g a b d f1 ++ (wLs g b e1 e10 e11 ++ (wLs g d t1 t10 t11))) s.heap.size) (wLs g d e1 x9 y9 ++ (wLs g b e1 e10 e11 ++ (wF g a b d f1))) := hD
        obtain ⟨hP2, hPr0⟩ := va_P_app.mp hP
        obtain ⟨hP1, hP0⟩ := va_P_app.mp hPr0
        refine lv_aload_n hx hb dX0_leastHaste_21 rfl (lv_at hl 1 rfl) ?_
        refine xg_X0 hx hb hts hown hK hP0 0 rfl 1 (by decide) fk_X0_12 (v := .ref (d 0)) rfl dX0_leastHaste_22 ?_
        refine xgN_X1 hx hb hts hown hK hP2 0 rfl 9 (by decide) fk_X0_66 (v := .ref (d 7)) rfl dX0_leastHaste_25 ?_
        refine lv_iload_n hx hb dX0_leastHaste_28 rfl (lv_at hl 2 rfl) ?_
        refine lv_iload hx hb dX0_leastHaste_29 (lv_at hl 0 rfl) ?_
        refine xi_ast hx hb hK hP hD hS 7 (f := pz 2 e1) rfl (i := r) (v := (k : Int)) ⟨by omega, by omega⟩ rfl dX0_leastHaste_31 (fun H locs hP hD hS => ?_)
        have hP := Eq.mp (congrArg (fun z9 : va_W => va_P g.1 vwCl (z9 ++ (wLs g b e1 e10 e11 ++ (wF g a b d f1))) H) (Ls_hastes (g := g) (a := d) (s := e1) (x10 := x9) (x11 := y9) (i := r) (v := (k : Int)) ⟨by omega, by omega⟩)) hP
        have hD := Eq.mp (congrArg (fun z9 : va_W => va_D (va_A (wF g a b d f1 ++ (wLs g b e1 e10 e11 ++ (wLs g d t1 t10 t11))) s.heap.size) (z9 ++ (wLs g b e1 e10 e11 ++ (wF g a b d f1)))) (Ls_hastes (g := g) (a := d) (s := e1) (x10 := x9) (x11 := y9) (i := r) (v := (k : Int)) ⟨by omega, by omega⟩)) hD
        have hP : va_P g.1 vwCl (wLs g d (up e1 (61 + 5 * r + 2) (k : Int)) x9 y9 ++ (wLs g b e1 e10 e11 ++ (wF g a b d f1))) H := hP
        have hD : va_D (va_A (wF g a b d f1 ++ (wLs g b e1 e10 e11 ++ (wLs g d t1 t10 t11))) s.heap.size) (wLs g d (up e1 (61 + 5 * r + 2) (k : Int)) x9 y9 ++ (wLs g b e1 e10 e11 ++ (wF g a b d f1))) := hD
        obtain ⟨hP2, hPr0⟩ := va_P_app.mp hP
        obtain ⟨hP1, hP0⟩ := va_P_app.mp hPr0
        refine lv_aload_n hx hb dX0_leastHaste_32 rfl (lv_at hl 1 rfl) ?_
        refine lv_iload_n hx hb dX0_leastHaste_33 rfl (lv_at hl 2 rfl) ?_
        refine lv_iload_n hx hb dX0_leastHaste_34 rfl (lv_at hl 4 rfl) ?_
        have hD : va_D (va_A (wF g a b d f1 ++ (wLs g b e1 e10 e11 ++ (wLs g d t1 t10 t11))) s.heap.size) (wLs g d (up e1 (61 + 5 * r + 2) (k : Int)) x9 y9 ++ (wF g a b d f1 ++ (wLs g b e1 e10 e11))) := D_perm (List.Perm.append_left _ (List.perm_append_comm)) hD
        have hD : va_D (va_A (wF g a b d f1 ++ (wLs g b e1 e10 e11 ++ (wLs g d t1 t10 t11))) s.heap.size) (wF g a b d f1 ++ (wLs g d (up e1 (61 + 5 * r + 2) (k : Int)) x9 y9 ++ (wLs g b e1 e10 e11))) := D_perm (List.perm_append_comm_assoc _ _ _) hD
        have hD : va_D (va_A (wF g a b d f1 ++ (wLs g b e1 e10 e11 ++ (wLs g d t1 t10 t11))) s.heap.size) (wF g a b d f1 ++ (wLs g b e1 e10 e11 ++ (wLs g d (up e1 (61 + 5 * r + 2) (k : Int)) x9 y9))) := D_perm (List.Perm.append_left _ (List.perm_append_comm)) hD
        have hP : va_P g.1 vwCl (wF g a b d f1 ++ (wLs g b e1 e10 e11 ++ (wLs g d (up e1 (61 + 5 * r + 2) (k : Int)) x9 y9))) H := va_P_app.mpr ⟨hP0, va_P_app.mpr ⟨hP1, hP2⟩⟩
        refine xm_i (rV (rest := []) hx hb hml hown hts hK hl (c_X0_goneInTrial l g a f1 b e1 e10 e11 d (up e1 (61 + 5 * r + 2) (k : Int)) x9 y9 r n H.size (show InvK 0 (up e1 (61 + 5 * r + 2) (k : Int)) from hIu) (show 0 ≤ n ∧ (up e1 (61 + 5 * r + 2) (k : Int)) 0 + n ≤ 20000 from ⟨by omega, by rw [up_n (by omega)]; omega⟩) (show 0 ≤ r ∧ r < (up e1 (61 + 5 * r + 2) (k : Int)) 1 from ⟨by omega, by rw [up_n (by omega)]; omega⟩) (show (up e1 (61 + 5 * r + 2) (k : Int)) 1 = e1 1 from up_n (by omega)) (show (up e1 (61 + 5 * r + 2) (k : Int)) (61 + 5 * r + 3) = e1 (61 + 5 * r + 3) from up_n (by omega))) lk_X0_69 ⟨rfl, hP, hD.weaken (fun _ _ _ _ => trivial)⟩ (va_recv hK.1 hP0 (ci := 0) (q0 := 0) rfl rfl) rfl rfl rfl (Rm.of rfl) rfl rfl dX0_leastHaste_35) hD hS hA (fun x9 u3 H locs hw hP hD hS => ?_)
        obtain rfl : x9 = iI (goneN (up e1 (61 + 5 * r + 2) (k : Int)) r n) := hw
        have hP : va_P g.1 vwCl (wF g a b d f1 ++ (wLs g b e1 e10 e11 ++ (wLs g d (seaN (up e1 (61 + 5 * r + 2) (k : Int)) (Int.toNat n)) (u3 210) (u3 211)))) H := hP
        have hD : va_D (va_A (wF g a b d f1 ++ (wLs g b e1 e10 e11 ++ (wLs g d t1 t10 t11))) s.heap.size) (wF g a b d f1 ++ (wLs g b e1 e10 e11 ++ (wLs g d (seaN (up e1 (61 + 5 * r + 2) (k : Int)) (Int.toNat n)) (u3 210) (u3 211)))) := hD
        obtain ⟨hP0, hPr0⟩ := va_P_app.mp hP
        obtain ⟨hP1, hP2⟩ := va_P_app.mp hPr0
        refine lv_iload_n hx hb dX0_leastHaste_38 rfl (lv_at hl 3 rfl) ?_
        refine xi_c_lt (tgt := 45) hx hb ⟨by omega, by omega⟩ ⟨by omega, by omega⟩ dX0_leastHaste_39 (by decide) (fun z4 => ?_) (fun z4 => ?_)
        · refine xi_inc (lv' := [(4, .int (iI ((k : Int) + 1))), (0, .ref (a 0)), (1, .int (iI r)), (2, .int (iI d9)), (3, .int (iI n))]) hx hb dX0_leastHaste_45 hl (k := 0) rfl (by decide) rfl (fun ls hl => ?_)
          refine lv_goto (tgt := 3) hx hb dX0_leastHaste_48 (by decide) ?_
          have hq5 : ((k : Int) + 1) = ((k + 1) : Int) := by omega
          have hl : lv_has ls 5 [(4, .int (iI ((k : Int) + 1))), (0, .ref (a 0)), (1, .int (iI r)), (2, .int (iI d9)), (3, .int (iI n))] := lv_sub hl [0, 1, 2, 3, 4] rfl
          have hl := Eq.mp (congrArg (fun z9 => lv_has ls 5 [(4, .int (iI z9)), (0, .ref (a 0)), (1, .int (iI r)), (2, .int (iI d9)), (3, .int (iI n))]) hq5) hl
          exact ih3 (k + 1) (seaN (up e1 (61 + 5 * r + 2) (k : Int)) (Int.toNat n)) (u3 210) (u3 211) (by omega) (by rw [← i3_2]; exact fsT_next (p := (hsP e1 r d9 n)) (fun z => by have := of_decide_eq_true z; omega) (by omega)) (by omega) ls hl H locs hP hD hS
        · have hfs : fsT (hsP e1 r d9 n) 10 0 = k := by rw [← i3_2]; exact fsT_hit (decide_eq_true (by omega)) _
          refine lv_iload hx hb dX0_leastHaste_42 (lv_at hl 0 rfl) ?_
          have hP : va_P g.1 vwCl (wF g a b d f1 ++ (wLs g b e1 e10 e11 ++ (wLs g d ((su (su (su (fun _ _ => 0) 201 (seaN (up e1 (61 + 5 * r + 2) (k : Int)) (Int.toNat n))) 210 (u3 210)) 211 (u3 211)) 201) ((su (su (su (fun _ _ => 0) 201 (seaN (up e1 (61 + 5 * r + 2) (k : Int)) (Int.toNat n))) 210 (u3 210)) 211 (u3 211)) 210) ((su (su (su (fun _ _ => 0) 201 (seaN (up e1 (61 + 5 * r + 2) (k : Int)) (Int.toNat n))) 210 (u3 210)) 211 (u3 211)) 211)))) H := hP
          have hD : va_D (va_A (wF g a b d f1 ++ (wLs g b e1 e10 e11 ++ (wLs g d t1 t10 t11))) s.heap.size) (wF g a b d f1 ++ (wLs g b e1 e10 e11 ++ (wLs g d ((su (su (su (fun _ _ => 0) 201 (seaN (up e1 (61 + 5 * r + 2) (k : Int)) (Int.toNat n))) 210 (u3 210)) 211 (u3 211)) 201) ((su (su (su (fun _ _ => 0) 201 (seaN (up e1 (61 + 5 * r + 2) (k : Int)) (Int.toNat n))) 210 (u3 210)) 211 (u3 211)) 210) ((su (su (su (fun _ _ => 0) 201 (seaN (up e1 (61 + 5 * r + 2) (k : Int)) (Int.toNat n))) 210 (u3 210)) 211 (u3 211)) 211)))) := hD
          exact W.iret hx hb hr (fun t ht hW => ⟨⟨_, (su (su (su (fun _ _ => 0) 201 (seaN (up e1 (61 + 5 * r + 2) (k : Int)) (Int.toNat n))) 210 (u3 210)) 211 (u3 211)), rfl, congrArg iI (by rw [hfs, if_neg (by omega)]), by rw [ht]; exact hP, hD⟩, hS.F ht⟩) hS.2.2 dX0_leastHaste_44
  have hq6 : 0 = (0 : Int) := rfl
  have hl : lv_has ls 5 [(4, .int (iI 0)), (0, .ref (a 0)), (1, .int (iI r)), (2, .int (iI d9)), (3, .int (iI n))] := lv_sub hl [0, 1, 2, 3, 4] rfl
  have hl := Eq.mp (congrArg (fun z9 => lv_has ls 5 [(4, .int (iI z9)), (0, .ref (a 0)), (1, .int (iI r)), (2, .int (iI d9)), (3, .int (iI n))]) hq6) hl
  exact lp3 (10 + 1) 0 t1 t10 t11 (by omega) rfl (by omega) ls hl s.heap [] hP hD hS
abbrev rm_X0_bestWeight : Room := { frames := 4, cells := 0, slots := 0, locals := 101 }
set_option maxRecDepth 100000 in
set_option maxHeartbeats 4000000 in
theorem c_X0_bestWeight (l : Launch) (g : Gd) (a : Nat → Nat) (f1 : Int → Int) (b : Nat → Nat) (e1 : Int → Int) (e10 : Int → Int) (e11 : Int → Int) (d : Nat → Nat) (t1 : Int → Int) (t10 : Int → Int) (t11 : Int → Int) (w : Int) (n : Int) (sz : Nat) (h1 : InvK 0 e1) (h2 : e1 0 ≤ 9999) (h3 : 0 ≤ w ∧ w ≤ 3) (h4 : 0 ≤ n ∧ n ≤ 40) : Met l yX0_bestWeight (wsOf yX0_bestWeight cX0_bestWeight 6 (some .int)) rm_X0_bestWeight (PX g (wP g (wF g a b d f1 ++ (wLs g b e1 e10 e11 ++ (wLs g d t1 t10 t11))) sz) [.ref (a 0), .int (iI w), .int (iI n)]) (QMi g (fun u9 : Nat → Int → Int => wF g a b d f1 ++ (wLs g b e1 e10 e11 ++ (wLs g d (u9 201) (u9 210) (u9 211)))) (fun r9 _ => r9 = iI ((bmT (beV e1 w n) (fun k => (k : Int) - 9) 19).1)) (va_A (wF g a b d f1 ++ (wLs g b e1 e10 e11 ++ (wLs g d t1 t10 t11))) sz)) 0 0 (va_A (wF g a b d f1 ++ (wLs g b e1 e10 e11 ++ (wLs g d t1 t10 t11))) sz) := by
  refine me (g := g) (by decide) rfl ?_
  intro pq eq s mq below meth cq C hnm hB ls hl
  obtain ⟨hx, hb, hr, hml, hown, hts, hlocks, hK⟩ := C
  have hown : s.vm.findClass RX0 = some mq.cls := hown
  have hl : lv_has ls 6 [(0, .ref (a 0)), (1, .int (iI w)), (2, .int (iI n))] := hl
  obtain ⟨hsz, hP, hD0⟩ := hB
  subst hsz
  have hD := hD0.self (sz := s.heap.size)
  have hA : ∀ q : Nat, s.heap.size ≤ q → va_A (wF g a b d f1 ++ (wLs g b e1 e10 e11 ++ (wLs g d t1 t10 t11))) s.heap.size q := fun q h => Or.inr h
  have hS : va_S (va_A (wF g a b d f1 ++ (wLs g b e1 e10 e11 ++ (wLs g d t1 t10 t11))) s.heap.size) s.heap s.heap [] := va_S.rf
  obtain ⟨hP0, hPr0⟩ := va_P_app.mp hP
  obtain ⟨hP1, hP2⟩ := va_P_app.mp hPr0
  have hI := h1
  have hI8 : Inv e1 := h1.mono (by omega)
  have hn := hI.num
  have hs := hI.sea
  have hv := hI.vil
  refine lv_iconst (v := iI (-1)) hx hb dX0_bestWeight_0 (by decide) ?_
  refine lv_istore_n (lv' := [(3, .int (iI (-1))), (0, .ref (a 0)), (1, .int (iI w)), (2, .int (iI n))]) hx hb dX0_bestWeight_1 rfl hl (by decide) rfl (fun ls hl => ?_)
  refine lv_bipush (v := iI (-9)) hx hb dX0_bestWeight_2 (by decide) ?_
  refine lv_istore (lv' := [(4, .int (iI (-9))), (3, .int (iI (-1))), (0, .ref (a 0)), (1, .int (iI w)), (2, .int (iI n))]) hx hb dX0_bestWeight_4 hl (by decide) rfl (fun ls hl => ?_)
  refine lv_bipush (v := iI (-9)) hx hb dX0_bestWeight_6 (by decide) ?_
  refine lv_istore (lv' := [(5, .int (iI (-9))), (4, .int (iI (-9))), (3, .int (iI (-1))), (0, .ref (a 0)), (1, .int (iI w)), (2, .int (iI n))]) hx hb dX0_bestWeight_8 hl (by decide) rfl (fun ls hl => ?_)
  have lp10 : ∀ (n10 : Nat) (k : Nat) (v9 : Int → Int) (x9 : Int → Int) (y9 : Int → Int), (k ≤ 19) → 19 - k < n10 → ∀ ls : Array Slot, lv_has ls 6 [(5, .int (iI ((k : Int) - 9))), (4, .int (iI (bmI (beV e1 w n) (fun k => (k : Int) - 9) (-9) k))), (3, .int (iI ((bmT (beV e1 w n) (fun k => (k : Int) - 9) k).2))), (0, .ref (a 0)), (1, .int (iI w)), (2, .int (iI n))] → ∀ (H : Heap) (locs : List Loc), va_P g.1 vwCl (wF g a b d f1 ++ (wLs g b e1 e10 e11 ++ (wLs g d v9 x9 y9))) H → va_D (va_A (wF g a b d f1 ++ (wLs g b e1 e10 e11 ++ (wLs g d t1 t10 t11))) s.heap.size) (wF g a b d f1 ++ (wLs g b e1 e10 e11 ++ (wLs g d v9 x9 y9))) → va_S (va_A (wF g a b d f1 ++ (wLs g b e1 e10 e11 ++ (wLs g d t1 t10 t11))) s.heap.size) s.heap H locs → W pq l eq rm_X0_bestWeight s mq [.ref (a 0), .int (iI w), .int (iI n)].toArray below meth cq H locs 0 0 (MQ below (QMi g (fun u9 : Nat → Int → Int => wF g a b d f1 ++ (wLs g b e1 e10 e11 ++ (wLs g d (u9 201) (u9 210) (u9 211)))) (fun r9 _ => r9 = iI ((bmT (beV e1 w n) (fun k => (k : Int) - 9) 19).1)) (va_A (wF g a b d f1 ++ (wLs g b e1 e10 e11 ++ (wLs g d t1 t10 t11))) s.heap.size)) [.ref (a 0), .int (iI w), .int (iI n)].toArray s 0 0 (va_A (wF g a b d f1 ++ (wLs g b e1 e10 e11 ++ (wLs g d t1 t10 t11))) s.heap.size)) (F0 mq 10 ls []) := by
    intro n10
    induction n10 with
    | zero => intro k v9 x9 y9 i10_1 hm; exact absurd hm (Nat.not_lt_zero _)
    | succ n10 ih10 =>
      intro k v9 x9 y9 i10_1 hm10 ls hl H locs hP hD hS
      have hmb := bmT_b (v := beV e1 w n) (key := (fun k => (k : Int) - 9)) (M := 21000000) (by omega) k (fun j hj => (sumA_b (seaN_inv (hI.wgt (w := w) (v := (j : Int) - 9) (by omega) (by omega) (by omega)) n.toNat (by rw [up_n (by omega)]; omega)).1).2)
      obtain ⟨hP0, hPr0⟩ := va_P_app.mp hP
      obtain ⟨hP1, hP2⟩ := va_P_app.mp hPr0
      refine lv_iload hx hb dX0_bestWeight_10 (lv_at hl 0 rfl) ?_
      refine lv_bipush (v := iI (9)) hx hb dX0_bestWeight_12 (by decide) ?_
      refine xi_c_gt (tgt := 76) hx hb ⟨by omega, by omega⟩ ⟨by decide, by decide⟩ dX0_bestWeight_14 (by decide) (fun z1 => ?_) (fun z1 => ?_)
      · refine lv_iload hx hb dX0_bestWeight_76 (lv_at hl 1 rfl) ?_
        have hP : va_P g.1 vwCl (wF g a b d f1 ++ (wLs g b e1 e10 e11 ++ (wLs g d ((su (su (su (fun _ _ => 0) 201 v9) 210 x9) 211 y9) 201) ((su (su (su (fun _ _ => 0) 201 v9) 210 x9) 211 y9) 210) ((su (su (su (fun _ _ => 0) 201 v9) 210 x9) 211 y9) 211)))) H := hP
        have hD : va_D (va_A (wF g a b d f1 ++ (wLs g b e1 e10 e11 ++ (wLs g d t1 t10 t11))) s.heap.size) (wF g a b d f1 ++ (wLs g b e1 e10 e11 ++ (wLs g d ((su (su (su (fun _ _ => 0) 201 v9) 210 x9) 211 y9) 201) ((su (su (su (fun _ _ => 0) 201 v9) 210 x9) 211 y9) 210) ((su (su (su (fun _ _ => 0) 201 v9) 210 x9) 211 y9) 211)))) := hD
        exact W.iret hx hb hr (fun t ht hW => ⟨⟨_, (su (su (su (fun _ _ => 0) 201 v9) 210 x9) 211 y9), rfl, congrArg iI (by rw [show k = 19 by omega]; exact bmI_e (j := 0) (by omega) (sumA_b (seaN_inv (hI.wgt (w := w) (v := ((0 : Nat) : Int) - 9) (by omega) (by omega) (by omega)) n.toNat (by rw [up_n (by omega)]; omega)).1).1), by rw [ht]; exact hP, hD⟩, hS.F ht⟩) hS.2.2 dX0_bestWeight_78
      · have hIu := hI.wgt (w := w) (v := (k : Int) - 9) (by omega) (by omega) (by omega)
        have hsx := seaN_inv hIu n.toNat (by rw [up_n (by omega)]; omega)
        have hsb := sumA_b hsx.1
        have hv9 : beV e1 w n k = sumA (seaN (up e1 (3 + w) ((k : Int) - 9)) n.toNat) 3 := rfl
        refine lv_aload_n hx hb dX0_bestWeight_17 rfl (lv_at hl 3 rfl) ?_
        refine xg_X0 hx hb hts hown hK hP0 0 rfl 1 (by decide) fk_X0_12 (v := .ref (d 0)) rfl dX0_bestWeight_18 ?_
        refine lv_aload_n hx hb dX0_bestWeight_21 rfl (lv_at hl 3 rfl) ?_
        refine xg_X0 hx hb hts hown hK hP0 0 rfl 0 (by decide) fk_X0_22 (v := .ref (b 0)) rfl dX0_bestWeight_22 ?_
        have hD : va_D (va_A (wF g a b d f1 ++ (wLs g b e1 e10 e11 ++ (wLs g d t1 t10 t11))) s.heap.size) (wF g a b d f1 ++ (wLs g d v9 x9 y9 ++ (wLs g b e1 e10 e11))) := D_perm (List.Perm.append_left _ (List.perm_append_comm)) hD
        have hD : va_D (va_A (wF g a b d f1 ++ (wLs g b e1 e10 e11 ++ (wLs g d t1 t10 t11))) s.heap.size) (wLs g d v9 x9 y9 ++ (wF g a b d f1 ++ (wLs g b e1 e10 e11))) := D_perm (List.perm_append_comm_assoc _ _ _) hD
        have hD : va_D (va_A (wF g a b d f1 ++ (wLs g b e1 e10 e11 ++ (wLs g d t1 t10 t11))) s.heap.size) (wLs g d v9 x9 y9 ++ (wLs g b e1 e10 e11 ++ (wF g a b d f1))) := D_perm (List.Perm.append_left _ (List.perm_append_comm)) hD
        have hP : va_P g.1 vwCl (wLs g d v9 x9 y9 ++ (wLs g b e1 e10 e11 ++ (wF g a b d f1))) H := va_P_app.mpr ⟨hP2, va_P_app.mpr ⟨hP1, hP0⟩⟩
        have hP : va_P g.1 vwCl ((wLs g d v9 x9 y9 ++ (wLs g b e1 e10 e11)) ++ (wF g a b d f1)) H := by rw [List.append_assoc]; exact hP
        have hD : va_D (va_A (wF g a b d f1 ++ (wLs g b e1 e10 e11 ++ (wLs g d t1 t10 t11))) s.heap.size) ((wLs g d v9 x9 y9 ++ (wLs g b e1 e10 e11)) ++ (wF g a b d f1)) := by rw [List.append_assoc]; exact hD
        refine xmF_v (rVN (rest := []) hx hb hml hown hts hK hl (c_X1_becomes l g d v9 x9 y9 b e1 e10 e11 H.size ) lk_X0_25 ⟨rfl, (va_P_app.mp hP).1, (va_D_app hD).1.weaken (fun _ _ _ _ => trivial)⟩ (va_recv hK.1 hP2 (ci := 1) (q0 := 0) rfl rfl) rfl rfl rfl (Rm.of rfl) rfl rfl dX0_bestWeight_25) hP hD hS hA (fun _ H locs hw hP hD hS => ?_)
        have hP : va_P g.1 vwCl ((wLs g d e1 x9 y9 ++ (wLs g b e1 e10 e11)) ++ (wF g a b d f1)) H := hP
        have hD : va_D (va_A (wF g a b d f1 ++ (wLs g b e1 e10 e11 ++ (wLs g d t1 t10 t11))) s.heap.size) ((wLs g d e1 x9 y9 ++ (wLs g b e1 e10 e11)) ++ (wF g a b d f1)) := hD
        rw [List.append_assoc] at hP hD
        have hP : va_P g.1 vwCl (wLs g d e1 x9 y9 ++ (wLs g b e1 e10 e11 ++ (wF g a b d f1))) H := hP
        have hD : va_D (va_A (wF g a b d f1 ++ (wLs g b e1 e10 e11 ++ (wLs g d t1 t10 t11))) s.heap.size) (wLs g d e1 x9 y9 ++ (wLs g b e1 e10 e11 ++ (wF g a b d f1))) := hD
        obtain ⟨hP2, hPr0⟩ := va_P_app.mp hP
        obtain ⟨hP1, hP0⟩ := va_P_app.mp hPr0
        refine lv_aload_n hx hb dX0_bestWeight_28 rfl (lv_at hl 3 rfl) ?_
        refine xg_X0 hx hb hts hown hK hP0 0 rfl 1 (by decide) fk_X0_12 (v := .ref (d 0)) rfl dX0_bestWeight_29 ?_
        refine xgN_X1 hx hb hts hown hK hP2 0 rfl 6 (by decide) fk_X0_73 (v := .ref (d 4)) rfl dX0_bestWeight_32 ?_
        refine lv_iload_n hx hb dX0_bestWeight_35 rfl (lv_at hl 4 rfl) ?_
        refine lv_iload hx hb dX0_bestWeight_36 (lv_at hl 0 rfl) ?_
        refine xi_ast hx hb hK hP hD hS 4 (f := pj 3 4 e1) rfl (i := w) (v := (k : Int) - 9) ⟨by omega, by omega⟩ rfl dX0_bestWeight_38 (fun H locs hP hD hS => ?_)
        have hP := Eq.mp (congrArg (fun z9 : va_W => va_P g.1 vwCl (z9 ++ (wLs g b e1 e10 e11 ++ (wF g a b d f1))) H) (Ls_weights (g := g) (a := d) (s := e1) (x10 := x9) (x11 := y9) (i := w) (v := (k : Int) - 9) ⟨by omega, by omega⟩)) hP
        have hD := Eq.mp (congrArg (fun z9 : va_W => va_D (va_A (wF g a b d f1 ++ (wLs g b e1 e10 e11 ++ (wLs g d t1 t10 t11))) s.heap.size) (z9 ++ (wLs g b e1 e10 e11 ++ (wF g a b d f1)))) (Ls_weights (g := g) (a := d) (s := e1) (x10 := x9) (x11 := y9) (i := w) (v := (k : Int) - 9) ⟨by omega, by omega⟩)) hD
        have hP : va_P g.1 vwCl (wLs g d (up e1 (3 + w) ((k : Int) - 9)) x9 y9 ++ (wLs g b e1 e10 e11 ++ (wF g a b d f1))) H := hP
        have hD : va_D (va_A (wF g a b d f1 ++ (wLs g b e1 e10 e11 ++ (wLs g d t1 t10 t11))) s.heap.size) (wLs g d (up e1 (3 + w) ((k : Int) - 9)) x9 y9 ++ (wLs g b e1 e10 e11 ++ (wF g a b d f1))) := hD
        obtain ⟨hP2, hPr0⟩ := va_P_app.mp hP
        obtain ⟨hP1, hP0⟩ := va_P_app.mp hPr0
        refine lv_aload_n hx hb dX0_bestWeight_39 rfl (lv_at hl 3 rfl) ?_
        refine xg_X0 hx hb hts hown hK hP0 0 rfl 1 (by decide) fk_X0_12 (v := .ref (d 0)) rfl dX0_bestWeight_40 ?_
        refine lv_iload_n hx hb dX0_bestWeight_43 rfl (lv_at hl 5 rfl) ?_
        refine xmF_v (rVN (rest := []) hx hb hml hown hts hK hl (c_X1_goSeasons l g d (up e1 (3 + w) ((k : Int) - 9)) x9 y9 n H.size (show InvK 0 (up e1 (3 + w) ((k : Int) - 9)) from hIu) (show 0 ≤ n ∧ (up e1 (3 + w) ((k : Int) - 9)) 0 + n ≤ 20000 from ⟨by omega, by rw [up_n (by omega)]; omega⟩)) lk_X0_29 ⟨rfl, hP2, (va_D_app hD).1.weaken (fun _ _ _ _ => trivial)⟩ (va_recv hK.1 hP2 (ci := 1) (q0 := 0) rfl rfl) rfl rfl rfl (Rm.of rfl) rfl rfl dX0_bestWeight_44) hP hD hS hA (fun u3 H locs hw hP hD hS => ?_)
        have hP : va_P g.1 vwCl (wLs g d (seaN (up e1 (3 + w) ((k : Int) - 9)) (Int.toNat n)) (u3 10) (u3 11) ++ (wLs g b e1 e10 e11 ++ (wF g a b d f1))) H := hP
        have hD : va_D (va_A (wF g a b d f1 ++ (wLs g b e1 e10 e11 ++ (wLs g d t1 t10 t11))) s.heap.size) (wLs g d (seaN (up e1 (3 + w) ((k : Int) - 9)) (Int.toNat n)) (u3 10) (u3 11) ++ (wLs g b e1 e10 e11 ++ (wF g a b d f1))) := hD
        obtain ⟨hP2, hPr0⟩ := va_P_app.mp hP
        obtain ⟨hP1, hP0⟩ := va_P_app.mp hPr0
        refine lv_aload_n hx hb dX0_bestWeight_47 rfl (lv_at hl 3 rfl) ?_
        refine xg_X0 hx hb hts hown hK hP0 0 rfl 1 (by decide) fk_X0_12 (v := .ref (d 0)) rfl dX0_bestWeight_48 ?_
        refine xu_i (x := iI (sumA (seaN (up e1 (3 + w) ((k : Int) - 9)) (Int.toNat n)) 3)) (rVN (rest := []) hx hb hml hown hts hK hl (c_X1_allSteps l g d (seaN (up e1 (3 + w) ((k : Int) - 9)) (Int.toNat n)) (u3 10) (u3 11) (show 0 ≤ (seaN (up e1 (3 + w) ((k : Int) - 9)) (Int.toNat n)) 1 ∧ (seaN (up e1 (3 + w) ((k : Int) - 9)) (Int.toNat n)) 1 ≤ 8 from hsx.1.num)) lk_X0_76 hP2 (va_recv hK.1 hP2 (ci := 1) (q0 := 0) rfl rfl) rfl rfl rfl (Rm.of rfl) rfl rfl dX0_bestWeight_51) ?_
        refine lv_iload_n hx hb dX0_bestWeight_54 rfl (lv_at hl 2 rfl) ?_
        refine xi_c_le (tgt := 70) hx hb ⟨by omega, by omega⟩ ⟨by omega, by omega⟩ dX0_bestWeight_55 (by decide) (fun z5 => ?_) (fun z5 => ?_)
        · refine xi_inc (lv' := [(5, .int (iI ((k : Int) - 9 + 1))), (4, .int (iI (bmI (beV e1 w n) (fun k => (k : Int) - 9) (-9) k))), (3, .int (iI ((bmT (beV e1 w n) (fun k => (k : Int) - 9) k).2))), (0, .ref (a 0)), (1, .int (iI w)), (2, .int (iI n))]) hx hb dX0_bestWeight_70 hl (k := 0) rfl (by decide) rfl (fun ls hl => ?_)
          refine lv_goto (tgt := 10) hx hb dX0_bestWeight_73 (by decide) ?_
          have hq6 : ((k : Int) - 9 + 1) = (((k + 1) : Int) - 9) := by omega
          have hq7 : (bmI (beV e1 w n) (fun k => (k : Int) - 9) (-9) k) = (bmI (beV e1 w n) (fun k => (k : Int) - 9) (-9) (k + 1)) := by first | exact bmI_f (v := beV e1 w n) (key := (fun k => (k : Int) - 9)) (d := -9) (k := k) (by omega) | exact bmI_t (v := beV e1 w n) (key := (fun k => (k : Int) - 9)) (d := -9) (k := k) (by omega) (by omega)
          have hq8 : ((bmT (beV e1 w n) (fun k => (k : Int) - 9) k).2) = ((bmT (beV e1 w n) (fun k => (k : Int) - 9) (k + 1)).2) := by simp only [bmT]; first | (rw [if_pos (by omega)]; done) | (rw [if_pos (by omega)]; dsimp only; omega) | (rw [if_neg (by omega)]; done) | (exfalso; omega)
          have hl : lv_has ls 6 [(5, .int (iI ((k : Int) - 9 + 1))), (4, .int (iI (bmI (beV e1 w n) (fun k => (k : Int) - 9) (-9) k))), (3, .int (iI ((bmT (beV e1 w n) (fun k => (k : Int) - 9) k).2))), (0, .ref (a 0)), (1, .int (iI w)), (2, .int (iI n))] := lv_sub hl [0, 1, 2, 3, 4, 5] rfl
          have hl := Eq.mp (congrArg (fun z9 => lv_has ls 6 [(5, .int (iI z9)), (4, .int (iI (bmI (beV e1 w n) (fun k => (k : Int) - 9) (-9) k))), (3, .int (iI ((bmT (beV e1 w n) (fun k => (k : Int) - 9) k).2))), (0, .ref (a 0)), (1, .int (iI w)), (2, .int (iI n))]) hq6) hl
          have hl := Eq.mp (congrArg (fun z9 => lv_has ls 6 [(5, .int (iI (((k + 1) : Int) - 9))), (4, .int (iI z9)), (3, .int (iI ((bmT (beV e1 w n) (fun k => (k : Int) - 9) k).2))), (0, .ref (a 0)), (1, .int (iI w)), (2, .int (iI n))]) hq7) hl
          have hl := Eq.mp (congrArg (fun z9 => lv_has ls 6 [(5, .int (iI (((k + 1) : Int) - 9))), (4, .int (iI (bmI (beV e1 w n) (fun k => (k : Int) - 9) (-9) (k + 1)))), (3, .int (iI z9)), (0, .ref (a 0)), (1, .int (iI w)), (2, .int (iI n))]) hq8) hl
          have hD : va_D (va_A (wF g a b d f1 ++ (wLs g b e1 e10 e11 ++ (wLs g d t1 t10 t11))) s.heap.size) (wLs g d (seaN (up e1 (3 + w) ((k : Int) - 9)) (Int.toNat n)) (u3 10) (u3 11) ++ (wF g a b d f1 ++ (wLs g b e1 e10 e11))) := D_perm (List.Perm.append_left _ (List.perm_append_comm)) hD
          have hD : va_D (va_A (wF g a b d f1 ++ (wLs g b e1 e10 e11 ++ (wLs g d t1 t10 t11))) s.heap.size) (wF g a b d f1 ++ (wLs g d (seaN (up e1 (3 + w) ((k : Int) - 9)) (Int.toNat n)) (u3 10) (u3 11) ++ (wLs g b e1 e10 e11))) := D_perm (List.perm_append_comm_assoc _ _ _) hD
          have hD : va_D (va_A (wF g a b d f1 ++ (wLs g b e1 e10 e11 ++ (wLs g d t1 t10 t11))) s.heap.size) (wF g a b d f1 ++ (wLs g b e1 e10 e11 ++ (wLs g d (seaN (up e1 (3 + w) ((k : Int) - 9)) (Int.toNat n)) (u3 10) (u3 11)))) := D_perm (List.Perm.append_left _ (List.perm_append_comm)) hD
          have hP : va_P g.1 vwCl (wF g a b d f1 ++ (wLs g b e1 e10 e11 ++ (wLs g d (seaN (up e1 (3 + w) ((k : Int) - 9)) (Int.toNat n)) (u3 10) (u3 11)))) H := va_P_app.mpr ⟨hP0, va_P_app.mpr ⟨hP1, hP2⟩⟩
          exact ih10 (k + 1) (seaN (up e1 (3 + w) ((k : Int) - 9)) (Int.toNat n)) (u3 10) (u3 11) (by omega) (by omega) ls hl H locs hP hD hS
        · refine lv_aload_n hx hb dX0_bestWeight_58 rfl (lv_at hl 3 rfl) ?_
          refine xg_X0 hx hb hts hown hK hP0 0 rfl 1 (by decide) fk_X0_12 (v := .ref (d 0)) rfl dX0_bestWeight_59 ?_
          refine xu_i (x := iI (sumA (seaN (up e1 (3 + w) ((k : Int) - 9)) (Int.toNat n)) 3)) (rVN (rest := []) hx hb hml hown hts hK hl (c_X1_allSteps l g d (seaN (up e1 (3 + w) ((k : Int) - 9)) (Int.toNat n)) (u3 10) (u3 11) (show 0 ≤ (seaN (up e1 (3 + w) ((k : Int) - 9)) (Int.toNat n)) 1 ∧ (seaN (up e1 (3 + w) ((k : Int) - 9)) (Int.toNat n)) 1 ≤ 8 from hsx.1.num)) lk_X0_76 hP2 (va_recv hK.1 hP2 (ci := 1) (q0 := 0) rfl rfl) rfl rfl rfl (Rm.of rfl) rfl rfl dX0_bestWeight_62) ?_
          refine lv_istore_n (lv' := [(3, .int (iI (sumA (seaN (up e1 (3 + w) ((k : Int) - 9)) (Int.toNat n)) 3))), (5, .int (iI ((k : Int) - 9))), (4, .int (iI (bmI (beV e1 w n) (fun k => (k : Int) - 9) (-9) k))), (0, .ref (a 0)), (1, .int (iI w)), (2, .int (iI n))]) hx hb dX0_bestWeight_65 rfl hl (by decide) rfl (fun ls hl => ?_)
          refine lv_iload hx hb dX0_bestWeight_66 (lv_at hl 1 rfl) ?_
          refine lv_istore (lv' := [(4, .int (iI ((k : Int) - 9))), (3, .int (iI (sumA (seaN (up e1 (3 + w) ((k : Int) - 9)) (Int.toNat n)) 3))), (5, .int (iI ((k : Int) - 9))), (0, .ref (a 0)), (1, .int (iI w)), (2, .int (iI n))]) hx hb dX0_bestWeight_68 hl (by decide) rfl (fun ls hl => ?_)
          refine xi_inc (lv' := [(5, .int (iI ((k : Int) - 9 + 1))), (4, .int (iI ((k : Int) - 9))), (3, .int (iI (sumA (seaN (up e1 (3 + w) ((k : Int) - 9)) (Int.toNat n)) 3))), (0, .ref (a 0)), (1, .int (iI w)), (2, .int (iI n))]) hx hb dX0_bestWeight_70 hl (k := 2) rfl (by decide) rfl (fun ls hl => ?_)
          refine lv_goto (tgt := 10) hx hb dX0_bestWeight_73 (by decide) ?_
          have hq10 : ((k : Int) - 9 + 1) = (((k + 1) : Int) - 9) := by omega
          have hq11 : ((k : Int) - 9) = (bmI (beV e1 w n) (fun k => (k : Int) - 9) (-9) (k + 1)) := by first | exact bmI_f (v := beV e1 w n) (key := (fun k => (k : Int) - 9)) (d := -9) (k := k) (by omega) | exact bmI_t (v := beV e1 w n) (key := (fun k => (k : Int) - 9)) (d := -9) (k := k) (by omega) (by omega)
          have hq12 : (sumA (seaN (up e1 (3 + w) ((k : Int) - 9)) (Int.toNat n)) 3) = ((bmT (beV e1 w n) (fun k => (k : Int) - 9) (k + 1)).2) := by simp only [bmT]; first | (rw [if_pos (by omega)]; done) | (rw [if_pos (by omega)]; dsimp only; omega) | (rw [if_neg (by omega)]; done) | (exfalso; omega)
          have hl : lv_has ls 6 [(5, .int (iI ((k : Int) - 9 + 1))), (4, .int (iI ((k : Int) - 9))), (3, .int (iI (sumA (seaN (up e1 (3 + w) ((k : Int) - 9)) (Int.toNat n)) 3))), (0, .ref (a 0)), (1, .int (iI w)), (2, .int (iI n))] := lv_sub hl [0, 1, 2, 3, 4, 5] rfl
          have hl := Eq.mp (congrArg (fun z9 => lv_has ls 6 [(5, .int (iI z9)), (4, .int (iI ((k : Int) - 9))), (3, .int (iI (sumA (seaN (up e1 (3 + w) ((k : Int) - 9)) (Int.toNat n)) 3))), (0, .ref (a 0)), (1, .int (iI w)), (2, .int (iI n))]) hq10) hl
          have hl := Eq.mp (congrArg (fun z9 => lv_has ls 6 [(5, .int (iI (((k + 1) : Int) - 9))), (4, .int (iI z9)), (3, .int (iI (sumA (seaN (up e1 (3 + w) ((k : Int) - 9)) (Int.toNat n)) 3))), (0, .ref (a 0)), (1, .int (iI w)), (2, .int (iI n))]) hq11) hl
          have hl := Eq.mp (congrArg (fun z9 => lv_has ls 6 [(5, .int (iI (((k + 1) : Int) - 9))), (4, .int (iI (bmI (beV e1 w n) (fun k => (k : Int) - 9) (-9) (k + 1)))), (3, .int (iI z9)), (0, .ref (a 0)), (1, .int (iI w)), (2, .int (iI n))]) hq12) hl
          have hD : va_D (va_A (wF g a b d f1 ++ (wLs g b e1 e10 e11 ++ (wLs g d t1 t10 t11))) s.heap.size) (wLs g d (seaN (up e1 (3 + w) ((k : Int) - 9)) (Int.toNat n)) (u3 10) (u3 11) ++ (wF g a b d f1 ++ (wLs g b e1 e10 e11))) := D_perm (List.Perm.append_left _ (List.perm_append_comm)) hD
          have hD : va_D (va_A (wF g a b d f1 ++ (wLs g b e1 e10 e11 ++ (wLs g d t1 t10 t11))) s.heap.size) (wF g a b d f1 ++ (wLs g d (seaN (up e1 (3 + w) ((k : Int) - 9)) (Int.toNat n)) (u3 10) (u3 11) ++ (wLs g b e1 e10 e11))) := D_perm (List.perm_append_comm_assoc _ _ _) hD
          have hD : va_D (va_A (wF g a b d f1 ++ (wLs g b e1 e10 e11 ++ (wLs g d t1 t10 t11))) s.heap.size) (wF g a b d f1 ++ (wLs g b e1 e10 e11 ++ (wLs g d (seaN (up e1 (3 + w) ((k : Int) - 9)) (Int.toNat n)) (u3 10) (u3 11)))) := D_perm (List.Perm.append_left _ (List.perm_append_comm)) hD
          have hP : va_P g.1 vwCl (wF g a b d f1 ++ (wLs g b e1 e10 e11 ++ (wLs g d (seaN (up e1 (3 + w) ((k : Int) - 9)) (Int.toNat n)) (u3 10) (u3 11)))) H := va_P_app.mpr ⟨hP0, va_P_app.mpr ⟨hP1, hP2⟩⟩
          exact ih10 (k + 1) (seaN (up e1 (3 + w) ((k : Int) - 9)) (Int.toNat n)) (u3 10) (u3 11) (by omega) (by omega) ls hl H locs hP hD hS
  have hq13 : (-9) = ((0 : Int) - 9) := rfl
  have hq14 : (-9) = (bmI (beV e1 w n) (fun k => (k : Int) - 9) (-9) 0) := bmI_0 (beV e1 w n) (fun k => (k : Int) - 9) (-9)
  have hq15 : (-1) = ((bmT (beV e1 w n) (fun k => (k : Int) - 9) 0).2) := rfl
  have hl : lv_has ls 6 [(5, .int (iI (-9))), (4, .int (iI (-9))), (3, .int (iI (-1))), (0, .ref (a 0)), (1, .int (iI w)), (2, .int (iI n))] := lv_sub hl [0, 1, 2, 3, 4, 5] rfl
  have hl := Eq.mp (congrArg (fun z9 => lv_has ls 6 [(5, .int (iI z9)), (4, .int (iI (-9))), (3, .int (iI (-1))), (0, .ref (a 0)), (1, .int (iI w)), (2, .int (iI n))]) hq13) hl
  have hl := Eq.mp (congrArg (fun z9 => lv_has ls 6 [(5, .int (iI ((0 : Int) - 9))), (4, .int (iI z9)), (3, .int (iI (-1))), (0, .ref (a 0)), (1, .int (iI w)), (2, .int (iI n))]) hq14) hl
  have hl := Eq.mp (congrArg (fun z9 => lv_has ls 6 [(5, .int (iI ((0 : Int) - 9))), (4, .int (iI (bmI (beV e1 w n) (fun k => (k : Int) - 9) (-9) 0))), (3, .int (iI z9)), (0, .ref (a 0)), (1, .int (iI w)), (2, .int (iI n))]) hq15) hl
  exact lp10 (19 + 1) 0 t1 t10 t11 (by omega) (by omega) ls hl s.heap [] hP hD hS
abbrev rm_X0_bestCell : Room := { frames := 5, cells := 0, slots := 0, locals := 116 }
set_option maxRecDepth 100000 in
set_option maxHeartbeats 4000000 in
theorem c_X0_bestCell (l : Launch) (g : Gd) (a : Nat → Nat) (f1 : Int → Int) (b : Nat → Nat) (e1 : Int → Int) (e10 : Int → Int) (e11 : Int → Int) (d : Nat → Nat) (t1 : Int → Int) (t10 : Int → Int) (t11 : Int → Int) (r : Int) (n : Int) (sz : Nat) (h1 : InvK 0 e1) (h2 : e1 0 ≤ 9999) (h3 : 0 ≤ r ∧ r < e1 1) (h4 : 0 ≤ n ∧ n ≤ 40) : Met l yX0_bestCell (wsOf yX0_bestCell cX0_bestCell 8 (some .int)) rm_X0_bestCell (PX g (wP g (wF g a b d f1 ++ (wLs g b e1 e10 e11 ++ (wLs g d t1 t10 t11))) sz) [.ref (a 0), .int (iI r), .int (iI n)]) (QMi g (fun u9 : Nat → Int → Int => wF g a b d f1 ++ (wLs g b e1 e10 e11 ++ (wLs g d (u9 201) (u9 210) (u9 211)))) (fun r9 _ => r9 = iI ((bmT (srV e1 r n) (fun k => (k : Int)) 24).1)) (va_A (wF g a b d f1 ++ (wLs g b e1 e10 e11 ++ (wLs g d t1 t10 t11))) sz)) 0 0 (va_A (wF g a b d f1 ++ (wLs g b e1 e10 e11 ++ (wLs g d t1 t10 t11))) sz) := by
  refine me (g := g) (by decide) rfl ?_
  intro pq eq s mq below meth cq C hnm hB ls hl
  obtain ⟨hx, hb, hr, hml, hown, hts, hlocks, hK⟩ := C
  have hown : s.vm.findClass RX0 = some mq.cls := hown
  have hl : lv_has ls 8 [(0, .ref (a 0)), (1, .int (iI r)), (2, .int (iI n))] := hl
  obtain ⟨hsz, hP, hD0⟩ := hB
  subst hsz
  have hD := hD0.self (sz := s.heap.size)
  have hA : ∀ q : Nat, s.heap.size ≤ q → va_A (wF g a b d f1 ++ (wLs g b e1 e10 e11 ++ (wLs g d t1 t10 t11))) s.heap.size q := fun q h => Or.inr h
  have hS : va_S (va_A (wF g a b d f1 ++ (wLs g b e1 e10 e11 ++ (wLs g d t1 t10 t11))) s.heap.size) s.heap s.heap [] := va_S.rf
  obtain ⟨hP0, hPr0⟩ := va_P_app.mp hP
  obtain ⟨hP1, hP2⟩ := va_P_app.mp hPr0
  have hI := h1
  have hI8 : Inv e1 := h1.mono (by omega)
  have hn := hI.num
  have hs := hI.sea
  have hv := hI.vil
  have hcr := hI.ran r h3.1 h3.2
  have hwr := who_eq hI h3.1 h3.2 rfl
  refine lv_iconst (v := iI (-1)) hx hb dX0_bestCell_0 (by decide) ?_
  refine lv_istore_n (lv' := [(3, .int (iI (-1))), (0, .ref (a 0)), (1, .int (iI r)), (2, .int (iI n))]) hx hb dX0_bestCell_1 rfl hl (by decide) rfl (fun ls hl => ?_)
  refine lv_aload_n hx hb dX0_bestCell_2 rfl (lv_at hl 1 rfl) ?_
  refine xg_X0 hx hb hts hown hK hP0 0 rfl 0 (by decide) fk_X0_22 (v := .ref (b 0)) rfl dX0_bestCell_3 ?_
  refine xgN_X1 hx hb hts hown hK hP1 0 rfl 8 (by decide) fk_X0_33 (v := .ref (b 6)) rfl dX0_bestCell_6 ?_
  refine lv_iload_n hx hb dX0_bestCell_9 rfl (lv_at hl 2 rfl) ?_
  refine xi_alz hx hb hK hP1 6 (s0 := e1) rfl (i := r) ⟨by omega, by omega⟩ rfl dX0_bestCell_10 ?_
  refine lv_istore (lv' := [(4, .int (iI (e1 (61 + 5 * r + 1)))), (3, .int (iI (-1))), (0, .ref (a 0)), (1, .int (iI r)), (2, .int (iI n))]) hx hb dX0_bestCell_11 hl (by decide) rfl (fun ls hl => ?_)
  refine lv_iconst (v := iI (0)) hx hb dX0_bestCell_13 (by decide) ?_
  refine lv_istore (lv' := [(5, .int (iI 0)), (4, .int (iI (e1 (61 + 5 * r + 1)))), (3, .int (iI (-1))), (0, .ref (a 0)), (1, .int (iI r)), (2, .int (iI n))]) hx hb dX0_bestCell_14 hl (by decide) rfl (fun ls hl => ?_)
  have lp16 : ∀ (n16 : Nat) (k : Nat) (v9 : Int → Int) (x9 : Int → Int) (y9 : Int → Int), (k ≤ 24) → 24 - k < n16 → ∀ ls : Array Slot, lv_has ls 8 [(5, .int (iI (k : Int))), (4, .int (iI (bmI (srV e1 r n) (fun k => (k : Int)) (e1 (61 + 5 * r + 1)) k))), (3, .int (iI ((bmT (srV e1 r n) (fun k => (k : Int)) k).2))), (0, .ref (a 0)), (1, .int (iI r)), (2, .int (iI n))] → ∀ (H : Heap) (locs : List Loc), va_P g.1 vwCl (wF g a b d f1 ++ (wLs g b e1 e10 e11 ++ (wLs g d v9 x9 y9))) H → va_D (va_A (wF g a b d f1 ++ (wLs g b e1 e10 e11 ++ (wLs g d t1 t10 t11))) s.heap.size) (wF g a b d f1 ++ (wLs g b e1 e10 e11 ++ (wLs g d v9 x9 y9))) → va_S (va_A (wF g a b d f1 ++ (wLs g b e1 e10 e11 ++ (wLs g d t1 t10 t11))) s.heap.size) s.heap H locs → W pq l eq rm_X0_bestCell s mq [.ref (a 0), .int (iI r), .int (iI n)].toArray below meth cq H locs 0 0 (MQ below (QMi g (fun u9 : Nat → Int → Int => wF g a b d f1 ++ (wLs g b e1 e10 e11 ++ (wLs g d (u9 201) (u9 210) (u9 211)))) (fun r9 _ => r9 = iI ((bmT (srV e1 r n) (fun k => (k : Int)) 24).1)) (va_A (wF g a b d f1 ++ (wLs g b e1 e10 e11 ++ (wLs g d t1 t10 t11))) s.heap.size)) [.ref (a 0), .int (iI r), .int (iI n)].toArray s 0 0 (va_A (wF g a b d f1 ++ (wLs g b e1 e10 e11 ++ (wLs g d t1 t10 t11))) s.heap.size)) (F0 mq 16 ls []) := by
    intro n16
    induction n16 with
    | zero => intro k v9 x9 y9 i16_1 hm; exact absurd hm (Nat.not_lt_zero _)
    | succ n16 ih16 =>
      intro k v9 x9 y9 i16_1 hm16 ls hl H locs hP hD hS
      have hmb := bmT_b (v := srV e1 r n) (key := (fun k => (k : Int))) (M := 21000000) (by omega) k (fun j hj => srV_b hI (by omega) (by omega) (by omega) (by omega) (by omega))
      have hwb := who_b (s := e1) (k : Int) hn
      obtain ⟨hP0, hPr0⟩ := va_P_app.mp hP
      obtain ⟨hP1, hP2⟩ := va_P_app.mp hPr0
      refine lv_iload hx hb dX0_bestCell_16 (lv_at hl 0 rfl) ?_
      refine lv_bipush (v := iI (24)) hx hb dX0_bestCell_18 (by decide) ?_
      refine xi_c_ge (tgt := 97) hx hb ⟨by omega, by omega⟩ ⟨by decide, by decide⟩ dX0_bestCell_20 (by decide) (fun z1 => ?_) (fun z1 => ?_)
      · refine lv_iload hx hb dX0_bestCell_97 (lv_at hl 1 rfl) ?_
        have hP : va_P g.1 vwCl (wF g a b d f1 ++ (wLs g b e1 e10 e11 ++ (wLs g d ((su (su (su (fun _ _ => 0) 201 v9) 210 x9) 211 y9) 201) ((su (su (su (fun _ _ => 0) 201 v9) 210 x9) 211 y9) 210) ((su (su (su (fun _ _ => 0) 201 v9) 210 x9) 211 y9) 211)))) H := hP
        have hD : va_D (va_A (wF g a b d f1 ++ (wLs g b e1 e10 e11 ++ (wLs g d t1 t10 t11))) s.heap.size) (wF g a b d f1 ++ (wLs g b e1 e10 e11 ++ (wLs g d ((su (su (su (fun _ _ => 0) 201 v9) 210 x9) 211 y9) 201) ((su (su (su (fun _ _ => 0) 201 v9) 210 x9) 211 y9) 210) ((su (su (su (fun _ _ => 0) 201 v9) 210 x9) 211 y9) 211)))) := hD
        exact W.iret hx hb hr (fun t ht hW => ⟨⟨_, (su (su (su (fun _ _ => 0) 201 v9) 210 x9) 211 y9), rfl, congrArg iI (by rw [show k = 24 by omega]; refine bmI_e (j := (e1 (61 + 5 * r + 1)).toNat) (by omega) ?_; have hc9 : (((e1 (61 + 5 * r + 1)).toNat : Nat) : Int) = e1 (61 + 5 * r + 1) := (by omega); have hIu := hI.cellw (r := r) (c := e1 (61 + 5 * r + 1)) (by omega) (by omega) (by omega) (by omega); unfold srV; rw [hc9, if_pos (Or.inr hwr)]; exact (goneN_b hIu (r := r) (n := n) (by omega) (by rw [up_n (by omega)]; omega) (by omega) (by rw [up_n (by omega)]; omega)).1), by rw [ht]; exact hP, hD⟩, hS.F ht⟩) hS.2.2 dX0_bestCell_99
      · refine lv_aload_n hx hb dX0_bestCell_23 rfl (lv_at hl 3 rfl) ?_
        refine xg_X0 hx hb hts hown hK hP0 0 rfl 0 (by decide) fk_X0_22 (v := .ref (b 0)) rfl dX0_bestCell_24 ?_
        refine lv_iload hx hb dX0_bestCell_27 (lv_at hl 0 rfl) ?_
        refine xu_i (x := iI (who e1 (k : Int))) (rVN (rest := []) hx hb hml hown hts hK hl (c_X1_rangeIn l g b e1 e10 e11 (k : Int) (show Inv e1 from hI8) (show IR (k : Int) from ⟨by omega, by omega⟩)) lk_X0_79 hP1 (va_recv hK.1 hP1 (ci := 1) (q0 := 0) rfl rfl) rfl rfl rfl (Rm.of rfl) rfl rfl dX0_bestCell_29) ?_
        refine lv_istore (lv' := [(6, .int (iI (who e1 (k : Int)))), (5, .int (iI (k : Int))), (4, .int (iI (bmI (srV e1 r n) (fun k => (k : Int)) (e1 (61 + 5 * r + 1)) k))), (3, .int (iI ((bmT (srV e1 r n) (fun k => (k : Int)) k).2))), (0, .ref (a 0)), (1, .int (iI r)), (2, .int (iI n))]) hx hb dX0_bestCell_32 hl (by decide) rfl (fun ls hl => ?_)
        refine lv_iload hx hb dX0_bestCell_34 (lv_at hl 0 rfl) ?_
        refine xi_z_lt (tgt := 48) hx hb ⟨by omega, by omega⟩ dX0_bestCell_36 (by decide) (fun z3 => ?_) (fun z3 => ?_)
        · have hIu := hI.cellw (r := r) (c := (k : Int)) (by omega) (by omega) (by omega) (by omega)
          have hgb := goneN_b hIu (r := r) (n := n) (by omega) (by rw [up_n (by omega)]; omega) (by omega) (by rw [up_n (by omega)]; omega)
          have hv9 : srV e1 r n k = goneN (up e1 (61 + 5 * r + 1) (k : Int)) r n := by unfold srV; rw [if_pos (by omega)]
          refine lv_aload_n hx hb dX0_bestCell_48 rfl (lv_at hl 4 rfl) ?_
          refine xg_X0 hx hb hts hown hK hP0 0 rfl 1 (by decide) fk_X0_12 (v := .ref (d 0)) rfl dX0_bestCell_49 ?_
          refine lv_aload_n hx hb dX0_bestCell_52 rfl (lv_at hl 4 rfl) ?_
          refine xg_X0 hx hb hts hown hK hP0 0 rfl 0 (by decide) fk_X0_22 (v := .ref (b 0)) rfl dX0_bestCell_53 ?_
          have hD : va_D (va_A (wF g a b d f1 ++ (wLs g b e1 e10 e11 ++ (wLs g d t1 t10 t11))) s.heap.size) (wF g a b d f1 ++ (wLs g d v9 x9 y9 ++ (wLs g b e1 e10 e11))) := D_perm (List.Perm.append_left _ (List.perm_append_comm)) hD
          have hD : va_D (va_A (wF g a b d f1 ++ (wLs g b e1 e10 e11 ++ (wLs g d t1 t10 t11))) s.heap.size) (wLs g d v9 x9 y9 ++ (wF g a b d f1 ++ (wLs g b e1 e10 e11))) := D_perm (List.perm_append_comm_assoc _ _ _) hD
          have hD : va_D (va_A (wF g a b d f1 ++ (wLs g b e1 e10 e11 ++ (wLs g d t1 t10 t11))) s.heap.size) (wLs g d v9 x9 y9 ++ (wLs g b e1 e10 e11 ++ (wF g a b d f1))) := D_perm (List.Perm.append_left _ (List.perm_append_comm)) hD
          have hP : va_P g.1 vwCl (wLs g d v9 x9 y9 ++ (wLs g b e1 e10 e11 ++ (wF g a b d f1))) H := va_P_app.mpr ⟨hP2, va_P_app.mpr ⟨hP1, hP0⟩⟩
          have hP : va_P g.1 vwCl ((wLs g d v9 x9 y9 ++ (wLs g b e1 e10 e11)) ++ (wF g a b d f1)) H := by rw [List.append_assoc]; exact hP
          have hD : va_D (va_A (wF g a b d f1 ++ (wLs g b e1 e10 e11 ++ (wLs g d t1 t10 t11))) s.heap.size) ((wLs g d v9 x9 y9 ++ (wLs g b e1 e10 e11)) ++ (wF g a b d f1)) := by rw [List.append_assoc]; exact hD
          refine xmF_v (rVN (rest := []) hx hb hml hown hts hK hl (c_X1_becomes l g d v9 x9 y9 b e1 e10 e11 H.size ) lk_X0_25 ⟨rfl, (va_P_app.mp hP).1, (va_D_app hD).1.weaken (fun _ _ _ _ => trivial)⟩ (va_recv hK.1 hP2 (ci := 1) (q0 := 0) rfl rfl) rfl rfl rfl (Rm.of rfl) rfl rfl dX0_bestCell_56) hP hD hS hA (fun _ H locs hw hP hD hS => ?_)
          have hP : va_P g.1 vwCl ((wLs g d e1 x9 y9 ++ (wLs g b e1 e10 e11)) ++ (wF g a b d f1)) H := hP
          have hD : va_D (va_A (wF g a b d f1 ++ (wLs g b e1 e10 e11 ++ (wLs g d t1 t10 t11))) s.heap.size) ((wLs g d e1 x9 y9 ++ (wLs g b e1 e10 e11)) ++ (wF g a b d f1)) := hD
          rw [List.append_assoc] at hP hD
          have hP : va_P g.1 vwCl (wLs g d e1 x9 y9 ++ (wLs g b e1 e10 e11 ++ (wF g a b d f1))) H := hP
          have hD : va_D (va_A (wF g a b d f1 ++ (wLs g b e1 e10 e11 ++ (wLs g d t1 t10 t11))) s.heap.size) (wLs g d e1 x9 y9 ++ (wLs g b e1 e10 e11 ++ (wF g a b d f1))) := hD
          obtain ⟨hP2, hPr0⟩ := va_P_app.mp hP
          obtain ⟨hP1, hP0⟩ := va_P_app.mp hPr0
          refine lv_aload_n hx hb dX0_bestCell_59 rfl (lv_at hl 4 rfl) ?_
          refine xg_X0 hx hb hts hown hK hP0 0 rfl 1 (by decide) fk_X0_12 (v := .ref (d 0)) rfl dX0_bestCell_60 ?_
          refine xgN_X1 hx hb hts hown hK hP2 0 rfl 8 (by decide) fk_X0_33 (v := .ref (d 6)) rfl dX0_bestCell_63 ?_
          refine lv_iload_n hx hb dX0_bestCell_66 rfl (lv_at hl 5 rfl) ?_
          refine lv_iload hx hb dX0_bestCell_67 (lv_at hl 1 rfl) ?_
          refine xi_ast hx hb hK hP hD hS 6 (f := pz 1 e1) rfl (i := r) (v := (k : Int)) ⟨by omega, by omega⟩ rfl dX0_bestCell_69 (fun H locs hP hD hS => ?_)
          have hP := Eq.mp (congrArg (fun z9 : va_W => va_P g.1 vwCl (z9 ++ (wLs g b e1 e10 e11 ++ (wF g a b d f1))) H) (Ls_cells (g := g) (a := d) (s := e1) (x10 := x9) (x11 := y9) (i := r) (v := (k : Int)) ⟨by omega, by omega⟩)) hP
          have hD := Eq.mp (congrArg (fun z9 : va_W => va_D (va_A (wF g a b d f1 ++ (wLs g b e1 e10 e11 ++ (wLs g d t1 t10 t11))) s.heap.size) (z9 ++ (wLs g b e1 e10 e11 ++ (wF g a b d f1)))) (Ls_cells (g := g) (a := d) (s := e1) (x10 := x9) (x11 := y9) (i := r) (v := (k : Int)) ⟨by omega, by omega⟩)) hD
          have hP : va_P g.1 vwCl (wLs g d (up e1 (61 + 5 * r + 1) (k : Int)) x9 y9 ++ (wLs g b e1 e10 e11 ++ (wF g a b d f1))) H := hP
          have hD : va_D (va_A (wF g a b d f1 ++ (wLs g b e1 e10 e11 ++ (wLs g d t1 t10 t11))) s.heap.size) (wLs g d (up e1 (61 + 5 * r + 1) (k : Int)) x9 y9 ++ (wLs g b e1 e10 e11 ++ (wF g a b d f1))) := hD
          obtain ⟨hP2, hPr0⟩ := va_P_app.mp hP
          obtain ⟨hP1, hP0⟩ := va_P_app.mp hPr0
          refine lv_aload_n hx hb dX0_bestCell_70 rfl (lv_at hl 4 rfl) ?_
          refine lv_iload_n hx hb dX0_bestCell_71 rfl (lv_at hl 5 rfl) ?_
          refine lv_iload_n hx hb dX0_bestCell_72 rfl (lv_at hl 6 rfl) ?_
          have hD : va_D (va_A (wF g a b d f1 ++ (wLs g b e1 e10 e11 ++ (wLs g d t1 t10 t11))) s.heap.size) (wLs g d (up e1 (61 + 5 * r + 1) (k : Int)) x9 y9 ++ (wF g a b d f1 ++ (wLs g b e1 e10 e11))) := D_perm (List.Perm.append_left _ (List.perm_append_comm)) hD
          have hD : va_D (va_A (wF g a b d f1 ++ (wLs g b e1 e10 e11 ++ (wLs g d t1 t10 t11))) s.heap.size) (wF g a b d f1 ++ (wLs g d (up e1 (61 + 5 * r + 1) (k : Int)) x9 y9 ++ (wLs g b e1 e10 e11))) := D_perm (List.perm_append_comm_assoc _ _ _) hD
          have hD : va_D (va_A (wF g a b d f1 ++ (wLs g b e1 e10 e11 ++ (wLs g d t1 t10 t11))) s.heap.size) (wF g a b d f1 ++ (wLs g b e1 e10 e11 ++ (wLs g d (up e1 (61 + 5 * r + 1) (k : Int)) x9 y9))) := D_perm (List.Perm.append_left _ (List.perm_append_comm)) hD
          have hP : va_P g.1 vwCl (wF g a b d f1 ++ (wLs g b e1 e10 e11 ++ (wLs g d (up e1 (61 + 5 * r + 1) (k : Int)) x9 y9))) H := va_P_app.mpr ⟨hP0, va_P_app.mpr ⟨hP1, hP2⟩⟩
          refine xm_i (rV (rest := []) hx hb hml hown hts hK hl (c_X0_goneInTrial l g a f1 b e1 e10 e11 d (up e1 (61 + 5 * r + 1) (k : Int)) x9 y9 r n H.size (show InvK 0 (up e1 (61 + 5 * r + 1) (k : Int)) from hIu) (show 0 ≤ n ∧ (up e1 (61 + 5 * r + 1) (k : Int)) 0 + n ≤ 20000 from ⟨by omega, by rw [up_n (by omega)]; omega⟩) (show 0 ≤ r ∧ r < (up e1 (61 + 5 * r + 1) (k : Int)) 1 from ⟨by omega, by rw [up_n (by omega)]; omega⟩) (show (up e1 (61 + 5 * r + 1) (k : Int)) 1 = e1 1 from up_n (by omega)) (show (up e1 (61 + 5 * r + 1) (k : Int)) (61 + 5 * r + 3) = e1 (61 + 5 * r + 3) from up_n (by omega))) lk_X0_69 ⟨rfl, hP, hD.weaken (fun _ _ _ _ => trivial)⟩ (va_recv hK.1 hP0 (ci := 0) (q0 := 0) rfl rfl) rfl rfl rfl (Rm.of rfl) rfl rfl dX0_bestCell_73) hD hS hA (fun x9 u5 H locs hw hP hD hS => ?_)
          obtain rfl : x9 = iI (goneN (up e1 (61 + 5 * r + 1) (k : Int)) r n) := hw
          have hP : va_P g.1 vwCl (wF g a b d f1 ++ (wLs g b e1 e10 e11 ++ (wLs g d (seaN (up e1 (61 + 5 * r + 1) (k : Int)) (Int.toNat n)) (u5 210) (u5 211)))) H := hP
          have hD : va_D (va_A (wF g a b d f1 ++ (wLs g b e1 e10 e11 ++ (wLs g d t1 t10 t11))) s.heap.size) (wF g a b d f1 ++ (wLs g b e1 e10 e11 ++ (wLs g d (seaN (up e1 (61 + 5 * r + 1) (k : Int)) (Int.toNat n)) (u5 210) (u5 211)))) := hD
          obtain ⟨hP0, hPr0⟩ := va_P_app.mp hP
          obtain ⟨hP1, hP2⟩ := va_P_app.mp hPr0
          refine lv_istore (lv' := [(7, .int (iI (goneN (up e1 (61 + 5 * r + 1) (k : Int)) r n))), (6, .int (iI (who e1 (k : Int)))), (5, .int (iI (k : Int))), (4, .int (iI (bmI (srV e1 r n) (fun k => (k : Int)) (e1 (61 + 5 * r + 1)) k))), (3, .int (iI ((bmT (srV e1 r n) (fun k => (k : Int)) k).2))), (0, .ref (a 0)), (1, .int (iI r)), (2, .int (iI n))]) hx hb dX0_bestCell_76 hl (by decide) rfl (fun ls hl => ?_)
          refine lv_iload hx hb dX0_bestCell_78 (lv_at hl 0 rfl) ?_
          refine lv_iload_n hx hb dX0_bestCell_80 rfl (lv_at hl 4 rfl) ?_
          refine xi_c_le (tgt := 91) hx hb ⟨by omega, by omega⟩ ⟨by omega, by omega⟩ dX0_bestCell_81 (by decide) (fun z6 => ?_) (fun z6 => ?_)
          · refine xi_inc (lv' := [(5, .int (iI ((k : Int) + 1))), (7, .int (iI (goneN (up e1 (61 + 5 * r + 1) (k : Int)) r n))), (6, .int (iI (who e1 (k : Int)))), (4, .int (iI (bmI (srV e1 r n) (fun k => (k : Int)) (e1 (61 + 5 * r + 1)) k))), (3, .int (iI ((bmT (srV e1 r n) (fun k => (k : Int)) k).2))), (0, .ref (a 0)), (1, .int (iI r)), (2, .int (iI n))]) hx hb dX0_bestCell_91 hl (k := 2) rfl (by decide) rfl (fun ls hl => ?_)
            refine lv_goto (tgt := 16) hx hb dX0_bestCell_94 (by decide) ?_
            have hq7 : ((k : Int) + 1) = ((k + 1) : Int) := by omega
            have hq8 : (bmI (srV e1 r n) (fun k => (k : Int)) (e1 (61 + 5 * r + 1)) k) = (bmI (srV e1 r n) (fun k => (k : Int)) (e1 (61 + 5 * r + 1)) (k + 1)) := by first | exact bmI_f (v := srV e1 r n) (key := (fun k => (k : Int))) (d := e1 (61 + 5 * r + 1)) (k := k) (by omega) | exact bmI_t (v := srV e1 r n) (key := (fun k => (k : Int))) (d := e1 (61 + 5 * r + 1)) (k := k) (by omega) (by omega)
            have hq9 : ((bmT (srV e1 r n) (fun k => (k : Int)) k).2) = ((bmT (srV e1 r n) (fun k => (k : Int)) (k + 1)).2) := by simp only [bmT]; first | (rw [if_pos (by omega)]; done) | (rw [if_pos (by omega)]; dsimp only; omega) | (rw [if_neg (by omega)]; done) | (exfalso; omega)
            have hl : lv_has ls 8 [(5, .int (iI ((k : Int) + 1))), (4, .int (iI (bmI (srV e1 r n) (fun k => (k : Int)) (e1 (61 + 5 * r + 1)) k))), (3, .int (iI ((bmT (srV e1 r n) (fun k => (k : Int)) k).2))), (0, .ref (a 0)), (1, .int (iI r)), (2, .int (iI n))] := lv_sub hl [0, 3, 4, 5, 6, 7] rfl
            have hl := Eq.mp (congrArg (fun z9 => lv_has ls 8 [(5, .int (iI z9)), (4, .int (iI (bmI (srV e1 r n) (fun k => (k : Int)) (e1 (61 + 5 * r + 1)) k))), (3, .int (iI ((bmT (srV e1 r n) (fun k => (k : Int)) k).2))), (0, .ref (a 0)), (1, .int (iI r)), (2, .int (iI n))]) hq7) hl
            have hl := Eq.mp (congrArg (fun z9 => lv_has ls 8 [(5, .int (iI ((k + 1) : Int))), (4, .int (iI z9)), (3, .int (iI ((bmT (srV e1 r n) (fun k => (k : Int)) k).2))), (0, .ref (a 0)), (1, .int (iI r)), (2, .int (iI n))]) hq8) hl
            have hl := Eq.mp (congrArg (fun z9 => lv_has ls 8 [(5, .int (iI ((k + 1) : Int))), (4, .int (iI (bmI (srV e1 r n) (fun k => (k : Int)) (e1 (61 + 5 * r + 1)) (k + 1)))), (3, .int (iI z9)), (0, .ref (a 0)), (1, .int (iI r)), (2, .int (iI n))]) hq9) hl
            exact ih16 (k + 1) (seaN (up e1 (61 + 5 * r + 1) (k : Int)) (Int.toNat n)) (u5 210) (u5 211) (by omega) (by omega) ls hl H locs hP hD hS
          · refine lv_iload hx hb dX0_bestCell_84 (lv_at hl 0 rfl) ?_
            refine lv_istore_n (lv' := [(3, .int (iI (goneN (up e1 (61 + 5 * r + 1) (k : Int)) r n))), (7, .int (iI (goneN (up e1 (61 + 5 * r + 1) (k : Int)) r n))), (6, .int (iI (who e1 (k : Int)))), (5, .int (iI (k : Int))), (4, .int (iI (bmI (srV e1 r n) (fun k => (k : Int)) (e1 (61 + 5 * r + 1)) k))), (0, .ref (a 0)), (1, .int (iI r)), (2, .int (iI n))]) hx hb dX0_bestCell_86 rfl hl (by decide) rfl (fun ls hl => ?_)
            refine lv_iload hx hb dX0_bestCell_87 (lv_at hl 3 rfl) ?_
            refine lv_istore (lv' := [(4, .int (iI (k : Int))), (3, .int (iI (goneN (up e1 (61 + 5 * r + 1) (k : Int)) r n))), (7, .int (iI (goneN (up e1 (61 + 5 * r + 1) (k : Int)) r n))), (6, .int (iI (who e1 (k : Int)))), (5, .int (iI (k : Int))), (0, .ref (a 0)), (1, .int (iI r)), (2, .int (iI n))]) hx hb dX0_bestCell_89 hl (by decide) rfl (fun ls hl => ?_)
            refine xi_inc (lv' := [(5, .int (iI ((k : Int) + 1))), (4, .int (iI (k : Int))), (3, .int (iI (goneN (up e1 (61 + 5 * r + 1) (k : Int)) r n))), (7, .int (iI (goneN (up e1 (61 + 5 * r + 1) (k : Int)) r n))), (6, .int (iI (who e1 (k : Int)))), (0, .ref (a 0)), (1, .int (iI r)), (2, .int (iI n))]) hx hb dX0_bestCell_91 hl (k := 4) rfl (by decide) rfl (fun ls hl => ?_)
            refine lv_goto (tgt := 16) hx hb dX0_bestCell_94 (by decide) ?_
            have hq10 : ((k : Int) + 1) = ((k + 1) : Int) := by omega
            have hq11 : (k : Int) = (bmI (srV e1 r n) (fun k => (k : Int)) (e1 (61 + 5 * r + 1)) (k + 1)) := by first | exact bmI_f (v := srV e1 r n) (key := (fun k => (k : Int))) (d := e1 (61 + 5 * r + 1)) (k := k) (by omega) | exact bmI_t (v := srV e1 r n) (key := (fun k => (k : Int))) (d := e1 (61 + 5 * r + 1)) (k := k) (by omega) (by omega)
            have hq12 : (goneN (up e1 (61 + 5 * r + 1) (k : Int)) r n) = ((bmT (srV e1 r n) (fun k => (k : Int)) (k + 1)).2) := by simp only [bmT]; first | (rw [if_pos (by omega)]; done) | (rw [if_pos (by omega)]; dsimp only; omega) | (rw [if_neg (by omega)]; done) | (exfalso; omega)
            have hl : lv_has ls 8 [(5, .int (iI ((k : Int) + 1))), (4, .int (iI (k : Int))), (3, .int (iI (goneN (up e1 (61 + 5 * r + 1) (k : Int)) r n))), (0, .ref (a 0)), (1, .int (iI r)), (2, .int (iI n))] := lv_sub hl [0, 1, 2, 5, 6, 7] rfl
            have hl := Eq.mp (congrArg (fun z9 => lv_has ls 8 [(5, .int (iI z9)), (4, .int (iI (k : Int))), (3, .int (iI (goneN (up e1 (61 + 5 * r + 1) (k : Int)) r n))), (0, .ref (a 0)), (1, .int (iI r)), (2, .int (iI n))]) hq10) hl
            have hl := Eq.mp (congrArg (fun z9 => lv_has ls 8 [(5, .int (iI ((k + 1) : Int))), (4, .int (iI z9)), (3, .int (iI (goneN (up e1 (61 + 5 * r + 1) (k : Int)) r n))), (0, .ref (a 0)), (1, .int (iI r)), (2, .int (iI n))]) hq11) hl
            have hl := Eq.mp (congrArg (fun z9 => lv_has ls 8 [(5, .int (iI ((k + 1) : Int))), (4, .int (iI (bmI (srV e1 r n) (fun k => (k : Int)) (e1 (61 + 5 * r + 1)) (k + 1)))), (3, .int (iI z9)), (0, .ref (a 0)), (1, .int (iI r)), (2, .int (iI n))]) hq12) hl
            exact ih16 (k + 1) (seaN (up e1 (61 + 5 * r + 1) (k : Int)) (Int.toNat n)) (u5 210) (u5 211) (by omega) (by omega) ls hl H locs hP hD hS
        · refine lv_iload hx hb dX0_bestCell_39 (lv_at hl 0 rfl) ?_
          refine lv_iload_n hx hb dX0_bestCell_41 rfl (lv_at hl 5 rfl) ?_
          refine xi_c_eq (tgt := 48) hx hb ⟨by omega, by omega⟩ ⟨by omega, by omega⟩ dX0_bestCell_42 (by decide) (fun z13 => ?_) (fun z13 => ?_)
          · have hIu := hI.cellw (r := r) (c := (k : Int)) (by omega) (by omega) (by omega) (by omega)
            have hgb := goneN_b hIu (r := r) (n := n) (by omega) (by rw [up_n (by omega)]; omega) (by omega) (by rw [up_n (by omega)]; omega)
            have hv9 : srV e1 r n k = goneN (up e1 (61 + 5 * r + 1) (k : Int)) r n := by unfold srV; rw [if_pos (by omega)]
            refine lv_aload_n hx hb dX0_bestCell_48 rfl (lv_at hl 4 rfl) ?_
            refine xg_X0 hx hb hts hown hK hP0 0 rfl 1 (by decide) fk_X0_12 (v := .ref (d 0)) rfl dX0_bestCell_49 ?_
            refine lv_aload_n hx hb dX0_bestCell_52 rfl (lv_at hl 4 rfl) ?_
            refine xg_X0 hx hb hts hown hK hP0 0 rfl 0 (by decide) fk_X0_22 (v := .ref (b 0)) rfl dX0_bestCell_53 ?_
            have hD : va_D (va_A (wF g a b d f1 ++ (wLs g b e1 e10 e11 ++ (wLs g d t1 t10 t11))) s.heap.size) (wF g a b d f1 ++ (wLs g d v9 x9 y9 ++ (wLs g b e1 e10 e11))) := D_perm (List.Perm.append_left _ (List.perm_append_comm)) hD
            have hD : va_D (va_A (wF g a b d f1 ++ (wLs g b e1 e10 e11 ++ (wLs g d t1 t10 t11))) s.heap.size) (wLs g d v9 x9 y9 ++ (wF g a b d f1 ++ (wLs g b e1 e10 e11))) := D_perm (List.perm_append_comm_assoc _ _ _) hD
            have hD : va_D (va_A (wF g a b d f1 ++ (wLs g b e1 e10 e11 ++ (wLs g d t1 t10 t11))) s.heap.size) (wLs g d v9 x9 y9 ++ (wLs g b e1 e10 e11 ++ (wF g a b d f1))) := D_perm (List.Perm.append_left _ (List.perm_append_comm)) hD
            have hP : va_P g.1 vwCl (wLs g d v9 x9 y9 ++ (wLs g b e1 e10 e11 ++ (wF g a b d f1))) H := va_P_app.mpr ⟨hP2, va_P_app.mpr ⟨hP1, hP0⟩⟩
            have hP : va_P g.1 vwCl ((wLs g d v9 x9 y9 ++ (wLs g b e1 e10 e11)) ++ (wF g a b d f1)) H := by rw [List.append_assoc]; exact hP
            have hD : va_D (va_A (wF g a b d f1 ++ (wLs g b e1 e10 e11 ++ (wLs g d t1 t10 t11))) s.heap.size) ((wLs g d v9 x9 y9 ++ (wLs g b e1 e10 e11)) ++ (wF g a b d f1)) := by rw [List.append_assoc]; exact hD
            refine xmF_v (rVN (rest := []) hx hb hml hown hts hK hl (c_X1_becomes l g d v9 x9 y9 b e1 e10 e11 H.size ) lk_X0_25 ⟨rfl, (va_P_app.mp hP).1, (va_D_app hD).1.weaken (fun _ _ _ _ => trivial)⟩ (va_recv hK.1 hP2 (ci := 1) (q0 := 0) rfl rfl) rfl rfl rfl (Rm.of rfl) rfl rfl dX0_bestCell_56) hP hD hS hA (fun _ H locs hw hP hD hS => ?_)
            have hP : va_P g.1 vwCl ((wLs g d e1 x9 y9 ++ (wLs g b e1 e10 e11)) ++ (wF g a b d f1)) H := hP
            have hD : va_D (va_A (wF g a b d f1 ++ (wLs g b e1 e10 e11 ++ (wLs g d t1 t10 t11))) s.heap.size) ((wLs g d e1 x9 y9 ++ (wLs g b e1 e10 e11)) ++ (wF g a b d f1)) := hD
            rw [List.append_assoc] at hP hD
            have hP : va_P g.1 vwCl (wLs g d e1 x9 y9 ++ (wLs g b e1 e10 e11 ++ (wF g a b d f1))) H := hP
            have hD : va_D (va_A (wF g a b d f1 ++ (wLs g b e1 e10 e11 ++ (wLs g d t1 t10 t11))) s.heap.size) (wLs g d e1 x9 y9 ++ (wLs g b e1 e10 e11 ++ (wF g a b d f1))) := hD
            obtain ⟨hP2, hPr0⟩ := va_P_app.mp hP
            obtain ⟨hP1, hP0⟩ := va_P_app.mp hPr0
            refine lv_aload_n hx hb dX0_bestCell_59 rfl (lv_at hl 4 rfl) ?_
            refine xg_X0 hx hb hts hown hK hP0 0 rfl 1 (by decide) fk_X0_12 (v := .ref (d 0)) rfl dX0_bestCell_60 ?_
            refine xgN_X1 hx hb hts hown hK hP2 0 rfl 8 (by decide) fk_X0_33 (v := .ref (d 6)) rfl dX0_bestCell_63 ?_
            refine lv_iload_n hx hb dX0_bestCell_66 rfl (lv_at hl 5 rfl) ?_
            refine lv_iload hx hb dX0_bestCell_67 (lv_at hl 1 rfl) ?_
            refine xi_ast hx hb hK hP hD hS 6 (f := pz 1 e1) rfl (i := r) (v := (k : Int)) ⟨by omega, by omega⟩ rfl dX0_bestCell_69 (fun H locs hP hD hS => ?_)
            have hP := Eq.mp (congrArg (fun z9 : va_W => va_P g.1 vwCl (z9 ++ (wLs g b e1 e10 e11 ++ (wF g a b d f1))) H) (Ls_cells (g := g) (a := d) (s := e1) (x10 := x9) (x11 := y9) (i := r) (v := (k : Int)) ⟨by omega, by omega⟩)) hP
            have hD := Eq.mp (congrArg (fun z9 : va_W => va_D (va_A (wF g a b d f1 ++ (wLs g b e1 e10 e11 ++ (wLs g d t1 t10 t11))) s.heap.size) (z9 ++ (wLs g b e1 e10 e11 ++ (wF g a b d f1)))) (Ls_cells (g := g) (a := d) (s := e1) (x10 := x9) (x11 := y9) (i := r) (v := (k : Int)) ⟨by omega, by omega⟩)) hD
            have hP : va_P g.1 vwCl (wLs g d (up e1 (61 + 5 * r + 1) (k : Int)) x9 y9 ++ (wLs g b e1 e10 e11 ++ (wF g a b d f1))) H := hP
            have hD : va_D (va_A (wF g a b d f1 ++ (wLs g b e1 e10 e11 ++ (wLs g d t1 t10 t11))) s.heap.size) (wLs g d (up e1 (61 + 5 * r + 1) (k : Int)) x9 y9 ++ (wLs g b e1 e10 e11 ++ (wF g a b d f1))) := hD
            obtain ⟨hP2, hPr0⟩ := va_P_app.mp hP
            obtain ⟨hP1, hP0⟩ := va_P_app.mp hPr0
            refine lv_aload_n hx hb dX0_bestCell_70 rfl (lv_at hl 4 rfl) ?_
            refine lv_iload_n hx hb dX0_bestCell_71 rfl (lv_at hl 5 rfl) ?_
            refine lv_iload_n hx hb dX0_bestCell_72 rfl (lv_at hl 6 rfl) ?_
            have hD : va_D (va_A (wF g a b d f1 ++ (wLs g b e1 e10 e11 ++ (wLs g d t1 t10 t11))) s.heap.size) (wLs g d (up e1 (61 + 5 * r + 1) (k : Int)) x9 y9 ++ (wF g a b d f1 ++ (wLs g b e1 e10 e11))) := D_perm (List.Perm.append_left _ (List.perm_append_comm)) hD
            have hD : va_D (va_A (wF g a b d f1 ++ (wLs g b e1 e10 e11 ++ (wLs g d t1 t10 t11))) s.heap.size) (wF g a b d f1 ++ (wLs g d (up e1 (61 + 5 * r + 1) (k : Int)) x9 y9 ++ (wLs g b e1 e10 e11))) := D_perm (List.perm_append_comm_assoc _ _ _) hD
            have hD : va_D (va_A (wF g a b d f1 ++ (wLs g b e1 e10 e11 ++ (wLs g d t1 t10 t11))) s.heap.size) (wF g a b d f1 ++ (wLs g b e1 e10 e11 ++ (wLs g d (up e1 (61 + 5 * r + 1) (k : Int)) x9 y9))) := D_perm (List.Perm.append_left _ (List.perm_append_comm)) hD
            have hP : va_P g.1 vwCl (wF g a b d f1 ++ (wLs g b e1 e10 e11 ++ (wLs g d (up e1 (61 + 5 * r + 1) (k : Int)) x9 y9))) H := va_P_app.mpr ⟨hP0, va_P_app.mpr ⟨hP1, hP2⟩⟩
            refine xm_i (rV (rest := []) hx hb hml hown hts hK hl (c_X0_goneInTrial l g a f1 b e1 e10 e11 d (up e1 (61 + 5 * r + 1) (k : Int)) x9 y9 r n H.size (show InvK 0 (up e1 (61 + 5 * r + 1) (k : Int)) from hIu) (show 0 ≤ n ∧ (up e1 (61 + 5 * r + 1) (k : Int)) 0 + n ≤ 20000 from ⟨by omega, by rw [up_n (by omega)]; omega⟩) (show 0 ≤ r ∧ r < (up e1 (61 + 5 * r + 1) (k : Int)) 1 from ⟨by omega, by rw [up_n (by omega)]; omega⟩) (show (up e1 (61 + 5 * r + 1) (k : Int)) 1 = e1 1 from up_n (by omega)) (show (up e1 (61 + 5 * r + 1) (k : Int)) (61 + 5 * r + 3) = e1 (61 + 5 * r + 3) from up_n (by omega))) lk_X0_69 ⟨rfl, hP, hD.weaken (fun _ _ _ _ => trivial)⟩ (va_recv hK.1 hP0 (ci := 0) (q0 := 0) rfl rfl) rfl rfl rfl (Rm.of rfl) rfl rfl dX0_bestCell_73) hD hS hA (fun x9 u15 H locs hw hP hD hS => ?_)
            obtain rfl : x9 = iI (goneN (up e1 (61 + 5 * r + 1) (k : Int)) r n) := hw
            have hP : va_P g.1 vwCl (wF g a b d f1 ++ (wLs g b e1 e10 e11 ++ (wLs g d (seaN (up e1 (61 + 5 * r + 1) (k : Int)) (Int.toNat n)) (u15 210) (u15 211)))) H := hP
            have hD : va_D (va_A (wF g a b d f1 ++ (wLs g b e1 e10 e11 ++ (wLs g d t1 t10 t11))) s.heap.size) (wF g a b d f1 ++ (wLs g b e1 e10 e11 ++ (wLs g d (seaN (up e1 (61 + 5 * r + 1) (k : Int)) (Int.toNat n)) (u15 210) (u15 211)))) := hD
            obtain ⟨hP0, hPr0⟩ := va_P_app.mp hP
            obtain ⟨hP1, hP2⟩ := va_P_app.mp hPr0
            refine lv_istore (lv' := [(7, .int (iI (goneN (up e1 (61 + 5 * r + 1) (k : Int)) r n))), (6, .int (iI (who e1 (k : Int)))), (5, .int (iI (k : Int))), (4, .int (iI (bmI (srV e1 r n) (fun k => (k : Int)) (e1 (61 + 5 * r + 1)) k))), (3, .int (iI ((bmT (srV e1 r n) (fun k => (k : Int)) k).2))), (0, .ref (a 0)), (1, .int (iI r)), (2, .int (iI n))]) hx hb dX0_bestCell_76 hl (by decide) rfl (fun ls hl => ?_)
            refine lv_iload hx hb dX0_bestCell_78 (lv_at hl 0 rfl) ?_
            refine lv_iload_n hx hb dX0_bestCell_80 rfl (lv_at hl 4 rfl) ?_
            refine xi_c_le (tgt := 91) hx hb ⟨by omega, by omega⟩ ⟨by omega, by omega⟩ dX0_bestCell_81 (by decide) (fun z16 => ?_) (fun z16 => ?_)
            · refine xi_inc (lv' := [(5, .int (iI ((k : Int) + 1))), (7, .int (iI (goneN (up e1 (61 + 5 * r + 1) (k : Int)) r n))), (6, .int (iI (who e1 (k : Int)))), (4, .int (iI (bmI (srV e1 r n) (fun k => (k : Int)) (e1 (61 + 5 * r + 1)) k))), (3, .int (iI ((bmT (srV e1 r n) (fun k => (k : Int)) k).2))), (0, .ref (a 0)), (1, .int (iI r)), (2, .int (iI n))]) hx hb dX0_bestCell_91 hl (k := 2) rfl (by decide) rfl (fun ls hl => ?_)
              refine lv_goto (tgt := 16) hx hb dX0_bestCell_94 (by decide) ?_
              have hq17 : ((k : Int) + 1) = ((k + 1) : Int) := by omega
              have hq18 : (bmI (srV e1 r n) (fun k => (k : Int)) (e1 (61 + 5 * r + 1)) k) = (bmI (srV e1 r n) (fun k => (k : Int)) (e1 (61 + 5 * r + 1)) (k + 1)) := by first | exact bmI_f (v := srV e1 r n) (key := (fun k => (k : Int))) (d := e1 (61 + 5 * r + 1)) (k := k) (by omega) | exact bmI_t (v := srV e1 r n) (key := (fun k => (k : Int))) (d := e1 (61 + 5 * r + 1)) (k := k) (by omega) (by omega)
              have hq19 : ((bmT (srV e1 r n) (fun k => (k : Int)) k).2) = ((bmT (srV e1 r n) (fun k => (k : Int)) (k + 1)).2) := by simp only [bmT]; first | (rw [if_pos (by omega)]; done) | (rw [if_pos (by omega)]; dsimp only; omega) | (rw [if_neg (by omega)]; done) | (exfalso; omega)
              have hl : lv_has ls 8 [(5, .int (iI ((k : Int) + 1))), (4, .int (iI (bmI (srV e1 r n) (fun k => (k : Int)) (e1 (61 + 5 * r + 1)) k))), (3, .int (iI ((bmT (srV e1 r n) (fun k => (k : Int)) k).2))), (0, .ref (a 0)), (1, .int (iI r)), (2, .int (iI n))] := lv_sub hl [0, 3, 4, 5, 6, 7] rfl
              have hl := Eq.mp (congrArg (fun z9 => lv_has ls 8 [(5, .int (iI z9)), (4, .int (iI (bmI (srV e1 r n) (fun k => (k : Int)) (e1 (61 + 5 * r + 1)) k))), (3, .int (iI ((bmT (srV e1 r n) (fun k => (k : Int)) k).2))), (0, .ref (a 0)), (1, .int (iI r)), (2, .int (iI n))]) hq17) hl
              have hl := Eq.mp (congrArg (fun z9 => lv_has ls 8 [(5, .int (iI ((k + 1) : Int))), (4, .int (iI z9)), (3, .int (iI ((bmT (srV e1 r n) (fun k => (k : Int)) k).2))), (0, .ref (a 0)), (1, .int (iI r)), (2, .int (iI n))]) hq18) hl
              have hl := Eq.mp (congrArg (fun z9 => lv_has ls 8 [(5, .int (iI ((k + 1) : Int))), (4, .int (iI (bmI (srV e1 r n) (fun k => (k : Int)) (e1 (61 + 5 * r + 1)) (k + 1)))), (3, .int (iI z9)), (0, .ref (a 0)), (1, .int (iI r)), (2, .int (iI n))]) hq19) hl
              exact ih16 (k + 1) (seaN (up e1 (61 + 5 * r + 1) (k : Int)) (Int.toNat n)) (u15 210) (u15 211) (by omega) (by omega) ls hl H locs hP hD hS
            · refine lv_iload hx hb dX0_bestCell_84 (lv_at hl 0 rfl) ?_
              refine lv_istore_n (lv' := [(3, .int (iI (goneN (up e1 (61 + 5 * r + 1) (k : Int)) r n))), (7, .int (iI (goneN (up e1 (61 + 5 * r + 1) (k : Int)) r n))), (6, .int (iI (who e1 (k : Int)))), (5, .int (iI (k : Int))), (4, .int (iI (bmI (srV e1 r n) (fun k => (k : Int)) (e1 (61 + 5 * r + 1)) k))), (0, .ref (a 0)), (1, .int (iI r)), (2, .int (iI n))]) hx hb dX0_bestCell_86 rfl hl (by decide) rfl (fun ls hl => ?_)
              refine lv_iload hx hb dX0_bestCell_87 (lv_at hl 3 rfl) ?_
              refine lv_istore (lv' := [(4, .int (iI (k : Int))), (3, .int (iI (goneN (up e1 (61 + 5 * r + 1) (k : Int)) r n))), (7, .int (iI (goneN (up e1 (61 + 5 * r + 1) (k : Int)) r n))), (6, .int (iI (who e1 (k : Int)))), (5, .int (iI (k : Int))), (0, .ref (a 0)), (1, .int (iI r)), (2, .int (iI n))]) hx hb dX0_bestCell_89 hl (by decide) rfl (fun ls hl => ?_)
              refine xi_inc (lv' := [(5, .int (iI ((k : Int) + 1))), (4, .int (iI (k : Int))), (3, .int (iI (goneN (up e1 (61 + 5 * r + 1) (k : Int)) r n))), (7, .int (iI (goneN (up e1 (61 + 5 * r + 1) (k : Int)) r n))), (6, .int (iI (who e1 (k : Int)))), (0, .ref (a 0)), (1, .int (iI r)), (2, .int (iI n))]) hx hb dX0_bestCell_91 hl (k := 4) rfl (by decide) rfl (fun ls hl => ?_)
              refine lv_goto (tgt := 16) hx hb dX0_bestCell_94 (by decide) ?_
              have hq20 : ((k : Int) + 1) = ((k + 1) : Int) := by omega
              have hq21 : (k : Int) = (bmI (srV e1 r n) (fun k => (k : Int)) (e1 (61 + 5 * r + 1)) (k + 1)) := by first | exact bmI_f (v := srV e1 r n) (key := (fun k => (k : Int))) (d := e1 (61 + 5 * r + 1)) (k := k) (by omega) | exact bmI_t (v := srV e1 r n) (key := (fun k => (k : Int))) (d := e1 (61 + 5 * r + 1)) (k := k) (by omega) (by omega)
              have hq22 : (goneN (up e1 (61 + 5 * r + 1) (k : Int)) r n) = ((bmT (srV e1 r n) (fun k => (k : Int)) (k + 1)).2) := by simp only [bmT]; first | (rw [if_pos (by omega)]; done) | (rw [if_pos (by omega)]; dsimp only; omega) | (rw [if_neg (by omega)]; done) | (exfalso; omega)
              have hl : lv_has ls 8 [(5, .int (iI ((k : Int) + 1))), (4, .int (iI (k : Int))), (3, .int (iI (goneN (up e1 (61 + 5 * r + 1) (k : Int)) r n))), (0, .ref (a 0)), (1, .int (iI r)), (2, .int (iI n))] := lv_sub hl [0, 1, 2, 5, 6, 7] rfl
              have hl := Eq.mp (congrArg (fun z9 => lv_has ls 8 [(5, .int (iI z9)), (4, .int (iI (k : Int))), (3, .int (iI (goneN (up e1 (61 + 5 * r + 1) (k : Int)) r n))), (0, .ref (a 0)), (1, .int (iI r)), (2, .int (iI n))]) hq20) hl
              have hl := Eq.mp (congrArg (fun z9 => lv_has ls 8 [(5, .int (iI ((k + 1) : Int))), (4, .int (iI z9)), (3, .int (iI (goneN (up e1 (61 + 5 * r + 1) (k : Int)) r n))), (0, .ref (a 0)), (1, .int (iI r)), (2, .int (iI n))]) hq21) hl
              have hl := Eq.mp (congrArg (fun z9 => lv_has ls 8 [(5, .int (iI ((k + 1) : Int))), (4, .int (iI (bmI (srV e1 r n) (fun k => (k : Int)) (e1 (61 + 5 * r + 1)) (k + 1)))), (3, .int (iI z9)), (0, .ref (a 0)), (1, .int (iI r)), (2, .int (iI n))]) hq22) hl
              exact ih16 (k + 1) (seaN (up e1 (61 + 5 * r + 1) (k : Int)) (Int.toNat n)) (u15 210) (u15 211) (by omega) (by omega) ls hl H locs hP hD hS
          · have hv9 : srV e1 r n k = -1 := by unfold srV; rw [if_neg (by omega)]
            refine lv_goto (tgt := 91) hx hb dX0_bestCell_45 (by decide) ?_
            refine xi_inc (lv' := [(5, .int (iI ((k : Int) + 1))), (6, .int (iI (who e1 (k : Int)))), (4, .int (iI (bmI (srV e1 r n) (fun k => (k : Int)) (e1 (61 + 5 * r + 1)) k))), (3, .int (iI ((bmT (srV e1 r n) (fun k => (k : Int)) k).2))), (0, .ref (a 0)), (1, .int (iI r)), (2, .int (iI n))]) hx hb dX0_bestCell_91 hl (k := 1) rfl (by decide) rfl (fun ls hl => ?_)
            refine lv_goto (tgt := 16) hx hb dX0_bestCell_94 (by decide) ?_
            have hq23 : ((k : Int) + 1) = ((k + 1) : Int) := by omega
            have hq24 : (bmI (srV e1 r n) (fun k => (k : Int)) (e1 (61 + 5 * r + 1)) k) = (bmI (srV e1 r n) (fun k => (k : Int)) (e1 (61 + 5 * r + 1)) (k + 1)) := by first | exact bmI_f (v := srV e1 r n) (key := (fun k => (k : Int))) (d := e1 (61 + 5 * r + 1)) (k := k) (by omega) | exact bmI_t (v := srV e1 r n) (key := (fun k => (k : Int))) (d := e1 (61 + 5 * r + 1)) (k := k) (by omega) (by omega)
            have hq25 : ((bmT (srV e1 r n) (fun k => (k : Int)) k).2) = ((bmT (srV e1 r n) (fun k => (k : Int)) (k + 1)).2) := by simp only [bmT]; first | (rw [if_pos (by omega)]; done) | (rw [if_pos (by omega)]; dsimp only; omega) | (rw [if_neg (by omega)]; done) | (exfalso; omega)
            have hl : lv_has ls 8 [(5, .int (iI ((k : Int) + 1))), (4, .int (iI (bmI (srV e1 r n) (fun k => (k : Int)) (e1 (61 + 5 * r + 1)) k))), (3, .int (iI ((bmT (srV e1 r n) (fun k => (k : Int)) k).2))), (0, .ref (a 0)), (1, .int (iI r)), (2, .int (iI n))] := lv_sub hl [0, 2, 3, 4, 5, 6] rfl
            have hl := Eq.mp (congrArg (fun z9 => lv_has ls 8 [(5, .int (iI z9)), (4, .int (iI (bmI (srV e1 r n) (fun k => (k : Int)) (e1 (61 + 5 * r + 1)) k))), (3, .int (iI ((bmT (srV e1 r n) (fun k => (k : Int)) k).2))), (0, .ref (a 0)), (1, .int (iI r)), (2, .int (iI n))]) hq23) hl
            have hl := Eq.mp (congrArg (fun z9 => lv_has ls 8 [(5, .int (iI ((k + 1) : Int))), (4, .int (iI z9)), (3, .int (iI ((bmT (srV e1 r n) (fun k => (k : Int)) k).2))), (0, .ref (a 0)), (1, .int (iI r)), (2, .int (iI n))]) hq24) hl
            have hl := Eq.mp (congrArg (fun z9 => lv_has ls 8 [(5, .int (iI ((k + 1) : Int))), (4, .int (iI (bmI (srV e1 r n) (fun k => (k : Int)) (e1 (61 + 5 * r + 1)) (k + 1)))), (3, .int (iI z9)), (0, .ref (a 0)), (1, .int (iI r)), (2, .int (iI n))]) hq25) hl
            exact ih16 (k + 1) v9 x9 y9 (by omega) (by omega) ls hl H locs hP hD hS
  have hq26 : 0 = (0 : Int) := rfl
  have hq27 : (e1 (61 + 5 * r + 1)) = (bmI (srV e1 r n) (fun k => (k : Int)) (e1 (61 + 5 * r + 1)) 0) := bmI_0 (srV e1 r n) (fun k => (k : Int)) (e1 (61 + 5 * r + 1))
  have hq28 : (-1) = ((bmT (srV e1 r n) (fun k => (k : Int)) 0).2) := rfl
  have hl : lv_has ls 8 [(5, .int (iI 0)), (4, .int (iI (e1 (61 + 5 * r + 1)))), (3, .int (iI (-1))), (0, .ref (a 0)), (1, .int (iI r)), (2, .int (iI n))] := lv_sub hl [0, 1, 2, 3, 4, 5] rfl
  have hl := Eq.mp (congrArg (fun z9 => lv_has ls 8 [(5, .int (iI z9)), (4, .int (iI (e1 (61 + 5 * r + 1)))), (3, .int (iI (-1))), (0, .ref (a 0)), (1, .int (iI r)), (2, .int (iI n))]) hq26) hl
  have hl := Eq.mp (congrArg (fun z9 => lv_has ls 8 [(5, .int (iI (0 : Int))), (4, .int (iI z9)), (3, .int (iI (-1))), (0, .ref (a 0)), (1, .int (iI r)), (2, .int (iI n))]) hq27) hl
  have hl := Eq.mp (congrArg (fun z9 => lv_has ls 8 [(5, .int (iI (0 : Int))), (4, .int (iI (bmI (srV e1 r n) (fun k => (k : Int)) (e1 (61 + 5 * r + 1)) 0))), (3, .int (iI z9)), (0, .ref (a 0)), (1, .int (iI r)), (2, .int (iI n))]) hq28) hl
  exact lp16 (24 + 1) 0 t1 t10 t11 (by omega) (by omega) ls hl s.heap [] hP hD hS
abbrev rm_X0_bestKind : Room := { frames := 5, cells := 0, slots := 0, locals := 116 }
set_option maxRecDepth 100000 in
set_option maxHeartbeats 4000000 in
theorem c_X0_bestKind (l : Launch) (g : Gd) (a : Nat → Nat) (f1 : Int → Int) (b : Nat → Nat) (e1 : Int → Int) (e10 : Int → Int) (e11 : Int → Int) (d : Nat → Nat) (t1 : Int → Int) (t10 : Int → Int) (t11 : Int → Int) (r : Int) (n : Int) (sz : Nat) (h1 : InvK 0 e1) (h2 : e1 0 ≤ 9999) (h3 : 0 ≤ r ∧ r < e1 1) (h4 : 0 ≤ n ∧ n ≤ 40) : Met l yX0_bestKind (wsOf yX0_bestKind cX0_bestKind 7 (some .int)) rm_X0_bestKind (PX g (wP g (wF g a b d f1 ++ (wLs g b e1 e10 e11 ++ (wLs g d t1 t10 t11))) sz) [.ref (a 0), .int (iI r), .int (iI n)]) (QMi g (fun u9 : Nat → Int → Int => wF g a b d f1 ++ (wLs g b e1 e10 e11 ++ (wLs g d (u9 201) (u9 210) (u9 211)))) (fun r9 _ => r9 = iI ((bmT (kiV e1 r n) (fun k => (k : Int)) 6).1)) (va_A (wF g a b d f1 ++ (wLs g b e1 e10 e11 ++ (wLs g d t1 t10 t11))) sz)) 0 0 (va_A (wF g a b d f1 ++ (wLs g b e1 e10 e11 ++ (wLs g d t1 t10 t11))) sz) := by
  refine me (g := g) (by decide) rfl ?_
  intro pq eq s mq below meth cq C hnm hB ls hl
  obtain ⟨hx, hb, hr, hml, hown, hts, hlocks, hK⟩ := C
  have hown : s.vm.findClass RX0 = some mq.cls := hown
  have hl : lv_has ls 7 [(0, .ref (a 0)), (1, .int (iI r)), (2, .int (iI n))] := hl
  obtain ⟨hsz, hP, hD0⟩ := hB
  subst hsz
  have hD := hD0.self (sz := s.heap.size)
  have hA : ∀ q : Nat, s.heap.size ≤ q → va_A (wF g a b d f1 ++ (wLs g b e1 e10 e11 ++ (wLs g d t1 t10 t11))) s.heap.size q := fun q h => Or.inr h
  have hS : va_S (va_A (wF g a b d f1 ++ (wLs g b e1 e10 e11 ++ (wLs g d t1 t10 t11))) s.heap.size) s.heap s.heap [] := va_S.rf
  obtain ⟨hP0, hPr0⟩ := va_P_app.mp hP
  obtain ⟨hP1, hP2⟩ := va_P_app.mp hPr0
  have hI := h1
  have hI8 : Inv e1 := h1.mono (by omega)
  have hn := hI.num
  have hs := hI.sea
  have hv := hI.vil
  refine lv_iconst (v := iI (-1)) hx hb dX0_bestKind_0 (by decide) ?_
  refine lv_istore_n (lv' := [(3, .int (iI (-1))), (0, .ref (a 0)), (1, .int (iI r)), (2, .int (iI n))]) hx hb dX0_bestKind_1 rfl hl (by decide) rfl (fun ls hl => ?_)
  refine lv_iconst (v := iI (0)) hx hb dX0_bestKind_2 (by decide) ?_
  refine lv_istore (lv' := [(4, .int (iI 0)), (3, .int (iI (-1))), (0, .ref (a 0)), (1, .int (iI r)), (2, .int (iI n))]) hx hb dX0_bestKind_3 hl (by decide) rfl (fun ls hl => ?_)
  refine lv_iconst (v := iI (0)) hx hb dX0_bestKind_5 (by decide) ?_
  refine lv_istore (lv' := [(5, .int (iI 0)), (4, .int (iI 0)), (3, .int (iI (-1))), (0, .ref (a 0)), (1, .int (iI r)), (2, .int (iI n))]) hx hb dX0_bestKind_6 hl (by decide) rfl (fun ls hl => ?_)
  have lp8 : ∀ (n8 : Nat) (k : Nat) (v9 : Int → Int) (x9 : Int → Int) (y9 : Int → Int), (k ≤ 6) → 6 - k < n8 → ∀ ls : Array Slot, lv_has ls 7 [(5, .int (iI (k : Int))), (4, .int (iI ((bmT (kiV e1 r n) (fun k => (k : Int)) k).1))), (3, .int (iI ((bmT (kiV e1 r n) (fun k => (k : Int)) k).2))), (0, .ref (a 0)), (1, .int (iI r)), (2, .int (iI n))] → ∀ (H : Heap) (locs : List Loc), va_P g.1 vwCl (wF g a b d f1 ++ (wLs g b e1 e10 e11 ++ (wLs g d v9 x9 y9))) H → va_D (va_A (wF g a b d f1 ++ (wLs g b e1 e10 e11 ++ (wLs g d t1 t10 t11))) s.heap.size) (wF g a b d f1 ++ (wLs g b e1 e10 e11 ++ (wLs g d v9 x9 y9))) → va_S (va_A (wF g a b d f1 ++ (wLs g b e1 e10 e11 ++ (wLs g d t1 t10 t11))) s.heap.size) s.heap H locs → W pq l eq rm_X0_bestKind s mq [.ref (a 0), .int (iI r), .int (iI n)].toArray below meth cq H locs 0 0 (MQ below (QMi g (fun u9 : Nat → Int → Int => wF g a b d f1 ++ (wLs g b e1 e10 e11 ++ (wLs g d (u9 201) (u9 210) (u9 211)))) (fun r9 _ => r9 = iI ((bmT (kiV e1 r n) (fun k => (k : Int)) 6).1)) (va_A (wF g a b d f1 ++ (wLs g b e1 e10 e11 ++ (wLs g d t1 t10 t11))) s.heap.size)) [.ref (a 0), .int (iI r), .int (iI n)].toArray s 0 0 (va_A (wF g a b d f1 ++ (wLs g b e1 e10 e11 ++ (wLs g d t1 t10 t11))) s.heap.size)) (F0 mq 8 ls []) := by
    intro n8
    induction n8 with
    | zero => intro k v9 x9 y9 i8_1 hm; exact absurd hm (Nat.not_lt_zero _)
    | succ n8 ih8 =>
      intro k v9 x9 y9 i8_1 hm8 ls hl H locs hP hD hS
      have hmb := bmT_b (v := kiV e1 r n) (key := (fun k => (k : Int))) (M := 21000000) (by omega) k (fun j hj => Int.le_trans (goneN_b (hI.oth (k2 := 0) (r := r) (w := 0) (v := (j : Int)) (by omega) (by omega) (by omega) (by omega) (by omega) ⟨by omega, by omega, by omega, by omega⟩) (by omega) (by rw [up_n (by omega)]; omega) (by omega) (by rw [up_n (by omega)]; omega)).2 (by omega))
      obtain ⟨hP0, hPr0⟩ := va_P_app.mp hP
      obtain ⟨hP1, hP2⟩ := va_P_app.mp hPr0
      refine lv_iload hx hb dX0_bestKind_8 (lv_at hl 0 rfl) ?_
      refine lv_bipush (v := iI (6)) hx hb dX0_bestKind_10 (by decide) ?_
      refine xi_c_ge (tgt := 64) hx hb ⟨by omega, by omega⟩ ⟨by decide, by decide⟩ dX0_bestKind_12 (by decide) (fun z1 => ?_) (fun z1 => ?_)
      · refine lv_iload hx hb dX0_bestKind_64 (lv_at hl 1 rfl) ?_
        have hP : va_P g.1 vwCl (wF g a b d f1 ++ (wLs g b e1 e10 e11 ++ (wLs g d ((su (su (su (fun _ _ => 0) 201 v9) 210 x9) 211 y9) 201) ((su (su (su (fun _ _ => 0) 201 v9) 210 x9) 211 y9) 210) ((su (su (su (fun _ _ => 0) 201 v9) 210 x9) 211 y9) 211)))) H := hP
        have hD : va_D (va_A (wF g a b d f1 ++ (wLs g b e1 e10 e11 ++ (wLs g d t1 t10 t11))) s.heap.size) (wF g a b d f1 ++ (wLs g b e1 e10 e11 ++ (wLs g d ((su (su (su (fun _ _ => 0) 201 v9) 210 x9) 211 y9) 201) ((su (su (su (fun _ _ => 0) 201 v9) 210 x9) 211 y9) 210) ((su (su (su (fun _ _ => 0) 201 v9) 210 x9) 211 y9) 211)))) := hD
        exact W.iret hx hb hr (fun t ht hW => ⟨⟨_, (su (su (su (fun _ _ => 0) 201 v9) 210 x9) 211 y9), rfl, congrArg iI (by rw [show k = 6 by omega]), by rw [ht]; exact hP, hD⟩, hS.F ht⟩) hS.2.2 dX0_bestKind_66
      · have hIu := hI.oth (k2 := 0) (r := r) (w := 0) (v := (k : Int)) (by omega) (by omega) (by omega) (by omega) (by omega) ⟨by omega, by omega, by omega, by omega⟩
        have hgb := goneN_b hIu (r := r) (n := n) (by omega) (by rw [up_n (by omega)]; omega) (by omega) (by rw [up_n (by omega)]; omega)
        have hv9 : kiV e1 r n k = goneN (up e1 (61 + 5 * r + 0) (k : Int)) r n := rfl
        refine lv_aload_n hx hb dX0_bestKind_15 rfl (lv_at hl 3 rfl) ?_
        refine xg_X0 hx hb hts hown hK hP0 0 rfl 1 (by decide) fk_X0_12 (v := .ref (d 0)) rfl dX0_bestKind_16 ?_
        refine lv_aload_n hx hb dX0_bestKind_19 rfl (lv_at hl 3 rfl) ?_
        refine xg_X0 hx hb hts hown hK hP0 0 rfl 0 (by decide) fk_X0_22 (v := .ref (b 0)) rfl dX0_bestKind_20 ?_
        have hD : va_D (va_A (wF g a b d f1 ++ (wLs g b e1 e10 e11 ++ (wLs g d t1 t10 t11))) s.heap.size) (wF g a b d f1 ++ (wLs g d v9 x9 y9 ++ (wLs g b e1 e10 e11))) := D_perm (List.Perm.append_left _ (List.perm_append_comm)) hD
        have hD : va_D (va_A (wF g a b d f1 ++ (wLs g b e1 e10 e11 ++ (wLs g d t1 t10 t11))) s.heap.size) (wLs g d v9 x9 y9 ++ (wF g a b d f1 ++ (wLs g b e1 e10 e11))) := D_perm (List.perm_append_comm_assoc _ _ _) hD
        have hD : va_D (va_A (wF g a b d f1 ++ (wLs g b e1 e10 e11 ++ (wLs g d t1 t10 t11))) s.heap.size) (wLs g d v9 x9 y9 ++ (wLs g b e1 e10 e11 ++ (wF g a b d f1))) := D_perm (List.Perm.append_left _ (List.perm_append_comm)) hD
        have hP : va_P g.1 vwCl (wLs g d v9 x9 y9 ++ (wLs g b e1 e10 e11 ++ (wF g a b d f1))) H := va_P_app.mpr ⟨hP2, va_P_app.mpr ⟨hP1, hP0⟩⟩
        have hP : va_P g.1 vwCl ((wLs g d v9 x9 y9 ++ (wLs g b e1 e10 e11)) ++ (wF g a b d f1)) H := by rw [List.append_assoc]; exact hP
        have hD : va_D (va_A (wF g a b d f1 ++ (wLs g b e1 e10 e11 ++ (wLs g d t1 t10 t11))) s.heap.size) ((wLs g d v9 x9 y9 ++ (wLs g b e1 e10 e11)) ++ (wF g a b d f1)) := by rw [List.append_assoc]; exact hD
        refine xmF_v (rVN (rest := []) hx hb hml hown hts hK hl (c_X1_becomes l g d v9 x9 y9 b e1 e10 e11 H.size ) lk_X0_25 ⟨rfl, (va_P_app.mp hP).1, (va_D_app hD).1.weaken (fun _ _ _ _ => trivial)⟩ (va_recv hK.1 hP2 (ci := 1) (q0 := 0) rfl rfl) rfl rfl rfl (Rm.of rfl) rfl rfl dX0_bestKind_23) hP hD hS hA (fun _ H locs hw hP hD hS => ?_)
        have hP : va_P g.1 vwCl ((wLs g d e1 x9 y9 ++ (wLs g b e1 e10 e11)) ++ (wF g a b d f1)) H := hP
        have hD : va_D (va_A (wF g a b d f1 ++ (wLs g b e1 e10 e11 ++ (wLs g d t1 t10 t11))) s.heap.size) ((wLs g d e1 x9 y9 ++ (wLs g b e1 e10 e11)) ++ (wF g a b d f1)) := hD
        rw [List.append_assoc] at hP hD
        have hP : va_P g.1 vwCl (wLs g d e1 x9 y9 ++ (wLs g b e1 e10 e11 ++ (wF g a b d f1))) H := hP
        have hD : va_D (va_A (wF g a b d f1 ++ (wLs g b e1 e10 e11 ++ (wLs g d t1 t10 t11))) s.heap.size) (wLs g d e1 x9 y9 ++ (wLs g b e1 e10 e11 ++ (wF g a b d f1))) := hD
        obtain ⟨hP2, hPr0⟩ := va_P_app.mp hP
        obtain ⟨hP1, hP0⟩ := va_P_app.mp hPr0
        refine lv_aload_n hx hb dX0_bestKind_26 rfl (lv_at hl 3 rfl) ?_
        refine xg_X0 hx hb hts hown hK hP0 0 rfl 1 (by decide) fk_X0_12 (v := .ref (d 0)) rfl dX0_bestKind_27 ?_
        refine xgN_X1 hx hb hts hown hK hP2 0 rfl 7 (by decide) fk_X0_82 (v := .ref (d 5)) rfl dX0_bestKind_30 ?_
        refine lv_iload_n hx hb dX0_bestKind_33 rfl (lv_at hl 4 rfl) ?_
        refine lv_iload hx hb dX0_bestKind_34 (lv_at hl 0 rfl) ?_
        refine xi_ast hx hb hK hP hD hS 5 (f := pz 0 e1) rfl (i := r) (v := (k : Int)) ⟨by omega, by omega⟩ rfl dX0_bestKind_36 (fun H locs hP hD hS => ?_)
        have hP := Eq.mp (congrArg (fun z9 : va_W => va_P g.1 vwCl (z9 ++ (wLs g b e1 e10 e11 ++ (wF g a b d f1))) H) (Ls_kinds (g := g) (a := d) (s := e1) (x10 := x9) (x11 := y9) (i := r) (v := (k : Int)) ⟨by omega, by omega⟩)) hP
        have hD := Eq.mp (congrArg (fun z9 : va_W => va_D (va_A (wF g a b d f1 ++ (wLs g b e1 e10 e11 ++ (wLs g d t1 t10 t11))) s.heap.size) (z9 ++ (wLs g b e1 e10 e11 ++ (wF g a b d f1)))) (Ls_kinds (g := g) (a := d) (s := e1) (x10 := x9) (x11 := y9) (i := r) (v := (k : Int)) ⟨by omega, by omega⟩)) hD
        have hP : va_P g.1 vwCl (wLs g d (up e1 (61 + 5 * r + 0) (k : Int)) x9 y9 ++ (wLs g b e1 e10 e11 ++ (wF g a b d f1))) H := hP
        have hD : va_D (va_A (wF g a b d f1 ++ (wLs g b e1 e10 e11 ++ (wLs g d t1 t10 t11))) s.heap.size) (wLs g d (up e1 (61 + 5 * r + 0) (k : Int)) x9 y9 ++ (wLs g b e1 e10 e11 ++ (wF g a b d f1))) := hD
        obtain ⟨hP2, hPr0⟩ := va_P_app.mp hP
        obtain ⟨hP1, hP0⟩ := va_P_app.mp hPr0
        refine lv_aload_n hx hb dX0_bestKind_37 rfl (lv_at hl 3 rfl) ?_
        refine lv_iload_n hx hb dX0_bestKind_38 rfl (lv_at hl 4 rfl) ?_
        refine lv_iload_n hx hb dX0_bestKind_39 rfl (lv_at hl 5 rfl) ?_
        have hD : va_D (va_A (wF g a b d f1 ++ (wLs g b e1 e10 e11 ++ (wLs g d t1 t10 t11))) s.heap.size) (wLs g d (up e1 (61 + 5 * r + 0) (k : Int)) x9 y9 ++ (wF g a b d f1 ++ (wLs g b e1 e10 e11))) := D_perm (List.Perm.append_left _ (List.perm_append_comm)) hD
        have hD : va_D (va_A (wF g a b d f1 ++ (wLs g b e1 e10 e11 ++ (wLs g d t1 t10 t11))) s.heap.size) (wF g a b d f1 ++ (wLs g d (up e1 (61 + 5 * r + 0) (k : Int)) x9 y9 ++ (wLs g b e1 e10 e11))) := D_perm (List.perm_append_comm_assoc _ _ _) hD
        have hD : va_D (va_A (wF g a b d f1 ++ (wLs g b e1 e10 e11 ++ (wLs g d t1 t10 t11))) s.heap.size) (wF g a b d f1 ++ (wLs g b e1 e10 e11 ++ (wLs g d (up e1 (61 + 5 * r + 0) (k : Int)) x9 y9))) := D_perm (List.Perm.append_left _ (List.perm_append_comm)) hD
        have hP : va_P g.1 vwCl (wF g a b d f1 ++ (wLs g b e1 e10 e11 ++ (wLs g d (up e1 (61 + 5 * r + 0) (k : Int)) x9 y9))) H := va_P_app.mpr ⟨hP0, va_P_app.mpr ⟨hP1, hP2⟩⟩
        refine xm_i (rV (rest := []) hx hb hml hown hts hK hl (c_X0_goneInTrial l g a f1 b e1 e10 e11 d (up e1 (61 + 5 * r + 0) (k : Int)) x9 y9 r n H.size (show InvK 0 (up e1 (61 + 5 * r + 0) (k : Int)) from hIu) (show 0 ≤ n ∧ (up e1 (61 + 5 * r + 0) (k : Int)) 0 + n ≤ 20000 from ⟨by omega, by rw [up_n (by omega)]; omega⟩) (show 0 ≤ r ∧ r < (up e1 (61 + 5 * r + 0) (k : Int)) 1 from ⟨by omega, by rw [up_n (by omega)]; omega⟩) (show (up e1 (61 + 5 * r + 0) (k : Int)) 1 = e1 1 from up_n (by omega)) (show (up e1 (61 + 5 * r + 0) (k : Int)) (61 + 5 * r + 3) = e1 (61 + 5 * r + 3) from up_n (by omega))) lk_X0_69 ⟨rfl, hP, hD.weaken (fun _ _ _ _ => trivial)⟩ (va_recv hK.1 hP0 (ci := 0) (q0 := 0) rfl rfl) rfl rfl rfl (Rm.of rfl) rfl rfl dX0_bestKind_40) hD hS hA (fun x9 u3 H locs hw hP hD hS => ?_)
        obtain rfl : x9 = iI (goneN (up e1 (61 + 5 * r + 0) (k : Int)) r n) := hw
        have hP : va_P g.1 vwCl (wF g a b d f1 ++ (wLs g b e1 e10 e11 ++ (wLs g d (seaN (up e1 (61 + 5 * r + 0) (k : Int)) (Int.toNat n)) (u3 210) (u3 211)))) H := hP
        have hD : va_D (va_A (wF g a b d f1 ++ (wLs g b e1 e10 e11 ++ (wLs g d t1 t10 t11))) s.heap.size) (wF g a b d f1 ++ (wLs g b e1 e10 e11 ++ (wLs g d (seaN (up e1 (61 + 5 * r + 0) (k : Int)) (Int.toNat n)) (u3 210) (u3 211)))) := hD
        obtain ⟨hP0, hPr0⟩ := va_P_app.mp hP
        obtain ⟨hP1, hP2⟩ := va_P_app.mp hPr0
        refine lv_istore (lv' := [(6, .int (iI (goneN (up e1 (61 + 5 * r + 0) (k : Int)) r n))), (5, .int (iI (k : Int))), (4, .int (iI ((bmT (kiV e1 r n) (fun k => (k : Int)) k).1))), (3, .int (iI ((bmT (kiV e1 r n) (fun k => (k : Int)) k).2))), (0, .ref (a 0)), (1, .int (iI r)), (2, .int (iI n))]) hx hb dX0_bestKind_43 hl (by decide) rfl (fun ls hl => ?_)
        refine lv_iload hx hb dX0_bestKind_45 (lv_at hl 0 rfl) ?_
        refine lv_iload_n hx hb dX0_bestKind_47 rfl (lv_at hl 3 rfl) ?_
        refine xi_c_le (tgt := 58) hx hb ⟨by omega, by omega⟩ ⟨by omega, by omega⟩ dX0_bestKind_48 (by decide) (fun z4 => ?_) (fun z4 => ?_)
        · refine xi_inc (lv' := [(5, .int (iI ((k : Int) + 1))), (6, .int (iI (goneN (up e1 (61 + 5 * r + 0) (k : Int)) r n))), (4, .int (iI ((bmT (kiV e1 r n) (fun k => (k : Int)) k).1))), (3, .int (iI ((bmT (kiV e1 r n) (fun k => (k : Int)) k).2))), (0, .ref (a 0)), (1, .int (iI r)), (2, .int (iI n))]) hx hb dX0_bestKind_58 hl (k := 1) rfl (by decide) rfl (fun ls hl => ?_)
          refine lv_goto (tgt := 8) hx hb dX0_bestKind_61 (by decide) ?_
          have hq5 : ((k : Int) + 1) = ((k + 1) : Int) := by omega
          have hq6 : ((bmT (kiV e1 r n) (fun k => (k : Int)) k).1) = ((bmT (kiV e1 r n) (fun k => (k : Int)) (k + 1)).1) := by simp only [bmT]; first | (rw [if_pos (by omega)]; done) | (rw [if_pos (by omega)]; dsimp only; omega) | (rw [if_neg (by omega)]; done) | (exfalso; omega)
          have hq7 : ((bmT (kiV e1 r n) (fun k => (k : Int)) k).2) = ((bmT (kiV e1 r n) (fun k => (k : Int)) (k + 1)).2) := by simp only [bmT]; first | (rw [if_pos (by omega)]; done) | (rw [if_pos (by omega)]; dsimp only; omega) | (rw [if_neg (by omega)]; done) | (exfalso; omega)
          have hl : lv_has ls 7 [(5, .int (iI ((k : Int) + 1))), (4, .int (iI ((bmT (kiV e1 r n) (fun k => (k : Int)) k).1))), (3, .int (iI ((bmT (kiV e1 r n) (fun k => (k : Int)) k).2))), (0, .ref (a 0)), (1, .int (iI r)), (2, .int (iI n))] := lv_sub hl [0, 2, 3, 4, 5, 6] rfl
          have hl := Eq.mp (congrArg (fun z9 => lv_has ls 7 [(5, .int (iI z9)), (4, .int (iI ((bmT (kiV e1 r n) (fun k => (k : Int)) k).1))), (3, .int (iI ((bmT (kiV e1 r n) (fun k => (k : Int)) k).2))), (0, .ref (a 0)), (1, .int (iI r)), (2, .int (iI n))]) hq5) hl
          have hl := Eq.mp (congrArg (fun z9 => lv_has ls 7 [(5, .int (iI ((k + 1) : Int))), (4, .int (iI z9)), (3, .int (iI ((bmT (kiV e1 r n) (fun k => (k : Int)) k).2))), (0, .ref (a 0)), (1, .int (iI r)), (2, .int (iI n))]) hq6) hl
          have hl := Eq.mp (congrArg (fun z9 => lv_has ls 7 [(5, .int (iI ((k + 1) : Int))), (4, .int (iI ((bmT (kiV e1 r n) (fun k => (k : Int)) (k + 1)).1))), (3, .int (iI z9)), (0, .ref (a 0)), (1, .int (iI r)), (2, .int (iI n))]) hq7) hl
          exact ih8 (k + 1) (seaN (up e1 (61 + 5 * r + 0) (k : Int)) (Int.toNat n)) (u3 210) (u3 211) (by omega) (by omega) ls hl H locs hP hD hS
        · refine lv_iload hx hb dX0_bestKind_51 (lv_at hl 0 rfl) ?_
          refine lv_istore_n (lv' := [(3, .int (iI (goneN (up e1 (61 + 5 * r + 0) (k : Int)) r n))), (6, .int (iI (goneN (up e1 (61 + 5 * r + 0) (k : Int)) r n))), (5, .int (iI (k : Int))), (4, .int (iI ((bmT (kiV e1 r n) (fun k => (k : Int)) k).1))), (0, .ref (a 0)), (1, .int (iI r)), (2, .int (iI n))]) hx hb dX0_bestKind_53 rfl hl (by decide) rfl (fun ls hl => ?_)
          refine lv_iload hx hb dX0_bestKind_54 (lv_at hl 2 rfl) ?_
          refine lv_istore (lv' := [(4, .int (iI (k : Int))), (3, .int (iI (goneN (up e1 (61 + 5 * r + 0) (k : Int)) r n))), (6, .int (iI (goneN (up e1 (61 + 5 * r + 0) (k : Int)) r n))), (5, .int (iI (k : Int))), (0, .ref (a 0)), (1, .int (iI r)), (2, .int (iI n))]) hx hb dX0_bestKind_56 hl (by decide) rfl (fun ls hl => ?_)
          refine xi_inc (lv' := [(5, .int (iI ((k : Int) + 1))), (4, .int (iI (k : Int))), (3, .int (iI (goneN (up e1 (61 + 5 * r + 0) (k : Int)) r n))), (6, .int (iI (goneN (up e1 (61 + 5 * r + 0) (k : Int)) r n))), (0, .ref (a 0)), (1, .int (iI r)), (2, .int (iI n))]) hx hb dX0_bestKind_58 hl (k := 3) rfl (by decide) rfl (fun ls hl => ?_)
          refine lv_goto (tgt := 8) hx hb dX0_bestKind_61 (by decide) ?_
          have hq8 : ((k : Int) + 1) = ((k + 1) : Int) := by omega
          have hq9 : (k : Int) = ((bmT (kiV e1 r n) (fun k => (k : Int)) (k + 1)).1) := by simp only [bmT]; first | (rw [if_pos (by omega)]; done) | (rw [if_pos (by omega)]; dsimp only; omega) | (rw [if_neg (by omega)]; done) | (exfalso; omega)
          have hq10 : (goneN (up e1 (61 + 5 * r + 0) (k : Int)) r n) = ((bmT (kiV e1 r n) (fun k => (k : Int)) (k + 1)).2) := by simp only [bmT]; first | (rw [if_pos (by omega)]; done) | (rw [if_pos (by omega)]; dsimp only; omega) | (rw [if_neg (by omega)]; done) | (exfalso; omega)
          have hl : lv_has ls 7 [(5, .int (iI ((k : Int) + 1))), (4, .int (iI (k : Int))), (3, .int (iI (goneN (up e1 (61 + 5 * r + 0) (k : Int)) r n))), (0, .ref (a 0)), (1, .int (iI r)), (2, .int (iI n))] := lv_sub hl [0, 1, 2, 4, 5, 6] rfl
          have hl := Eq.mp (congrArg (fun z9 => lv_has ls 7 [(5, .int (iI z9)), (4, .int (iI (k : Int))), (3, .int (iI (goneN (up e1 (61 + 5 * r + 0) (k : Int)) r n))), (0, .ref (a 0)), (1, .int (iI r)), (2, .int (iI n))]) hq8) hl
          have hl := Eq.mp (congrArg (fun z9 => lv_has ls 7 [(5, .int (iI ((k + 1) : Int))), (4, .int (iI z9)), (3, .int (iI (goneN (up e1 (61 + 5 * r + 0) (k : Int)) r n))), (0, .ref (a 0)), (1, .int (iI r)), (2, .int (iI n))]) hq9) hl
          have hl := Eq.mp (congrArg (fun z9 => lv_has ls 7 [(5, .int (iI ((k + 1) : Int))), (4, .int (iI ((bmT (kiV e1 r n) (fun k => (k : Int)) (k + 1)).1))), (3, .int (iI z9)), (0, .ref (a 0)), (1, .int (iI r)), (2, .int (iI n))]) hq10) hl
          exact ih8 (k + 1) (seaN (up e1 (61 + 5 * r + 0) (k : Int)) (Int.toNat n)) (u3 210) (u3 211) (by omega) (by omega) ls hl H locs hP hD hS
  have hq11 : 0 = (0 : Int) := rfl
  have hq12 : 0 = ((bmT (kiV e1 r n) (fun k => (k : Int)) 0).1) := rfl
  have hq13 : (-1) = ((bmT (kiV e1 r n) (fun k => (k : Int)) 0).2) := rfl
  have hl : lv_has ls 7 [(5, .int (iI 0)), (4, .int (iI 0)), (3, .int (iI (-1))), (0, .ref (a 0)), (1, .int (iI r)), (2, .int (iI n))] := lv_sub hl [0, 1, 2, 3, 4, 5] rfl
  have hl := Eq.mp (congrArg (fun z9 => lv_has ls 7 [(5, .int (iI z9)), (4, .int (iI 0)), (3, .int (iI (-1))), (0, .ref (a 0)), (1, .int (iI r)), (2, .int (iI n))]) hq11) hl
  have hl := Eq.mp (congrArg (fun z9 => lv_has ls 7 [(5, .int (iI (0 : Int))), (4, .int (iI z9)), (3, .int (iI (-1))), (0, .ref (a 0)), (1, .int (iI r)), (2, .int (iI n))]) hq12) hl
  have hl := Eq.mp (congrArg (fun z9 => lv_has ls 7 [(5, .int (iI (0 : Int))), (4, .int (iI ((bmT (kiV e1 r n) (fun k => (k : Int)) 0).1))), (3, .int (iI z9)), (0, .ref (a 0)), (1, .int (iI r)), (2, .int (iI n))]) hq13) hl
  exact lp8 (6 + 1) 0 t1 t10 t11 (by omega) (by omega) ls hl s.heap [] hP hD hS
abbrev rm_X0_bestPair : Room := { frames := 5, cells := 0, slots := 0, locals := 122 }
set_option maxRecDepth 100000 in
set_option maxHeartbeats 4000000 in
theorem c_X0_bestPair (l : Launch) (g : Gd) (a : Nat → Nat) (f1 : Int → Int) (b : Nat → Nat) (e1 : Int → Int) (e10 : Int → Int) (e11 : Int → Int) (d : Nat → Nat) (t1 : Int → Int) (t10 : Int → Int) (t11 : Int → Int) (n : Int) (sz : Nat) (h1 : InvK 0 e1) (h2 : e1 0 ≤ 9999) (h3 : 0 ≤ n ∧ n ≤ 40) : Met l yX0_bestPair (wsOf yX0_bestPair cX0_bestPair 6 (some .int)) rm_X0_bestPair (PX g (wP g (wF g a b d f1 ++ (wLs g b e1 e10 e11 ++ (wLs g d t1 t10 t11))) sz) [.ref (a 0), .int (iI n)]) (QMi g (fun u9 : Nat → Int → Int => wF g a b d f1 ++ (wLs g b e1 e10 e11 ++ (wLs g d (u9 201) (u9 210) (u9 211)))) (fun r9 _ => r9 = iI ((swS e1 n).1)) (va_A (wF g a b d f1 ++ (wLs g b e1 e10 e11 ++ (wLs g d t1 t10 t11))) sz)) 0 0 (va_A (wF g a b d f1 ++ (wLs g b e1 e10 e11 ++ (wLs g d t1 t10 t11))) sz) := by
  refine me (g := g) (by decide) rfl ?_
  intro pq eq s mq below meth cq C hnm hB ls hl
  obtain ⟨hx, hb, hr, hml, hown, hts, hlocks, hK⟩ := C
  have hown : s.vm.findClass RX0 = some mq.cls := hown
  have hl : lv_has ls 6 [(0, .ref (a 0)), (1, .int (iI n))] := hl
  obtain ⟨hsz, hP, hD0⟩ := hB
  subst hsz
  have hD := hD0.self (sz := s.heap.size)
  have hA : ∀ q : Nat, s.heap.size ≤ q → va_A (wF g a b d f1 ++ (wLs g b e1 e10 e11 ++ (wLs g d t1 t10 t11))) s.heap.size q := fun q h => Or.inr h
  have hS : va_S (va_A (wF g a b d f1 ++ (wLs g b e1 e10 e11 ++ (wLs g d t1 t10 t11))) s.heap.size) s.heap s.heap [] := va_S.rf
  obtain ⟨hP0, hPr0⟩ := va_P_app.mp hP
  obtain ⟨hP1, hP2⟩ := va_P_app.mp hPr0
  have hI := h1
  have hI8 : Inv e1 := h1.mono (by omega)
  have hn := hI.num
  have hs := hI.sea
  have hv := hI.vil
  have hvb : ∀ p q : Nat, (p : Int) < e1 1 → (q : Int) < e1 1 → p ≠ q → 0 ≤ swV e1 n p q ∧ swV e1 n p q ≤ 21000000 := fun p q hp hq hpq => sumA_b (seaN_inv (hI.sw2 (p := (p : Int)) (q := (q : Int)) (by omega) hp (by omega) hq (by omega)) n.toNat (by unfold swp; rw [up_n (by omega), up_n (by omega)]; omega)).1
  have hsx0 := seaN_inv hI n.toNat (by omega)
  have hs0b : 0 ≤ sumA (seaN e1 n.toNat) 3 ∧ sumA (seaN e1 n.toNat) 3 ≤ 21000000 := sumA_b hsx0.1
  refine lv_aload_n hx hb dX0_bestPair_0 rfl (lv_at hl 0 rfl) ?_
  refine lv_iload_n hx hb dX0_bestPair_1 rfl (lv_at hl 1 rfl) ?_
  refine xm_r (rV (rest := []) hx hb hml hown hts hK hl (c_X0_after l g a f1 b e1 e10 e11 d t1 t10 t11 n (s.heap).size (show InvK 0 e1 from h1) (show 0 ≤ n ∧ e1 0 + n ≤ 20000 from by omega)) lk_X0_85 ⟨rfl, hP, hD.weaken (fun _ _ _ _ => trivial)⟩ (va_recv hK.1 hP0 (ci := 0) (q0 := 0) rfl rfl) rfl rfl rfl (Rm.of rfl) rfl rfl dX0_bestPair_2) hD hS hA (fun u1 H locs hw hP hD hS => ?_)
  have hP : va_P g.1 vwCl (wF g a b d f1 ++ (wLs g b e1 e10 e11 ++ (wLs g d (seaN e1 (Int.toNat n)) (u1 210) (u1 211)))) H := hP
  have hD : va_D (va_A (wF g a b d f1 ++ (wLs g b e1 e10 e11 ++ (wLs g d t1 t10 t11))) s.heap.size) (wF g a b d f1 ++ (wLs g b e1 e10 e11 ++ (wLs g d (seaN e1 (Int.toNat n)) (u1 210) (u1 211)))) := hD
  obtain ⟨hP0, hPr0⟩ := va_P_app.mp hP
  obtain ⟨hP1, hP2⟩ := va_P_app.mp hPr0
  refine xu_i (x := iI (sumA (seaN e1 (Int.toNat n)) 3)) (rVN (rest := []) hx hb hml hown hts hK hl (c_X1_allSteps l g d (seaN e1 (Int.toNat n)) (u1 210) (u1 211) (show 0 ≤ (seaN e1 (Int.toNat n)) 1 ∧ (seaN e1 (Int.toNat n)) 1 ≤ 8 from hsx0.1.num)) lk_X0_76 hP2 (va_recv hK.1 hP2 (ci := 1) (q0 := 0) rfl rfl) rfl rfl rfl (Rm.of rfl) rfl rfl dX0_bestPair_5) ?_
  refine lv_istore_n (lv' := [(2, .int (iI (sumA (seaN e1 (Int.toNat n)) 3))), (0, .ref (a 0)), (1, .int (iI n))]) hx hb dX0_bestPair_8 rfl hl (by decide) rfl (fun ls hl => ?_)
  refine lv_iconst (v := iI (-1)) hx hb dX0_bestPair_9 (by decide) ?_
  refine lv_istore_n (lv' := [(3, .int (iI (-1))), (2, .int (iI (sumA (seaN e1 (Int.toNat n)) 3))), (0, .ref (a 0)), (1, .int (iI n))]) hx hb dX0_bestPair_10 rfl hl (by decide) rfl (fun ls hl => ?_)
  refine lv_iconst (v := iI (0)) hx hb dX0_bestPair_11 (by decide) ?_
  refine lv_istore (lv' := [(4, .int (iI 0)), (3, .int (iI (-1))), (2, .int (iI (sumA (seaN e1 (Int.toNat n)) 3))), (0, .ref (a 0)), (1, .int (iI n))]) hx hb dX0_bestPair_12 hl (by decide) rfl (fun ls hl => ?_)
  have lp14 : ∀ (n14 : Nat) (p : Nat) (v9 : Int → Int) (x9 : Int → Int) (y9 : Int → Int), ((p : Int) ≤ e1 1) → 8 - p < n14 → ∀ ls : Array Slot, lv_has ls 6 [(4, .int (iI (p : Int))), (3, .int (iI ((swO (swV e1 n) (e1 1).toNat ((-1 : Int), sumA (seaN e1 n.toNat) 3) p).1))), (2, .int (iI ((swO (swV e1 n) (e1 1).toNat ((-1 : Int), sumA (seaN e1 n.toNat) 3) p).2))), (0, .ref (a 0)), (1, .int (iI n))] → ∀ (H : Heap) (locs : List Loc), va_P g.1 vwCl (wF g a b d f1 ++ (wLs g b e1 e10 e11 ++ (wLs g d v9 x9 y9))) H → va_D (va_A (wF g a b d f1 ++ (wLs g b e1 e10 e11 ++ (wLs g d t1 t10 t11))) s.heap.size) (wF g a b d f1 ++ (wLs g b e1 e10 e11 ++ (wLs g d v9 x9 y9))) → va_S (va_A (wF g a b d f1 ++ (wLs g b e1 e10 e11 ++ (wLs g d t1 t10 t11))) s.heap.size) s.heap H locs → W pq l eq rm_X0_bestPair s mq [.ref (a 0), .int (iI n)].toArray below meth cq H locs 0 0 (MQ below (QMi g (fun u9 : Nat → Int → Int => wF g a b d f1 ++ (wLs g b e1 e10 e11 ++ (wLs g d (u9 201) (u9 210) (u9 211)))) (fun r9 _ => r9 = iI ((swS e1 n).1)) (va_A (wF g a b d f1 ++ (wLs g b e1 e10 e11 ++ (wLs g d t1 t10 t11))) s.heap.size)) [.ref (a 0), .int (iI n)].toArray s 0 0 (va_A (wF g a b d f1 ++ (wLs g b e1 e10 e11 ++ (wLs g d t1 t10 t11))) s.heap.size)) (F0 mq 14 ls []) := by
    intro n14
    induction n14 with
    | zero => intro p v9 x9 y9 i14_1 hm; exact absurd hm (Nat.not_lt_zero _)
    | succ n14 ih14 =>
      intro p v9 x9 y9 i14_1 hm14 ls hl H locs hP hD hS
      have hob := swO_b (v := (swV e1 n)) (n := (e1 1).toNat) (M := 21000000) (st := ((-1 : Int), sumA (seaN e1 n.toNat) 3)) hs0b ⟨by omega, by omega⟩ (by omega) (fun a b ha hb hab => hvb a b (by omega) (by omega) hab) p (by omega)
      obtain ⟨hP0, hPr0⟩ := va_P_app.mp hP
      obtain ⟨hP1, hP2⟩ := va_P_app.mp hPr0
      refine lv_iload hx hb dX0_bestPair_14 (lv_at hl 0 rfl) ?_
      refine lv_aload_n hx hb dX0_bestPair_16 rfl (lv_at hl 3 rfl) ?_
      refine xg_X0 hx hb hts hown hK hP0 0 rfl 0 (by decide) fk_X0_22 (v := .ref (b 0)) rfl dX0_bestPair_17 ?_
      refine xgN_X1 hx hb hts hown hK hP1 0 rfl 1 (by decide) fk_X0_43 (v := .int (iI (e1 1))) rfl dX0_bestPair_20 ?_
      refine xi_c_ge (tgt := 114) hx hb ⟨by omega, by omega⟩ ⟨by omega, by omega⟩ dX0_bestPair_23 (by decide) (fun z3 => ?_) (fun z3 => ?_)
      · have hsw : (swS e1 n).1 = (swO (swV e1 n) (e1 1).toNat ((-1 : Int), sumA (seaN e1 n.toNat) 3) p).1 := by unfold swS; rw [show p = (e1 1).toNat by omega]
        refine lv_iload_n hx hb dX0_bestPair_114 rfl (lv_at hl 1 rfl) ?_
        have hP : va_P g.1 vwCl (wF g a b d f1 ++ (wLs g b e1 e10 e11 ++ (wLs g d ((su (su (su (fun _ _ => 0) 201 v9) 210 x9) 211 y9) 201) ((su (su (su (fun _ _ => 0) 201 v9) 210 x9) 211 y9) 210) ((su (su (su (fun _ _ => 0) 201 v9) 210 x9) 211 y9) 211)))) H := hP
        have hD : va_D (va_A (wF g a b d f1 ++ (wLs g b e1 e10 e11 ++ (wLs g d t1 t10 t11))) s.heap.size) (wF g a b d f1 ++ (wLs g b e1 e10 e11 ++ (wLs g d ((su (su (su (fun _ _ => 0) 201 v9) 210 x9) 211 y9) 201) ((su (su (su (fun _ _ => 0) 201 v9) 210 x9) 211 y9) 210) ((su (su (su (fun _ _ => 0) 201 v9) 210 x9) 211 y9) 211)))) := hD
        exact W.iret hx hb hr (fun t ht hW => ⟨⟨_, (su (su (su (fun _ _ => 0) 201 v9) 210 x9) 211 y9), rfl, congrArg iI hsw.symm, by rw [ht]; exact hP, hD⟩, hS.F ht⟩) hS.2.2 dX0_bestPair_115
      · refine lv_iload hx hb dX0_bestPair_26 (lv_at hl 0 rfl) ?_
        refine lv_iconst (v := iI (1)) hx hb dX0_bestPair_28 (by decide) ?_
        refine xi_add hx hb dX0_bestPair_29 ?_
        refine lv_istore (lv' := [(5, .int (iI ((p : Int) + 1))), (4, .int (iI (p : Int))), (3, .int (iI ((swO (swV e1 n) (e1 1).toNat ((-1 : Int), sumA (seaN e1 n.toNat) 3) p).1))), (2, .int (iI ((swO (swV e1 n) (e1 1).toNat ((-1 : Int), sumA (seaN e1 n.toNat) 3) p).2))), (0, .ref (a 0)), (1, .int (iI n))]) hx hb dX0_bestPair_30 hl (by decide) rfl (fun ls hl => ?_)
        have lp32 : ∀ (n32 : Nat) (j : Nat) (v8 : Int → Int) (x8 : Int → Int) (y8 : Int → Int), (((p + 1 + j : Nat) : Int) ≤ e1 1 ∧ p < 8) → 8 - j < n32 → ∀ ls : Array Slot, lv_has ls 6 [(5, .int (iI ((p + 1 + j : Nat) : Int))), (4, .int (iI (p : Int))), (3, .int (iI ((swI (swV e1 n) p (swO (swV e1 n) (e1 1).toNat ((-1 : Int), sumA (seaN e1 n.toNat) 3) p) j).1))), (2, .int (iI ((swI (swV e1 n) p (swO (swV e1 n) (e1 1).toNat ((-1 : Int), sumA (seaN e1 n.toNat) 3) p) j).2))), (0, .ref (a 0)), (1, .int (iI n))] → ∀ (H : Heap) (locs : List Loc), va_P g.1 vwCl (wF g a b d f1 ++ (wLs g b e1 e10 e11 ++ (wLs g d v8 x8 y8))) H → va_D (va_A (wF g a b d f1 ++ (wLs g b e1 e10 e11 ++ (wLs g d t1 t10 t11))) s.heap.size) (wF g a b d f1 ++ (wLs g b e1 e10 e11 ++ (wLs g d v8 x8 y8))) → va_S (va_A (wF g a b d f1 ++ (wLs g b e1 e10 e11 ++ (wLs g d t1 t10 t11))) s.heap.size) s.heap H locs → W pq l eq rm_X0_bestPair s mq [.ref (a 0), .int (iI n)].toArray below meth cq H locs 0 0 (MQ below (QMi g (fun u9 : Nat → Int → Int => wF g a b d f1 ++ (wLs g b e1 e10 e11 ++ (wLs g d (u9 201) (u9 210) (u9 211)))) (fun r9 _ => r9 = iI ((swS e1 n).1)) (va_A (wF g a b d f1 ++ (wLs g b e1 e10 e11 ++ (wLs g d t1 t10 t11))) s.heap.size)) [.ref (a 0), .int (iI n)].toArray s 0 0 (va_A (wF g a b d f1 ++ (wLs g b e1 e10 e11 ++ (wLs g d t1 t10 t11))) s.heap.size)) (F0 mq 32 ls []) := by
          intro n32
          induction n32 with
          | zero => intro j v8 x8 y8 i32_1 hm; exact absurd hm (Nat.not_lt_zero _)
          | succ n32 ih32 =>
            intro j v8 x8 y8 i32_1 hm32 ls hl H locs hP hD hS
            have hib := swI_b (v := (swV e1 n)) (p := p) (M := 21000000) (st := (swO (swV e1 n) (e1 1).toNat ((-1 : Int), sumA (seaN e1 n.toNat) 3) p)) hob.1 hob.2 (by omega) j (by omega) (fun i hi => hvb p _ (by omega) (by omega) (by omega))
            obtain ⟨hP0, hPr0⟩ := va_P_app.mp hP
            obtain ⟨hP1, hP2⟩ := va_P_app.mp hPr0
            refine lv_iload hx hb dX0_bestPair_32 (lv_at hl 0 rfl) ?_
            refine lv_aload_n hx hb dX0_bestPair_34 rfl (lv_at hl 4 rfl) ?_
            refine xg_X0 hx hb hts hown hK hP0 0 rfl 0 (by decide) fk_X0_22 (v := .ref (b 0)) rfl dX0_bestPair_35 ?_
            refine xgN_X1 hx hb hts hown hK hP1 0 rfl 1 (by decide) fk_X0_43 (v := .int (iI (e1 1))) rfl dX0_bestPair_38 ?_
            refine xi_c_ge (tgt := 108) hx hb ⟨by omega, by omega⟩ ⟨by omega, by omega⟩ dX0_bestPair_41 (by decide) (fun z4 => ?_) (fun z4 => ?_)
            · refine xi_inc (lv' := [(4, .int (iI ((p : Int) + 1))), (5, .int (iI ((p + 1 + j : Nat) : Int))), (3, .int (iI ((swI (swV e1 n) p (swO (swV e1 n) (e1 1).toNat ((-1 : Int), sumA (seaN e1 n.toNat) 3) p) j).1))), (2, .int (iI ((swI (swV e1 n) p (swO (swV e1 n) (e1 1).toNat ((-1 : Int), sumA (seaN e1 n.toNat) 3) p) j).2))), (0, .ref (a 0)), (1, .int (iI n))]) hx hb dX0_bestPair_108 hl (k := 1) rfl (by decide) rfl (fun ls hl => ?_)
              refine lv_goto (tgt := 14) hx hb dX0_bestPair_111 (by decide) ?_
              have hq5 : ((p : Int) + 1) = ((p + 1) : Int) := by omega
              have hq6 : ((swI (swV e1 n) p (swO (swV e1 n) (e1 1).toNat ((-1 : Int), sumA (seaN e1 n.toNat) 3) p) j).1) = ((swO (swV e1 n) (e1 1).toNat ((-1 : Int), sumA (seaN e1 n.toNat) 3) (p + 1)).1) := by show _ = (swI (swV e1 n) p (swO (swV e1 n) (e1 1).toNat ((-1 : Int), sumA (seaN e1 n.toNat) 3) p) ((e1 1).toNat - (p + 1))).1; rw [show (e1 1).toNat - (p + 1) = j by omega]
              have hq7 : ((swI (swV e1 n) p (swO (swV e1 n) (e1 1).toNat ((-1 : Int), sumA (seaN e1 n.toNat) 3) p) j).2) = ((swO (swV e1 n) (e1 1).toNat ((-1 : Int), sumA (seaN e1 n.toNat) 3) (p + 1)).2) := by show _ = (swI (swV e1 n) p (swO (swV e1 n) (e1 1).toNat ((-1 : Int), sumA (seaN e1 n.toNat) 3) p) ((e1 1).toNat - (p + 1))).2; rw [show (e1 1).toNat - (p + 1) = j by omega]
              have hl : lv_has ls 6 [(4, .int (iI ((p : Int) + 1))), (3, .int (iI ((swI (swV e1 n) p (swO (swV e1 n) (e1 1).toNat ((-1 : Int), sumA (seaN e1 n.toNat) 3) p) j).1))), (2, .int (iI ((swI (swV e1 n) p (swO (swV e1 n) (e1 1).toNat ((-1 : Int), sumA (seaN e1 n.toNat) 3) p) j).2))), (0, .ref (a 0)), (1, .int (iI n))] := lv_sub hl [0, 2, 3, 4, 5] rfl
              have hl := Eq.mp (congrArg (fun z9 => lv_has ls 6 [(4, .int (iI z9)), (3, .int (iI ((swI (swV e1 n) p (swO (swV e1 n) (e1 1).toNat ((-1 : Int), sumA (seaN e1 n.toNat) 3) p) j).1))), (2, .int (iI ((swI (swV e1 n) p (swO (swV e1 n) (e1 1).toNat ((-1 : Int), sumA (seaN e1 n.toNat) 3) p) j).2))), (0, .ref (a 0)), (1, .int (iI n))]) hq5) hl
              have hl := Eq.mp (congrArg (fun z9 => lv_has ls 6 [(4, .int (iI ((p + 1) : Int))), (3, .int (iI z9)), (2, .int (iI ((swI (swV e1 n) p (swO (swV e1 n) (e1 1).toNat ((-1 : Int), sumA (seaN e1 n.toNat) 3) p) j).2))), (0, .ref (a 0)), (1, .int (iI n))]) hq6) hl
              have hl := Eq.mp (congrArg (fun z9 => lv_has ls 6 [(4, .int (iI ((p + 1) : Int))), (3, .int (iI ((swO (swV e1 n) (e1 1).toNat ((-1 : Int), sumA (seaN e1 n.toNat) 3) (p + 1)).1))), (2, .int (iI z9)), (0, .ref (a 0)), (1, .int (iI n))]) hq7) hl
              exact ih14 (p + 1) v8 x8 y8 (by omega) (by omega) ls hl H locs hP hD hS
            · have e09 : (swp e1 (p : Int) ((p + 1 + j : Nat) : Int)) 0 = e1 0 := by unfold swp; rw [up_n (by omega), up_n (by omega)]
              have hIu : InvK 0 (swp e1 (p : Int) ((p + 1 + j : Nat) : Int)) := hI.sw2 (by omega) (by omega) (by omega) (by omega) (by omega)
              have hsx := seaN_inv hIu n.toNat (by rw [e09]; omega)
              have hvv := hvb p (p + 1 + j) (by omega) (by omega) (by omega)
              have hv9 : swV e1 n p (p + 1 + j) = sumA (seaN (swp e1 (p : Int) ((p + 1 + j : Nat) : Int)) n.toNat) 3 := rfl
              refine lv_aload_n hx hb dX0_bestPair_44 rfl (lv_at hl 4 rfl) ?_
              refine xg_X0 hx hb hts hown hK hP0 0 rfl 1 (by decide) fk_X0_12 (v := .ref (d 0)) rfl dX0_bestPair_45 ?_
              refine lv_aload_n hx hb dX0_bestPair_48 rfl (lv_at hl 4 rfl) ?_
              refine xg_X0 hx hb hts hown hK hP0 0 rfl 0 (by decide) fk_X0_22 (v := .ref (b 0)) rfl dX0_bestPair_49 ?_
              have hD : va_D (va_A (wF g a b d f1 ++ (wLs g b e1 e10 e11 ++ (wLs g d t1 t10 t11))) s.heap.size) (wF g a b d f1 ++ (wLs g d v8 x8 y8 ++ (wLs g b e1 e10 e11))) := D_perm (List.Perm.append_left _ (List.perm_append_comm)) hD
              have hD : va_D (va_A (wF g a b d f1 ++ (wLs g b e1 e10 e11 ++ (wLs g d t1 t10 t11))) s.heap.size) (wLs g d v8 x8 y8 ++ (wF g a b d f1 ++ (wLs g b e1 e10 e11))) := D_perm (List.perm_append_comm_assoc _ _ _) hD
              have hD : va_D (va_A (wF g a b d f1 ++ (wLs g b e1 e10 e11 ++ (wLs g d t1 t10 t11))) s.heap.size) (wLs g d v8 x8 y8 ++ (wLs g b e1 e10 e11 ++ (wF g a b d f1))) := D_perm (List.Perm.append_left _ (List.perm_append_comm)) hD
              have hP : va_P g.1 vwCl (wLs g d v8 x8 y8 ++ (wLs g b e1 e10 e11 ++ (wF g a b d f1))) H := va_P_app.mpr ⟨hP2, va_P_app.mpr ⟨hP1, hP0⟩⟩
              have hP : va_P g.1 vwCl ((wLs g d v8 x8 y8 ++ (wLs g b e1 e10 e11)) ++ (wF g a b d f1)) H := by rw [List.append_assoc]; exact hP
              have hD : va_D (va_A (wF g a b d f1 ++ (wLs g b e1 e10 e11 ++ (wLs g d t1 t10 t11))) s.heap.size) ((wLs g d v8 x8 y8 ++ (wLs g b e1 e10 e11)) ++ (wF g a b d f1)) := by rw [List.append_assoc]; exact hD
              refine xmF_v (rVN (rest := []) hx hb hml hown hts hK hl (c_X1_becomes l g d v8 x8 y8 b e1 e10 e11 H.size ) lk_X0_25 ⟨rfl, (va_P_app.mp hP).1, (va_D_app hD).1.weaken (fun _ _ _ _ => trivial)⟩ (va_recv hK.1 hP2 (ci := 1) (q0 := 0) rfl rfl) rfl rfl rfl (Rm.of rfl) rfl rfl dX0_bestPair_52) hP hD hS hA (fun _ H locs hw hP hD hS => ?_)
              have hP : va_P g.1 vwCl ((wLs g d e1 x8 y8 ++ (wLs g b e1 e10 e11)) ++ (wF g a b d f1)) H := hP
              have hD : va_D (va_A (wF g a b d f1 ++ (wLs g b e1 e10 e11 ++ (wLs g d t1 t10 t11))) s.heap.size) ((wLs g d e1 x8 y8 ++ (wLs g b e1 e10 e11)) ++ (wF g a b d f1)) := hD
              rw [List.append_assoc] at hP hD
              have hP : va_P g.1 vwCl (wLs g d e1 x8 y8 ++ (wLs g b e1 e10 e11 ++ (wF g a b d f1))) H := hP
              have hD : va_D (va_A (wF g a b d f1 ++ (wLs g b e1 e10 e11 ++ (wLs g d t1 t10 t11))) s.heap.size) (wLs g d e1 x8 y8 ++ (wLs g b e1 e10 e11 ++ (wF g a b d f1))) := hD
              obtain ⟨hP2, hPr0⟩ := va_P_app.mp hP
              obtain ⟨hP1, hP0⟩ := va_P_app.mp hPr0
              refine lv_aload_n hx hb dX0_bestPair_55 rfl (lv_at hl 4 rfl) ?_
              refine xg_X0 hx hb hts hown hK hP0 0 rfl 1 (by decide) fk_X0_12 (v := .ref (d 0)) rfl dX0_bestPair_56 ?_
              refine lv_iload hx hb dX0_bestPair_59 (lv_at hl 1 rfl) ?_
              refine lv_iload hx hb dX0_bestPair_61 (lv_at hl 0 rfl) ?_
              refine xmF_v (rVN (rest := []) hx hb hml hown hts hK hl (c_X1_changePlaces l g d e1 x8 y8 (p : Int) ((p + 1 + j : Nat) : Int) H.size (show 0 ≤ (p : Int) ∧ (p : Int) < 8 from by omega) (show 0 ≤ ((p + 1 + j : Nat) : Int) ∧ ((p + 1 + j : Nat) : Int) < 8 from by omega)) lk_X0_89 ⟨rfl, hP2, (va_D_app hD).1.weaken (fun _ _ _ _ => trivial)⟩ (va_recv hK.1 hP2 (ci := 1) (q0 := 0) rfl rfl) rfl rfl rfl (Rm.of rfl) rfl rfl dX0_bestPair_63) hP hD hS hA (fun _ H locs hw hP hD hS => ?_)
              have hP : va_P g.1 vwCl (wLs g d (swp e1 (p : Int) ((p + 1 + j : Nat) : Int)) x8 y8 ++ (wLs g b e1 e10 e11 ++ (wF g a b d f1))) H := hP
              have hD : va_D (va_A (wF g a b d f1 ++ (wLs g b e1 e10 e11 ++ (wLs g d t1 t10 t11))) s.heap.size) (wLs g d (swp e1 (p : Int) ((p + 1 + j : Nat) : Int)) x8 y8 ++ (wLs g b e1 e10 e11 ++ (wF g a b d f1))) := hD
              obtain ⟨hP2, hPr0⟩ := va_P_app.mp hP
              obtain ⟨hP1, hP0⟩ := va_P_app.mp hPr0
              refine lv_aload_n hx hb dX0_bestPair_66 rfl (lv_at hl 4 rfl) ?_
              refine xg_X0 hx hb hts hown hK hP0 0 rfl 1 (by decide) fk_X0_12 (v := .ref (d 0)) rfl dX0_bestPair_67 ?_
              refine lv_iload_n hx hb dX0_bestPair_70 rfl (lv_at hl 5 rfl) ?_
              refine xmF_v (rVN (rest := []) hx hb hml hown hts hK hl (c_X1_goSeasons l g d (swp e1 (p : Int) ((p + 1 + j : Nat) : Int)) x8 y8 n H.size (show InvK 0 (swp e1 (p : Int) ((p + 1 + j : Nat) : Int)) from hIu) (show 0 ≤ n ∧ (swp e1 (p : Int) ((p + 1 + j : Nat) : Int)) 0 + n ≤ 20000 from ⟨by omega, by rw [e09]; omega⟩)) lk_X0_29 ⟨rfl, hP2, (va_D_app hD).1.weaken (fun _ _ _ _ => trivial)⟩ (va_recv hK.1 hP2 (ci := 1) (q0 := 0) rfl rfl) rfl rfl rfl (Rm.of rfl) rfl rfl dX0_bestPair_71) hP hD hS hA (fun u10 H locs hw hP hD hS => ?_)
              have hP : va_P g.1 vwCl (wLs g d (seaN (swp e1 (p : Int) ((p + 1 + j : Nat) : Int)) (Int.toNat n)) (u10 10) (u10 11) ++ (wLs g b e1 e10 e11 ++ (wF g a b d f1))) H := hP
              have hD : va_D (va_A (wF g a b d f1 ++ (wLs g b e1 e10 e11 ++ (wLs g d t1 t10 t11))) s.heap.size) (wLs g d (seaN (swp e1 (p : Int) ((p + 1 + j : Nat) : Int)) (Int.toNat n)) (u10 10) (u10 11) ++ (wLs g b e1 e10 e11 ++ (wF g a b d f1))) := hD
              obtain ⟨hP2, hPr0⟩ := va_P_app.mp hP
              obtain ⟨hP1, hP0⟩ := va_P_app.mp hPr0
              refine lv_aload_n hx hb dX0_bestPair_74 rfl (lv_at hl 4 rfl) ?_
              refine xg_X0 hx hb hts hown hK hP0 0 rfl 1 (by decide) fk_X0_12 (v := .ref (d 0)) rfl dX0_bestPair_75 ?_
              refine xu_i (x := iI (sumA (seaN (swp e1 (p : Int) ((p + 1 + j : Nat) : Int)) (Int.toNat n)) 3)) (rVN (rest := []) hx hb hml hown hts hK hl (c_X1_allSteps l g d (seaN (swp e1 (p : Int) ((p + 1 + j : Nat) : Int)) (Int.toNat n)) (u10 10) (u10 11) (show 0 ≤ (seaN (swp e1 (p : Int) ((p + 1 + j : Nat) : Int)) (Int.toNat n)) 1 ∧ (seaN (swp e1 (p : Int) ((p + 1 + j : Nat) : Int)) (Int.toNat n)) 1 ≤ 8 from hsx.1.num)) lk_X0_76 hP2 (va_recv hK.1 hP2 (ci := 1) (q0 := 0) rfl rfl) rfl rfl rfl (Rm.of rfl) rfl rfl dX0_bestPair_78) ?_
              refine lv_iload_n hx hb dX0_bestPair_81 rfl (lv_at hl 3 rfl) ?_
              refine xi_c_le (tgt := 102) hx hb ⟨by omega, by omega⟩ ⟨by omega, by omega⟩ dX0_bestPair_82 (by decide) (fun z12 => ?_) (fun z12 => ?_)
              · refine xi_inc (lv' := [(5, .int (iI (((p + 1 + j : Nat) : Int) + 1))), (4, .int (iI (p : Int))), (3, .int (iI ((swI (swV e1 n) p (swO (swV e1 n) (e1 1).toNat ((-1 : Int), sumA (seaN e1 n.toNat) 3) p) j).1))), (2, .int (iI ((swI (swV e1 n) p (swO (swV e1 n) (e1 1).toNat ((-1 : Int), sumA (seaN e1 n.toNat) 3) p) j).2))), (0, .ref (a 0)), (1, .int (iI n))]) hx hb dX0_bestPair_102 hl (k := 0) rfl (by decide) rfl (fun ls hl => ?_)
                refine lv_goto (tgt := 32) hx hb dX0_bestPair_105 (by decide) ?_
                have hq13 : (((p + 1 + j : Nat) : Int) + 1) = ((p + 1 + (j + 1) : Nat) : Int) := by omega
                have hq14 : ((swI (swV e1 n) p (swO (swV e1 n) (e1 1).toNat ((-1 : Int), sumA (seaN e1 n.toNat) 3) p) j).1) = ((swI (swV e1 n) p (swO (swV e1 n) (e1 1).toNat ((-1 : Int), sumA (seaN e1 n.toNat) 3) p) (j + 1)).1) := by simp only [swI]; first | (rw [if_pos (by omega)]; done) | (rw [if_pos (by omega)]; dsimp only; omega) | (rw [if_neg (by omega)]; done) | (exfalso; omega)
                have hq15 : ((swI (swV e1 n) p (swO (swV e1 n) (e1 1).toNat ((-1 : Int), sumA (seaN e1 n.toNat) 3) p) j).2) = ((swI (swV e1 n) p (swO (swV e1 n) (e1 1).toNat ((-1 : Int), sumA (seaN e1 n.toNat) 3) p) (j + 1)).2) := by simp only [swI]; first | (rw [if_pos (by omega)]; done) | (rw [if_pos (by omega)]; dsimp only; omega) | (rw [if_neg (by omega)]; done) | (exfalso; omega)
                have hl : lv_has ls 6 [(5, .int (iI (((p + 1 + j : Nat) : Int) + 1))), (4, .int (iI (p : Int))), (3, .int (iI ((swI (swV e1 n) p (swO (swV e1 n) (e1 1).toNat ((-1 : Int), sumA (seaN e1 n.toNat) 3) p) j).1))), (2, .int (iI ((swI (swV e1 n) p (swO (swV e1 n) (e1 1).toNat ((-1 : Int), sumA (seaN e1 n.toNat) 3) p) j).2))), (0, .ref (a 0)), (1, .int (iI n))] := lv_sub hl [0, 1, 2, 3, 4, 5] rfl
                have hl := Eq.mp (congrArg (fun z9 => lv_has ls 6 [(5, .int (iI z9)), (4, .int (iI (p : Int))), (3, .int (iI ((swI (swV e1 n) p (swO (swV e1 n) (e1 1).toNat ((-1 : Int), sumA (seaN e1 n.toNat) 3) p) j).1))), (2, .int (iI ((swI (swV e1 n) p (swO (swV e1 n) (e1 1).toNat ((-1 : Int), sumA (seaN e1 n.toNat) 3) p) j).2))), (0, .ref (a 0)), (1, .int (iI n))]) hq13) hl
                have hl := Eq.mp (congrArg (fun z9 => lv_has ls 6 [(5, .int (iI ((p + 1 + (j + 1) : Nat) : Int))), (4, .int (iI (p : Int))), (3, .int (iI z9)), (2, .int (iI ((swI (swV e1 n) p (swO (swV e1 n) (e1 1).toNat ((-1 : Int), sumA (seaN e1 n.toNat) 3) p) j).2))), (0, .ref (a 0)), (1, .int (iI n))]) hq14) hl
                have hl := Eq.mp (congrArg (fun z9 => lv_has ls 6 [(5, .int (iI ((p + 1 + (j + 1) : Nat) : Int))), (4, .int (iI (p : Int))), (3, .int (iI ((swI (swV e1 n) p (swO (swV e1 n) (e1 1).toNat ((-1 : Int), sumA (seaN e1 n.toNat) 3) p) (j + 1)).1))), (2, .int (iI z9)), (0, .ref (a 0)), (1, .int (iI n))]) hq15) hl
                have hD : va_D (va_A (wF g a b d f1 ++ (wLs g b e1 e10 e11 ++ (wLs g d t1 t10 t11))) s.heap.size) (wLs g d (seaN (swp e1 (p : Int) ((p + 1 + j : Nat) : Int)) (Int.toNat n)) (u10 10) (u10 11) ++ (wF g a b d f1 ++ (wLs g b e1 e10 e11))) := D_perm (List.Perm.append_left _ (List.perm_append_comm)) hD
                have hD : va_D (va_A (wF g a b d f1 ++ (wLs g b e1 e10 e11 ++ (wLs g d t1 t10 t11))) s.heap.size) (wF g a b d f1 ++ (wLs g d (seaN (swp e1 (p : Int) ((p + 1 + j : Nat) : Int)) (Int.toNat n)) (u10 10) (u10 11) ++ (wLs g b e1 e10 e11))) := D_perm (List.perm_append_comm_assoc _ _ _) hD
                have hD : va_D (va_A (wF g a b d f1 ++ (wLs g b e1 e10 e11 ++ (wLs g d t1 t10 t11))) s.heap.size) (wF g a b d f1 ++ (wLs g b e1 e10 e11 ++ (wLs g d (seaN (swp e1 (p : Int) ((p + 1 + j : Nat) : Int)) (Int.toNat n)) (u10 10) (u10 11)))) := D_perm (List.Perm.append_left _ (List.perm_append_comm)) hD
                have hP : va_P g.1 vwCl (wF g a b d f1 ++ (wLs g b e1 e10 e11 ++ (wLs g d (seaN (swp e1 (p : Int) ((p + 1 + j : Nat) : Int)) (Int.toNat n)) (u10 10) (u10 11)))) H := va_P_app.mpr ⟨hP0, va_P_app.mpr ⟨hP1, hP2⟩⟩
                exact ih32 (j + 1) (seaN (swp e1 (p : Int) ((p + 1 + j : Nat) : Int)) (Int.toNat n)) (u10 10) (u10 11) (by omega) (by omega) ls hl H locs hP hD hS
              · refine lv_aload_n hx hb dX0_bestPair_85 rfl (lv_at hl 4 rfl) ?_
                refine xg_X0 hx hb hts hown hK hP0 0 rfl 1 (by decide) fk_X0_12 (v := .ref (d 0)) rfl dX0_bestPair_86 ?_
                refine xu_i (x := iI (sumA (seaN (swp e1 (p : Int) ((p + 1 + j : Nat) : Int)) (Int.toNat n)) 3)) (rVN (rest := []) hx hb hml hown hts hK hl (c_X1_allSteps l g d (seaN (swp e1 (p : Int) ((p + 1 + j : Nat) : Int)) (Int.toNat n)) (u10 10) (u10 11) (show 0 ≤ (seaN (swp e1 (p : Int) ((p + 1 + j : Nat) : Int)) (Int.toNat n)) 1 ∧ (seaN (swp e1 (p : Int) ((p + 1 + j : Nat) : Int)) (Int.toNat n)) 1 ≤ 8 from hsx.1.num)) lk_X0_76 hP2 (va_recv hK.1 hP2 (ci := 1) (q0 := 0) rfl rfl) rfl rfl rfl (Rm.of rfl) rfl rfl dX0_bestPair_89) ?_
                refine lv_istore_n (lv' := [(2, .int (iI (sumA (seaN (swp e1 (p : Int) ((p + 1 + j : Nat) : Int)) (Int.toNat n)) 3))), (5, .int (iI ((p + 1 + j : Nat) : Int))), (4, .int (iI (p : Int))), (3, .int (iI ((swI (swV e1 n) p (swO (swV e1 n) (e1 1).toNat ((-1 : Int), sumA (seaN e1 n.toNat) 3) p) j).1))), (0, .ref (a 0)), (1, .int (iI n))]) hx hb dX0_bestPair_92 rfl hl (by decide) rfl (fun ls hl => ?_)
                refine lv_bipush (v := iI (10)) hx hb dX0_bestPair_93 (by decide) ?_
                refine lv_iload hx hb dX0_bestPair_95 (lv_at hl 2 rfl) ?_
                refine xi_mul hx hb dX0_bestPair_97 ?_
                refine lv_iload hx hb dX0_bestPair_98 (lv_at hl 1 rfl) ?_
                refine xi_add hx hb dX0_bestPair_100 ?_
                refine lv_istore_n (lv' := [(3, .int (iI (10 * (p : Int) + ((p + 1 + j : Nat) : Int)))), (2, .int (iI (sumA (seaN (swp e1 (p : Int) ((p + 1 + j : Nat) : Int)) (Int.toNat n)) 3))), (5, .int (iI ((p + 1 + j : Nat) : Int))), (4, .int (iI (p : Int))), (0, .ref (a 0)), (1, .int (iI n))]) hx hb dX0_bestPair_101 rfl hl (by decide) rfl (fun ls hl => ?_)
                refine xi_inc (lv' := [(5, .int (iI (((p + 1 + j : Nat) : Int) + 1))), (3, .int (iI (10 * (p : Int) + ((p + 1 + j : Nat) : Int)))), (2, .int (iI (sumA (seaN (swp e1 (p : Int) ((p + 1 + j : Nat) : Int)) (Int.toNat n)) 3))), (4, .int (iI (p : Int))), (0, .ref (a 0)), (1, .int (iI n))]) hx hb dX0_bestPair_102 hl (k := 2) rfl (by decide) rfl (fun ls hl => ?_)
                refine lv_goto (tgt := 32) hx hb dX0_bestPair_105 (by decide) ?_
                have hq17 : (((p + 1 + j : Nat) : Int) + 1) = ((p + 1 + (j + 1) : Nat) : Int) := by omega
                have hq18 : (10 * (p : Int) + ((p + 1 + j : Nat) : Int)) = ((swI (swV e1 n) p (swO (swV e1 n) (e1 1).toNat ((-1 : Int), sumA (seaN e1 n.toNat) 3) p) (j + 1)).1) := by simp only [swI]; first | (rw [if_pos (by omega)]; done) | (rw [if_pos (by omega)]; dsimp only; omega) | (rw [if_neg (by omega)]; done) | (exfalso; omega)
                have hq19 : (sumA (seaN (swp e1 (p : Int) ((p + 1 + j : Nat) : Int)) (Int.toNat n)) 3) = ((swI (swV e1 n) p (swO (swV e1 n) (e1 1).toNat ((-1 : Int), sumA (seaN e1 n.toNat) 3) p) (j + 1)).2) := by simp only [swI]; first | (rw [if_pos (by omega)]; done) | (rw [if_pos (by omega)]; dsimp only; omega) | (rw [if_neg (by omega)]; done) | (exfalso; omega)
                have hl : lv_has ls 6 [(5, .int (iI (((p + 1 + j : Nat) : Int) + 1))), (4, .int (iI (p : Int))), (3, .int (iI (10 * (p : Int) + ((p + 1 + j : Nat) : Int)))), (2, .int (iI (sumA (seaN (swp e1 (p : Int) ((p + 1 + j : Nat) : Int)) (Int.toNat n)) 3))), (0, .ref (a 0)), (1, .int (iI n))] := lv_sub hl [0, 3, 1, 2, 4, 5] rfl
                have hl := Eq.mp (congrArg (fun z9 => lv_has ls 6 [(5, .int (iI z9)), (4, .int (iI (p : Int))), (3, .int (iI (10 * (p : Int) + ((p + 1 + j : Nat) : Int)))), (2, .int (iI (sumA (seaN (swp e1 (p : Int) ((p + 1 + j : Nat) : Int)) (Int.toNat n)) 3))), (0, .ref (a 0)), (1, .int (iI n))]) hq17) hl
                have hl := Eq.mp (congrArg (fun z9 => lv_has ls 6 [(5, .int (iI ((p + 1 + (j + 1) : Nat) : Int))), (4, .int (iI (p : Int))), (3, .int (iI z9)), (2, .int (iI (sumA (seaN (swp e1 (p : Int) ((p + 1 + j : Nat) : Int)) (Int.toNat n)) 3))), (0, .ref (a 0)), (1, .int (iI n))]) hq18) hl
                have hl := Eq.mp (congrArg (fun z9 => lv_has ls 6 [(5, .int (iI ((p + 1 + (j + 1) : Nat) : Int))), (4, .int (iI (p : Int))), (3, .int (iI ((swI (swV e1 n) p (swO (swV e1 n) (e1 1).toNat ((-1 : Int), sumA (seaN e1 n.toNat) 3) p) (j + 1)).1))), (2, .int (iI z9)), (0, .ref (a 0)), (1, .int (iI n))]) hq19) hl
                have hD : va_D (va_A (wF g a b d f1 ++ (wLs g b e1 e10 e11 ++ (wLs g d t1 t10 t11))) s.heap.size) (wLs g d (seaN (swp e1 (p : Int) ((p + 1 + j : Nat) : Int)) (Int.toNat n)) (u10 10) (u10 11) ++ (wF g a b d f1 ++ (wLs g b e1 e10 e11))) := D_perm (List.Perm.append_left _ (List.perm_append_comm)) hD
                have hD : va_D (va_A (wF g a b d f1 ++ (wLs g b e1 e10 e11 ++ (wLs g d t1 t10 t11))) s.heap.size) (wF g a b d f1 ++ (wLs g d (seaN (swp e1 (p : Int) ((p + 1 + j : Nat) : Int)) (Int.toNat n)) (u10 10) (u10 11) ++ (wLs g b e1 e10 e11))) := D_perm (List.perm_append_comm_assoc _ _ _) hD
                have hD : va_D (va_A (wF g a b d f1 ++ (wLs g b e1 e10 e11 ++ (wLs g d t1 t10 t11))) s.heap.size) (wF g a b d f1 ++ (wLs g b e1 e10 e11 ++ (wLs g d (seaN (swp e1 (p : Int) ((p + 1 + j : Nat) : Int)) (Int.toNat n)) (u10 10) (u10 11)))) := D_perm (List.Perm.append_left _ (List.perm_append_comm)) hD
                have hP : va_P g.1 vwCl (wF g a b d f1 ++ (wLs g b e1 e10 e11 ++ (wLs g d (seaN (swp e1 (p : Int) ((p + 1 + j : Nat) : Int)) (Int.toNat n)) (u10 10) (u10 11)))) H := va_P_app.mpr ⟨hP0, va_P_app.mpr ⟨hP1, hP2⟩⟩
                exact ih32 (j + 1) (seaN (swp e1 (p : Int) ((p + 1 + j : Nat) : Int)) (Int.toNat n)) (u10 10) (u10 11) (by omega) (by omega) ls hl H locs hP hD hS
        have hq20 : ((p : Int) + 1) = ((p + 1 + 0 : Nat) : Int) := by omega
        have hq21 : ((swO (swV e1 n) (e1 1).toNat ((-1 : Int), sumA (seaN e1 n.toNat) 3) p).1) = ((swI (swV e1 n) p (swO (swV e1 n) (e1 1).toNat ((-1 : Int), sumA (seaN e1 n.toNat) 3) p) 0).1) := rfl
        have hq22 : ((swO (swV e1 n) (e1 1).toNat ((-1 : Int), sumA (seaN e1 n.toNat) 3) p).2) = ((swI (swV e1 n) p (swO (swV e1 n) (e1 1).toNat ((-1 : Int), sumA (seaN e1 n.toNat) 3) p) 0).2) := rfl
        have hl : lv_has ls 6 [(5, .int (iI ((p : Int) + 1))), (4, .int (iI (p : Int))), (3, .int (iI ((swO (swV e1 n) (e1 1).toNat ((-1 : Int), sumA (seaN e1 n.toNat) 3) p).1))), (2, .int (iI ((swO (swV e1 n) (e1 1).toNat ((-1 : Int), sumA (seaN e1 n.toNat) 3) p).2))), (0, .ref (a 0)), (1, .int (iI n))] := lv_sub hl [0, 1, 2, 3, 4, 5] rfl
        have hl := Eq.mp (congrArg (fun z9 => lv_has ls 6 [(5, .int (iI z9)), (4, .int (iI (p : Int))), (3, .int (iI ((swO (swV e1 n) (e1 1).toNat ((-1 : Int), sumA (seaN e1 n.toNat) 3) p).1))), (2, .int (iI ((swO (swV e1 n) (e1 1).toNat ((-1 : Int), sumA (seaN e1 n.toNat) 3) p).2))), (0, .ref (a 0)), (1, .int (iI n))]) hq20) hl
        have hl := Eq.mp (congrArg (fun z9 => lv_has ls 6 [(5, .int (iI ((p + 1 + 0 : Nat) : Int))), (4, .int (iI (p : Int))), (3, .int (iI z9)), (2, .int (iI ((swO (swV e1 n) (e1 1).toNat ((-1 : Int), sumA (seaN e1 n.toNat) 3) p).2))), (0, .ref (a 0)), (1, .int (iI n))]) hq21) hl
        have hl := Eq.mp (congrArg (fun z9 => lv_has ls 6 [(5, .int (iI ((p + 1 + 0 : Nat) : Int))), (4, .int (iI (p : Int))), (3, .int (iI ((swI (swV e1 n) p (swO (swV e1 n) (e1 1).toNat ((-1 : Int), sumA (seaN e1 n.toNat) 3) p) 0).1))), (2, .int (iI z9)), (0, .ref (a 0)), (1, .int (iI n))]) hq22) hl
        exact lp32 (8 + 1) 0 v9 x9 y9 (by omega) (by omega) ls hl H locs hP hD hS
  have hq23 : 0 = (0 : Int) := rfl
  have hq24 : (-1) = ((swO (swV e1 n) (e1 1).toNat ((-1 : Int), sumA (seaN e1 n.toNat) 3) 0).1) := rfl
  have hq25 : (sumA (seaN e1 (Int.toNat n)) 3) = ((swO (swV e1 n) (e1 1).toNat ((-1 : Int), sumA (seaN e1 n.toNat) 3) 0).2) := rfl
  have hl : lv_has ls 6 [(4, .int (iI 0)), (3, .int (iI (-1))), (2, .int (iI (sumA (seaN e1 (Int.toNat n)) 3))), (0, .ref (a 0)), (1, .int (iI n))] := lv_sub hl [0, 1, 2, 3, 4] rfl
  have hl := Eq.mp (congrArg (fun z9 => lv_has ls 6 [(4, .int (iI z9)), (3, .int (iI (-1))), (2, .int (iI (sumA (seaN e1 (Int.toNat n)) 3))), (0, .ref (a 0)), (1, .int (iI n))]) hq23) hl
  have hl := Eq.mp (congrArg (fun z9 => lv_has ls 6 [(4, .int (iI (0 : Int))), (3, .int (iI z9)), (2, .int (iI (sumA (seaN e1 (Int.toNat n)) 3))), (0, .ref (a 0)), (1, .int (iI n))]) hq24) hl
  have hl := Eq.mp (congrArg (fun z9 => lv_has ls 6 [(4, .int (iI (0 : Int))), (3, .int (iI ((swO (swV e1 n) (e1 1).toNat ((-1 : Int), sumA (seaN e1 n.toNat) 3) 0).1))), (2, .int (iI z9)), (0, .ref (a 0)), (1, .int (iI n))]) hq25) hl
  exact lp14 (8 + 1) 0 (seaN e1 (Int.toNat n)) (u1 210) (u1 211) (by omega) (by omega) ls hl H locs hP hD hS
abbrev rm_X0_lookForBlockedCells : Room := { frames := 3, cells := 0, slots := 0, locals := 101 }
set_option maxRecDepth 100000 in
set_option maxHeartbeats 4000000 in
theorem c_X0_lookForBlockedCells (l : Launch) (g : Gd) (a : Nat → Nat) (f1 : Int → Int) (b : Nat → Nat) (e1 : Int → Int) (e10 : Int → Int) (e11 : Int → Int) (d : Nat → Nat) (t1 : Int → Int) (t10 : Int → Int) (t11 : Int → Int) (n : Int) (sz : Nat) (h1 : InvK 0 e1) (h2 : e1 0 ≤ 9999) (h3 : 0 ≤ n ∧ n ≤ 100) : Met l yX0_lookForBlockedCells (wsOf yX0_lookForBlockedCells cX0_lookForBlockedCells 3 none) rm_X0_lookForBlockedCells (PX g (wP g (wF g a b d f1 ++ (wLs g b e1 e10 e11 ++ (wLs g d t1 t10 t11))) sz) [.ref (a 0), .int (iI n)]) (QMv g (fun u9 : Nat → Int → Int => wF g a b d (cpT (fun j : Int => (blS (seaN e1 j.toNat)).toInt) f1 n) ++ (wLs g b e1 e10 e11 ++ (wLs g d (u9 201) (u9 210) (u9 211)))) (fun _ => True) (va_A (wF g a b d f1 ++ (wLs g b e1 e10 e11 ++ (wLs g d t1 t10 t11))) sz)) 0 0 (va_A (wF g a b d f1 ++ (wLs g b e1 e10 e11 ++ (wLs g d t1 t10 t11))) sz) := by
  refine me (g := g) (by decide) rfl ?_
  intro pq eq s mq below meth cq C hnm hB ls hl
  obtain ⟨hx, hb, hr, hml, hown, hts, hlocks, hK⟩ := C
  have hown : s.vm.findClass RX0 = some mq.cls := hown
  have hl : lv_has ls 3 [(0, .ref (a 0)), (1, .int (iI n))] := hl
  obtain ⟨hsz, hP, hD0⟩ := hB
  subst hsz
  have hD := hD0.self (sz := s.heap.size)
  have hA : ∀ q : Nat, s.heap.size ≤ q → va_A (wF g a b d f1 ++ (wLs g b e1 e10 e11 ++ (wLs g d t1 t10 t11))) s.heap.size q := fun q h => Or.inr h
  have hS : va_S (va_A (wF g a b d f1 ++ (wLs g b e1 e10 e11 ++ (wLs g d t1 t10 t11))) s.heap.size) s.heap s.heap [] := va_S.rf
  obtain ⟨hP0, hPr0⟩ := va_P_app.mp hP
  obtain ⟨hP1, hP2⟩ := va_P_app.mp hPr0
  have hI := h1
  have hI8 : Inv e1 := h1.mono (by omega)
  have hn := hI.num
  have hs := hI.sea
  have hv := hI.vil
  refine lv_aload_n hx hb dX0_lookForBlockedCells_0 rfl (lv_at hl 0 rfl) ?_
  refine xg_X0 hx hb hts hown hK hP0 0 rfl 1 (by decide) fk_X0_12 (v := .ref (d 0)) rfl dX0_lookForBlockedCells_1 ?_
  refine lv_aload_n hx hb dX0_lookForBlockedCells_4 rfl (lv_at hl 0 rfl) ?_
  refine xg_X0 hx hb hts hown hK hP0 0 rfl 0 (by decide) fk_X0_22 (v := .ref (b 0)) rfl dX0_lookForBlockedCells_5 ?_
  have hD : va_D (va_A (wF g a b d f1 ++ (wLs g b e1 e10 e11 ++ (wLs g d t1 t10 t11))) s.heap.size) (wF g a b d f1 ++ (wLs g d t1 t10 t11 ++ (wLs g b e1 e10 e11))) := D_perm (List.Perm.append_left _ (List.perm_append_comm)) hD
  have hD : va_D (va_A (wF g a b d f1 ++ (wLs g b e1 e10 e11 ++ (wLs g d t1 t10 t11))) s.heap.size) (wLs g d t1 t10 t11 ++ (wF g a b d f1 ++ (wLs g b e1 e10 e11))) := D_perm (List.perm_append_comm_assoc _ _ _) hD
  have hD : va_D (va_A (wF g a b d f1 ++ (wLs g b e1 e10 e11 ++ (wLs g d t1 t10 t11))) s.heap.size) (wLs g d t1 t10 t11 ++ (wLs g b e1 e10 e11 ++ (wF g a b d f1))) := D_perm (List.Perm.append_left _ (List.perm_append_comm)) hD
  have hP : va_P g.1 vwCl (wLs g d t1 t10 t11 ++ (wLs g b e1 e10 e11 ++ (wF g a b d f1))) s.heap := va_P_app.mpr ⟨hP2, va_P_app.mpr ⟨hP1, hP0⟩⟩
  have hP : va_P g.1 vwCl ((wLs g d t1 t10 t11 ++ (wLs g b e1 e10 e11)) ++ (wF g a b d f1)) s.heap := by rw [List.append_assoc]; exact hP
  have hD : va_D (va_A (wF g a b d f1 ++ (wLs g b e1 e10 e11 ++ (wLs g d t1 t10 t11))) s.heap.size) ((wLs g d t1 t10 t11 ++ (wLs g b e1 e10 e11)) ++ (wF g a b d f1)) := by rw [List.append_assoc]; exact hD
  refine xmF_v (rVN (rest := []) hx hb hml hown hts hK hl (c_X1_becomes l g d t1 t10 t11 b e1 e10 e11 (s.heap).size ) lk_X0_25 ⟨rfl, (va_P_app.mp hP).1, (va_D_app hD).1.weaken (fun _ _ _ _ => trivial)⟩ (va_recv hK.1 hP2 (ci := 1) (q0 := 0) rfl rfl) rfl rfl rfl (Rm.of rfl) rfl rfl dX0_lookForBlockedCells_8) hP hD hS hA (fun _ H locs hw hP hD hS => ?_)
  have hP : va_P g.1 vwCl ((wLs g d e1 t10 t11 ++ (wLs g b e1 e10 e11)) ++ (wF g a b d f1)) H := hP
  have hD : va_D (va_A (wF g a b d f1 ++ (wLs g b e1 e10 e11 ++ (wLs g d t1 t10 t11))) s.heap.size) ((wLs g d e1 t10 t11 ++ (wLs g b e1 e10 e11)) ++ (wF g a b d f1)) := hD
  rw [List.append_assoc] at hP hD
  have hP : va_P g.1 vwCl (wLs g d e1 t10 t11 ++ (wLs g b e1 e10 e11 ++ (wF g a b d f1))) H := hP
  have hD : va_D (va_A (wF g a b d f1 ++ (wLs g b e1 e10 e11 ++ (wLs g d t1 t10 t11))) s.heap.size) (wLs g d e1 t10 t11 ++ (wLs g b e1 e10 e11 ++ (wF g a b d f1))) := hD
  obtain ⟨hP2, hPr0⟩ := va_P_app.mp hP
  obtain ⟨hP1, hP0⟩ := va_P_app.mp hPr0
  refine lv_iconst (v := iI (0)) hx hb dX0_lookForBlockedCells_11 (by decide) ?_
  refine lv_istore_n (lv' := [(2, .int (iI 0)), (0, .ref (a 0)), (1, .int (iI n))]) hx hb dX0_lookForBlockedCells_12 rfl hl (by decide) rfl (fun ls hl => ?_)
  have lp13 : ∀ (n13 : Nat) (k : Nat) (x9 : Int → Int) (y9 : Int → Int), ((k : Int) ≤ n) → n.toNat - k < n13 → ∀ ls : Array Slot, lv_has ls 3 [(2, .int (iI (k : Int))), (0, .ref (a 0)), (1, .int (iI n))] → ∀ (H : Heap) (locs : List Loc), va_P g.1 vwCl (wLs g d (seaN e1 k) x9 y9 ++ (wLs g b e1 e10 e11 ++ (wF g a b d (cpT (fun j : Int => (blS (seaN e1 j.toNat)).toInt) f1 (((k) : Nat) : Int))))) H → va_D (va_A (wF g a b d f1 ++ (wLs g b e1 e10 e11 ++ (wLs g d t1 t10 t11))) s.heap.size) (wLs g d (seaN e1 k) x9 y9 ++ (wLs g b e1 e10 e11 ++ (wF g a b d (cpT (fun j : Int => (blS (seaN e1 j.toNat)).toInt) f1 (((k) : Nat) : Int))))) → va_S (va_A (wF g a b d f1 ++ (wLs g b e1 e10 e11 ++ (wLs g d t1 t10 t11))) s.heap.size) s.heap H locs → W pq l eq rm_X0_lookForBlockedCells s mq [.ref (a 0), .int (iI n)].toArray below meth cq H locs 0 0 (MQ below (QMv g (fun u9 : Nat → Int → Int => wF g a b d (cpT (fun j : Int => (blS (seaN e1 j.toNat)).toInt) f1 n) ++ (wLs g b e1 e10 e11 ++ (wLs g d (u9 201) (u9 210) (u9 211)))) (fun _ => True) (va_A (wF g a b d f1 ++ (wLs g b e1 e10 e11 ++ (wLs g d t1 t10 t11))) s.heap.size)) [.ref (a 0), .int (iI n)].toArray s 0 0 (va_A (wF g a b d f1 ++ (wLs g b e1 e10 e11 ++ (wLs g d t1 t10 t11))) s.heap.size)) (F0 mq 13 ls []) := by
    intro n13
    induction n13 with
    | zero => intro k x9 y9 i13_1 hm; exact absurd hm (Nat.not_lt_zero _)
    | succ n13 ih13 =>
      intro k x9 y9 i13_1 hm13 ls hl H locs hP hD hS
      have hsn := seaN_inv hI k (by omega)
      have hs0 := hsn.2.1
      have hk8 : Inv (seaN e1 k) := hsn.1.mono (by omega)
      obtain ⟨hP2, hPr0⟩ := va_P_app.mp hP
      obtain ⟨hP1, hP0⟩ := va_P_app.mp hPr0
      refine lv_iload_n hx hb dX0_lookForBlockedCells_13 rfl (lv_at hl 0 rfl) ?_
      refine lv_iload_n hx hb dX0_lookForBlockedCells_14 rfl (lv_at hl 2 rfl) ?_
      refine xi_c_ge (tgt := 61) hx hb ⟨by omega, by omega⟩ ⟨by omega, by omega⟩ dX0_lookForBlockedCells_15 (by decide) (fun z2 => ?_) (fun z2 => ?_)
      · have hD : va_D (va_A (wF g a b d f1 ++ (wLs g b e1 e10 e11 ++ (wLs g d t1 t10 t11))) s.heap.size) (wLs g d (seaN e1 k) x9 y9 ++ (wF g a b d (cpT (fun j : Int => (blS (seaN e1 j.toNat)).toInt) f1 (((k) : Nat) : Int)) ++ (wLs g b e1 e10 e11))) := D_perm (List.Perm.append_left _ (List.perm_append_comm)) hD
        have hD : va_D (va_A (wF g a b d f1 ++ (wLs g b e1 e10 e11 ++ (wLs g d t1 t10 t11))) s.heap.size) (wF g a b d (cpT (fun j : Int => (blS (seaN e1 j.toNat)).toInt) f1 (((k) : Nat) : Int)) ++ (wLs g d (seaN e1 k) x9 y9 ++ (wLs g b e1 e10 e11))) := D_perm (List.perm_append_comm_assoc _ _ _) hD
        have hD : va_D (va_A (wF g a b d f1 ++ (wLs g b e1 e10 e11 ++ (wLs g d t1 t10 t11))) s.heap.size) (wF g a b d (cpT (fun j : Int => (blS (seaN e1 j.toNat)).toInt) f1 (((k) : Nat) : Int)) ++ (wLs g b e1 e10 e11 ++ (wLs g d (seaN e1 k) x9 y9))) := D_perm (List.Perm.append_left _ (List.perm_append_comm)) hD
        have hP : va_P g.1 vwCl (wF g a b d (cpT (fun j : Int => (blS (seaN e1 j.toNat)).toInt) f1 (((k) : Nat) : Int)) ++ (wLs g b e1 e10 e11 ++ (wLs g d (seaN e1 k) x9 y9))) H := va_P_app.mpr ⟨hP0, va_P_app.mpr ⟨hP1, hP2⟩⟩
        have he3 : (cpT (fun j : Int => (blS (seaN e1 j.toNat)).toInt) f1 (((k) : Nat) : Int)) = (cpT (fun j : Int => (blS (seaN e1 j.toNat)).toInt) f1 n) := by rw [show ((k : Nat) : Int) = n by omega]
        have hP := Eq.mp (congrArg (fun z9 => va_P g.1 vwCl (wF g a b d z9 ++ (wLs g b e1 e10 e11 ++ (wLs g d (seaN e1 k) x9 y9))) H) he3) hP
        have hD := Eq.mp (congrArg (fun z9 => va_D (va_A (wF g a b d f1 ++ (wLs g b e1 e10 e11 ++ (wLs g d t1 t10 t11))) s.heap.size) (wF g a b d z9 ++ (wLs g b e1 e10 e11 ++ (wLs g d (seaN e1 k) x9 y9)))) he3) hD
        obtain ⟨hP0, hPr0⟩ := va_P_app.mp hP
        obtain ⟨hP1, hP2⟩ := va_P_app.mp hPr0
        have hP : va_P g.1 vwCl (wF g a b d (cpT (fun j : Int => (blS (seaN e1 j.toNat)).toInt) f1 n) ++ (wLs g b e1 e10 e11 ++ (wLs g d ((su (su (su (fun _ _ => 0) 201 (seaN e1 k)) 210 x9) 211 y9) 201) ((su (su (su (fun _ _ => 0) 201 (seaN e1 k)) 210 x9) 211 y9) 210) ((su (su (su (fun _ _ => 0) 201 (seaN e1 k)) 210 x9) 211 y9) 211)))) H := hP
        have hD : va_D (va_A (wF g a b d f1 ++ (wLs g b e1 e10 e11 ++ (wLs g d t1 t10 t11))) s.heap.size) (wF g a b d (cpT (fun j : Int => (blS (seaN e1 j.toNat)).toInt) f1 n) ++ (wLs g b e1 e10 e11 ++ (wLs g d ((su (su (su (fun _ _ => 0) 201 (seaN e1 k)) 210 x9) 211 y9) 201) ((su (su (su (fun _ _ => 0) 201 (seaN e1 k)) 210 x9) 211 y9) 210) ((su (su (su (fun _ _ => 0) 201 (seaN e1 k)) 210 x9) 211 y9) 211)))) := hD
        exact W.vret hx hb hr (fun t ht hW => ⟨⟨(su (su (su (fun _ _ => 0) 201 (seaN e1 k)) 210 x9) 211 y9), rfl, trivial, by rw [ht]; exact hP, hD⟩, hS.F ht⟩) hS.2.2 dX0_lookForBlockedCells_61
      · refine lv_iload_n hx hb dX0_lookForBlockedCells_18 rfl (lv_at hl 0 rfl) ?_
        refine lv_aload_n hx hb dX0_lookForBlockedCells_19 rfl (lv_at hl 1 rfl) ?_
        refine xg_X0 hx hb hts hown hK hP0 0 rfl 2 (by decide) fk_X0_18 (v := .ref (a 1)) rfl dX0_lookForBlockedCells_20 ?_
        refine xi_alen hx hb hK hP0 1 rfl (v := 100) rfl dX0_lookForBlockedCells_23 ?_
        refine xi_c_ge (tgt := 61) hx hb ⟨by omega, by omega⟩ ⟨by decide, by decide⟩ dX0_lookForBlockedCells_24 (by decide) (fun z4 => ?_) (fun z4 => ?_)
        · have hD : va_D (va_A (wF g a b d f1 ++ (wLs g b e1 e10 e11 ++ (wLs g d t1 t10 t11))) s.heap.size) (wLs g d (seaN e1 k) x9 y9 ++ (wF g a b d (cpT (fun j : Int => (blS (seaN e1 j.toNat)).toInt) f1 (((k) : Nat) : Int)) ++ (wLs g b e1 e10 e11))) := D_perm (List.Perm.append_left _ (List.perm_append_comm)) hD
          have hD : va_D (va_A (wF g a b d f1 ++ (wLs g b e1 e10 e11 ++ (wLs g d t1 t10 t11))) s.heap.size) (wF g a b d (cpT (fun j : Int => (blS (seaN e1 j.toNat)).toInt) f1 (((k) : Nat) : Int)) ++ (wLs g d (seaN e1 k) x9 y9 ++ (wLs g b e1 e10 e11))) := D_perm (List.perm_append_comm_assoc _ _ _) hD
          have hD : va_D (va_A (wF g a b d f1 ++ (wLs g b e1 e10 e11 ++ (wLs g d t1 t10 t11))) s.heap.size) (wF g a b d (cpT (fun j : Int => (blS (seaN e1 j.toNat)).toInt) f1 (((k) : Nat) : Int)) ++ (wLs g b e1 e10 e11 ++ (wLs g d (seaN e1 k) x9 y9))) := D_perm (List.Perm.append_left _ (List.perm_append_comm)) hD
          have hP : va_P g.1 vwCl (wF g a b d (cpT (fun j : Int => (blS (seaN e1 j.toNat)).toInt) f1 (((k) : Nat) : Int)) ++ (wLs g b e1 e10 e11 ++ (wLs g d (seaN e1 k) x9 y9))) H := va_P_app.mpr ⟨hP0, va_P_app.mpr ⟨hP1, hP2⟩⟩
          have he5 : (cpT (fun j : Int => (blS (seaN e1 j.toNat)).toInt) f1 (((k) : Nat) : Int)) = (cpT (fun j : Int => (blS (seaN e1 j.toNat)).toInt) f1 n) := by rw [show ((k : Nat) : Int) = n by omega]
          have hP := Eq.mp (congrArg (fun z9 => va_P g.1 vwCl (wF g a b d z9 ++ (wLs g b e1 e10 e11 ++ (wLs g d (seaN e1 k) x9 y9))) H) he5) hP
          have hD := Eq.mp (congrArg (fun z9 => va_D (va_A (wF g a b d f1 ++ (wLs g b e1 e10 e11 ++ (wLs g d t1 t10 t11))) s.heap.size) (wF g a b d z9 ++ (wLs g b e1 e10 e11 ++ (wLs g d (seaN e1 k) x9 y9)))) he5) hD
          obtain ⟨hP0, hPr0⟩ := va_P_app.mp hP
          obtain ⟨hP1, hP2⟩ := va_P_app.mp hPr0
          have hP : va_P g.1 vwCl (wF g a b d (cpT (fun j : Int => (blS (seaN e1 j.toNat)).toInt) f1 n) ++ (wLs g b e1 e10 e11 ++ (wLs g d ((su (su (su (fun _ _ => 0) 201 (seaN e1 k)) 210 x9) 211 y9) 201) ((su (su (su (fun _ _ => 0) 201 (seaN e1 k)) 210 x9) 211 y9) 210) ((su (su (su (fun _ _ => 0) 201 (seaN e1 k)) 210 x9) 211 y9) 211)))) H := hP
          have hD : va_D (va_A (wF g a b d f1 ++ (wLs g b e1 e10 e11 ++ (wLs g d t1 t10 t11))) s.heap.size) (wF g a b d (cpT (fun j : Int => (blS (seaN e1 j.toNat)).toInt) f1 n) ++ (wLs g b e1 e10 e11 ++ (wLs g d ((su (su (su (fun _ _ => 0) 201 (seaN e1 k)) 210 x9) 211 y9) 201) ((su (su (su (fun _ _ => 0) 201 (seaN e1 k)) 210 x9) 211 y9) 210) ((su (su (su (fun _ _ => 0) 201 (seaN e1 k)) 210 x9) 211 y9) 211)))) := hD
          exact W.vret hx hb hr (fun t ht hW => ⟨⟨(su (su (su (fun _ _ => 0) 201 (seaN e1 k)) 210 x9) 211 y9), rfl, trivial, by rw [ht]; exact hP, hD⟩, hS.F ht⟩) hS.2.2 dX0_lookForBlockedCells_61
        · refine lv_aload_n hx hb dX0_lookForBlockedCells_27 rfl (lv_at hl 1 rfl) ?_
          refine xg_X0 hx hb hts hown hK hP0 0 rfl 2 (by decide) fk_X0_18 (v := .ref (a 1)) rfl dX0_lookForBlockedCells_28 ?_
          refine lv_iload_n hx hb dX0_lookForBlockedCells_31 rfl (lv_at hl 0 rfl) ?_
          refine lv_aload_n hx hb dX0_lookForBlockedCells_32 rfl (lv_at hl 1 rfl) ?_
          refine xg_X0 hx hb hts hown hK hP0 0 rfl 1 (by decide) fk_X0_12 (v := .ref (d 0)) rfl dX0_lookForBlockedCells_33 ?_
          refine xu_i (x := orT (shT (seaN e1 k)) 24) (rVN (rest := [.int (iI (k : Int)), .ref (a 1)]) hx hb hml hown hts hK hl (c_X1_shutCells l g d (seaN e1 k) x9 y9 (show Inv (seaN e1 k) from hk8)) lk_X0_100 hP2 (va_recv hK.1 hP2 (ci := 1) (q0 := 0) rfl rfl) rfl rfl rfl (Rm.of rfl) rfl rfl dX0_lookForBlockedCells_36) ?_
          refine lv_aload_n hx hb dX0_lookForBlockedCells_39 rfl (lv_at hl 1 rfl) ?_
          refine xg_X0 hx hb hts hown hK hP0 0 rfl 1 (by decide) fk_X0_12 (v := .ref (d 0)) rfl dX0_lookForBlockedCells_40 ?_
          refine xu_i (x := orT (plT (seaN e1 k)) ((seaN e1 k) 1).toNat) (rVN (rest := [.int (orT (shT (seaN e1 k)) 24), .int (iI (k : Int)), .ref (a 1)]) hx hb hml hown hts hK hl (c_X1_takenCells l g d (seaN e1 k) x9 y9 (show Inv (seaN e1 k) from hk8)) lk_X0_103 hP2 (va_recv hK.1 hP2 (ci := 1) (q0 := 0) rfl rfl) rfl rfl rfl (Rm.of rfl) rfl rfl dX0_lookForBlockedCells_43) ?_
          refine lv_ior hx hb dX0_lookForBlockedCells_46 ?_
          refine xi_raw hx hb ?_
          refine xi_ast hx hb hK hP hD hS 25 (f := cpT (fun j : Int => (blS (seaN e1 j.toNat)).toInt) f1 (((k) : Nat) : Int)) rfl (i := (k : Int)) (v := Int32.toInt (((orT (shT (seaN e1 k)) 24)) ||| ((orT (plT (seaN e1 k)) ((seaN e1 k) 1).toNat)))) ⟨by omega, by omega⟩ rfl dX0_lookForBlockedCells_47 (fun H locs hP hD hS => ?_)
          have hP : va_P g.1 vwCl (wLs g d (seaN e1 k) x9 y9 ++ (wLs g b e1 e10 e11 ++ (wF g a b d (up (cpT (fun j : Int => (blS (seaN e1 j.toNat)).toInt) f1 (((k) : Nat) : Int)) (k : Int) (Int32.toInt (((orT (shT (seaN e1 k)) 24)) ||| ((orT (plT (seaN e1 k)) ((seaN e1 k) 1).toNat)))))))) H := hP
          have hD : va_D (va_A (wF g a b d f1 ++ (wLs g b e1 e10 e11 ++ (wLs g d t1 t10 t11))) s.heap.size) (wLs g d (seaN e1 k) x9 y9 ++ (wLs g b e1 e10 e11 ++ (wF g a b d (up (cpT (fun j : Int => (blS (seaN e1 j.toNat)).toInt) f1 (((k) : Nat) : Int)) (k : Int) (Int32.toInt (((orT (shT (seaN e1 k)) 24)) ||| ((orT (plT (seaN e1 k)) ((seaN e1 k) 1).toNat)))))))) := hD
          obtain ⟨hP2, hPr0⟩ := va_P_app.mp hP
          obtain ⟨hP1, hP0⟩ := va_P_app.mp hPr0
          refine lv_aload_n hx hb dX0_lookForBlockedCells_48 rfl (lv_at hl 1 rfl) ?_
          refine xg_X0 hx hb hts hown hK hP0 0 rfl 1 (by decide) fk_X0_12 (v := .ref (d 0)) rfl dX0_lookForBlockedCells_49 ?_
          refine xmF_v (rVN (rest := []) hx hb hml hown hts hK hl (c_X1_goSeason l g d (seaN e1 k) x9 y9 H.size (show InvK 0 (seaN e1 k) from hsn.1) (show (seaN e1 k) 0 < 20000 from by omega)) lk_X0_36 ⟨rfl, hP2, (va_D_app hD).1.weaken (fun _ _ _ _ => trivial)⟩ (va_recv hK.1 hP2 (ci := 1) (q0 := 0) rfl rfl) rfl rfl rfl (Rm.of rfl) rfl rfl dX0_lookForBlockedCells_52) hP hD hS hA (fun u8 H locs hw hP hD hS => ?_)
          have hP : va_P g.1 vwCl (wLs g d (sea (seaN e1 k)) (u8 10) (u8 11) ++ (wLs g b e1 e10 e11 ++ (wF g a b d (up (cpT (fun j : Int => (blS (seaN e1 j.toNat)).toInt) f1 (((k) : Nat) : Int)) (k : Int) (Int32.toInt (((orT (shT (seaN e1 k)) 24)) ||| ((orT (plT (seaN e1 k)) ((seaN e1 k) 1).toNat)))))))) H := hP
          have hD : va_D (va_A (wF g a b d f1 ++ (wLs g b e1 e10 e11 ++ (wLs g d t1 t10 t11))) s.heap.size) (wLs g d (sea (seaN e1 k)) (u8 10) (u8 11) ++ (wLs g b e1 e10 e11 ++ (wF g a b d (up (cpT (fun j : Int => (blS (seaN e1 j.toNat)).toInt) f1 (((k) : Nat) : Int)) (k : Int) (Int32.toInt (((orT (shT (seaN e1 k)) 24)) ||| ((orT (plT (seaN e1 k)) ((seaN e1 k) 1).toNat)))))))) := hD
          obtain ⟨hP2, hPr0⟩ := va_P_app.mp hP
          obtain ⟨hP1, hP0⟩ := va_P_app.mp hPr0
          refine xi_inc (lv' := [(2, .int (iI ((k : Int) + 1))), (0, .ref (a 0)), (1, .int (iI n))]) hx hb dX0_lookForBlockedCells_55 hl (k := 0) rfl (by decide) rfl (fun ls hl => ?_)
          refine lv_goto (tgt := 13) hx hb dX0_lookForBlockedCells_58 (by decide) ?_
          have hq9 : ((k : Int) + 1) = ((k + 1) : Int) := by omega
          have hl : lv_has ls 3 [(2, .int (iI ((k : Int) + 1))), (0, .ref (a 0)), (1, .int (iI n))] := lv_sub hl [0, 1, 2] rfl
          have hl := Eq.mp (congrArg (fun z9 => lv_has ls 3 [(2, .int (iI z9)), (0, .ref (a 0)), (1, .int (iI n))]) hq9) hl
          have hq10 : (up (cpT (fun j : Int => (blS (seaN e1 j.toNat)).toInt) f1 (((k) : Nat) : Int)) (k : Int) (Int32.toInt (((orT (shT (seaN e1 k)) 24)) ||| ((orT (plT (seaN e1 k)) ((seaN e1 k) 1).toNat))))) = (cpT (fun j : Int => (blS (seaN e1 j.toNat)).toInt) f1 ((((k + 1)) : Nat) : Int)) := by first | rfl | exact cpT_S (fun j : Int => (blS (seaN e1 j.toNat)).toInt) f1 (k := (k : Int)) (by omega)
          have hP := Eq.mp (congrArg (fun z9 => va_P g.1 vwCl (wLs g d (sea (seaN e1 k)) (u8 10) (u8 11) ++ (wLs g b e1 e10 e11 ++ (wF g a b d z9))) H) hq10) hP
          have hD := Eq.mp (congrArg (fun z9 => va_D (va_A (wF g a b d f1 ++ (wLs g b e1 e10 e11 ++ (wLs g d t1 t10 t11))) s.heap.size) (wLs g d (sea (seaN e1 k)) (u8 10) (u8 11) ++ (wLs g b e1 e10 e11 ++ (wF g a b d z9)))) hq10) hD
          obtain ⟨hP2, hPr0⟩ := va_P_app.mp hP
          obtain ⟨hP1, hP0⟩ := va_P_app.mp hPr0
          have hq11 : (sea (seaN e1 k)) = (seaN e1 (k + 1)) := by first | rfl | exact cpT_S (fun j : Int => (blS (seaN e1 j.toNat)).toInt) f1 (k := (k : Int)) (by omega)
          have hP := Eq.mp (congrArg (fun z9 => va_P g.1 vwCl (wLs g d z9 (u8 10) (u8 11) ++ (wLs g b e1 e10 e11 ++ (wF g a b d (cpT (fun j : Int => (blS (seaN e1 j.toNat)).toInt) f1 ((((k + 1)) : Nat) : Int))))) H) hq11) hP
          have hD := Eq.mp (congrArg (fun z9 => va_D (va_A (wF g a b d f1 ++ (wLs g b e1 e10 e11 ++ (wLs g d t1 t10 t11))) s.heap.size) (wLs g d z9 (u8 10) (u8 11) ++ (wLs g b e1 e10 e11 ++ (wF g a b d (cpT (fun j : Int => (blS (seaN e1 j.toNat)).toInt) f1 ((((k + 1)) : Nat) : Int)))))) hq11) hD
          obtain ⟨hP2, hPr0⟩ := va_P_app.mp hP
          obtain ⟨hP1, hP0⟩ := va_P_app.mp hPr0
          exact ih13 (k + 1) (u8 10) (u8 11) (by omega) (by omega) ls hl H locs hP hD hS
  have hq12 : 0 = (0 : Int) := rfl
  have hl : lv_has ls 3 [(2, .int (iI 0)), (0, .ref (a 0)), (1, .int (iI n))] := lv_sub hl [0, 1, 2] rfl
  have hl := Eq.mp (congrArg (fun z9 => lv_has ls 3 [(2, .int (iI z9)), (0, .ref (a 0)), (1, .int (iI n))]) hq12) hl
  have hq13 : f1 = (cpT (fun j : Int => (blS (seaN e1 j.toNat)).toInt) f1 (((0) : Nat) : Int)) := by first | rfl | exact cpT_0 (fun j : Int => (blS (seaN e1 j.toNat)).toInt) f1
  have hP := Eq.mp (congrArg (fun z9 => va_P g.1 vwCl (wLs g d e1 t10 t11 ++ (wLs g b e1 e10 e11 ++ (wF g a b d z9))) H) hq13) hP
  have hD := Eq.mp (congrArg (fun z9 => va_D (va_A (wF g a b d f1 ++ (wLs g b e1 e10 e11 ++ (wLs g d t1 t10 t11))) s.heap.size) (wLs g d e1 t10 t11 ++ (wLs g b e1 e10 e11 ++ (wF g a b d z9)))) hq13) hD
  obtain ⟨hP2, hPr0⟩ := va_P_app.mp hP
  obtain ⟨hP1, hP0⟩ := va_P_app.mp hPr0
  have hq14 : e1 = (seaN e1 0) := by first | rfl | exact cpT_0 (fun j : Int => (blS (seaN e1 j.toNat)).toInt) f1
  have hP := Eq.mp (congrArg (fun z9 => va_P g.1 vwCl (wLs g d z9 t10 t11 ++ (wLs g b e1 e10 e11 ++ (wF g a b d (cpT (fun j : Int => (blS (seaN e1 j.toNat)).toInt) f1 (((0) : Nat) : Int))))) H) hq14) hP
  have hD := Eq.mp (congrArg (fun z9 => va_D (va_A (wF g a b d f1 ++ (wLs g b e1 e10 e11 ++ (wLs g d t1 t10 t11))) s.heap.size) (wLs g d z9 t10 t11 ++ (wLs g b e1 e10 e11 ++ (wF g a b d (cpT (fun j : Int => (blS (seaN e1 j.toNat)).toInt) f1 (((0) : Nat) : Int)))))) hq14) hD
  obtain ⟨hP2, hPr0⟩ := va_P_app.mp hP
  obtain ⟨hP1, hP0⟩ := va_P_app.mp hPr0
  exact lp13 (n.toNat + 1) 0 t10 t11 (by omega) (by omega) ls hl H locs hP hD hS
abbrev rm_X0_walkLength : Room := { frames := 1, cells := 0, slots := 0, locals := 21 }
set_option maxRecDepth 100000 in
set_option maxHeartbeats 4000000 in
theorem c_X0_walkLength (l : Launch) (g : Gd) (a : Nat → Nat) (f1 : Int → Int) (b : Nat → Nat) (d : Nat → Nat) (x : Int) (y : Int) (k : Int) (E : Int → Int) (h1 : InvK 0 E) (h2 : E 0 ≤ 9999) (h3 : 0 ≤ x ∧ x ≤ 23) (h4 : 0 ≤ y ∧ y ≤ 23) (h5 : 0 ≤ k ∧ k ≤ 20) (h6 : ∀ j : Int, k ≤ j → j < k + 80 → f1 j = (blS (seaN E j.toNat)).toInt) : Met l yX0_walkLength (wsOf yX0_walkLength cX0_walkLength 6 (some .int)) rm_X0_walkLength (PX g (va_P g.1 vwCl (wF g a b d f1)) [.ref (a 0), .int (iI x), .int (iI y), .int (iI k)]) (vp_Si (fun r9 => r9 = iI (wlk (seaN E (Int.toNat k)) x y))) 0 0 (fun _ => False) := by
  refine me (g := g) (by decide) rfl ?_
  intro pq eq s mq below meth cq C hnm hB ls hl
  obtain ⟨hx, hb, hr, hml, hown, hts, hlocks, hK⟩ := C
  have hown : s.vm.findClass RX0 = some mq.cls := hown
  have hl : lv_has ls 6 [(0, .ref (a 0)), (1, .int (iI x)), (2, .int (iI y)), (3, .int (iI k))] := hl
  have hP : va_P g.1 vwCl (wF g a b d f1) s.heap := hB
  have hn := h1.num
  refine lv_iload_n hx hb dX0_walkLength_0 rfl (lv_at hl 1 rfl) ?_
  refine lv_istore (lv' := [(4, .int (iI x)), (0, .ref (a 0)), (1, .int (iI x)), (2, .int (iI y)), (3, .int (iI k))]) hx hb dX0_walkLength_1 hl (by decide) rfl (fun ls hl => ?_)
  refine lv_iconst (v := iI (0)) hx hb dX0_walkLength_3 (by decide) ?_
  refine lv_istore (lv' := [(5, .int (iI 0)), (4, .int (iI x)), (0, .ref (a 0)), (1, .int (iI x)), (2, .int (iI y)), (3, .int (iI k))]) hx hb dX0_walkLength_4 hl (by decide) rfl (fun ls hl => ?_)
  have lp6 : ∀ (n6 : Nat) (n : Nat) (a9 : Int), (n ≤ 80) → (0 ≤ a9 ∧ a9 ≤ 23) → (wkT y (80 - n) (seaN E (k.toNat + n)) a9 (n : Int) = (wkT y 80 (seaN E k.toNat) x 0)) → 80 - n < n6 → ∀ ls : Array Slot, lv_has ls 6 [(5, .int (iI (n : Int))), (4, .int (iI a9)), (0, .ref (a 0)), (1, .int (iI x)), (2, .int (iI y)), (3, .int (iI k))] → W pq l eq rm_X0_walkLength s mq [.ref (a 0), .int (iI x), .int (iI y), .int (iI k)].toArray below meth cq s.heap [] 0 0 (MQ below (vp_Si (fun r9 => r9 = iI (wlk (seaN E (Int.toNat k)) x y))) [.ref (a 0), .int (iI x), .int (iI y), .int (iI k)].toArray s 0 0 (fun _ => False)) (F0 mq 6 ls []) := by
    intro n6
    induction n6 with
    | zero => intro n a9 i6_1 i6_2 i6_3 hm; exact absurd hm (Nat.not_lt_zero _)
    | succ n6 ih6 =>
      intro n a9 i6_1 i6_2 i6_3 hm6 ls hl
      have hsn := seaN_inv h1 (k.toNat + n) (by omega)
      have hbb := bh_b i6_2
      refine lv_iload hx hb dX0_walkLength_6 (lv_at hl 0 rfl) ?_
      refine lv_bipush (v := iI (80)) hx hb dX0_walkLength_8 (by decide) ?_
      refine xi_c_ge (tgt := 67) hx hb ⟨by omega, by omega⟩ ⟨by decide, by decide⟩ dX0_walkLength_10 (by decide) (fun z1 => ?_) (fun z1 => ?_)
      · have hwk : wlk (seaN E k.toNat) x y = wkT y 0 (seaN E (k.toNat + n)) a9 (n : Int) := by show (wkT y 80 (seaN E k.toNat) x 0) = _; rw [← i6_3, show 80 - n = 0 by omega]
        have hn8 : n = 80 := by omega
        refine lv_iload hx hb dX0_walkLength_67 (lv_at hl 1 rfl) ?_
        refine lv_iload_n hx hb dX0_walkLength_69 rfl (lv_at hl 4 rfl) ?_
        refine xi_c_ne (tgt := 78) hx hb ⟨by omega, by omega⟩ ⟨by omega, by omega⟩ dX0_walkLength_70 (by decide) (fun z2 => ?_) (fun z2 => ?_)
        · refine lv_iconst (v := iI (-1)) hx hb dX0_walkLength_78 (by decide) ?_
          exact W.iret hx hb hr (fun t ht hW => ⟨_, rfl, congrArg iI (by rw [hwk]; simp only [wkT]; first | (rw [if_pos (by omega)]; omega) | (rw [if_neg (by omega)]; done)), ht⟩) (fun q h => by cases h) dX0_walkLength_79
        · refine lv_bipush (v := iI (80)) hx hb dX0_walkLength_73 (by decide) ?_
          refine lv_goto (tgt := 79) hx hb dX0_walkLength_75 (by decide) ?_
          exact W.iret hx hb hr (fun t ht hW => ⟨_, rfl, congrArg iI (by rw [hwk]; simp only [wkT]; first | (rw [if_pos (by omega)]; omega) | (rw [if_neg (by omega)]; done)), ht⟩) (fun q h => by cases h) dX0_walkLength_79
      · refine lv_iload_n hx hb dX0_walkLength_13 rfl (lv_at hl 5 rfl) ?_
        refine lv_iload hx hb dX0_walkLength_14 (lv_at hl 0 rfl) ?_
        refine xi_add hx hb dX0_walkLength_16 ?_
        refine lv_aload_n hx hb dX0_walkLength_17 rfl (lv_at hl 2 rfl) ?_
        refine xg_X0 hx hb hts hown hK hP 0 rfl 2 (by decide) fk_X0_18 (v := .ref (a 1)) rfl dX0_walkLength_18 ?_
        refine xi_alen hx hb hK hP 1 rfl (v := 100) rfl dX0_walkLength_21 ?_
        refine xi_c_ge (tgt := 67) hx hb ⟨by omega, by omega⟩ ⟨by decide, by decide⟩ dX0_walkLength_22 (by decide) (fun z3 => ?_) (fun z3 => ?_)
        · have hwk : wlk (seaN E k.toNat) x y = wkT y 0 (seaN E (k.toNat + n)) a9 (n : Int) := by exfalso; omega
          have hn8 : n = 80 := by omega
          refine lv_iload hx hb dX0_walkLength_67 (lv_at hl 1 rfl) ?_
          refine lv_iload_n hx hb dX0_walkLength_69 rfl (lv_at hl 4 rfl) ?_
          refine xi_c_ne (tgt := 78) hx hb ⟨by omega, by omega⟩ ⟨by omega, by omega⟩ dX0_walkLength_70 (by decide) (fun z4 => ?_) (fun z4 => ?_)
          · refine lv_iconst (v := iI (-1)) hx hb dX0_walkLength_78 (by decide) ?_
            exact W.iret hx hb hr (fun t ht hW => ⟨_, rfl, congrArg iI (by rw [hwk]; simp only [wkT]; first | (rw [if_pos (by omega)]; omega) | (rw [if_neg (by omega)]; done)), ht⟩) (fun q h => by cases h) dX0_walkLength_79
          · refine lv_bipush (v := iI (80)) hx hb dX0_walkLength_73 (by decide) ?_
            refine lv_goto (tgt := 79) hx hb dX0_walkLength_75 (by decide) ?_
            exact W.iret hx hb hr (fun t ht hW => ⟨_, rfl, congrArg iI (by rw [hwk]; simp only [wkT]; first | (rw [if_pos (by omega)]; omega) | (rw [if_neg (by omega)]; done)), ht⟩) (fun q h => by cases h) dX0_walkLength_79
        · refine lv_iload hx hb dX0_walkLength_25 (lv_at hl 1 rfl) ?_
          refine lv_iload_n hx hb dX0_walkLength_27 rfl (lv_at hl 4 rfl) ?_
          refine xi_c_ne (tgt := 34) hx hb ⟨by omega, by omega⟩ ⟨by omega, by omega⟩ dX0_walkLength_28 (by decide) (fun z5 => ?_) (fun z5 => ?_)
          · refine lv_aload_n hx hb dX0_walkLength_34 rfl (lv_at hl 2 rfl) ?_
            refine xg_X0 hx hb hts hown hK hP 0 rfl 2 (by decide) fk_X0_18 (v := .ref (a 1)) rfl dX0_walkLength_35 ?_
            refine lv_iload_n hx hb dX0_walkLength_38 rfl (lv_at hl 5 rfl) ?_
            refine lv_iload hx hb dX0_walkLength_39 (lv_at hl 0 rfl) ?_
            refine xi_add hx hb dX0_walkLength_41 ?_
            refine xi_ald hx hb hK hP 1 (f := f1) rfl (i := k + (n : Int)) ⟨by omega, by omega⟩ rfl dX0_walkLength_42 ?_
            have hby : iI (f1 (k + (n : Int))) = blS (seaN E (k.toNat + n)) := by rw [h6 (k + (n : Int)) (by omega) (by omega), show (k + (n : Int)).toNat = k.toNat + n by omega, iI_of]
            have hbi := blS_iff hsn.1 hbb
            refine lv_iload hx hb dX0_walkLength_43 (lv_at hl 1 rfl) ?_
            refine xu_i (x := iI (bh a9)) (rSN (rest := [.int (iI (f1 (k + (n : Int))))]) hx hb hml hown hts hK hl (c_X4_nextCell l g a9 (show 0 ≤ a9 ∧ a9 ≤ 23 from by omega)) lk_X0_106 trivial rfl rfl rfl (Rm.of rfl) rfl rfl dX0_walkLength_45) ?_
            refine xu_b (P := bt (iI (f1 (k + (n : Int)))) (Int.toNat (bh a9)) = true) (rSN (rest := []) hx hb hml hown hts hK hl (c_X4_isIn l g (iI (f1 (k + (n : Int)))) (bh a9) (show 0 ≤ (bh a9) ∧ (bh a9) < 32 from by omega)) lk_X0_109 trivial rfl rfl rfl (Rm.of rfl) rfl rfl dX0_walkLength_48) (fun z7 => ?_) (fun z7 => ?_)
            · have hgo := hbi.mp (by rw [← hby]; assumption)
              refine xi_zt_ne (tgt := 61) hx hb ⟨by decide, by decide⟩ (by decide) dX0_walkLength_51 (by decide) ?_
              refine xi_inc (lv' := [(5, .int (iI ((n : Int) + 1))), (4, .int (iI a9)), (0, .ref (a 0)), (1, .int (iI x)), (2, .int (iI y)), (3, .int (iI k))]) hx hb dX0_walkLength_61 hl (k := 0) rfl (by decide) rfl (fun ls hl => ?_)
              refine lv_goto (tgt := 6) hx hb dX0_walkLength_64 (by decide) ?_
              have hq8 : ((n : Int) + 1) = ((n + 1) : Int) := by omega
              have hl : lv_has ls 6 [(5, .int (iI ((n : Int) + 1))), (4, .int (iI a9)), (0, .ref (a 0)), (1, .int (iI x)), (2, .int (iI y)), (3, .int (iI k))] := lv_sub hl [0, 1, 2, 3, 4, 5] rfl
              have hl := Eq.mp (congrArg (fun z9 => lv_has ls 6 [(5, .int (iI z9)), (4, .int (iI a9)), (0, .ref (a 0)), (1, .int (iI x)), (2, .int (iI y)), (3, .int (iI k))]) hq8) hl
              exact ih6 (n + 1) a9 (by omega) (by omega) (by rw [← i6_3, show 80 - n = (80 - (n + 1)) + 1 by omega]; first | exact (wkT_go (b := y) (at1 := a9) (s := seaN E (k.toNat + n)) (n := (n : Int)) (by omega) hgo.1 hgo.2).symm | exact (wkT_st (b := y) (at1 := a9) (s := seaN E (k.toNat + n)) (n := (n : Int)) (by omega) hgo).symm) (by omega) ls hl
            · have hgo := Classical.not_not.mp (fun z => absurd (hbi.mpr z) (by rw [← hby]; assumption))
              refine xi_zf_ne hx hb ⟨by decide, by decide⟩ (by decide) dX0_walkLength_51 ⟨61, by decide⟩ ?_
              refine lv_iload hx hb dX0_walkLength_54 (lv_at hl 1 rfl) ?_
              refine xu_i (x := iI (bh a9)) (rSN (rest := []) hx hb hml hown hts hK hl (c_X4_nextCell l g a9 (show 0 ≤ a9 ∧ a9 ≤ 23 from by omega)) lk_X0_106 trivial rfl rfl rfl (Rm.of rfl) rfl rfl dX0_walkLength_56) ?_
              refine lv_istore (lv' := [(4, .int (iI (bh a9))), (5, .int (iI (n : Int))), (0, .ref (a 0)), (1, .int (iI x)), (2, .int (iI y)), (3, .int (iI k))]) hx hb dX0_walkLength_59 hl (by decide) rfl (fun ls hl => ?_)
              refine xi_inc (lv' := [(5, .int (iI ((n : Int) + 1))), (4, .int (iI (bh a9))), (0, .ref (a 0)), (1, .int (iI x)), (2, .int (iI y)), (3, .int (iI k))]) hx hb dX0_walkLength_61 hl (k := 1) rfl (by decide) rfl (fun ls hl => ?_)
              refine lv_goto (tgt := 6) hx hb dX0_walkLength_64 (by decide) ?_
              have hq10 : ((n : Int) + 1) = ((n + 1) : Int) := by omega
              have hl : lv_has ls 6 [(5, .int (iI ((n : Int) + 1))), (4, .int (iI (bh a9))), (0, .ref (a 0)), (1, .int (iI x)), (2, .int (iI y)), (3, .int (iI k))] := lv_sub hl [0, 1, 2, 3, 4, 5] rfl
              have hl := Eq.mp (congrArg (fun z9 => lv_has ls 6 [(5, .int (iI z9)), (4, .int (iI (bh a9))), (0, .ref (a 0)), (1, .int (iI x)), (2, .int (iI y)), (3, .int (iI k))]) hq10) hl
              exact ih6 (n + 1) (bh a9) (by omega) (by omega) (by rw [← i6_3, show 80 - n = (80 - (n + 1)) + 1 by omega]; first | exact (wkT_go (b := y) (at1 := a9) (s := seaN E (k.toNat + n)) (n := (n : Int)) (by omega) hgo.1 hgo.2).symm | exact (wkT_st (b := y) (at1 := a9) (s := seaN E (k.toNat + n)) (n := (n : Int)) (by omega) hgo).symm) (by omega) ls hl
          · have hwk : wlk (seaN E k.toNat) x y = (n : Int) := by show (wkT y 80 (seaN E k.toNat) x 0) = _; rw [← i6_3, show a9 = y by omega]; exact wkT_hit y _ _ _
            refine lv_iload hx hb dX0_walkLength_31 (lv_at hl 0 rfl) ?_
            exact W.iret hx hb hr (fun t ht hW => ⟨_, rfl, congrArg iI hwk.symm, ht⟩) (fun q h => by cases h) dX0_walkLength_33
  have hq11 : 0 = (0 : Int) := rfl
  have hl : lv_has ls 6 [(5, .int (iI 0)), (4, .int (iI x)), (0, .ref (a 0)), (1, .int (iI x)), (2, .int (iI y)), (3, .int (iI k))] := lv_sub hl [0, 1, 2, 3, 4, 5] rfl
  have hl := Eq.mp (congrArg (fun z9 => lv_has ls 6 [(5, .int (iI z9)), (4, .int (iI x)), (0, .ref (a 0)), (1, .int (iI x)), (2, .int (iI y)), (3, .int (iI k))]) hq11) hl
  exact lp6 (80 + 1) 0 x (by omega) (by omega) rfl (by omega) ls hl
abbrev rm_X0_journeyLength : Room := { frames := 4, cells := 0, slots := 0, locals := 123 }
set_option maxRecDepth 100000 in
set_option maxHeartbeats 4000000 in
theorem c_X0_journeyLength (l : Launch) (g : Gd) (a : Nat → Nat) (f1 : Int → Int) (b : Nat → Nat) (e1 : Int → Int) (e10 : Int → Int) (e11 : Int → Int) (d : Nat → Nat) (t1 : Int → Int) (t10 : Int → Int) (t11 : Int → Int) (x : Int) (y : Int) (sz : Nat) (h1 : InvK 0 e1) (h2 : e1 0 ≤ 9999) (h3 : 0 ≤ x ∧ x ≤ 23) (h4 : 0 ≤ y ∧ y ≤ 23) : Met l yX0_journeyLength (wsOf yX0_journeyLength cX0_journeyLength 3 (some .int)) rm_X0_journeyLength (PX g (wP g (wF g a b d f1 ++ (wLs g b e1 e10 e11 ++ (wLs g d t1 t10 t11))) sz) [.ref (a 0), .int (iI x), .int (iI y)]) (QMi g (fun u9 : Nat → Int → Int => wF g a b d (u9 1) ++ (wLs g b e1 e10 e11 ++ (wLs g d (u9 201) (u9 210) (u9 211)))) (fun r9 _ => r9 = iI (wlk e1 x y)) (va_A (wF g a b d f1 ++ (wLs g b e1 e10 e11 ++ (wLs g d t1 t10 t11))) sz)) 0 0 (va_A (wF g a b d f1 ++ (wLs g b e1 e10 e11 ++ (wLs g d t1 t10 t11))) sz) := by
  refine me (g := g) (by decide) rfl ?_
  intro pq eq s mq below meth cq C hnm hB ls hl
  obtain ⟨hx, hb, hr, hml, hown, hts, hlocks, hK⟩ := C
  have hown : s.vm.findClass RX0 = some mq.cls := hown
  have hl : lv_has ls 3 [(0, .ref (a 0)), (1, .int (iI x)), (2, .int (iI y))] := hl
  obtain ⟨hsz, hP, hD0⟩ := hB
  subst hsz
  have hD := hD0.self (sz := s.heap.size)
  have hA : ∀ q : Nat, s.heap.size ≤ q → va_A (wF g a b d f1 ++ (wLs g b e1 e10 e11 ++ (wLs g d t1 t10 t11))) s.heap.size q := fun q h => Or.inr h
  have hS : va_S (va_A (wF g a b d f1 ++ (wLs g b e1 e10 e11 ++ (wLs g d t1 t10 t11))) s.heap.size) s.heap s.heap [] := va_S.rf
  obtain ⟨hP0, hPr0⟩ := va_P_app.mp hP
  obtain ⟨hP1, hP2⟩ := va_P_app.mp hPr0
  have hI := h1
  have hI8 : Inv e1 := h1.mono (by omega)
  have hn := hI.num
  have hs := hI.sea
  have hv := hI.vil
  refine lv_aload_n hx hb dX0_journeyLength_0 rfl (lv_at hl 0 rfl) ?_
  refine lv_bipush (v := iI (80)) hx hb dX0_journeyLength_1 (by decide) ?_
  refine xm_v (rV (rest := []) hx hb hml hown hts hK hl (c_X0_lookForBlockedCells l g a f1 b e1 e10 e11 d t1 t10 t11 80 (s.heap).size (show InvK 0 e1 from h1) (show e1 0 ≤ 9999 from by omega) (show 0 ≤ 80 ∧ 80 ≤ 100 from by omega)) lk_X0_93 ⟨rfl, hP, hD.weaken (fun _ _ _ _ => trivial)⟩ (va_recv hK.1 hP0 (ci := 0) (q0 := 0) rfl rfl) rfl rfl rfl (Rm.of rfl) rfl rfl dX0_journeyLength_3) hD hS hA (fun u1 H locs hw hP hD hS => ?_)
  have hP : va_P g.1 vwCl (wF g a b d (cpT (fun j : Int => (blS (seaN e1 j.toNat)).toInt) f1 80) ++ (wLs g b e1 e10 e11 ++ (wLs g d (u1 201) (u1 210) (u1 211)))) H := hP
  have hD : va_D (va_A (wF g a b d f1 ++ (wLs g b e1 e10 e11 ++ (wLs g d t1 t10 t11))) s.heap.size) (wF g a b d (cpT (fun j : Int => (blS (seaN e1 j.toNat)).toInt) f1 80) ++ (wLs g b e1 e10 e11 ++ (wLs g d (u1 201) (u1 210) (u1 211)))) := hD
  obtain ⟨hP0, hPr0⟩ := va_P_app.mp hP
  obtain ⟨hP1, hP2⟩ := va_P_app.mp hPr0
  refine lv_aload_n hx hb dX0_journeyLength_6 rfl (lv_at hl 0 rfl) ?_
  refine lv_iload_n hx hb dX0_journeyLength_7 rfl (lv_at hl 1 rfl) ?_
  refine lv_iload_n hx hb dX0_journeyLength_8 rfl (lv_at hl 2 rfl) ?_
  refine lv_iconst (v := iI (0)) hx hb dX0_journeyLength_9 (by decide) ?_
  refine xu_i (x := iI (wlk (seaN e1 0) x y)) (rV (rest := []) hx hb hml hown hts hK hl (c_X0_walkLength l g a (cpT (fun j : Int => (blS (seaN e1 j.toNat)).toInt) f1 80) b d x y 0 e1 (show InvK 0 e1 from h1) (show e1 0 ≤ 9999 from h2) (show 0 ≤ x ∧ x ≤ 23 from by omega) (show 0 ≤ y ∧ y ≤ 23 from by omega) (show 0 ≤ 0 ∧ 0 ≤ 20 from by omega) (show ∀ j : Int, 0 ≤ j → j < 0 + 80 → (cpT (fun j : Int => (blS (seaN e1 j.toNat)).toInt) f1 80) j = (blS (seaN e1 j.toNat)).toInt from fun j j0 j1 => cpT_in (by omega) (by omega))) lk_X0_96 hP0 (va_recv hK.1 hP0 (ci := 0) (q0 := 0) rfl rfl) rfl rfl rfl (Rm.of rfl) rfl rfl dX0_journeyLength_10) ?_
  have hP : va_P g.1 vwCl (wF g a b d ((su (su (su (su (fun _ _ => 0) 1 (cpT (fun j : Int => (blS (seaN e1 j.toNat)).toInt) f1 80)) 201 (u1 201)) 210 (u1 210)) 211 (u1 211)) 1) ++ (wLs g b e1 e10 e11 ++ (wLs g d ((su (su (su (su (fun _ _ => 0) 1 (cpT (fun j : Int => (blS (seaN e1 j.toNat)).toInt) f1 80)) 201 (u1 201)) 210 (u1 210)) 211 (u1 211)) 201) ((su (su (su (su (fun _ _ => 0) 1 (cpT (fun j : Int => (blS (seaN e1 j.toNat)).toInt) f1 80)) 201 (u1 201)) 210 (u1 210)) 211 (u1 211)) 210) ((su (su (su (su (fun _ _ => 0) 1 (cpT (fun j : Int => (blS (seaN e1 j.toNat)).toInt) f1 80)) 201 (u1 201)) 210 (u1 210)) 211 (u1 211)) 211)))) H := hP
  have hD : va_D (va_A (wF g a b d f1 ++ (wLs g b e1 e10 e11 ++ (wLs g d t1 t10 t11))) s.heap.size) (wF g a b d ((su (su (su (su (fun _ _ => 0) 1 (cpT (fun j : Int => (blS (seaN e1 j.toNat)).toInt) f1 80)) 201 (u1 201)) 210 (u1 210)) 211 (u1 211)) 1) ++ (wLs g b e1 e10 e11 ++ (wLs g d ((su (su (su (su (fun _ _ => 0) 1 (cpT (fun j : Int => (blS (seaN e1 j.toNat)).toInt) f1 80)) 201 (u1 201)) 210 (u1 210)) 211 (u1 211)) 201) ((su (su (su (su (fun _ _ => 0) 1 (cpT (fun j : Int => (blS (seaN e1 j.toNat)).toInt) f1 80)) 201 (u1 201)) 210 (u1 210)) 211 (u1 211)) 210) ((su (su (su (su (fun _ _ => 0) 1 (cpT (fun j : Int => (blS (seaN e1 j.toNat)).toInt) f1 80)) 201 (u1 201)) 210 (u1 210)) 211 (u1 211)) 211)))) := hD
  exact W.iret hx hb hr (fun t ht hW => ⟨⟨_, (su (su (su (su (fun _ _ => 0) 1 (cpT (fun j : Int => (blS (seaN e1 j.toNat)).toInt) f1 80)) 201 (u1 201)) 210 (u1 210)) 211 (u1 211)), rfl, rfl, by rw [ht]; exact hP, hD⟩, hS.F ht⟩) hS.2.2 dX0_journeyLength_13
abbrev rm_X0_bestDelay : Room := { frames := 4, cells := 0, slots := 0, locals := 123 }
set_option maxRecDepth 100000 in
set_option maxHeartbeats 4000000 in
theorem c_X0_bestDelay (l : Launch) (g : Gd) (a : Nat → Nat) (f1 : Int → Int) (b : Nat → Nat) (e1 : Int → Int) (e10 : Int → Int) (e11 : Int → Int) (d : Nat → Nat) (t1 : Int → Int) (t10 : Int → Int) (t11 : Int → Int) (x : Int) (y : Int) (sz : Nat) (h1 : InvK 0 e1) (h2 : e1 0 ≤ 9999) (h3 : 0 ≤ x ∧ x ≤ 23) (h4 : 0 ≤ y ∧ y ≤ 23) : Met l yX0_bestDelay (wsOf yX0_bestDelay cX0_bestDelay 7 (some .int)) rm_X0_bestDelay (PX g (wP g (wF g a b d f1 ++ (wLs g b e1 e10 e11 ++ (wLs g d t1 t10 t11))) sz) [.ref (a 0), .int (iI x), .int (iI y)]) (QMi g (fun u9 : Nat → Int → Int => wF g a b d (u9 1) ++ (wLs g b e1 e10 e11 ++ (wLs g d (u9 201) (u9 210) (u9 211)))) (fun r9 _ => r9 = iI ((bdT (bdV e1 x y) 21).1)) (va_A (wF g a b d f1 ++ (wLs g b e1 e10 e11 ++ (wLs g d t1 t10 t11))) sz)) 0 0 (va_A (wF g a b d f1 ++ (wLs g b e1 e10 e11 ++ (wLs g d t1 t10 t11))) sz) := by
  refine me (g := g) (by decide) rfl ?_
  intro pq eq s mq below meth cq C hnm hB ls hl
  obtain ⟨hx, hb, hr, hml, hown, hts, hlocks, hK⟩ := C
  have hown : s.vm.findClass RX0 = some mq.cls := hown
  have hl : lv_has ls 7 [(0, .ref (a 0)), (1, .int (iI x)), (2, .int (iI y))] := hl
  obtain ⟨hsz, hP, hD0⟩ := hB
  subst hsz
  have hD := hD0.self (sz := s.heap.size)
  have hA : ∀ q : Nat, s.heap.size ≤ q → va_A (wF g a b d f1 ++ (wLs g b e1 e10 e11 ++ (wLs g d t1 t10 t11))) s.heap.size q := fun q h => Or.inr h
  have hS : va_S (va_A (wF g a b d f1 ++ (wLs g b e1 e10 e11 ++ (wLs g d t1 t10 t11))) s.heap.size) s.heap s.heap [] := va_S.rf
  obtain ⟨hP0, hPr0⟩ := va_P_app.mp hP
  obtain ⟨hP1, hP2⟩ := va_P_app.mp hPr0
  have hI := h1
  have hI8 : Inv e1 := h1.mono (by omega)
  have hn := hI.num
  have hs := hI.sea
  have hv := hI.vil
  refine lv_aload_n hx hb dX0_bestDelay_0 rfl (lv_at hl 0 rfl) ?_
  refine lv_bipush (v := iI (100)) hx hb dX0_bestDelay_1 (by decide) ?_
  refine xm_v (rV (rest := []) hx hb hml hown hts hK hl (c_X0_lookForBlockedCells l g a f1 b e1 e10 e11 d t1 t10 t11 100 (s.heap).size (show InvK 0 e1 from h1) (show e1 0 ≤ 9999 from by omega) (show 0 ≤ 100 ∧ 100 ≤ 100 from by omega)) lk_X0_93 ⟨rfl, hP, hD.weaken (fun _ _ _ _ => trivial)⟩ (va_recv hK.1 hP0 (ci := 0) (q0 := 0) rfl rfl) rfl rfl rfl (Rm.of rfl) rfl rfl dX0_bestDelay_3) hD hS hA (fun u1 H locs hw hP hD hS => ?_)
  have hP : va_P g.1 vwCl (wF g a b d (cpT (fun j : Int => (blS (seaN e1 j.toNat)).toInt) f1 100) ++ (wLs g b e1 e10 e11 ++ (wLs g d (u1 201) (u1 210) (u1 211)))) H := hP
  have hD : va_D (va_A (wF g a b d f1 ++ (wLs g b e1 e10 e11 ++ (wLs g d t1 t10 t11))) s.heap.size) (wF g a b d (cpT (fun j : Int => (blS (seaN e1 j.toNat)).toInt) f1 100) ++ (wLs g b e1 e10 e11 ++ (wLs g d (u1 201) (u1 210) (u1 211)))) := hD
  obtain ⟨hP0, hPr0⟩ := va_P_app.mp hP
  obtain ⟨hP1, hP2⟩ := va_P_app.mp hPr0
  refine lv_bipush (v := iI (81)) hx hb dX0_bestDelay_6 (by decide) ?_
  refine lv_istore_n (lv' := [(3, .int (iI 81)), (0, .ref (a 0)), (1, .int (iI x)), (2, .int (iI y))]) hx hb dX0_bestDelay_8 rfl hl (by decide) rfl (fun ls hl => ?_)
  refine lv_iconst (v := iI (-1)) hx hb dX0_bestDelay_9 (by decide) ?_
  refine lv_istore (lv' := [(4, .int (iI (-1))), (3, .int (iI 81)), (0, .ref (a 0)), (1, .int (iI x)), (2, .int (iI y))]) hx hb dX0_bestDelay_10 hl (by decide) rfl (fun ls hl => ?_)
  refine lv_iconst (v := iI (0)) hx hb dX0_bestDelay_12 (by decide) ?_
  refine lv_istore (lv' := [(5, .int (iI 0)), (4, .int (iI (-1))), (3, .int (iI 81)), (0, .ref (a 0)), (1, .int (iI x)), (2, .int (iI y))]) hx hb dX0_bestDelay_13 hl (by decide) rfl (fun ls hl => ?_)
  have lp15 : ∀ (n15 : Nat) (k : Nat), (k ≤ 21) → 21 - k < n15 → ∀ ls : Array Slot, lv_has ls 7 [(5, .int (iI (k : Int))), (4, .int (iI ((bdT (bdV e1 x y) k).1))), (3, .int (iI (bdI (bdV e1 x y) k))), (0, .ref (a 0)), (1, .int (iI x)), (2, .int (iI y))] → ∀ (H : Heap) (locs : List Loc), va_P g.1 vwCl (wF g a b d (cpT (fun j : Int => (blS (seaN e1 j.toNat)).toInt) f1 100) ++ (wLs g b e1 e10 e11 ++ (wLs g d (u1 201) (u1 210) (u1 211)))) H → va_D (va_A (wF g a b d f1 ++ (wLs g b e1 e10 e11 ++ (wLs g d t1 t10 t11))) s.heap.size) (wF g a b d (cpT (fun j : Int => (blS (seaN e1 j.toNat)).toInt) f1 100) ++ (wLs g b e1 e10 e11 ++ (wLs g d (u1 201) (u1 210) (u1 211)))) → va_S (va_A (wF g a b d f1 ++ (wLs g b e1 e10 e11 ++ (wLs g d t1 t10 t11))) s.heap.size) s.heap H locs → W pq l eq rm_X0_bestDelay s mq [.ref (a 0), .int (iI x), .int (iI y)].toArray below meth cq H locs 0 0 (MQ below (QMi g (fun u9 : Nat → Int → Int => wF g a b d (u9 1) ++ (wLs g b e1 e10 e11 ++ (wLs g d (u9 201) (u9 210) (u9 211)))) (fun r9 _ => r9 = iI ((bdT (bdV e1 x y) 21).1)) (va_A (wF g a b d f1 ++ (wLs g b e1 e10 e11 ++ (wLs g d t1 t10 t11))) s.heap.size)) [.ref (a 0), .int (iI x), .int (iI y)].toArray s 0 0 (va_A (wF g a b d f1 ++ (wLs g b e1 e10 e11 ++ (wLs g d t1 t10 t11))) s.heap.size)) (F0 mq 15 ls []) := by
    intro n15
    induction n15 with
    | zero => intro k i15_1 hm; exact absurd hm (Nat.not_lt_zero _)
    | succ n15 ih15 =>
      intro k i15_1 hm15 ls hl H locs hP hD hS
      have hv8 : ∀ j, bdV e1 x y j ≤ 80 := fun j => (wkT_b y 80 (seaN e1 j) x 0 (by omega)).2
      have hbb := bdI_b (v := (bdV e1 x y)) (k := k) (fun j _ => hv8 j)
      have hbt := bdT_b (v := (bdV e1 x y)) (M := 80) (by omega) k (fun j _ => hv8 j)
      have hwk := wkT_b y 80 (seaN e1 k) x 0 (by omega)
      have hwl : wlk (seaN e1 k) x y = wkT y 80 (seaN e1 k) x 0 := rfl
      have hv9 : bdV e1 x y k = wlk (seaN e1 k) x y := rfl
      have hwt : wlk (seaN e1 (Int.toNat (k : Int))) x y = wlk (seaN e1 k) x y := rfl
      obtain ⟨hP0, hPr0⟩ := va_P_app.mp hP
      obtain ⟨hP1, hP2⟩ := va_P_app.mp hPr0
      refine lv_iload hx hb dX0_bestDelay_15 (lv_at hl 0 rfl) ?_
      refine lv_bipush (v := iI (20)) hx hb dX0_bestDelay_17 (by decide) ?_
      refine xi_c_gt (tgt := 56) hx hb ⟨by omega, by omega⟩ ⟨by decide, by decide⟩ dX0_bestDelay_19 (by decide) (fun z2 => ?_) (fun z2 => ?_)
      · refine lv_iload hx hb dX0_bestDelay_56 (lv_at hl 1 rfl) ?_
        have hP : va_P g.1 vwCl (wF g a b d ((su (su (su (su (fun _ _ => 0) 1 (cpT (fun j : Int => (blS (seaN e1 j.toNat)).toInt) f1 100)) 201 (u1 201)) 210 (u1 210)) 211 (u1 211)) 1) ++ (wLs g b e1 e10 e11 ++ (wLs g d ((su (su (su (su (fun _ _ => 0) 1 (cpT (fun j : Int => (blS (seaN e1 j.toNat)).toInt) f1 100)) 201 (u1 201)) 210 (u1 210)) 211 (u1 211)) 201) ((su (su (su (su (fun _ _ => 0) 1 (cpT (fun j : Int => (blS (seaN e1 j.toNat)).toInt) f1 100)) 201 (u1 201)) 210 (u1 210)) 211 (u1 211)) 210) ((su (su (su (su (fun _ _ => 0) 1 (cpT (fun j : Int => (blS (seaN e1 j.toNat)).toInt) f1 100)) 201 (u1 201)) 210 (u1 210)) 211 (u1 211)) 211)))) H := hP
        have hD : va_D (va_A (wF g a b d f1 ++ (wLs g b e1 e10 e11 ++ (wLs g d t1 t10 t11))) s.heap.size) (wF g a b d ((su (su (su (su (fun _ _ => 0) 1 (cpT (fun j : Int => (blS (seaN e1 j.toNat)).toInt) f1 100)) 201 (u1 201)) 210 (u1 210)) 211 (u1 211)) 1) ++ (wLs g b e1 e10 e11 ++ (wLs g d ((su (su (su (su (fun _ _ => 0) 1 (cpT (fun j : Int => (blS (seaN e1 j.toNat)).toInt) f1 100)) 201 (u1 201)) 210 (u1 210)) 211 (u1 211)) 201) ((su (su (su (su (fun _ _ => 0) 1 (cpT (fun j : Int => (blS (seaN e1 j.toNat)).toInt) f1 100)) 201 (u1 201)) 210 (u1 210)) 211 (u1 211)) 210) ((su (su (su (su (fun _ _ => 0) 1 (cpT (fun j : Int => (blS (seaN e1 j.toNat)).toInt) f1 100)) 201 (u1 201)) 210 (u1 210)) 211 (u1 211)) 211)))) := hD
        exact W.iret hx hb hr (fun t ht hW => ⟨⟨_, (su (su (su (su (fun _ _ => 0) 1 (cpT (fun j : Int => (blS (seaN e1 j.toNat)).toInt) f1 100)) 201 (u1 201)) 210 (u1 210)) 211 (u1 211)), rfl, congrArg iI (by rw [show k = 21 by omega]), by rw [ht]; exact hP, hD⟩, hS.F ht⟩) hS.2.2 dX0_bestDelay_58
      · refine lv_aload_n hx hb dX0_bestDelay_22 rfl (lv_at hl 3 rfl) ?_
        refine lv_iload_n hx hb dX0_bestDelay_23 rfl (lv_at hl 4 rfl) ?_
        refine lv_iload_n hx hb dX0_bestDelay_24 rfl (lv_at hl 5 rfl) ?_
        refine lv_iload hx hb dX0_bestDelay_25 (lv_at hl 0 rfl) ?_
        refine xu_i (x := iI (wlk (seaN e1 (Int.toNat (k : Int))) x y)) (rV (rest := []) hx hb hml hown hts hK hl (c_X0_walkLength l g a (cpT (fun j : Int => (blS (seaN e1 j.toNat)).toInt) f1 100) b d x y (k : Int) e1 (show InvK 0 e1 from h1) (show e1 0 ≤ 9999 from h2) (show 0 ≤ x ∧ x ≤ 23 from by omega) (show 0 ≤ y ∧ y ≤ 23 from by omega) (show 0 ≤ (k : Int) ∧ (k : Int) ≤ 20 from by omega) (show ∀ j : Int, (k : Int) ≤ j → j < (k : Int) + 80 → (cpT (fun j : Int => (blS (seaN e1 j.toNat)).toInt) f1 100) j = (blS (seaN e1 j.toNat)).toInt from fun j j0 j1 => cpT_in (by omega) (by omega))) lk_X0_96 hP0 (va_recv hK.1 hP0 (ci := 0) (q0 := 0) rfl rfl) rfl rfl rfl (Rm.of rfl) rfl rfl dX0_bestDelay_27) ?_
        refine lv_istore (lv' := [(6, .int (iI (wlk (seaN e1 (Int.toNat (k : Int))) x y))), (5, .int (iI (k : Int))), (4, .int (iI ((bdT (bdV e1 x y) k).1))), (3, .int (iI (bdI (bdV e1 x y) k))), (0, .ref (a 0)), (1, .int (iI x)), (2, .int (iI y))]) hx hb dX0_bestDelay_30 hl (by decide) rfl (fun ls hl => ?_)
        refine lv_iload hx hb dX0_bestDelay_32 (lv_at hl 0 rfl) ?_
        refine xi_z_lt (tgt := 50) hx hb ⟨by omega, by omega⟩ dX0_bestDelay_34 (by decide) (fun z4 => ?_) (fun z4 => ?_)
        · refine xi_inc (lv' := [(5, .int (iI ((k : Int) + 1))), (6, .int (iI (wlk (seaN e1 (Int.toNat (k : Int))) x y))), (4, .int (iI ((bdT (bdV e1 x y) k).1))), (3, .int (iI (bdI (bdV e1 x y) k))), (0, .ref (a 0)), (1, .int (iI x)), (2, .int (iI y))]) hx hb dX0_bestDelay_50 hl (k := 1) rfl (by decide) rfl (fun ls hl => ?_)
          refine lv_goto (tgt := 15) hx hb dX0_bestDelay_53 (by decide) ?_
          have hq5 : ((k : Int) + 1) = ((k + 1) : Int) := by omega
          have hq6 : ((bdT (bdV e1 x y) k).1) = ((bdT (bdV e1 x y) (k + 1)).1) := by first | exact (bdI_f (v := (bdV e1 x y)) (k := k) (hv8 k) (by omega)).2 | exact (bdI_t (v := (bdV e1 x y)) (k := k) (by omega) (by omega)).2
          have hq7 : (bdI (bdV e1 x y) k) = (bdI (bdV e1 x y) (k + 1)) := by first | exact (bdI_f (v := (bdV e1 x y)) (k := k) (hv8 k) (by omega)).1 | exact (bdI_t (v := (bdV e1 x y)) (k := k) (by omega) (by omega)).1
          have hl : lv_has ls 7 [(5, .int (iI ((k : Int) + 1))), (4, .int (iI ((bdT (bdV e1 x y) k).1))), (3, .int (iI (bdI (bdV e1 x y) k))), (0, .ref (a 0)), (1, .int (iI x)), (2, .int (iI y))] := lv_sub hl [0, 2, 3, 4, 5, 6] rfl
          have hl := Eq.mp (congrArg (fun z9 => lv_has ls 7 [(5, .int (iI z9)), (4, .int (iI ((bdT (bdV e1 x y) k).1))), (3, .int (iI (bdI (bdV e1 x y) k))), (0, .ref (a 0)), (1, .int (iI x)), (2, .int (iI y))]) hq5) hl
          have hl := Eq.mp (congrArg (fun z9 => lv_has ls 7 [(5, .int (iI ((k + 1) : Int))), (4, .int (iI z9)), (3, .int (iI (bdI (bdV e1 x y) k))), (0, .ref (a 0)), (1, .int (iI x)), (2, .int (iI y))]) hq6) hl
          have hl := Eq.mp (congrArg (fun z9 => lv_has ls 7 [(5, .int (iI ((k + 1) : Int))), (4, .int (iI ((bdT (bdV e1 x y) (k + 1)).1))), (3, .int (iI z9)), (0, .ref (a 0)), (1, .int (iI x)), (2, .int (iI y))]) hq7) hl
          exact ih15 (k + 1) (by omega) (by omega) ls hl H locs hP hD hS
        · refine lv_iload hx hb dX0_bestDelay_37 (lv_at hl 0 rfl) ?_
          refine lv_iload_n hx hb dX0_bestDelay_39 rfl (lv_at hl 3 rfl) ?_
          refine xi_c_ge (tgt := 50) hx hb ⟨by omega, by omega⟩ ⟨by omega, by omega⟩ dX0_bestDelay_40 (by decide) (fun z8 => ?_) (fun z8 => ?_)
          · refine xi_inc (lv' := [(5, .int (iI ((k : Int) + 1))), (6, .int (iI (wlk (seaN e1 (Int.toNat (k : Int))) x y))), (4, .int (iI ((bdT (bdV e1 x y) k).1))), (3, .int (iI (bdI (bdV e1 x y) k))), (0, .ref (a 0)), (1, .int (iI x)), (2, .int (iI y))]) hx hb dX0_bestDelay_50 hl (k := 1) rfl (by decide) rfl (fun ls hl => ?_)
            refine lv_goto (tgt := 15) hx hb dX0_bestDelay_53 (by decide) ?_
            have hq9 : ((k : Int) + 1) = ((k + 1) : Int) := by omega
            have hq10 : ((bdT (bdV e1 x y) k).1) = ((bdT (bdV e1 x y) (k + 1)).1) := by first | exact (bdI_f (v := (bdV e1 x y)) (k := k) (hv8 k) (by omega)).2 | exact (bdI_t (v := (bdV e1 x y)) (k := k) (by omega) (by omega)).2
            have hq11 : (bdI (bdV e1 x y) k) = (bdI (bdV e1 x y) (k + 1)) := by first | exact (bdI_f (v := (bdV e1 x y)) (k := k) (hv8 k) (by omega)).1 | exact (bdI_t (v := (bdV e1 x y)) (k := k) (by omega) (by omega)).1
            have hl : lv_has ls 7 [(5, .int (iI ((k : Int) + 1))), (4, .int (iI ((bdT (bdV e1 x y) k).1))), (3, .int (iI (bdI (bdV e1 x y) k))), (0, .ref (a 0)), (1, .int (iI x)), (2, .int (iI y))] := lv_sub hl [0, 2, 3, 4, 5, 6] rfl
            have hl := Eq.mp (congrArg (fun z9 => lv_has ls 7 [(5, .int (iI z9)), (4, .int (iI ((bdT (bdV e1 x y) k).1))), (3, .int (iI (bdI (bdV e1 x y) k))), (0, .ref (a 0)), (1, .int (iI x)), (2, .int (iI y))]) hq9) hl
            have hl := Eq.mp (congrArg (fun z9 => lv_has ls 7 [(5, .int (iI ((k + 1) : Int))), (4, .int (iI z9)), (3, .int (iI (bdI (bdV e1 x y) k))), (0, .ref (a 0)), (1, .int (iI x)), (2, .int (iI y))]) hq10) hl
            have hl := Eq.mp (congrArg (fun z9 => lv_has ls 7 [(5, .int (iI ((k + 1) : Int))), (4, .int (iI ((bdT (bdV e1 x y) (k + 1)).1))), (3, .int (iI z9)), (0, .ref (a 0)), (1, .int (iI x)), (2, .int (iI y))]) hq11) hl
            exact ih15 (k + 1) (by omega) (by omega) ls hl H locs hP hD hS
          · refine lv_iload hx hb dX0_bestDelay_43 (lv_at hl 0 rfl) ?_
            refine lv_istore_n (lv' := [(3, .int (iI (wlk (seaN e1 (Int.toNat (k : Int))) x y))), (6, .int (iI (wlk (seaN e1 (Int.toNat (k : Int))) x y))), (5, .int (iI (k : Int))), (4, .int (iI ((bdT (bdV e1 x y) k).1))), (0, .ref (a 0)), (1, .int (iI x)), (2, .int (iI y))]) hx hb dX0_bestDelay_45 rfl hl (by decide) rfl (fun ls hl => ?_)
            refine lv_iload hx hb dX0_bestDelay_46 (lv_at hl 2 rfl) ?_
            refine lv_istore (lv' := [(4, .int (iI (k : Int))), (3, .int (iI (wlk (seaN e1 (Int.toNat (k : Int))) x y))), (6, .int (iI (wlk (seaN e1 (Int.toNat (k : Int))) x y))), (5, .int (iI (k : Int))), (0, .ref (a 0)), (1, .int (iI x)), (2, .int (iI y))]) hx hb dX0_bestDelay_48 hl (by decide) rfl (fun ls hl => ?_)
            refine xi_inc (lv' := [(5, .int (iI ((k : Int) + 1))), (4, .int (iI (k : Int))), (3, .int (iI (wlk (seaN e1 (Int.toNat (k : Int))) x y))), (6, .int (iI (wlk (seaN e1 (Int.toNat (k : Int))) x y))), (0, .ref (a 0)), (1, .int (iI x)), (2, .int (iI y))]) hx hb dX0_bestDelay_50 hl (k := 3) rfl (by decide) rfl (fun ls hl => ?_)
            refine lv_goto (tgt := 15) hx hb dX0_bestDelay_53 (by decide) ?_
            have hq12 : ((k : Int) + 1) = ((k + 1) : Int) := by omega
            have hq13 : (k : Int) = ((bdT (bdV e1 x y) (k + 1)).1) := by first | exact (bdI_f (v := (bdV e1 x y)) (k := k) (hv8 k) (by omega)).2 | exact (bdI_t (v := (bdV e1 x y)) (k := k) (by omega) (by omega)).2
            have hq14 : (wlk (seaN e1 (Int.toNat (k : Int))) x y) = (bdI (bdV e1 x y) (k + 1)) := by first | exact (bdI_f (v := (bdV e1 x y)) (k := k) (hv8 k) (by omega)).1 | exact (bdI_t (v := (bdV e1 x y)) (k := k) (by omega) (by omega)).1
            have hl : lv_has ls 7 [(5, .int (iI ((k : Int) + 1))), (4, .int (iI (k : Int))), (3, .int (iI (wlk (seaN e1 (Int.toNat (k : Int))) x y))), (0, .ref (a 0)), (1, .int (iI x)), (2, .int (iI y))] := lv_sub hl [0, 1, 2, 4, 5, 6] rfl
            have hl := Eq.mp (congrArg (fun z9 => lv_has ls 7 [(5, .int (iI z9)), (4, .int (iI (k : Int))), (3, .int (iI (wlk (seaN e1 (Int.toNat (k : Int))) x y))), (0, .ref (a 0)), (1, .int (iI x)), (2, .int (iI y))]) hq12) hl
            have hl := Eq.mp (congrArg (fun z9 => lv_has ls 7 [(5, .int (iI ((k + 1) : Int))), (4, .int (iI z9)), (3, .int (iI (wlk (seaN e1 (Int.toNat (k : Int))) x y))), (0, .ref (a 0)), (1, .int (iI x)), (2, .int (iI y))]) hq13) hl
            have hl := Eq.mp (congrArg (fun z9 => lv_has ls 7 [(5, .int (iI ((k + 1) : Int))), (4, .int (iI ((bdT (bdV e1 x y) (k + 1)).1))), (3, .int (iI z9)), (0, .ref (a 0)), (1, .int (iI x)), (2, .int (iI y))]) hq14) hl
            exact ih15 (k + 1) (by omega) (by omega) ls hl H locs hP hD hS
  have hq15 : 0 = (0 : Int) := rfl
  have hq16 : (-1) = ((bdT (bdV e1 x y) 0).1) := rfl
  have hq17 : 81 = (bdI (bdV e1 x y) 0) := rfl
  have hl : lv_has ls 7 [(5, .int (iI 0)), (4, .int (iI (-1))), (3, .int (iI 81)), (0, .ref (a 0)), (1, .int (iI x)), (2, .int (iI y))] := lv_sub hl [0, 1, 2, 3, 4, 5] rfl
  have hl := Eq.mp (congrArg (fun z9 => lv_has ls 7 [(5, .int (iI z9)), (4, .int (iI (-1))), (3, .int (iI 81)), (0, .ref (a 0)), (1, .int (iI x)), (2, .int (iI y))]) hq15) hl
  have hl := Eq.mp (congrArg (fun z9 => lv_has ls 7 [(5, .int (iI (0 : Int))), (4, .int (iI z9)), (3, .int (iI 81)), (0, .ref (a 0)), (1, .int (iI x)), (2, .int (iI y))]) hq16) hl
  have hl := Eq.mp (congrArg (fun z9 => lv_has ls 7 [(5, .int (iI (0 : Int))), (4, .int (iI ((bdT (bdV e1 x y) 0).1))), (3, .int (iI z9)), (0, .ref (a 0)), (1, .int (iI x)), (2, .int (iI y))]) hq17) hl
  exact lp15 (21 + 1) 0 (by omega) (by omega) ls hl H locs hP hD hS

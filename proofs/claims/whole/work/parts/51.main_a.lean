abbrev rm_X4_finding : Room := { frames := 0, cells := 0, slots := 0, locals := 0 }
set_option maxRecDepth 100000 in
set_option maxHeartbeats 4000000 in
theorem c_X4_finding (l : Launch) (g : Gd) (b : Nat → Nat) (d : Nat → Nat) (fo : Nat → Nat) (tp : Nat → Nat) (sh : Nat → Nat) (a : Nat → Nat) (f1 : Int → Int) (f20 : Int) (x : Int) (sz : Nat) (h1 : 0 ≤ -1000000001 - x ∧ -1000000001 - x < 7) : Met l yX4_finding (wsOf yX4_finding cX4_finding 3 (some .int)) rm_X4_finding (PX g (wP g (wX g a b d fo tp sh f1 f20) sz) [.ref (a 0), .int (iI x)]) (QMi g (fun _ : Unit => wX g a b d fo tp sh (fb (-1000000000 - x) f1) f20) (fun r9 _ => r9 = iI x) (va_A (wX g a b d fo tp sh f1 f20) sz)) 0 0 (va_A (wX g a b d fo tp sh f1 f20) sz) := by
  refine me (g := g) (by decide) rfl ?_
  intro pq eq s mq below meth cq C hnm hB ls hl
  obtain ⟨hx, hb, hr, hml, hown, hts, hlocks, hK⟩ := C
  have hown : s.vm.findClass RX4 = some mq.cls := hown
  have hl : lv_has ls 3 [(0, .ref (a 0)), (1, .int (iI x))] := hl
  obtain ⟨hsz, hP, hD0⟩ := hB
  subst hsz
  have hD := hD0.self (sz := s.heap.size)
  have hA : ∀ q : Nat, s.heap.size ≤ q → va_A (wX g a b d fo tp sh f1 f20) s.heap.size q := fun q h => Or.inr h
  have hS : va_S (va_A (wX g a b d fo tp sh f1 f20) s.heap.size) s.heap s.heap [] := va_S.rf
  refine xi_ldc hx hb hown hts kk_X4_58 dX4_finding_0 ?_
  refine lv_iload_n hx hb dX4_finding_2 rfl (lv_at hl 1 rfl) ?_
  refine xi_sub hx hb dX4_finding_3 ?_
  refine lv_istore_n (lv' := [(2, .int (iI ((-1000000001) - x))), (0, .ref (a 0)), (1, .int (iI x))]) hx hb dX4_finding_4 rfl hl (by decide) rfl (fun ls hl => ?_)
  refine lv_iload_n hx hb dX4_finding_5 rfl (lv_at hl 0 rfl) ?_
  refine xi_z_lt (tgt := 25) hx hb ⟨by omega, by omega⟩ dX4_finding_6 (by decide) (fun z1 => ?_) (fun z1 => ?_)
  · refine lv_iload_n hx hb dX4_finding_25 rfl (lv_at hl 2 rfl) ?_
    have he2 : f1 = (fb (-1000000000 - x) f1) := by first | (exfalso; omega) | (unfold fb; rw [if_neg (by omega), show -1000000000 - x - 1 = -1000000001 - x by omega])
    have hP := Eq.mp (congrArg (fun z9 => va_P g.1 vwCl (wX g a b d fo tp sh z9 f20) s.heap) he2) hP
    have hD := Eq.mp (congrArg (fun z9 => va_D (va_A (wX g a b d fo tp sh f1 f20) s.heap.size) (wX g a b d fo tp sh z9 f20)) he2) hD
    have hP : va_P g.1 vwCl (wX g a b d fo tp sh (fb (-1000000000 - x) f1) f20) s.heap := hP
    have hD : va_D (va_A (wX g a b d fo tp sh f1 f20) s.heap.size) (wX g a b d fo tp sh (fb (-1000000000 - x) f1) f20) := hD
    exact W.iret hx hb hr (fun t ht hW => ⟨⟨_, (), rfl, rfl, by rw [ht]; exact hP, hD⟩, hS.F ht⟩) hS.2.2 dX4_finding_26
  · refine lv_iload_n hx hb dX4_finding_9 rfl (lv_at hl 0 rfl) ?_
    refine lv_bipush (v := iI (7)) hx hb dX4_finding_10 (by decide) ?_
    refine xi_c_ge (tgt := 25) hx hb ⟨by omega, by omega⟩ ⟨by decide, by decide⟩ dX4_finding_12 (by decide) (fun z3 => ?_) (fun z3 => ?_)
    · refine lv_iload_n hx hb dX4_finding_25 rfl (lv_at hl 2 rfl) ?_
      have he4 : f1 = (fb (-1000000000 - x) f1) := by first | (exfalso; omega) | (unfold fb; rw [if_neg (by omega), show -1000000000 - x - 1 = -1000000001 - x by omega])
      have hP := Eq.mp (congrArg (fun z9 => va_P g.1 vwCl (wX g a b d fo tp sh z9 f20) s.heap) he4) hP
      have hD := Eq.mp (congrArg (fun z9 => va_D (va_A (wX g a b d fo tp sh f1 f20) s.heap.size) (wX g a b d fo tp sh z9 f20)) he4) hD
      have hP : va_P g.1 vwCl (wX g a b d fo tp sh (fb (-1000000000 - x) f1) f20) s.heap := hP
      have hD : va_D (va_A (wX g a b d fo tp sh f1 f20) s.heap.size) (wX g a b d fo tp sh (fb (-1000000000 - x) f1) f20) := hD
      exact W.iret hx hb hr (fun t ht hW => ⟨⟨_, (), rfl, rfl, by rw [ht]; exact hP, hD⟩, hS.F ht⟩) hS.2.2 dX4_finding_26
    · refine lv_aload_n hx hb dX4_finding_15 rfl (lv_at hl 1 rfl) ?_
      refine xg_X4 hx hb hts hown hK hP 0 rfl 5 (by decide) fk_X4_42 (v := .ref (a 2)) rfl dX4_finding_16 ?_
      refine lv_iload_n hx hb dX4_finding_19 rfl (lv_at hl 0 rfl) ?_
      refine lv_dup2_11 hx hb dX4_finding_20 rfl rfl ?_
      refine xi_ald hx hb hK hP 2 (f := f1) rfl (i := (-1000000001) - x) ⟨by omega, by omega⟩ rfl dX4_finding_21 ?_
      refine lv_iconst (v := iI (1)) hx hb dX4_finding_22 (by decide) ?_
      refine xi_add hx hb dX4_finding_23 ?_
      refine xi_ast hx hb hK hP hD hS 2 (f := f1) rfl (i := (-1000000001) - x) (v := f1 ((-1000000001) - x) + 1) ⟨by omega, by omega⟩ rfl dX4_finding_24 (fun H locs hP hD hS => ?_)
      have hP : va_P g.1 vwCl (wX g a b d fo tp sh (up f1 ((-1000000001) - x) (f1 ((-1000000001) - x) + 1)) f20) H := hP
      have hD : va_D (va_A (wX g a b d fo tp sh f1 f20) s.heap.size) (wX g a b d fo tp sh (up f1 ((-1000000001) - x) (f1 ((-1000000001) - x) + 1)) f20) := hD
      refine lv_iload_n hx hb dX4_finding_25 rfl (lv_at hl 2 rfl) ?_
      have he5 : (up f1 ((-1000000001) - x) (f1 ((-1000000001) - x) + 1)) = (fb (-1000000000 - x) f1) := by first | (exfalso; omega) | (unfold fb; rw [if_neg (by omega), show -1000000000 - x - 1 = -1000000001 - x by omega])
      have hP := Eq.mp (congrArg (fun z9 => va_P g.1 vwCl (wX g a b d fo tp sh z9 f20) H) he5) hP
      have hD := Eq.mp (congrArg (fun z9 => va_D (va_A (wX g a b d fo tp sh f1 f20) s.heap.size) (wX g a b d fo tp sh z9 f20)) he5) hD
      have hP : va_P g.1 vwCl (wX g a b d fo tp sh (fb (-1000000000 - x) f1) f20) H := hP
      have hD : va_D (va_A (wX g a b d fo tp sh f1 f20) s.heap.size) (wX g a b d fo tp sh (fb (-1000000000 - x) f1) f20) := hD
      exact W.iret hx hb hr (fun t ht hW => ⟨⟨_, (), rfl, rfl, by rw [ht]; exact hP, hD⟩, hS.F ht⟩) hS.2.2 dX4_finding_26
abbrev rm_X4_orNone : Room := { frames := 1, cells := 0, slots := 0, locals := 22 }
set_option maxRecDepth 100000 in
set_option maxHeartbeats 4000000 in
theorem c_X4_orNoneN (l : Launch) (g : Gd) (b : Nat → Nat) (d : Nat → Nat) (fo : Nat → Nat) (tp : Nat → Nat) (sh : Nat → Nat) (a : Nat → Nat) (f1 : Int → Int) (f20 : Int) (x : Int) (sz : Nat) (h1 : IR x) (h2 : x < 0) : Met l yX4_orNone (wsOf yX4_orNone cX4_orNone 2 (some .int)) rm_X4_orNone (PX g (wP g (wX g a b d fo tp sh f1 f20) sz) [.ref (a 0), .int (iI x)]) (QMi g (fun _ : Unit => wX g a b d fo tp sh (fb (-1000000000 - (-1000000004)) f1) f20) (fun r9 _ => r9 = iI (-1000000004)) (va_A (wX g a b d fo tp sh f1 f20) sz)) 0 0 (va_A (wX g a b d fo tp sh f1 f20) sz) := by
  refine me (g := g) (by decide) rfl ?_
  intro pq eq s mq below meth cq C hnm hB ls hl
  obtain ⟨hx, hb, hr, hml, hown, hts, hlocks, hK⟩ := C
  have hown : s.vm.findClass RX4 = some mq.cls := hown
  have hl : lv_has ls 2 [(0, .ref (a 0)), (1, .int (iI x))] := hl
  obtain ⟨hsz, hP, hD0⟩ := hB
  subst hsz
  have hD := hD0.self (sz := s.heap.size)
  have hA : ∀ q : Nat, s.heap.size ≤ q → va_A (wX g a b d fo tp sh f1 f20) s.heap.size q := fun q h => Or.inr h
  have hS : va_S (va_A (wX g a b d fo tp sh f1 f20) s.heap.size) s.heap s.heap [] := va_S.rf
  have q1 := h1.1
  have q2 := h1.2
  refine lv_iload_n hx hb dX4_orNone_0 rfl (lv_at hl 1 rfl) ?_
  refine xi_z_ge (tgt := 14) hx hb ⟨by omega, by omega⟩ dX4_orNone_1 (by decide) (fun z1 => ?_) (fun z1 => ?_)
  · refine lv_iload_n hx hb dX4_orNone_14 rfl (lv_at hl 1 rfl) ?_
    have he2 : f1 = (fb (-1000000000 - (-1000000004)) f1) := by exfalso; omega
    have hP := Eq.mp (congrArg (fun z9 => va_P g.1 vwCl (wX g a b d fo tp sh z9 f20) s.heap) he2) hP
    have hD := Eq.mp (congrArg (fun z9 => va_D (va_A (wX g a b d fo tp sh f1 f20) s.heap.size) (wX g a b d fo tp sh z9 f20)) he2) hD
    have hP : va_P g.1 vwCl (wX g a b d fo tp sh (fb (-1000000000 - (-1000000004)) f1) f20) s.heap := hP
    have hD : va_D (va_A (wX g a b d fo tp sh f1 f20) s.heap.size) (wX g a b d fo tp sh (fb (-1000000000 - (-1000000004)) f1) f20) := hD
    exact W.iret hx hb hr (fun t ht hW => ⟨⟨_, (), rfl, congrArg iI (by omega), by rw [ht]; exact hP, hD⟩, hS.F ht⟩) hS.2.2 dX4_orNone_15
  · refine lv_aload_n hx hb dX4_orNone_4 rfl (lv_at hl 0 rfl) ?_
    refine xi_ldcw hx hb hown hts kk_X4_292 dX4_orNone_5 ?_
    refine xm_i (rV (rest := []) hx hb hml hown hts hK hl (c_X4_finding l g b d fo tp sh a f1 f20 (-1000000004) (s.heap).size (show 0 ≤ -1000000001 - (-1000000004) ∧ -1000000001 - (-1000000004) < 7 from by omega)) lk_X4_59 ⟨rfl, hP, hD.weaken (fun _ _ _ _ => trivial)⟩ (va_recv hK.1 hP (ci := 4) (q0 := 0) rfl rfl) rfl rfl rfl (Rm.of rfl) rfl rfl dX4_orNone_8) hD hS hA (fun x9 _ H locs hw hP hD hS => ?_)
    obtain rfl : x9 = iI (-1000000004) := hw
    have hP : va_P g.1 vwCl (wX g a b d fo tp sh (fb (-1000000000 - (-1000000004)) f1) f20) H := hP
    have hD : va_D (va_A (wX g a b d fo tp sh f1 f20) s.heap.size) (wX g a b d fo tp sh (fb (-1000000000 - (-1000000004)) f1) f20) := hD
    refine lv_goto (tgt := 15) hx hb dX4_orNone_11 (by decide) ?_
    have hP : va_P g.1 vwCl (wX g a b d fo tp sh (fb (-1000000000 - (-1000000004)) f1) f20) H := hP
    have hD : va_D (va_A (wX g a b d fo tp sh f1 f20) s.heap.size) (wX g a b d fo tp sh (fb (-1000000000 - (-1000000004)) f1) f20) := hD
    exact W.iret hx hb hr (fun t ht hW => ⟨⟨_, (), rfl, congrArg iI (by omega), by rw [ht]; exact hP, hD⟩, hS.F ht⟩) hS.2.2 dX4_orNone_15
set_option maxRecDepth 100000 in
set_option maxHeartbeats 4000000 in
theorem c_X4_orNoneP (l : Launch) (g : Gd) (b : Nat → Nat) (d : Nat → Nat) (fo : Nat → Nat) (tp : Nat → Nat) (sh : Nat → Nat) (a : Nat → Nat) (f1 : Int → Int) (f20 : Int) (x : Int) (sz : Nat) (h1 : IR x) (h2 : 0 ≤ x) : Met l yX4_orNone (wsOf yX4_orNone cX4_orNone 2 (some .int)) rm_X4_orNone (PX g (wP g (wX g a b d fo tp sh f1 f20) sz) [.ref (a 0), .int (iI x)]) (QMi g (fun _ : Unit => wX g a b d fo tp sh f1 f20) (fun r9 _ => r9 = iI x) (va_A (wX g a b d fo tp sh f1 f20) sz)) 0 0 (va_A (wX g a b d fo tp sh f1 f20) sz) := by
  refine me (g := g) (by decide) rfl ?_
  intro pq eq s mq below meth cq C hnm hB ls hl
  obtain ⟨hx, hb, hr, hml, hown, hts, hlocks, hK⟩ := C
  have hown : s.vm.findClass RX4 = some mq.cls := hown
  have hl : lv_has ls 2 [(0, .ref (a 0)), (1, .int (iI x))] := hl
  obtain ⟨hsz, hP, hD0⟩ := hB
  subst hsz
  have hD := hD0.self (sz := s.heap.size)
  have hA : ∀ q : Nat, s.heap.size ≤ q → va_A (wX g a b d fo tp sh f1 f20) s.heap.size q := fun q h => Or.inr h
  have hS : va_S (va_A (wX g a b d fo tp sh f1 f20) s.heap.size) s.heap s.heap [] := va_S.rf
  have q1 := h1.1
  have q2 := h1.2
  refine lv_iload_n hx hb dX4_orNone_0 rfl (lv_at hl 1 rfl) ?_
  refine xi_z_ge (tgt := 14) hx hb ⟨by omega, by omega⟩ dX4_orNone_1 (by decide) (fun z1 => ?_) (fun z1 => ?_)
  · refine lv_iload_n hx hb dX4_orNone_14 rfl (lv_at hl 1 rfl) ?_
    have hP : va_P g.1 vwCl (wX g a b d fo tp sh f1 f20) s.heap := hP
    have hD : va_D (va_A (wX g a b d fo tp sh f1 f20) s.heap.size) (wX g a b d fo tp sh f1 f20) := hD
    exact W.iret hx hb hr (fun t ht hW => ⟨⟨_, (), rfl, congrArg iI (by omega), by rw [ht]; exact hP, hD⟩, hS.F ht⟩) hS.2.2 dX4_orNone_15
  · refine lv_aload_n hx hb dX4_orNone_4 rfl (lv_at hl 0 rfl) ?_
    refine xi_ldcw hx hb hown hts kk_X4_292 dX4_orNone_5 ?_
    refine xm_i (rV (rest := []) hx hb hml hown hts hK hl (c_X4_finding l g b d fo tp sh a f1 f20 (-1000000004) (s.heap).size (show 0 ≤ -1000000001 - (-1000000004) ∧ -1000000001 - (-1000000004) < 7 from by omega)) lk_X4_59 ⟨rfl, hP, hD.weaken (fun _ _ _ _ => trivial)⟩ (va_recv hK.1 hP (ci := 4) (q0 := 0) rfl rfl) rfl rfl rfl (Rm.of rfl) rfl rfl dX4_orNone_8) hD hS hA (fun x9 _ H locs hw hP hD hS => ?_)
    obtain rfl : x9 = iI (-1000000004) := hw
    have hP : va_P g.1 vwCl (wX g a b d fo tp sh (fb (-1000000000 - (-1000000004)) f1) f20) H := hP
    have hD : va_D (va_A (wX g a b d fo tp sh f1 f20) s.heap.size) (wX g a b d fo tp sh (fb (-1000000000 - (-1000000004)) f1) f20) := hD
    refine lv_goto (tgt := 15) hx hb dX4_orNone_11 (by decide) ?_
    have he3 : (fb (-1000000000 - (-1000000004)) f1) = f1 := by exfalso; omega
    have hP := Eq.mp (congrArg (fun z9 => va_P g.1 vwCl (wX g a b d fo tp sh z9 f20) H) he3) hP
    have hD := Eq.mp (congrArg (fun z9 => va_D (va_A (wX g a b d fo tp sh f1 f20) s.heap.size) (wX g a b d fo tp sh z9 f20)) he3) hD
    have hP : va_P g.1 vwCl (wX g a b d fo tp sh f1 f20) H := hP
    have hD : va_D (va_A (wX g a b d fo tp sh f1 f20) s.heap.size) (wX g a b d fo tp sh f1 f20) := hD
    exact W.iret hx hb hr (fun t ht hW => ⟨⟨_, (), rfl, congrArg iI (by omega), by rw [ht]; exact hP, hD⟩, hS.F ht⟩) hS.2.2 dX4_orNone_15
abbrev rm_X4_isRange : Room := { frames := 0, cells := 0, slots := 0, locals := 0 }
set_option maxRecDepth 100000 in
set_option maxHeartbeats 4000000 in
theorem c_X4_isRange (l : Launch) (g : Gd) (d : Nat → Nat) (fo : Nat → Nat) (tp : Nat → Nat) (sh : Nat → Nat) (a : Nat → Nat) (f1 : Int → Int) (f20 : Int) (b : Nat → Nat) (e1 : Int → Int) (e10 : Int → Int) (e11 : Int → Int) (r : Int) (h1 : IR r) (h2 : 0 ≤ e1 1 ∧ e1 1 ≤ 8) : Met l yX4_isRange (wsOf yX4_isRange cX4_isRange 2 (some .boolean)) rm_X4_isRange (PX g (va_P g.1 vwCl (wX g a b d fo tp sh f1 f20 ++ (wLs g b e1 e10 e11))) [.ref (a 0), .int (iI r)]) (vp_Si (fun r9 => r9 = iI (bI (0 ≤ r ∧ r < e1 1)))) 0 0 (fun _ => False) := by
  refine me (g := g) (by decide) rfl ?_
  intro pq eq s mq below meth cq C hnm hB ls hl
  obtain ⟨hx, hb, hr, hml, hown, hts, hlocks, hK⟩ := C
  have hown : s.vm.findClass RX4 = some mq.cls := hown
  have hl : lv_has ls 2 [(0, .ref (a 0)), (1, .int (iI r))] := hl
  have hP : va_P g.1 vwCl (wX g a b d fo tp sh f1 f20 ++ (wLs g b e1 e10 e11)) s.heap := hB
  obtain ⟨hP0, hP1⟩ := va_P_app.mp hP
  have q1 := h1.1
  have q2 := h1.2
  refine lv_iload_n hx hb dX4_isRange_0 rfl (lv_at hl 1 rfl) ?_
  refine xi_z_lt (tgt := 19) hx hb ⟨by omega, by omega⟩ dX4_isRange_1 (by decide) (fun z1 => ?_) (fun z1 => ?_)
  · refine lv_iconst (v := iI (0)) hx hb dX4_isRange_19 (by decide) ?_
    exact W.zret hx hb hr (by decide) (fun t ht hW => ⟨_, rfl, by rw [bI_f (by omega)], ht⟩) (fun q h => by cases h) dX4_isRange_20
  · refine lv_iload_n hx hb dX4_isRange_4 rfl (lv_at hl 1 rfl) ?_
    refine lv_aload_n hx hb dX4_isRange_5 rfl (lv_at hl 0 rfl) ?_
    refine xg_X4 hx hb hts hown hK hP0 0 rfl 0 (by decide) fk_X4_10 (v := .ref (b 0)) rfl dX4_isRange_6 ?_
    refine xgN_X1 hx hb hts hown hK hP1 0 rfl 1 (by decide) fk_X4_110 (v := .int (iI (e1 1))) rfl dX4_isRange_9 ?_
    refine xi_c_ge (tgt := 19) hx hb ⟨by omega, by omega⟩ ⟨by omega, by omega⟩ dX4_isRange_12 (by decide) (fun z2 => ?_) (fun z2 => ?_)
    · refine lv_iconst (v := iI (0)) hx hb dX4_isRange_19 (by decide) ?_
      exact W.zret hx hb hr (by decide) (fun t ht hW => ⟨_, rfl, by rw [bI_f (by omega)], ht⟩) (fun q h => by cases h) dX4_isRange_20
    · refine lv_iconst (v := iI (1)) hx hb dX4_isRange_15 (by decide) ?_
      refine lv_goto (tgt := 20) hx hb dX4_isRange_16 (by decide) ?_
      exact W.zret hx hb hr (by decide) (fun t ht hW => ⟨_, rfl, by rw [bI_t (by omega)], ht⟩) (fun q h => by cases h) dX4_isRange_20
abbrev rm_X4_isVillage : Room := { frames := 0, cells := 0, slots := 0, locals := 0 }
set_option maxRecDepth 100000 in
set_option maxHeartbeats 4000000 in
theorem c_X4_isVillage (l : Launch) (g : Gd) (d : Nat → Nat) (fo : Nat → Nat) (tp : Nat → Nat) (sh : Nat → Nat) (a : Nat → Nat) (f1 : Int → Int) (f20 : Int) (b : Nat → Nat) (e1 : Int → Int) (e10 : Int → Int) (e11 : Int → Int) (r : Int) (h1 : IR r) (h2 : 0 ≤ e1 2 ∧ e1 2 ≤ 6) : Met l yX4_isVillage (wsOf yX4_isVillage cX4_isVillage 2 (some .boolean)) rm_X4_isVillage (PX g (va_P g.1 vwCl (wX g a b d fo tp sh f1 f20 ++ (wLs g b e1 e10 e11))) [.ref (a 0), .int (iI r)]) (vp_Si (fun r9 => r9 = iI (bI (0 ≤ r ∧ r < e1 2)))) 0 0 (fun _ => False) := by
  refine me (g := g) (by decide) rfl ?_
  intro pq eq s mq below meth cq C hnm hB ls hl
  obtain ⟨hx, hb, hr, hml, hown, hts, hlocks, hK⟩ := C
  have hown : s.vm.findClass RX4 = some mq.cls := hown
  have hl : lv_has ls 2 [(0, .ref (a 0)), (1, .int (iI r))] := hl
  have hP : va_P g.1 vwCl (wX g a b d fo tp sh f1 f20 ++ (wLs g b e1 e10 e11)) s.heap := hB
  obtain ⟨hP0, hP1⟩ := va_P_app.mp hP
  have q1 := h1.1
  have q2 := h1.2
  refine lv_iload_n hx hb dX4_isVillage_0 rfl (lv_at hl 1 rfl) ?_
  refine xi_z_lt (tgt := 19) hx hb ⟨by omega, by omega⟩ dX4_isVillage_1 (by decide) (fun z1 => ?_) (fun z1 => ?_)
  · refine lv_iconst (v := iI (0)) hx hb dX4_isVillage_19 (by decide) ?_
    exact W.zret hx hb hr (by decide) (fun t ht hW => ⟨_, rfl, by rw [bI_f (by omega)], ht⟩) (fun q h => by cases h) dX4_isVillage_20
  · refine lv_iload_n hx hb dX4_isVillage_4 rfl (lv_at hl 1 rfl) ?_
    refine lv_aload_n hx hb dX4_isVillage_5 rfl (lv_at hl 0 rfl) ?_
    refine xg_X4 hx hb hts hown hK hP0 0 rfl 0 (by decide) fk_X4_10 (v := .ref (b 0)) rfl dX4_isVillage_6 ?_
    refine xgN_X1 hx hb hts hown hK hP1 0 rfl 2 (by decide) fk_X4_82 (v := .int (iI (e1 2))) rfl dX4_isVillage_9 ?_
    refine xi_c_ge (tgt := 19) hx hb ⟨by omega, by omega⟩ ⟨by omega, by omega⟩ dX4_isVillage_12 (by decide) (fun z2 => ?_) (fun z2 => ?_)
    · refine lv_iconst (v := iI (0)) hx hb dX4_isVillage_19 (by decide) ?_
      exact W.zret hx hb hr (by decide) (fun t ht hW => ⟨_, rfl, by rw [bI_f (by omega)], ht⟩) (fun q h => by cases h) dX4_isVillage_20
    · refine lv_iconst (v := iI (1)) hx hb dX4_isVillage_15 (by decide) ?_
      refine lv_goto (tgt := 20) hx hb dX4_isVillage_16 (by decide) ?_
      exact W.zret hx hb hr (by decide) (fun t ht hW => ⟨_, rfl, by rw [bI_t (by omega)], ht⟩) (fun q h => by cases h) dX4_isVillage_20
abbrev rm_X4_sheetAt : Room := { frames := 0, cells := 0, slots := 0, locals := 0 }
set_option maxRecDepth 100000 in
set_option maxHeartbeats 4000000 in
theorem c_X4_sheetAt0 (l : Launch) (g : Gd) (b : Nat → Nat) (d : Nat → Nat) (fo : Nat → Nat) (tp : Nat → Nat) (sh : Nat → Nat) (a : Nat → Nat) (f1 : Int → Int) (f20 : Int) (n9 : Int) (h1 : IR n9) (h2 : n9 = 0) : Met l yX4_sheetAt (wsOf yX4_sheetAt cX4_sheetAt 2 (some (.object "MountainFile$Sheet"))) rm_X4_sheetAt (PX g (va_P g.1 vwCl (wX g a b d fo tp sh f1 f20)) [.ref (a 0), .int (iI n9)]) (vp_Sv (.ref (sh 0))) 0 0 (fun _ => False) := by
  refine me (g := g) (by decide) rfl ?_
  intro pq eq s mq below meth cq C hnm hB ls hl
  obtain ⟨hx, hb, hr, hml, hown, hts, hlocks, hK⟩ := C
  have hown : s.vm.findClass RX4 = some mq.cls := hown
  have hl : lv_has ls 2 [(0, .ref (a 0)), (1, .int (iI n9))] := hl
  have hP : va_P g.1 vwCl (wX g a b d fo tp sh f1 f20) s.heap := hB
  have q1 := h1.1
  have q2 := h1.2
  refine lv_iload_n hx hb dX4_sheetAt_0 rfl (lv_at hl 1 rfl) ?_
  refine xi_z_lt (tgt := 18) hx hb ⟨by omega, by omega⟩ dX4_sheetAt_1 (by decide) (fun z1 => ?_) (fun z1 => ?_)
  · refine lv_null hx hb dX4_sheetAt_18 ?_
    exfalso; omega
  · refine lv_iload_n hx hb dX4_sheetAt_4 rfl (lv_at hl 1 rfl) ?_
    refine lv_iconst (v := iI (4)) hx hb dX4_sheetAt_5 (by decide) ?_
    refine xi_c_ge (tgt := 18) hx hb ⟨by omega, by omega⟩ ⟨by decide, by decide⟩ dX4_sheetAt_6 (by decide) (fun z2 => ?_) (fun z2 => ?_)
    · refine lv_null hx hb dX4_sheetAt_18 ?_
      exfalso; omega
    · refine lv_aload_n hx hb dX4_sheetAt_9 rfl (lv_at hl 0 rfl) ?_
      refine xg_X4 hx hb hts hown hK hP 0 rfl 4 (by decide) fk_X4_37 (v := .ref (a 1)) rfl dX4_sheetAt_10 ?_
      refine lv_iload_n hx hb dX4_sheetAt_13 rfl (lv_at hl 1 rfl) ?_
      refine xa_ald hx hb hK hP 1 rfl (i := n9) (j := 0) (by omega) (by decide) dX4_sheetAt_14 ?_
      refine lv_goto (tgt := 19) hx hb dX4_sheetAt_15 (by decide) ?_
      exact W.aret hx hb hr (Or.inl ⟨_, rfl⟩) (Or.inr ⟨_, rfl⟩) (fun t ht hW => ⟨rfl, ht⟩) (fun q h => by cases h) dX4_sheetAt_19
set_option maxRecDepth 100000 in
set_option maxHeartbeats 4000000 in
theorem c_X4_sheetAt1 (l : Launch) (g : Gd) (b : Nat → Nat) (d : Nat → Nat) (fo : Nat → Nat) (tp : Nat → Nat) (sh : Nat → Nat) (a : Nat → Nat) (f1 : Int → Int) (f20 : Int) (n9 : Int) (h1 : IR n9) (h2 : n9 = 1) : Met l yX4_sheetAt (wsOf yX4_sheetAt cX4_sheetAt 2 (some (.object "MountainFile$Sheet"))) rm_X4_sheetAt (PX g (va_P g.1 vwCl (wX g a b d fo tp sh f1 f20)) [.ref (a 0), .int (iI n9)]) (vp_Sv (.ref (sh 2))) 0 0 (fun _ => False) := by
  refine me (g := g) (by decide) rfl ?_
  intro pq eq s mq below meth cq C hnm hB ls hl
  obtain ⟨hx, hb, hr, hml, hown, hts, hlocks, hK⟩ := C
  have hown : s.vm.findClass RX4 = some mq.cls := hown
  have hl : lv_has ls 2 [(0, .ref (a 0)), (1, .int (iI n9))] := hl
  have hP : va_P g.1 vwCl (wX g a b d fo tp sh f1 f20) s.heap := hB
  have q1 := h1.1
  have q2 := h1.2
  refine lv_iload_n hx hb dX4_sheetAt_0 rfl (lv_at hl 1 rfl) ?_
  refine xi_z_lt (tgt := 18) hx hb ⟨by omega, by omega⟩ dX4_sheetAt_1 (by decide) (fun z1 => ?_) (fun z1 => ?_)
  · refine lv_null hx hb dX4_sheetAt_18 ?_
    exfalso; omega
  · refine lv_iload_n hx hb dX4_sheetAt_4 rfl (lv_at hl 1 rfl) ?_
    refine lv_iconst (v := iI (4)) hx hb dX4_sheetAt_5 (by decide) ?_
    refine xi_c_ge (tgt := 18) hx hb ⟨by omega, by omega⟩ ⟨by decide, by decide⟩ dX4_sheetAt_6 (by decide) (fun z2 => ?_) (fun z2 => ?_)
    · refine lv_null hx hb dX4_sheetAt_18 ?_
      exfalso; omega
    · refine lv_aload_n hx hb dX4_sheetAt_9 rfl (lv_at hl 0 rfl) ?_
      refine xg_X4 hx hb hts hown hK hP 0 rfl 4 (by decide) fk_X4_37 (v := .ref (a 1)) rfl dX4_sheetAt_10 ?_
      refine lv_iload_n hx hb dX4_sheetAt_13 rfl (lv_at hl 1 rfl) ?_
      refine xa_ald hx hb hK hP 1 rfl (i := n9) (j := 1) (by omega) (by decide) dX4_sheetAt_14 ?_
      refine lv_goto (tgt := 19) hx hb dX4_sheetAt_15 (by decide) ?_
      exact W.aret hx hb hr (Or.inl ⟨_, rfl⟩) (Or.inr ⟨_, rfl⟩) (fun t ht hW => ⟨rfl, ht⟩) (fun q h => by cases h) dX4_sheetAt_19
set_option maxRecDepth 100000 in
set_option maxHeartbeats 4000000 in
theorem c_X4_sheetAt2 (l : Launch) (g : Gd) (b : Nat → Nat) (d : Nat → Nat) (fo : Nat → Nat) (tp : Nat → Nat) (sh : Nat → Nat) (a : Nat → Nat) (f1 : Int → Int) (f20 : Int) (n9 : Int) (h1 : IR n9) (h2 : n9 = 2) : Met l yX4_sheetAt (wsOf yX4_sheetAt cX4_sheetAt 2 (some (.object "MountainFile$Sheet"))) rm_X4_sheetAt (PX g (va_P g.1 vwCl (wX g a b d fo tp sh f1 f20)) [.ref (a 0), .int (iI n9)]) (vp_Sv (.ref (sh 4))) 0 0 (fun _ => False) := by
  refine me (g := g) (by decide) rfl ?_
  intro pq eq s mq below meth cq C hnm hB ls hl
  obtain ⟨hx, hb, hr, hml, hown, hts, hlocks, hK⟩ := C
  have hown : s.vm.findClass RX4 = some mq.cls := hown
  have hl : lv_has ls 2 [(0, .ref (a 0)), (1, .int (iI n9))] := hl
  have hP : va_P g.1 vwCl (wX g a b d fo tp sh f1 f20) s.heap := hB
  have q1 := h1.1
  have q2 := h1.2
  refine lv_iload_n hx hb dX4_sheetAt_0 rfl (lv_at hl 1 rfl) ?_
  refine xi_z_lt (tgt := 18) hx hb ⟨by omega, by omega⟩ dX4_sheetAt_1 (by decide) (fun z1 => ?_) (fun z1 => ?_)
  · refine lv_null hx hb dX4_sheetAt_18 ?_
    exfalso; omega
  · refine lv_iload_n hx hb dX4_sheetAt_4 rfl (lv_at hl 1 rfl) ?_
    refine lv_iconst (v := iI (4)) hx hb dX4_sheetAt_5 (by decide) ?_
    refine xi_c_ge (tgt := 18) hx hb ⟨by omega, by omega⟩ ⟨by decide, by decide⟩ dX4_sheetAt_6 (by decide) (fun z2 => ?_) (fun z2 => ?_)
    · refine lv_null hx hb dX4_sheetAt_18 ?_
      exfalso; omega
    · refine lv_aload_n hx hb dX4_sheetAt_9 rfl (lv_at hl 0 rfl) ?_
      refine xg_X4 hx hb hts hown hK hP 0 rfl 4 (by decide) fk_X4_37 (v := .ref (a 1)) rfl dX4_sheetAt_10 ?_
      refine lv_iload_n hx hb dX4_sheetAt_13 rfl (lv_at hl 1 rfl) ?_
      refine xa_ald hx hb hK hP 1 rfl (i := n9) (j := 2) (by omega) (by decide) dX4_sheetAt_14 ?_
      refine lv_goto (tgt := 19) hx hb dX4_sheetAt_15 (by decide) ?_
      exact W.aret hx hb hr (Or.inl ⟨_, rfl⟩) (Or.inr ⟨_, rfl⟩) (fun t ht hW => ⟨rfl, ht⟩) (fun q h => by cases h) dX4_sheetAt_19
set_option maxRecDepth 100000 in
set_option maxHeartbeats 4000000 in
theorem c_X4_sheetAt3 (l : Launch) (g : Gd) (b : Nat → Nat) (d : Nat → Nat) (fo : Nat → Nat) (tp : Nat → Nat) (sh : Nat → Nat) (a : Nat → Nat) (f1 : Int → Int) (f20 : Int) (n9 : Int) (h1 : IR n9) (h2 : n9 = 3) : Met l yX4_sheetAt (wsOf yX4_sheetAt cX4_sheetAt 2 (some (.object "MountainFile$Sheet"))) rm_X4_sheetAt (PX g (va_P g.1 vwCl (wX g a b d fo tp sh f1 f20)) [.ref (a 0), .int (iI n9)]) (vp_Sv (.ref (sh 6))) 0 0 (fun _ => False) := by
  refine me (g := g) (by decide) rfl ?_
  intro pq eq s mq below meth cq C hnm hB ls hl
  obtain ⟨hx, hb, hr, hml, hown, hts, hlocks, hK⟩ := C
  have hown : s.vm.findClass RX4 = some mq.cls := hown
  have hl : lv_has ls 2 [(0, .ref (a 0)), (1, .int (iI n9))] := hl
  have hP : va_P g.1 vwCl (wX g a b d fo tp sh f1 f20) s.heap := hB
  have q1 := h1.1
  have q2 := h1.2
  refine lv_iload_n hx hb dX4_sheetAt_0 rfl (lv_at hl 1 rfl) ?_
  refine xi_z_lt (tgt := 18) hx hb ⟨by omega, by omega⟩ dX4_sheetAt_1 (by decide) (fun z1 => ?_) (fun z1 => ?_)
  · refine lv_null hx hb dX4_sheetAt_18 ?_
    exfalso; omega
  · refine lv_iload_n hx hb dX4_sheetAt_4 rfl (lv_at hl 1 rfl) ?_
    refine lv_iconst (v := iI (4)) hx hb dX4_sheetAt_5 (by decide) ?_
    refine xi_c_ge (tgt := 18) hx hb ⟨by omega, by omega⟩ ⟨by decide, by decide⟩ dX4_sheetAt_6 (by decide) (fun z2 => ?_) (fun z2 => ?_)
    · refine lv_null hx hb dX4_sheetAt_18 ?_
      exfalso; omega
    · refine lv_aload_n hx hb dX4_sheetAt_9 rfl (lv_at hl 0 rfl) ?_
      refine xg_X4 hx hb hts hown hK hP 0 rfl 4 (by decide) fk_X4_37 (v := .ref (a 1)) rfl dX4_sheetAt_10 ?_
      refine lv_iload_n hx hb dX4_sheetAt_13 rfl (lv_at hl 1 rfl) ?_
      refine xa_ald hx hb hK hP 1 rfl (i := n9) (j := 3) (by omega) (by decide) dX4_sheetAt_14 ?_
      refine lv_goto (tgt := 19) hx hb dX4_sheetAt_15 (by decide) ?_
      exact W.aret hx hb hr (Or.inl ⟨_, rfl⟩) (Or.inr ⟨_, rfl⟩) (fun t ht hW => ⟨rfl, ht⟩) (fun q h => by cases h) dX4_sheetAt_19
set_option maxRecDepth 100000 in
set_option maxHeartbeats 4000000 in
theorem c_X4_sheetAtN (l : Launch) (g : Gd) (b : Nat → Nat) (d : Nat → Nat) (fo : Nat → Nat) (tp : Nat → Nat) (sh : Nat → Nat) (a : Nat → Nat) (f1 : Int → Int) (f20 : Int) (n9 : Int) (h1 : IR n9) (h2 : n9 < 0 ∨ 3 < n9) : Met l yX4_sheetAt (wsOf yX4_sheetAt cX4_sheetAt 2 (some (.object "MountainFile$Sheet"))) rm_X4_sheetAt (PX g (va_P g.1 vwCl (wX g a b d fo tp sh f1 f20)) [.ref (a 0), .int (iI n9)]) (vp_Sv .null) 0 0 (fun _ => False) := by
  refine me (g := g) (by decide) rfl ?_
  intro pq eq s mq below meth cq C hnm hB ls hl
  obtain ⟨hx, hb, hr, hml, hown, hts, hlocks, hK⟩ := C
  have hown : s.vm.findClass RX4 = some mq.cls := hown
  have hl : lv_has ls 2 [(0, .ref (a 0)), (1, .int (iI n9))] := hl
  have hP : va_P g.1 vwCl (wX g a b d fo tp sh f1 f20) s.heap := hB
  have q1 := h1.1
  have q2 := h1.2
  refine lv_iload_n hx hb dX4_sheetAt_0 rfl (lv_at hl 1 rfl) ?_
  refine xi_z_lt (tgt := 18) hx hb ⟨by omega, by omega⟩ dX4_sheetAt_1 (by decide) (fun z1 => ?_) (fun z1 => ?_)
  · refine lv_null hx hb dX4_sheetAt_18 ?_
    exact W.aret hx hb hr (Or.inl ⟨_, rfl⟩) (Or.inl rfl) (fun t ht hW => ⟨rfl, ht⟩) (fun q h => by cases h) dX4_sheetAt_19
  · refine lv_iload_n hx hb dX4_sheetAt_4 rfl (lv_at hl 1 rfl) ?_
    refine lv_iconst (v := iI (4)) hx hb dX4_sheetAt_5 (by decide) ?_
    refine xi_c_ge (tgt := 18) hx hb ⟨by omega, by omega⟩ ⟨by decide, by decide⟩ dX4_sheetAt_6 (by decide) (fun z2 => ?_) (fun z2 => ?_)
    · refine lv_null hx hb dX4_sheetAt_18 ?_
      exact W.aret hx hb hr (Or.inl ⟨_, rfl⟩) (Or.inl rfl) (fun t ht hW => ⟨rfl, ht⟩) (fun q h => by cases h) dX4_sheetAt_19
    · refine lv_aload_n hx hb dX4_sheetAt_9 rfl (lv_at hl 0 rfl) ?_
      refine xg_X4 hx hb hts hown hK hP 0 rfl 4 (by decide) fk_X4_37 (v := .ref (a 1)) rfl dX4_sheetAt_10 ?_
      refine lv_iload_n hx hb dX4_sheetAt_13 rfl (lv_at hl 1 rfl) ?_
      exfalso; omega
abbrev rm_X4_isOrIsUnder : Room := { frames := 1, cells := 0, slots := 0, locals := 20 }
set_option maxRecDepth 100000 in
set_option maxHeartbeats 4000000 in
theorem c_X4_isOrIsUnder (l : Launch) (g : Gd) (x : Int) (y : Int) (h1 : 0 ≤ x ∧ x ≤ 5) (h2 : 0 ≤ y ∧ y ≤ 5) : Met l yX4_isOrIsUnder (wsOf yX4_isOrIsUnder cX4_isOrIsUnder 4 (some .boolean)) rm_X4_isOrIsUnder (PX g (fun _ => True) [.int (iI x), .int (iI y)]) (vp_Si (fun r9 => r9 = iI (bI (x = y ∨ y = 0 ∨ (x = 4 ∧ y = 1) ∨ (x = 5 ∧ y = 2))))) 0 0 (fun _ => False) := by
  refine me (g := g) (by decide) rfl ?_
  intro pq eq s mq below meth cq C hnm hB ls hl
  obtain ⟨hx, hb, hr, hml, hown, hts, hlocks, hK⟩ := C
  have hown : s.vm.findClass RX4 = some mq.cls := hown
  have hl : lv_has ls 4 [(0, .int (iI x)), (1, .int (iI y))] := hl
  refine lv_iload_n hx hb dX4_isOrIsUnder_0 rfl (lv_at hl 0 rfl) ?_
  refine lv_istore_n (lv' := [(2, .int (iI x)), (0, .int (iI x)), (1, .int (iI y))]) hx hb dX4_isOrIsUnder_1 rfl hl (by decide) rfl (fun ls hl => ?_)
  refine lv_iconst (v := iI (0)) hx hb dX4_isOrIsUnder_2 (by decide) ?_
  refine lv_istore_n (lv' := [(3, .int (iI 0)), (2, .int (iI x)), (0, .int (iI x)), (1, .int (iI y))]) hx hb dX4_isOrIsUnder_3 rfl hl (by decide) rfl (fun ls hl => ?_)
  have lp4 : ∀ (n4 : Nat) (k : Nat) (z : Int), (0 ≤ z ∧ z ≤ 5) → ((x = y ∨ y = 0 ∨ (x = 4 ∧ y = 1) ∨ (x = 5 ∧ y = 2)) ↔ (z = y ∨ y = 0 ∨ (z = 4 ∧ y = 1) ∨ (z = 5 ∧ y = 2))) → (k ≤ 6 ∧ (0 < k → z ≤ 2) ∧ (1 < k → z = 0)) → 6 - k < n4 → ∀ ls : Array Slot, lv_has ls 4 [(3, .int (iI (k : Int))), (2, .int (iI z)), (0, .int (iI x)), (1, .int (iI y))] → W pq l eq rm_X4_isOrIsUnder s mq [.int (iI x), .int (iI y)].toArray below meth cq s.heap [] 0 0 (MQ below (vp_Si (fun r9 => r9 = iI (bI (x = y ∨ y = 0 ∨ (x = 4 ∧ y = 1) ∨ (x = 5 ∧ y = 2))))) [.int (iI x), .int (iI y)].toArray s 0 0 (fun _ => False)) (F0 mq 4 ls []) := by
    intro n4
    induction n4 with
    | zero => intro k z i4_1 i4_2 i4_3 hm; exact absurd hm (Nat.not_lt_zero _)
    | succ n4 ih4 =>
      intro k z i4_1 i4_2 i4_3 hm4 ls hl
      refine lv_iload_n hx hb dX4_isOrIsUnder_4 rfl (lv_at hl 0 rfl) ?_
      refine lv_bipush (v := iI (6)) hx hb dX4_isOrIsUnder_5 (by decide) ?_
      refine xi_c_ge (tgt := 26) hx hb ⟨by omega, by omega⟩ ⟨by decide, by decide⟩ dX4_isOrIsUnder_7 (by decide) (fun z1 => ?_) (fun z1 => ?_)
      · refine lv_iload_n hx hb dX4_isOrIsUnder_26 rfl (lv_at hl 1 rfl) ?_
        refine lv_iload_n hx hb dX4_isOrIsUnder_27 rfl (lv_at hl 3 rfl) ?_
        refine xi_c_ne (tgt := 35) hx hb ⟨by omega, by omega⟩ ⟨by omega, by omega⟩ dX4_isOrIsUnder_28 (by decide) (fun z2 => ?_) (fun z2 => ?_)
        · refine lv_iconst (v := iI (0)) hx hb dX4_isOrIsUnder_35 (by decide) ?_
          exact W.zret hx hb hr (by decide) (fun t ht hW => ⟨_, rfl, by rw [bI_f (by omega)], ht⟩) (fun q h => by cases h) dX4_isOrIsUnder_36
        · refine lv_iconst (v := iI (1)) hx hb dX4_isOrIsUnder_31 (by decide) ?_
          refine lv_goto (tgt := 36) hx hb dX4_isOrIsUnder_32 (by decide) ?_
          exact W.zret hx hb hr (by decide) (fun t ht hW => ⟨_, rfl, by rw [bI_t (by omega)], ht⟩) (fun q h => by cases h) dX4_isOrIsUnder_36
      · refine lv_iload_n hx hb dX4_isOrIsUnder_10 rfl (lv_at hl 1 rfl) ?_
        refine lv_iload_n hx hb dX4_isOrIsUnder_11 rfl (lv_at hl 3 rfl) ?_
        refine xi_c_eq (tgt := 26) hx hb ⟨by omega, by omega⟩ ⟨by omega, by omega⟩ dX4_isOrIsUnder_12 (by decide) (fun z3 => ?_) (fun z3 => ?_)
        · refine lv_iload_n hx hb dX4_isOrIsUnder_26 rfl (lv_at hl 1 rfl) ?_
          refine lv_iload_n hx hb dX4_isOrIsUnder_27 rfl (lv_at hl 3 rfl) ?_
          refine xi_c_ne (tgt := 35) hx hb ⟨by omega, by omega⟩ ⟨by omega, by omega⟩ dX4_isOrIsUnder_28 (by decide) (fun z4 => ?_) (fun z4 => ?_)
          · refine lv_iconst (v := iI (0)) hx hb dX4_isOrIsUnder_35 (by decide) ?_
            exact W.zret hx hb hr (by decide) (fun t ht hW => ⟨_, rfl, by rw [bI_f (by omega)], ht⟩) (fun q h => by cases h) dX4_isOrIsUnder_36
          · refine lv_iconst (v := iI (1)) hx hb dX4_isOrIsUnder_31 (by decide) ?_
            refine lv_goto (tgt := 36) hx hb dX4_isOrIsUnder_32 (by decide) ?_
            exact W.zret hx hb hr (by decide) (fun t ht hW => ⟨_, rfl, by rw [bI_t (by omega)], ht⟩) (fun q h => by cases h) dX4_isOrIsUnder_36
        · refine lv_iload_n hx hb dX4_isOrIsUnder_15 rfl (lv_at hl 1 rfl) ?_
          refine xu_i (x := iI (if z = 4 then 1 else if z = 5 then 2 else 0)) (rS (rest := []) hx hb hml hown hts hK hl (c_X4_kindAbove l g z (show IR z from ⟨by omega, by omega⟩)) lk_X4_299 trivial rfl rfl rfl (Rm.of rfl) rfl rfl dX4_isOrIsUnder_16) ?_
          refine lv_istore_n (lv' := [(2, .int (iI (if z = 4 then 1 else if z = 5 then 2 else 0))), (3, .int (iI (k : Int))), (0, .int (iI x)), (1, .int (iI y))]) hx hb dX4_isOrIsUnder_19 rfl hl (by decide) rfl (fun ls hl => ?_)
          refine xi_inc (lv' := [(3, .int (iI ((k : Int) + 1))), (2, .int (iI (if z = 4 then 1 else if z = 5 then 2 else 0))), (0, .int (iI x)), (1, .int (iI y))]) hx hb dX4_isOrIsUnder_20 hl (k := 1) rfl (by decide) rfl (fun ls hl => ?_)
          refine lv_goto (tgt := 4) hx hb dX4_isOrIsUnder_23 (by decide) ?_
          have hq6 : ((k : Int) + 1) = ((k + 1) : Int) := by omega
          have hl : lv_has ls 4 [(3, .int (iI ((k : Int) + 1))), (2, .int (iI (if z = 4 then 1 else if z = 5 then 2 else 0))), (0, .int (iI x)), (1, .int (iI y))] := lv_sub hl [0, 1, 2, 3] rfl
          have hl := Eq.mp (congrArg (fun z9 => lv_has ls 4 [(3, .int (iI z9)), (2, .int (iI (if z = 4 then 1 else if z = 5 then 2 else 0))), (0, .int (iI x)), (1, .int (iI y))]) hq6) hl
          exact ih4 (k + 1) (if z = 4 then 1 else if z = 5 then 2 else 0) (by split <;> (try split) <;> omega) (by rw [i4_2]; split <;> (try split) <;> omega) (by split <;> (try split) <;> omega) (by omega) ls hl
  have hq7 : 0 = (0 : Int) := rfl
  have hl : lv_has ls 4 [(3, .int (iI 0)), (2, .int (iI x)), (0, .int (iI x)), (1, .int (iI y))] := lv_sub hl [0, 1, 2, 3] rfl
  have hl := Eq.mp (congrArg (fun z9 => lv_has ls 4 [(3, .int (iI z9)), (2, .int (iI x)), (0, .int (iI x)), (1, .int (iI y))]) hq7) hl
  exact lp4 (6 + 1) 0 x (by omega) Iff.rfl (by omega) (by omega) ls hl
abbrev rm_X4_pass : Room := { frames := 2, cells := 0, slots := 0, locals := 43 }
set_option maxRecDepth 100000 in
set_option maxHeartbeats 4000000 in
theorem c_X4_pass (l : Launch) (g : Gd) (d : Nat → Nat) (fo : Nat → Nat) (tp : Nat → Nat) (sh : Nat → Nat) (a : Nat → Nat) (f1 : Int → Int) (f20 : Int) (b : Nat → Nat) (e1 : Int → Int) (e10 : Int → Int) (e11 : Int → Int) (ce : Int) (pe : Int) (op : Int) (sz : Nat) (h1 : InvK 0 e1) (h2 : e1 0 ≤ 9999) (h3 : IR ce) (h4 : IR pe) (h5 : IR op) : Met l yX4_pass (wsOf yX4_pass cX4_pass 5 (some .int)) rm_X4_pass (PX g (wP g (wX g a b d fo tp sh f1 f20 ++ (wLs g b e1 e10 e11)) sz) [.ref (a 0), .int (iI ce), .int (iI pe), .int (iI op)]) (QMi g (fun _ : Unit => wX g a b d fo tp sh (fb (fPass ce pe op) f1) f20 ++ (wLs g b (if fPass ce pe op = 0 then up (up e1 (7 + ce) pe) (31 + ce) (if pe = 0 then 0 else op) else e1) e10 e11)) (fun r9 _ => r9 = ab (fPass ce pe op) (iI (if 0 < e1 (7 + ce) then 1 else 0))) (va_A (wX g a b d fo tp sh f1 f20 ++ (wLs g b e1 e10 e11)) sz)) 0 0 (va_A (wX g a b d fo tp sh f1 f20 ++ (wLs g b e1 e10 e11)) sz) := by
  refine me (g := g) (by decide) rfl ?_
  intro pq eq s mq below meth cq C hnm hB ls hl
  obtain ⟨hx, hb, hr, hml, hown, hts, hlocks, hK⟩ := C
  have hown : s.vm.findClass RX4 = some mq.cls := hown
  have hl : lv_has ls 5 [(0, .ref (a 0)), (1, .int (iI ce)), (2, .int (iI pe)), (3, .int (iI op))] := hl
  obtain ⟨hsz, hP, hD0⟩ := hB
  subst hsz
  have hD := hD0.self (sz := s.heap.size)
  have hA : ∀ q : Nat, s.heap.size ≤ q → va_A (wX g a b d fo tp sh f1 f20 ++ (wLs g b e1 e10 e11)) s.heap.size q := fun q h => Or.inr h
  have hS : va_S (va_A (wX g a b d fo tp sh f1 f20 ++ (wLs g b e1 e10 e11)) s.heap.size) s.heap s.heap [] := va_S.rf
  obtain ⟨hP0, hP1⟩ := va_P_app.mp hP
  have hI := h1
  have hI8 : Inv e1 := h1.mono (by omega)
  have hn := hI.num
  have hs := hI.sea
  have hv := hI.vil
  have q1 := h3.1
  have q3 := h4.1
  have q5 := h5.1
  have q2 := h3.2
  have q4 := h4.2
  have q6 := h5.2
  refine lv_iload_n hx hb dX4_pass_0 rfl (lv_at hl 1 rfl) ?_
  refine xu_b (P := 0 ≤ ce ∧ ce ≤ 23) (rS (rest := []) hx hb hml hown hts hK hl (c_X4_isCell l g ce (show IR ce from ⟨by omega, by omega⟩)) lk_X4_50 trivial rfl rfl rfl (Rm.of rfl) rfl rfl dX4_pass_1) (fun z1 => ?_) (fun z1 => ?_)
  · refine xi_zf_eq hx hb ⟨by decide, by decide⟩ (by decide) dX4_pass_4 ⟨15, by decide⟩ ?_
    refine lv_iload_n hx hb dX4_pass_7 rfl (lv_at hl 2 rfl) ?_
    refine lv_iload_n hx hb dX4_pass_8 rfl (lv_at hl 3 rfl) ?_
    refine xu_b (P := pe = 0 ∨ (2 ≤ pe ∧ pe ≤ 9 ∧ 0 ≤ op ∧ op ≤ pe)) (rS (rest := []) hx hb hml hown hts hK hl (c_X4_mayBePass l g pe op (show IR pe from ⟨by omega, by omega⟩) (show IR op from ⟨by omega, by omega⟩)) lk_X4_54 trivial rfl rfl rfl (Rm.of rfl) rfl rfl dX4_pass_9) (fun z2 => ?_) (fun z2 => ?_)
    · refine xi_zt_ne (tgt := 22) hx hb ⟨by decide, by decide⟩ (by decide) dX4_pass_12 (by decide) ?_
      refine lv_aload_n hx hb dX4_pass_22 rfl (lv_at hl 0 rfl) ?_
      refine xg_X4 hx hb hts hown hK hP0 0 rfl 0 (by decide) fk_X4_10 (v := .ref (b 0)) rfl dX4_pass_23 ?_
      refine lv_iload_n hx hb dX4_pass_26 rfl (lv_at hl 1 rfl) ?_
      refine xu_b (P := 0 < e1 (7 + ce)) (rVN (rest := []) hx hb hml hown hts hK hl (c_X1_isPass l g b e1 e10 e11 ce (show Inv e1 from hI8) (show 0 ≤ ce ∧ ce < 24 from by omega)) lk_X4_63 hP1 (va_recv hK.1 hP1 (ci := 1) (q0 := 0) rfl rfl) rfl rfl rfl (Rm.of rfl) rfl rfl dX4_pass_27) (fun z3 => ?_) (fun z3 => ?_)
      · refine xi_zf_eq hx hb ⟨by decide, by decide⟩ (by decide) dX4_pass_30 ⟨37, by decide⟩ ?_
        refine lv_iconst (v := iI (1)) hx hb dX4_pass_33 (by decide) ?_
        refine lv_goto (tgt := 38) hx hb dX4_pass_34 (by decide) ?_
        refine lv_istore (lv' := [(4, .int (iI 1)), (0, .ref (a 0)), (1, .int (iI ce)), (2, .int (iI pe)), (3, .int (iI op))]) hx hb dX4_pass_38 hl (by decide) rfl (fun ls hl => ?_)
        refine lv_aload_n hx hb dX4_pass_40 rfl (lv_at hl 1 rfl) ?_
        refine xg_X4 hx hb hts hown hK hP0 0 rfl 0 (by decide) fk_X4_10 (v := .ref (b 0)) rfl dX4_pass_41 ?_
        refine lv_iload_n hx hb dX4_pass_44 rfl (lv_at hl 2 rfl) ?_
        refine lv_iload_n hx hb dX4_pass_45 rfl (lv_at hl 3 rfl) ?_
        refine lv_iload_n hx hb dX4_pass_46 rfl (lv_at hl 4 rfl) ?_
        have hD : va_D (va_A (wX g a b d fo tp sh f1 f20 ++ (wLs g b e1 e10 e11)) s.heap.size) (wLs g b e1 e10 e11 ++ (wX g a b d fo tp sh f1 f20)) := D_perm (List.perm_append_comm) hD
        have hP : va_P g.1 vwCl (wLs g b e1 e10 e11 ++ (wX g a b d fo tp sh f1 f20)) s.heap := va_P_app.mpr ⟨hP1, hP0⟩
        refine xmF_v (rVN (rest := []) hx hb hml hown hts hK hl (c_X1_putPass l g b e1 e10 e11 ce pe op (s.heap).size (show 0 ≤ ce ∧ ce < 24 from by omega) (show IR pe from ⟨by omega, by omega⟩)) lk_X4_66 ⟨rfl, hP1, (va_D_app hD).1.weaken (fun _ _ _ _ => trivial)⟩ (va_recv hK.1 hP1 (ci := 1) (q0 := 0) rfl rfl) rfl rfl rfl (Rm.of rfl) rfl rfl dX4_pass_47) hP hD hS hA (fun _ H locs hw hP hD hS => ?_)
        have hP : va_P g.1 vwCl (wLs g b (up (up e1 (7 + ce) pe) (31 + ce) (if pe = 0 then 0 else op)) e10 e11 ++ (wX g a b d fo tp sh f1 f20)) H := hP
        have hD : va_D (va_A (wX g a b d fo tp sh f1 f20 ++ (wLs g b e1 e10 e11)) s.heap.size) (wLs g b (up (up e1 (7 + ce) pe) (31 + ce) (if pe = 0 then 0 else op)) e10 e11 ++ (wX g a b d fo tp sh f1 f20)) := hD
        obtain ⟨hP1, hP0⟩ := va_P_app.mp hP
        refine lv_iload hx hb dX4_pass_50 (lv_at hl 0 rfl) ?_
        have hD : va_D (va_A (wX g a b d fo tp sh f1 f20 ++ (wLs g b e1 e10 e11)) s.heap.size) (wX g a b d fo tp sh f1 f20 ++ (wLs g b (up (up e1 (7 + ce) pe) (31 + ce) (if pe = 0 then 0 else op)) e10 e11)) := D_perm (List.perm_append_comm) hD
        have hP : va_P g.1 vwCl (wX g a b d fo tp sh f1 f20 ++ (wLs g b (up (up e1 (7 + ce) pe) (31 + ce) (if pe = 0 then 0 else op)) e10 e11)) H := va_P_app.mpr ⟨hP0, hP1⟩
        have hf : fPass ce pe op = 0 := by unfold fPass; (repeat (first | rw [if_pos (by omega)] | rw [if_neg (by omega)])); first | done | (exfalso; omega)
        have he5 : f1 = (fb (fPass ce pe op) f1) := by rw [hf]; rfl
        have hP := Eq.mp (congrArg (fun z9 => va_P g.1 vwCl (wX g a b d fo tp sh z9 f20 ++ (wLs g b (up (up e1 (7 + ce) pe) (31 + ce) (if pe = 0 then 0 else op)) e10 e11)) H) he5) hP
        have hD := Eq.mp (congrArg (fun z9 => va_D (va_A (wX g a b d fo tp sh f1 f20 ++ (wLs g b e1 e10 e11)) s.heap.size) (wX g a b d fo tp sh z9 f20 ++ (wLs g b (up (up e1 (7 + ce) pe) (31 + ce) (if pe = 0 then 0 else op)) e10 e11))) he5) hD
        obtain ⟨hP0, hP1⟩ := va_P_app.mp hP
        have he6 : (up (up e1 (7 + ce) pe) (31 + ce) (if pe = 0 then 0 else op)) = (if fPass ce pe op = 0 then up (up e1 (7 + ce) pe) (31 + ce) (if pe = 0 then 0 else op) else e1) := by rw [hf]; rfl
        have hP := Eq.mp (congrArg (fun z9 => va_P g.1 vwCl (wX g a b d fo tp sh (fb (fPass ce pe op) f1) f20 ++ (wLs g b z9 e10 e11)) H) he6) hP
        have hD := Eq.mp (congrArg (fun z9 => va_D (va_A (wX g a b d fo tp sh f1 f20 ++ (wLs g b e1 e10 e11)) s.heap.size) (wX g a b d fo tp sh (fb (fPass ce pe op) f1) f20 ++ (wLs g b z9 e10 e11))) he6) hD
        obtain ⟨hP0, hP1⟩ := va_P_app.mp hP
        have hP : va_P g.1 vwCl (wX g a b d fo tp sh (fb (fPass ce pe op) f1) f20 ++ (wLs g b (if fPass ce pe op = 0 then up (up e1 (7 + ce) pe) (31 + ce) (if pe = 0 then 0 else op) else e1) e10 e11)) H := hP
        have hD : va_D (va_A (wX g a b d fo tp sh f1 f20 ++ (wLs g b e1 e10 e11)) s.heap.size) (wX g a b d fo tp sh (fb (fPass ce pe op) f1) f20 ++ (wLs g b (if fPass ce pe op = 0 then up (up e1 (7 + ce) pe) (31 + ce) (if pe = 0 then 0 else op) else e1) e10 e11)) := hD
        exact W.iret hx hb hr (fun t ht hW => ⟨⟨_, (), rfl, by rw [hf, ab_0]; exact congrArg iI (by first | rw [if_pos (by omega)] | rw [if_neg (by omega)]), by rw [ht]; exact hP, hD⟩, hS.F ht⟩) hS.2.2 dX4_pass_52
      · refine xi_zt_eq (tgt := 37) hx hb ⟨by decide, by decide⟩ (by decide) dX4_pass_30 (by decide) ?_
        refine lv_iconst (v := iI (0)) hx hb dX4_pass_37 (by decide) ?_
        refine lv_istore (lv' := [(4, .int (iI 0)), (0, .ref (a 0)), (1, .int (iI ce)), (2, .int (iI pe)), (3, .int (iI op))]) hx hb dX4_pass_38 hl (by decide) rfl (fun ls hl => ?_)
        refine lv_aload_n hx hb dX4_pass_40 rfl (lv_at hl 1 rfl) ?_
        refine xg_X4 hx hb hts hown hK hP0 0 rfl 0 (by decide) fk_X4_10 (v := .ref (b 0)) rfl dX4_pass_41 ?_
        refine lv_iload_n hx hb dX4_pass_44 rfl (lv_at hl 2 rfl) ?_
        refine lv_iload_n hx hb dX4_pass_45 rfl (lv_at hl 3 rfl) ?_
        refine lv_iload_n hx hb dX4_pass_46 rfl (lv_at hl 4 rfl) ?_
        have hD : va_D (va_A (wX g a b d fo tp sh f1 f20 ++ (wLs g b e1 e10 e11)) s.heap.size) (wLs g b e1 e10 e11 ++ (wX g a b d fo tp sh f1 f20)) := D_perm (List.perm_append_comm) hD
        have hP : va_P g.1 vwCl (wLs g b e1 e10 e11 ++ (wX g a b d fo tp sh f1 f20)) s.heap := va_P_app.mpr ⟨hP1, hP0⟩
        refine xmF_v (rVN (rest := []) hx hb hml hown hts hK hl (c_X1_putPass l g b e1 e10 e11 ce pe op (s.heap).size (show 0 ≤ ce ∧ ce < 24 from by omega) (show IR pe from ⟨by omega, by omega⟩)) lk_X4_66 ⟨rfl, hP1, (va_D_app hD).1.weaken (fun _ _ _ _ => trivial)⟩ (va_recv hK.1 hP1 (ci := 1) (q0 := 0) rfl rfl) rfl rfl rfl (Rm.of rfl) rfl rfl dX4_pass_47) hP hD hS hA (fun _ H locs hw hP hD hS => ?_)
        have hP : va_P g.1 vwCl (wLs g b (up (up e1 (7 + ce) pe) (31 + ce) (if pe = 0 then 0 else op)) e10 e11 ++ (wX g a b d fo tp sh f1 f20)) H := hP
        have hD : va_D (va_A (wX g a b d fo tp sh f1 f20 ++ (wLs g b e1 e10 e11)) s.heap.size) (wLs g b (up (up e1 (7 + ce) pe) (31 + ce) (if pe = 0 then 0 else op)) e10 e11 ++ (wX g a b d fo tp sh f1 f20)) := hD
        obtain ⟨hP1, hP0⟩ := va_P_app.mp hP
        refine lv_iload hx hb dX4_pass_50 (lv_at hl 0 rfl) ?_
        have hD : va_D (va_A (wX g a b d fo tp sh f1 f20 ++ (wLs g b e1 e10 e11)) s.heap.size) (wX g a b d fo tp sh f1 f20 ++ (wLs g b (up (up e1 (7 + ce) pe) (31 + ce) (if pe = 0 then 0 else op)) e10 e11)) := D_perm (List.perm_append_comm) hD
        have hP : va_P g.1 vwCl (wX g a b d fo tp sh f1 f20 ++ (wLs g b (up (up e1 (7 + ce) pe) (31 + ce) (if pe = 0 then 0 else op)) e10 e11)) H := va_P_app.mpr ⟨hP0, hP1⟩
        have hf : fPass ce pe op = 0 := by unfold fPass; (repeat (first | rw [if_pos (by omega)] | rw [if_neg (by omega)])); first | done | (exfalso; omega)
        have he8 : f1 = (fb (fPass ce pe op) f1) := by rw [hf]; rfl
        have hP := Eq.mp (congrArg (fun z9 => va_P g.1 vwCl (wX g a b d fo tp sh z9 f20 ++ (wLs g b (up (up e1 (7 + ce) pe) (31 + ce) (if pe = 0 then 0 else op)) e10 e11)) H) he8) hP
        have hD := Eq.mp (congrArg (fun z9 => va_D (va_A (wX g a b d fo tp sh f1 f20 ++ (wLs g b e1 e10 e11)) s.heap.size) (wX g a b d fo tp sh z9 f20 ++ (wLs g b (up (up e1 (7 + ce) pe) (31 + ce) (if pe = 0 then 0 else op)) e10 e11))) he8) hD
        obtain ⟨hP0, hP1⟩ := va_P_app.mp hP
        have he9 : (up (up e1 (7 + ce) pe) (31 + ce) (if pe = 0 then 0 else op)) = (if fPass ce pe op = 0 then up (up e1 (7 + ce) pe) (31 + ce) (if pe = 0 then 0 else op) else e1) := by rw [hf]; rfl
        have hP := Eq.mp (congrArg (fun z9 => va_P g.1 vwCl (wX g a b d fo tp sh (fb (fPass ce pe op) f1) f20 ++ (wLs g b z9 e10 e11)) H) he9) hP
        have hD := Eq.mp (congrArg (fun z9 => va_D (va_A (wX g a b d fo tp sh f1 f20 ++ (wLs g b e1 e10 e11)) s.heap.size) (wX g a b d fo tp sh (fb (fPass ce pe op) f1) f20 ++ (wLs g b z9 e10 e11))) he9) hD
        obtain ⟨hP0, hP1⟩ := va_P_app.mp hP
        have hP : va_P g.1 vwCl (wX g a b d fo tp sh (fb (fPass ce pe op) f1) f20 ++ (wLs g b (if fPass ce pe op = 0 then up (up e1 (7 + ce) pe) (31 + ce) (if pe = 0 then 0 else op) else e1) e10 e11)) H := hP
        have hD : va_D (va_A (wX g a b d fo tp sh f1 f20 ++ (wLs g b e1 e10 e11)) s.heap.size) (wX g a b d fo tp sh (fb (fPass ce pe op) f1) f20 ++ (wLs g b (if fPass ce pe op = 0 then up (up e1 (7 + ce) pe) (31 + ce) (if pe = 0 then 0 else op) else e1) e10 e11)) := hD
        exact W.iret hx hb hr (fun t ht hW => ⟨⟨_, (), rfl, by rw [hf, ab_0]; exact congrArg iI (by first | rw [if_pos (by omega)] | rw [if_neg (by omega)]), by rw [ht]; exact hP, hD⟩, hS.F ht⟩) hS.2.2 dX4_pass_52
    · refine xi_zf_ne hx hb ⟨by decide, by decide⟩ (by decide) dX4_pass_12 ⟨22, by decide⟩ ?_
      refine lv_aload_n hx hb dX4_pass_15 rfl (lv_at hl 0 rfl) ?_
      refine xi_ldc hx hb hown hts kk_X4_58 dX4_pass_16 ?_
      refine xmF_i (rV (rest := []) hx hb hml hown hts hK hl (c_X4_finding l g b d fo tp sh a f1 f20 (-1000000001) (s.heap).size (show 0 ≤ -1000000001 - (-1000000001) ∧ -1000000001 - (-1000000001) < 7 from by omega)) lk_X4_59 ⟨rfl, hP0, (va_D_app hD).1.weaken (fun _ _ _ _ => trivial)⟩ (va_recv hK.1 hP0 (ci := 4) (q0 := 0) rfl rfl) rfl rfl rfl (Rm.of rfl) rfl rfl dX4_pass_18) hP hD hS hA (fun x9 _ H locs hw hP hD hS => ?_)
      obtain rfl : x9 = iI (-1000000001) := hw
      have hP : va_P g.1 vwCl (wX g a b d fo tp sh (fb (-1000000000 - (-1000000001)) f1) f20 ++ (wLs g b e1 e10 e11)) H := hP
      have hD : va_D (va_A (wX g a b d fo tp sh f1 f20 ++ (wLs g b e1 e10 e11)) s.heap.size) (wX g a b d fo tp sh (fb (-1000000000 - (-1000000001)) f1) f20 ++ (wLs g b e1 e10 e11)) := hD
      obtain ⟨hP0, hP1⟩ := va_P_app.mp hP
      have hf : fPass ce pe op = 1 := by unfold fPass; (repeat (first | rw [if_pos (by omega)] | rw [if_neg (by omega)])); first | done | (exfalso; omega)
      have he11 : (fb (-1000000000 - (-1000000001)) f1) = (fb (fPass ce pe op) f1) := by rw [hf]; rfl
      have hP := Eq.mp (congrArg (fun z9 => va_P g.1 vwCl (wX g a b d fo tp sh z9 f20 ++ (wLs g b e1 e10 e11)) H) he11) hP
      have hD := Eq.mp (congrArg (fun z9 => va_D (va_A (wX g a b d fo tp sh f1 f20 ++ (wLs g b e1 e10 e11)) s.heap.size) (wX g a b d fo tp sh z9 f20 ++ (wLs g b e1 e10 e11))) he11) hD
      obtain ⟨hP0, hP1⟩ := va_P_app.mp hP
      have he12 : e1 = (if fPass ce pe op = 0 then up (up e1 (7 + ce) pe) (31 + ce) (if pe = 0 then 0 else op) else e1) := by rw [hf]; rfl
      have hP := Eq.mp (congrArg (fun z9 => va_P g.1 vwCl (wX g a b d fo tp sh (fb (fPass ce pe op) f1) f20 ++ (wLs g b z9 e10 e11)) H) he12) hP
      have hD := Eq.mp (congrArg (fun z9 => va_D (va_A (wX g a b d fo tp sh f1 f20 ++ (wLs g b e1 e10 e11)) s.heap.size) (wX g a b d fo tp sh (fb (fPass ce pe op) f1) f20 ++ (wLs g b z9 e10 e11))) he12) hD
      obtain ⟨hP0, hP1⟩ := va_P_app.mp hP
      have hP : va_P g.1 vwCl (wX g a b d fo tp sh (fb (fPass ce pe op) f1) f20 ++ (wLs g b (if fPass ce pe op = 0 then up (up e1 (7 + ce) pe) (31 + ce) (if pe = 0 then 0 else op) else e1) e10 e11)) H := hP
      have hD : va_D (va_A (wX g a b d fo tp sh f1 f20 ++ (wLs g b e1 e10 e11)) s.heap.size) (wX g a b d fo tp sh (fb (fPass ce pe op) f1) f20 ++ (wLs g b (if fPass ce pe op = 0 then up (up e1 (7 + ce) pe) (31 + ce) (if pe = 0 then 0 else op) else e1) e10 e11)) := hD
      exact W.iret hx hb hr (fun t ht hW => ⟨⟨_, (), rfl, by rw [hf]; rfl, by rw [ht]; exact hP, hD⟩, hS.F ht⟩) hS.2.2 dX4_pass_21
  · refine xi_zt_eq (tgt := 15) hx hb ⟨by decide, by decide⟩ (by decide) dX4_pass_4 (by decide) ?_
    refine lv_aload_n hx hb dX4_pass_15 rfl (lv_at hl 0 rfl) ?_
    refine xi_ldc hx hb hown hts kk_X4_58 dX4_pass_16 ?_
    refine xmF_i (rV (rest := []) hx hb hml hown hts hK hl (c_X4_finding l g b d fo tp sh a f1 f20 (-1000000001) (s.heap).size (show 0 ≤ -1000000001 - (-1000000001) ∧ -1000000001 - (-1000000001) < 7 from by omega)) lk_X4_59 ⟨rfl, hP0, (va_D_app hD).1.weaken (fun _ _ _ _ => trivial)⟩ (va_recv hK.1 hP0 (ci := 4) (q0 := 0) rfl rfl) rfl rfl rfl (Rm.of rfl) rfl rfl dX4_pass_18) hP hD hS hA (fun x9 _ H locs hw hP hD hS => ?_)
    obtain rfl : x9 = iI (-1000000001) := hw
    have hP : va_P g.1 vwCl (wX g a b d fo tp sh (fb (-1000000000 - (-1000000001)) f1) f20 ++ (wLs g b e1 e10 e11)) H := hP
    have hD : va_D (va_A (wX g a b d fo tp sh f1 f20 ++ (wLs g b e1 e10 e11)) s.heap.size) (wX g a b d fo tp sh (fb (-1000000000 - (-1000000001)) f1) f20 ++ (wLs g b e1 e10 e11)) := hD
    obtain ⟨hP0, hP1⟩ := va_P_app.mp hP
    have hf : fPass ce pe op = 1 := by unfold fPass; (repeat (first | rw [if_pos (by omega)] | rw [if_neg (by omega)])); first | done | (exfalso; omega)
    have he14 : (fb (-1000000000 - (-1000000001)) f1) = (fb (fPass ce pe op) f1) := by rw [hf]; rfl
    have hP := Eq.mp (congrArg (fun z9 => va_P g.1 vwCl (wX g a b d fo tp sh z9 f20 ++ (wLs g b e1 e10 e11)) H) he14) hP
    have hD := Eq.mp (congrArg (fun z9 => va_D (va_A (wX g a b d fo tp sh f1 f20 ++ (wLs g b e1 e10 e11)) s.heap.size) (wX g a b d fo tp sh z9 f20 ++ (wLs g b e1 e10 e11))) he14) hD
    obtain ⟨hP0, hP1⟩ := va_P_app.mp hP
    have he15 : e1 = (if fPass ce pe op = 0 then up (up e1 (7 + ce) pe) (31 + ce) (if pe = 0 then 0 else op) else e1) := by rw [hf]; rfl
    have hP := Eq.mp (congrArg (fun z9 => va_P g.1 vwCl (wX g a b d fo tp sh (fb (fPass ce pe op) f1) f20 ++ (wLs g b z9 e10 e11)) H) he15) hP
    have hD := Eq.mp (congrArg (fun z9 => va_D (va_A (wX g a b d fo tp sh f1 f20 ++ (wLs g b e1 e10 e11)) s.heap.size) (wX g a b d fo tp sh (fb (fPass ce pe op) f1) f20 ++ (wLs g b z9 e10 e11))) he15) hD
    obtain ⟨hP0, hP1⟩ := va_P_app.mp hP
    have hP : va_P g.1 vwCl (wX g a b d fo tp sh (fb (fPass ce pe op) f1) f20 ++ (wLs g b (if fPass ce pe op = 0 then up (up e1 (7 + ce) pe) (31 + ce) (if pe = 0 then 0 else op) else e1) e10 e11)) H := hP
    have hD : va_D (va_A (wX g a b d fo tp sh f1 f20 ++ (wLs g b e1 e10 e11)) s.heap.size) (wX g a b d fo tp sh (fb (fPass ce pe op) f1) f20 ++ (wLs g b (if fPass ce pe op = 0 then up (up e1 (7 + ce) pe) (31 + ce) (if pe = 0 then 0 else op) else e1) e10 e11)) := hD
    exact W.iret hx hb hr (fun t ht hW => ⟨⟨_, (), rfl, by rw [hf]; rfl, by rw [ht]; exact hP, hD⟩, hS.F ht⟩) hS.2.2 dX4_pass_21
abbrev rm_X4_cell : Room := { frames := 2, cells := 0, slots := 0, locals := 42 }
set_option maxRecDepth 100000 in
set_option maxHeartbeats 4000000 in
theorem c_X4_cell (l : Launch) (g : Gd) (d : Nat → Nat) (fo : Nat → Nat) (tp : Nat → Nat) (sh : Nat → Nat) (a : Nat → Nat) (f1 : Int → Int) (f20 : Int) (b : Nat → Nat) (e1 : Int → Int) (e10 : Int → Int) (e11 : Int → Int) (ce : Int) (w : Int) (sz : Nat) (h1 : InvK 0 e1) (h2 : e1 0 ≤ 9999) (h3 : IR ce) (h4 : IR w) : Met l yX4_cell (wsOf yX4_cell cX4_cell 3 (some .int)) rm_X4_cell (PX g (wP g (wX g a b d fo tp sh f1 f20 ++ (wLs g b e1 e10 e11)) sz) [.ref (a 0), .int (iI ce), .int (iI w)]) (QMi g (fun _ : Unit => wX g a b d fo tp sh (fb (fCell ce w) f1) f20 ++ (wLs g b e1 e10 e11)) (fun r9 _ => r9 = ab (fCell ce w) (iI (aCell e1 ce w))) (va_A (wX g a b d fo tp sh f1 f20 ++ (wLs g b e1 e10 e11)) sz)) 0 0 (va_A (wX g a b d fo tp sh f1 f20 ++ (wLs g b e1 e10 e11)) sz) := by
  refine me (g := g) (by decide) rfl ?_
  intro pq eq s mq below meth cq C hnm hB ls hl
  obtain ⟨hx, hb, hr, hml, hown, hts, hlocks, hK⟩ := C
  have hown : s.vm.findClass RX4 = some mq.cls := hown
  have hl : lv_has ls 3 [(0, .ref (a 0)), (1, .int (iI ce)), (2, .int (iI w))] := hl
  obtain ⟨hsz, hP, hD0⟩ := hB
  subst hsz
  have hD := hD0.self (sz := s.heap.size)
  have hA : ∀ q : Nat, s.heap.size ≤ q → va_A (wX g a b d fo tp sh f1 f20 ++ (wLs g b e1 e10 e11)) s.heap.size q := fun q h => Or.inr h
  have hS : va_S (va_A (wX g a b d fo tp sh f1 f20 ++ (wLs g b e1 e10 e11)) s.heap.size) s.heap s.heap [] := va_S.rf
  obtain ⟨hP0, hP1⟩ := va_P_app.mp hP
  have hI := h1
  have hI8 : Inv e1 := h1.mono (by omega)
  have hn := hI.num
  have hs := hI.sea
  have hv := hI.vil
  have q1 := h3.1
  have q3 := h4.1
  have q2 := h3.2
  have q4 := h4.2
  refine lv_iload_n hx hb dX4_cell_0 rfl (lv_at hl 1 rfl) ?_
  refine xu_b (P := 0 ≤ ce ∧ ce ≤ 23) (rS (rest := []) hx hb hml hown hts hK hl (c_X4_isCell l g ce (show IR ce from ⟨by omega, by omega⟩)) lk_X4_50 trivial rfl rfl rfl (Rm.of rfl) rfl rfl dX4_cell_1) (fun z1 => ?_) (fun z1 => ?_)
  · refine xi_zt_ne (tgt := 14) hx hb ⟨by decide, by decide⟩ (by decide) dX4_cell_4 (by decide) ?_
    refine lv_iload_n hx hb dX4_cell_14 rfl (lv_at hl 2 rfl) ?_
    have hir2 : IR (w) := ⟨by omega, by omega⟩
    rcases (show (w) = 0 ∨ (w) = 1 ∨ (w) = 2 ∨ (w) = 3 ∨ ((w) < 0 ∨ 3 < (w)) by omega) with z2 | z2 | z2 | z2 | z2
    · refine lv_tableIn (tgt := 44) (off := 29) hx hb dX4_cell_15 (by rw [iI_toInt hir2, z2]; decide) (by rw [iI_toInt hir2, z2]; decide) (by rw [iI_toInt hir2, z2]; rfl) (by decide) ?_
      refine lv_aload_n hx hb dX4_cell_44 rfl (lv_at hl 0 rfl) ?_
      refine xg_X4 hx hb hts hown hK hP0 0 rfl 0 (by decide) fk_X4_10 (v := .ref (b 0)) rfl dX4_cell_45 ?_
      refine xgN_X1 hx hb hts hown hK hP1 0 rfl 3 (by decide) fk_X4_70 (v := .ref (b 1)) rfl dX4_cell_48 ?_
      refine lv_iload_n hx hb dX4_cell_51 rfl (lv_at hl 1 rfl) ?_
      refine xi_alq hx hb hK hP1 1 (s0 := e1) rfl (i := ce) ⟨by omega, by omega⟩ rfl dX4_cell_52 ?_
      have hf : fCell ce w = 0 := by unfold fCell; (repeat (first | rw [if_pos (by omega)] | rw [if_neg (by omega)])); first | done | (exfalso; omega)
      have he3 : f1 = (fb (fCell ce w) f1) := by rw [hf]; rfl
      have hP := Eq.mp (congrArg (fun z9 => va_P g.1 vwCl (wX g a b d fo tp sh z9 f20 ++ (wLs g b e1 e10 e11)) s.heap) he3) hP
      have hD := Eq.mp (congrArg (fun z9 => va_D (va_A (wX g a b d fo tp sh f1 f20 ++ (wLs g b e1 e10 e11)) s.heap.size) (wX g a b d fo tp sh z9 f20 ++ (wLs g b e1 e10 e11))) he3) hD
      obtain ⟨hP0, hP1⟩ := va_P_app.mp hP
      have hP : va_P g.1 vwCl (wX g a b d fo tp sh (fb (fCell ce w) f1) f20 ++ (wLs g b e1 e10 e11)) s.heap := hP
      have hD : va_D (va_A (wX g a b d fo tp sh f1 f20 ++ (wLs g b e1 e10 e11)) s.heap.size) (wX g a b d fo tp sh (fb (fCell ce w) f1) f20 ++ (wLs g b e1 e10 e11)) := hD
      exact W.iret hx hb hr (fun t ht hW => ⟨⟨_, (), rfl, by rw [hf, ab_0]; exact congrArg iI (by unfold aCell; (repeat (first | rw [if_pos (by omega)] | rw [if_neg (by omega)])); first | done | (rw [bI_t (by assumption)]; done) | (rw [bI_f (by assumption)]; done)), by rw [ht]; exact hP, hD⟩, hS.F ht⟩) hS.2.2 dX4_cell_53
    · refine lv_tableIn (tgt := 54) (off := 39) hx hb dX4_cell_15 (by rw [iI_toInt hir2, z2]; decide) (by rw [iI_toInt hir2, z2]; decide) (by rw [iI_toInt hir2, z2]; rfl) (by decide) ?_
      refine lv_aload_n hx hb dX4_cell_54 rfl (lv_at hl 0 rfl) ?_
      refine xg_X4 hx hb hts hown hK hP0 0 rfl 0 (by decide) fk_X4_10 (v := .ref (b 0)) rfl dX4_cell_55 ?_
      refine xgN_X1 hx hb hts hown hK hP1 0 rfl 4 (by decide) fk_X4_73 (v := .ref (b 2)) rfl dX4_cell_58 ?_
      refine lv_iload_n hx hb dX4_cell_61 rfl (lv_at hl 1 rfl) ?_
      refine xi_alq hx hb hK hP1 2 (s0 := e1) rfl (i := ce) ⟨by omega, by omega⟩ rfl dX4_cell_62 ?_
      have hf : fCell ce w = 0 := by unfold fCell; (repeat (first | rw [if_pos (by omega)] | rw [if_neg (by omega)])); first | done | (exfalso; omega)
      have he4 : f1 = (fb (fCell ce w) f1) := by rw [hf]; rfl
      have hP := Eq.mp (congrArg (fun z9 => va_P g.1 vwCl (wX g a b d fo tp sh z9 f20 ++ (wLs g b e1 e10 e11)) s.heap) he4) hP
      have hD := Eq.mp (congrArg (fun z9 => va_D (va_A (wX g a b d fo tp sh f1 f20 ++ (wLs g b e1 e10 e11)) s.heap.size) (wX g a b d fo tp sh z9 f20 ++ (wLs g b e1 e10 e11))) he4) hD
      obtain ⟨hP0, hP1⟩ := va_P_app.mp hP
      have hP : va_P g.1 vwCl (wX g a b d fo tp sh (fb (fCell ce w) f1) f20 ++ (wLs g b e1 e10 e11)) s.heap := hP
      have hD : va_D (va_A (wX g a b d fo tp sh f1 f20 ++ (wLs g b e1 e10 e11)) s.heap.size) (wX g a b d fo tp sh (fb (fCell ce w) f1) f20 ++ (wLs g b e1 e10 e11)) := hD
      exact W.iret hx hb hr (fun t ht hW => ⟨⟨_, (), rfl, by rw [hf, ab_0]; exact congrArg iI (by unfold aCell; (repeat (first | rw [if_pos (by omega)] | rw [if_neg (by omega)])); first | done | (rw [bI_t (by assumption)]; done) | (rw [bI_f (by assumption)]; done)), by rw [ht]; exact hP, hD⟩, hS.F ht⟩) hS.2.2 dX4_cell_63
    · refine lv_tableIn (tgt := 64) (off := 49) hx hb dX4_cell_15 (by rw [iI_toInt hir2, z2]; decide) (by rw [iI_toInt hir2, z2]; decide) (by rw [iI_toInt hir2, z2]; rfl) (by decide) ?_
      refine lv_aload_n hx hb dX4_cell_64 rfl (lv_at hl 0 rfl) ?_
      refine xg_X4 hx hb hts hown hK hP0 0 rfl 0 (by decide) fk_X4_10 (v := .ref (b 0)) rfl dX4_cell_65 ?_
      refine lv_iload_n hx hb dX4_cell_68 rfl (lv_at hl 1 rfl) ?_
      refine xu_b (P := opn e1 ce) (rVN (rest := []) hx hb hml hown hts hK hl (c_X1_isOpen l g b e1 e10 e11 ce (show Inv e1 from hI8) (show 0 ≤ ce ∧ ce < 24 from by omega)) lk_X4_76 hP1 (va_recv hK.1 hP1 (ci := 1) (q0 := 0) rfl rfl) rfl rfl rfl (Rm.of rfl) rfl rfl dX4_cell_69) (fun z5 => ?_) (fun z5 => ?_)
      · refine xi_zf_eq hx hb ⟨by decide, by decide⟩ (by decide) dX4_cell_72 ⟨79, by decide⟩ ?_
        refine lv_iconst (v := iI (1)) hx hb dX4_cell_75 (by decide) ?_
        refine lv_goto (tgt := 80) hx hb dX4_cell_76 (by decide) ?_
        have hf : fCell ce w = 0 := by unfold fCell; (repeat (first | rw [if_pos (by omega)] | rw [if_neg (by omega)])); first | done | (exfalso; omega)
        have he6 : f1 = (fb (fCell ce w) f1) := by rw [hf]; rfl
        have hP := Eq.mp (congrArg (fun z9 => va_P g.1 vwCl (wX g a b d fo tp sh z9 f20 ++ (wLs g b e1 e10 e11)) s.heap) he6) hP
        have hD := Eq.mp (congrArg (fun z9 => va_D (va_A (wX g a b d fo tp sh f1 f20 ++ (wLs g b e1 e10 e11)) s.heap.size) (wX g a b d fo tp sh z9 f20 ++ (wLs g b e1 e10 e11))) he6) hD
        obtain ⟨hP0, hP1⟩ := va_P_app.mp hP
        have hP : va_P g.1 vwCl (wX g a b d fo tp sh (fb (fCell ce w) f1) f20 ++ (wLs g b e1 e10 e11)) s.heap := hP
        have hD : va_D (va_A (wX g a b d fo tp sh f1 f20 ++ (wLs g b e1 e10 e11)) s.heap.size) (wX g a b d fo tp sh (fb (fCell ce w) f1) f20 ++ (wLs g b e1 e10 e11)) := hD
        exact W.iret hx hb hr (fun t ht hW => ⟨⟨_, (), rfl, by rw [hf, ab_0]; exact congrArg iI (by unfold aCell; (repeat (first | rw [if_pos (by omega)] | rw [if_neg (by omega)])); first | done | (rw [bI_t (by assumption)]; done) | (rw [bI_f (by assumption)]; done)), by rw [ht]; exact hP, hD⟩, hS.F ht⟩) hS.2.2 dX4_cell_80
      · refine xi_zt_eq (tgt := 79) hx hb ⟨by decide, by decide⟩ (by decide) dX4_cell_72 (by decide) ?_
        refine lv_iconst (v := iI (0)) hx hb dX4_cell_79 (by decide) ?_
        have hf : fCell ce w = 0 := by unfold fCell; (repeat (first | rw [if_pos (by omega)] | rw [if_neg (by omega)])); first | done | (exfalso; omega)
        have he7 : f1 = (fb (fCell ce w) f1) := by rw [hf]; rfl
        have hP := Eq.mp (congrArg (fun z9 => va_P g.1 vwCl (wX g a b d fo tp sh z9 f20 ++ (wLs g b e1 e10 e11)) s.heap) he7) hP
        have hD := Eq.mp (congrArg (fun z9 => va_D (va_A (wX g a b d fo tp sh f1 f20 ++ (wLs g b e1 e10 e11)) s.heap.size) (wX g a b d fo tp sh z9 f20 ++ (wLs g b e1 e10 e11))) he7) hD
        obtain ⟨hP0, hP1⟩ := va_P_app.mp hP
        have hP : va_P g.1 vwCl (wX g a b d fo tp sh (fb (fCell ce w) f1) f20 ++ (wLs g b e1 e10 e11)) s.heap := hP
        have hD : va_D (va_A (wX g a b d fo tp sh f1 f20 ++ (wLs g b e1 e10 e11)) s.heap.size) (wX g a b d fo tp sh (fb (fCell ce w) f1) f20 ++ (wLs g b e1 e10 e11)) := hD
        exact W.iret hx hb hr (fun t ht hW => ⟨⟨_, (), rfl, by rw [hf, ab_0]; exact congrArg iI (by unfold aCell; (repeat (first | rw [if_pos (by omega)] | rw [if_neg (by omega)])); first | done | (rw [bI_t (by assumption)]; done) | (rw [bI_f (by assumption)]; done)), by rw [ht]; exact hP, hD⟩, hS.F ht⟩) hS.2.2 dX4_cell_80
    · refine lv_tableIn (tgt := 81) (off := 66) hx hb dX4_cell_15 (by rw [iI_toInt hir2, z2]; decide) (by rw [iI_toInt hir2, z2]; decide) (by rw [iI_toInt hir2, z2]; rfl) (by decide) ?_
      refine lv_aload_n hx hb dX4_cell_81 rfl (lv_at hl 0 rfl) ?_
      refine xg_X4 hx hb hts hown hK hP0 0 rfl 0 (by decide) fk_X4_10 (v := .ref (b 0)) rfl dX4_cell_82 ?_
      refine lv_iload_n hx hb dX4_cell_85 rfl (lv_at hl 1 rfl) ?_
      refine xu_i (x := iI (who e1 ce)) (rVN (rest := []) hx hb hml hown hts hK hl (c_X1_rangeIn l g b e1 e10 e11 ce (show Inv e1 from hI8) (show IR ce from ⟨by omega, by omega⟩)) lk_X4_79 hP1 (va_recv hK.1 hP1 (ci := 1) (q0 := 0) rfl rfl) rfl rfl rfl (Rm.of rfl) rfl rfl dX4_cell_86) ?_
      have hf : fCell ce w = 0 := by unfold fCell; (repeat (first | rw [if_pos (by omega)] | rw [if_neg (by omega)])); first | done | (exfalso; omega)
      have he9 : f1 = (fb (fCell ce w) f1) := by rw [hf]; rfl
      have hP := Eq.mp (congrArg (fun z9 => va_P g.1 vwCl (wX g a b d fo tp sh z9 f20 ++ (wLs g b e1 e10 e11)) s.heap) he9) hP
      have hD := Eq.mp (congrArg (fun z9 => va_D (va_A (wX g a b d fo tp sh f1 f20 ++ (wLs g b e1 e10 e11)) s.heap.size) (wX g a b d fo tp sh z9 f20 ++ (wLs g b e1 e10 e11))) he9) hD
      obtain ⟨hP0, hP1⟩ := va_P_app.mp hP
      have hP : va_P g.1 vwCl (wX g a b d fo tp sh (fb (fCell ce w) f1) f20 ++ (wLs g b e1 e10 e11)) s.heap := hP
      have hD : va_D (va_A (wX g a b d fo tp sh f1 f20 ++ (wLs g b e1 e10 e11)) s.heap.size) (wX g a b d fo tp sh (fb (fCell ce w) f1) f20 ++ (wLs g b e1 e10 e11)) := hD
      exact W.iret hx hb hr (fun t ht hW => ⟨⟨_, (), rfl, by rw [hf, ab_0]; exact congrArg iI (by unfold aCell; (repeat (first | rw [if_pos (by omega)] | rw [if_neg (by omega)])); first | done | (rw [bI_t (by assumption)]; done) | (rw [bI_f (by assumption)]; done)), by rw [ht]; exact hP, hD⟩, hS.F ht⟩) hS.2.2 dX4_cell_89
    · refine lv_tableOut (tgt := 90) hx hb dX4_cell_15 (by rw [iI_toInt hir2]; exact z2) (by decide) ?_
      refine lv_aload_n hx hb dX4_cell_90 rfl (lv_at hl 0 rfl) ?_
      refine xi_ldc hx hb hown hts kk_X4_58 dX4_cell_91 ?_
      refine xmF_i (rV (rest := []) hx hb hml hown hts hK hl (c_X4_finding l g b d fo tp sh a f1 f20 (-1000000001) (s.heap).size (show 0 ≤ -1000000001 - (-1000000001) ∧ -1000000001 - (-1000000001) < 7 from by omega)) lk_X4_59 ⟨rfl, hP0, (va_D_app hD).1.weaken (fun _ _ _ _ => trivial)⟩ (va_recv hK.1 hP0 (ci := 4) (q0 := 0) rfl rfl) rfl rfl rfl (Rm.of rfl) rfl rfl dX4_cell_93) hP hD hS hA (fun x9 _ H locs hw hP hD hS => ?_)
      obtain rfl : x9 = iI (-1000000001) := hw
      have hP : va_P g.1 vwCl (wX g a b d fo tp sh (fb (-1000000000 - (-1000000001)) f1) f20 ++ (wLs g b e1 e10 e11)) H := hP
      have hD : va_D (va_A (wX g a b d fo tp sh f1 f20 ++ (wLs g b e1 e10 e11)) s.heap.size) (wX g a b d fo tp sh (fb (-1000000000 - (-1000000001)) f1) f20 ++ (wLs g b e1 e10 e11)) := hD
      obtain ⟨hP0, hP1⟩ := va_P_app.mp hP
      have hf : fCell ce w = 1 := by unfold fCell; (repeat (first | rw [if_pos (by omega)] | rw [if_neg (by omega)])); first | done | (exfalso; omega)
      have he11 : (fb (-1000000000 - (-1000000001)) f1) = (fb (fCell ce w) f1) := by rw [hf]; rfl
      have hP := Eq.mp (congrArg (fun z9 => va_P g.1 vwCl (wX g a b d fo tp sh z9 f20 ++ (wLs g b e1 e10 e11)) H) he11) hP
      have hD := Eq.mp (congrArg (fun z9 => va_D (va_A (wX g a b d fo tp sh f1 f20 ++ (wLs g b e1 e10 e11)) s.heap.size) (wX g a b d fo tp sh z9 f20 ++ (wLs g b e1 e10 e11))) he11) hD
      obtain ⟨hP0, hP1⟩ := va_P_app.mp hP
      have hP : va_P g.1 vwCl (wX g a b d fo tp sh (fb (fCell ce w) f1) f20 ++ (wLs g b e1 e10 e11)) H := hP
      have hD : va_D (va_A (wX g a b d fo tp sh f1 f20 ++ (wLs g b e1 e10 e11)) s.heap.size) (wX g a b d fo tp sh (fb (fCell ce w) f1) f20 ++ (wLs g b e1 e10 e11)) := hD
      exact W.iret hx hb hr (fun t ht hW => ⟨⟨_, (), rfl, by rw [hf]; rfl, by rw [ht]; exact hP, hD⟩, hS.F ht⟩) hS.2.2 dX4_cell_96
  · refine xi_zf_ne hx hb ⟨by decide, by decide⟩ (by decide) dX4_cell_4 ⟨14, by decide⟩ ?_
    refine lv_aload_n hx hb dX4_cell_7 rfl (lv_at hl 0 rfl) ?_
    refine xi_ldc hx hb hown hts kk_X4_58 dX4_cell_8 ?_
    refine xmF_i (rV (rest := []) hx hb hml hown hts hK hl (c_X4_finding l g b d fo tp sh a f1 f20 (-1000000001) (s.heap).size (show 0 ≤ -1000000001 - (-1000000001) ∧ -1000000001 - (-1000000001) < 7 from by omega)) lk_X4_59 ⟨rfl, hP0, (va_D_app hD).1.weaken (fun _ _ _ _ => trivial)⟩ (va_recv hK.1 hP0 (ci := 4) (q0 := 0) rfl rfl) rfl rfl rfl (Rm.of rfl) rfl rfl dX4_cell_10) hP hD hS hA (fun x9 _ H locs hw hP hD hS => ?_)
    obtain rfl : x9 = iI (-1000000001) := hw
    have hP : va_P g.1 vwCl (wX g a b d fo tp sh (fb (-1000000000 - (-1000000001)) f1) f20 ++ (wLs g b e1 e10 e11)) H := hP
    have hD : va_D (va_A (wX g a b d fo tp sh f1 f20 ++ (wLs g b e1 e10 e11)) s.heap.size) (wX g a b d fo tp sh (fb (-1000000000 - (-1000000001)) f1) f20 ++ (wLs g b e1 e10 e11)) := hD
    obtain ⟨hP0, hP1⟩ := va_P_app.mp hP
    have hf : fCell ce w = 1 := by unfold fCell; (repeat (first | rw [if_pos (by omega)] | rw [if_neg (by omega)])); first | done | (exfalso; omega)
    have he13 : (fb (-1000000000 - (-1000000001)) f1) = (fb (fCell ce w) f1) := by rw [hf]; rfl
    have hP := Eq.mp (congrArg (fun z9 => va_P g.1 vwCl (wX g a b d fo tp sh z9 f20 ++ (wLs g b e1 e10 e11)) H) he13) hP
    have hD := Eq.mp (congrArg (fun z9 => va_D (va_A (wX g a b d fo tp sh f1 f20 ++ (wLs g b e1 e10 e11)) s.heap.size) (wX g a b d fo tp sh z9 f20 ++ (wLs g b e1 e10 e11))) he13) hD
    obtain ⟨hP0, hP1⟩ := va_P_app.mp hP
    have hP : va_P g.1 vwCl (wX g a b d fo tp sh (fb (fCell ce w) f1) f20 ++ (wLs g b e1 e10 e11)) H := hP
    have hD : va_D (va_A (wX g a b d fo tp sh f1 f20 ++ (wLs g b e1 e10 e11)) s.heap.size) (wX g a b d fo tp sh (fb (fCell ce w) f1) f20 ++ (wLs g b e1 e10 e11)) := hD
    exact W.iret hx hb hr (fun t ht hW => ⟨⟨_, (), rfl, by rw [hf]; rfl, by rw [ht]; exact hP, hD⟩, hS.F ht⟩) hS.2.2 dX4_cell_13
abbrev rm_X4_village : Room := { frames := 2, cells := 0, slots := 0, locals := 42 }
set_option maxRecDepth 100000 in
set_option maxHeartbeats 4000000 in
theorem c_X4_village (l : Launch) (g : Gd) (d : Nat → Nat) (fo : Nat → Nat) (tp : Nat → Nat) (sh : Nat → Nat) (a : Nat → Nat) (f1 : Int → Int) (f20 : Int) (b : Nat → Nat) (e1 : Int → Int) (e10 : Int → Int) (e11 : Int → Int) (ce : Int) (sz : Nat) (h1 : InvK 0 e1) (h2 : e1 0 ≤ 9999) (h3 : IR ce) : Met l yX4_village (wsOf yX4_village cX4_village 2 (some .int)) rm_X4_village (PX g (wP g (wX g a b d fo tp sh f1 f20 ++ (wLs g b e1 e10 e11)) sz) [.ref (a 0), .int (iI ce)]) (QMi g (fun _ : Unit => wX g a b d fo tp sh (fb (fVil e1 ce) f1) f20 ++ (wLs g b (if fVil e1 ce = 0 then nVil e1 ce else e1) e10 e11)) (fun r9 _ => r9 = ab (fVil e1 ce) (iI (e1 2))) (va_A (wX g a b d fo tp sh f1 f20 ++ (wLs g b e1 e10 e11)) sz)) 0 0 (va_A (wX g a b d fo tp sh f1 f20 ++ (wLs g b e1 e10 e11)) sz) := by
  refine me (g := g) (by decide) rfl ?_
  intro pq eq s mq below meth cq C hnm hB ls hl
  obtain ⟨hx, hb, hr, hml, hown, hts, hlocks, hK⟩ := C
  have hown : s.vm.findClass RX4 = some mq.cls := hown
  have hl : lv_has ls 2 [(0, .ref (a 0)), (1, .int (iI ce))] := hl
  obtain ⟨hsz, hP, hD0⟩ := hB
  subst hsz
  have hD := hD0.self (sz := s.heap.size)
  have hA : ∀ q : Nat, s.heap.size ≤ q → va_A (wX g a b d fo tp sh f1 f20 ++ (wLs g b e1 e10 e11)) s.heap.size q := fun q h => Or.inr h
  have hS : va_S (va_A (wX g a b d fo tp sh f1 f20 ++ (wLs g b e1 e10 e11)) s.heap.size) s.heap s.heap [] := va_S.rf
  obtain ⟨hP0, hP1⟩ := va_P_app.mp hP
  have hI := h1
  have hI8 : Inv e1 := h1.mono (by omega)
  have hn := hI.num
  have hs := hI.sea
  have hv := hI.vil
  have q1 := h3.1
  have q2 := h3.2
  refine lv_iload_n hx hb dX4_village_0 rfl (lv_at hl 1 rfl) ?_
  refine xu_b (P := 0 ≤ ce ∧ ce ≤ 23) (rS (rest := []) hx hb hml hown hts hK hl (c_X4_isCell l g ce (show IR ce from ⟨by omega, by omega⟩)) lk_X4_50 trivial rfl rfl rfl (Rm.of rfl) rfl rfl dX4_village_1) (fun z1 => ?_) (fun z1 => ?_)
  · refine xi_zt_ne (tgt := 14) hx hb ⟨by decide, by decide⟩ (by decide) dX4_village_4 (by decide) ?_
    refine lv_aload_n hx hb dX4_village_14 rfl (lv_at hl 0 rfl) ?_
    refine xg_X4 hx hb hts hown hK hP0 0 rfl 0 (by decide) fk_X4_10 (v := .ref (b 0)) rfl dX4_village_15 ?_
    refine xgN_X1 hx hb hts hown hK hP1 0 rfl 2 (by decide) fk_X4_82 (v := .int (iI (e1 2))) rfl dX4_village_18 ?_
    refine lv_bipush (v := iI (6)) hx hb dX4_village_21 (by decide) ?_
    refine xi_c_lt (tgt := 33) hx hb ⟨by omega, by omega⟩ ⟨by decide, by decide⟩ dX4_village_23 (by decide) (fun z2 => ?_) (fun z2 => ?_)
    · refine lv_aload_n hx hb dX4_village_33 rfl (lv_at hl 0 rfl) ?_
      refine xg_X4 hx hb hts hown hK hP0 0 rfl 0 (by decide) fk_X4_10 (v := .ref (b 0)) rfl dX4_village_34 ?_
      refine lv_iload_n hx hb dX4_village_37 rfl (lv_at hl 1 rfl) ?_
      have hD : va_D (va_A (wX g a b d fo tp sh f1 f20 ++ (wLs g b e1 e10 e11)) s.heap.size) (wLs g b e1 e10 e11 ++ (wX g a b d fo tp sh f1 f20)) := D_perm (List.perm_append_comm) hD
      have hP : va_P g.1 vwCl (wLs g b e1 e10 e11 ++ (wX g a b d fo tp sh f1 f20)) s.heap := va_P_app.mpr ⟨hP1, hP0⟩
      refine xmF_i (rVN (rest := []) hx hb hml hown hts hK hl (c_X1_addVillage l g b e1 e10 e11 ce (s.heap).size (show 0 ≤ e1 2 ∧ e1 2 < 6 from by omega)) lk_X4_87 ⟨rfl, hP1, (va_D_app hD).1.weaken (fun _ _ _ _ => trivial)⟩ (va_recv hK.1 hP1 (ci := 1) (q0 := 0) rfl rfl) rfl rfl rfl (Rm.of rfl) rfl rfl dX4_village_38) hP hD hS hA (fun x9 _ H locs hw hP hD hS => ?_)
      obtain rfl : x9 = iI (e1 2) := hw
      have hP : va_P g.1 vwCl (wLs g b (nVil e1 ce) e10 e11 ++ (wX g a b d fo tp sh f1 f20)) H := hP
      have hD : va_D (va_A (wX g a b d fo tp sh f1 f20 ++ (wLs g b e1 e10 e11)) s.heap.size) (wLs g b (nVil e1 ce) e10 e11 ++ (wX g a b d fo tp sh f1 f20)) := hD
      obtain ⟨hP1, hP0⟩ := va_P_app.mp hP
      have hD : va_D (va_A (wX g a b d fo tp sh f1 f20 ++ (wLs g b e1 e10 e11)) s.heap.size) (wX g a b d fo tp sh f1 f20 ++ (wLs g b (nVil e1 ce) e10 e11)) := D_perm (List.perm_append_comm) hD
      have hP : va_P g.1 vwCl (wX g a b d fo tp sh f1 f20 ++ (wLs g b (nVil e1 ce) e10 e11)) H := va_P_app.mpr ⟨hP0, hP1⟩
      have hf : fVil e1 ce = 0 := by unfold fVil; (repeat (first | rw [if_pos (by omega)] | rw [if_neg (by omega)])); first | done | (exfalso; omega)
      have he4 : f1 = (fb (fVil e1 ce) f1) := by rw [hf]; rfl
      have hP := Eq.mp (congrArg (fun z9 => va_P g.1 vwCl (wX g a b d fo tp sh z9 f20 ++ (wLs g b (nVil e1 ce) e10 e11)) H) he4) hP
      have hD := Eq.mp (congrArg (fun z9 => va_D (va_A (wX g a b d fo tp sh f1 f20 ++ (wLs g b e1 e10 e11)) s.heap.size) (wX g a b d fo tp sh z9 f20 ++ (wLs g b (nVil e1 ce) e10 e11))) he4) hD
      obtain ⟨hP0, hP1⟩ := va_P_app.mp hP
      have he5 : (nVil e1 ce) = (if fVil e1 ce = 0 then nVil e1 ce else e1) := by rw [hf]; rfl
      have hP := Eq.mp (congrArg (fun z9 => va_P g.1 vwCl (wX g a b d fo tp sh (fb (fVil e1 ce) f1) f20 ++ (wLs g b z9 e10 e11)) H) he5) hP
      have hD := Eq.mp (congrArg (fun z9 => va_D (va_A (wX g a b d fo tp sh f1 f20 ++ (wLs g b e1 e10 e11)) s.heap.size) (wX g a b d fo tp sh (fb (fVil e1 ce) f1) f20 ++ (wLs g b z9 e10 e11))) he5) hD
      obtain ⟨hP0, hP1⟩ := va_P_app.mp hP
      have hP : va_P g.1 vwCl (wX g a b d fo tp sh (fb (fVil e1 ce) f1) f20 ++ (wLs g b (if fVil e1 ce = 0 then nVil e1 ce else e1) e10 e11)) H := hP
      have hD : va_D (va_A (wX g a b d fo tp sh f1 f20 ++ (wLs g b e1 e10 e11)) s.heap.size) (wX g a b d fo tp sh (fb (fVil e1 ce) f1) f20 ++ (wLs g b (if fVil e1 ce = 0 then nVil e1 ce else e1) e10 e11)) := hD
      exact W.iret hx hb hr (fun t ht hW => ⟨⟨_, (), rfl, by rw [hf, ab_0]; (try (repeat (first | rw [if_pos (by omega)] | rw [if_neg (by omega)]))); first | done | rfl | exact congrArg iI (by omega) | exact congrArg iI (by simp only [up]; (repeat (first | rw [if_pos (by omega)] | rw [if_neg (by omega)])); first | done | omega), by rw [ht]; exact hP, hD⟩, hS.F ht⟩) hS.2.2 dX4_village_41
    · refine lv_aload_n hx hb dX4_village_26 rfl (lv_at hl 0 rfl) ?_
      refine xi_ldc hx hb hown hts kk_X4_86 dX4_village_27 ?_
      refine xmF_i (rV (rest := []) hx hb hml hown hts hK hl (c_X4_finding l g b d fo tp sh a f1 f20 (-1000000002) (s.heap).size (show 0 ≤ -1000000001 - (-1000000002) ∧ -1000000001 - (-1000000002) < 7 from by omega)) lk_X4_59 ⟨rfl, hP0, (va_D_app hD).1.weaken (fun _ _ _ _ => trivial)⟩ (va_recv hK.1 hP0 (ci := 4) (q0 := 0) rfl rfl) rfl rfl rfl (Rm.of rfl) rfl rfl dX4_village_29) hP hD hS hA (fun x9 _ H locs hw hP hD hS => ?_)
      obtain rfl : x9 = iI (-1000000002) := hw
      have hP : va_P g.1 vwCl (wX g a b d fo tp sh (fb (-1000000000 - (-1000000002)) f1) f20 ++ (wLs g b e1 e10 e11)) H := hP
      have hD : va_D (va_A (wX g a b d fo tp sh f1 f20 ++ (wLs g b e1 e10 e11)) s.heap.size) (wX g a b d fo tp sh (fb (-1000000000 - (-1000000002)) f1) f20 ++ (wLs g b e1 e10 e11)) := hD
      obtain ⟨hP0, hP1⟩ := va_P_app.mp hP
      have hf : fVil e1 ce = 2 := by unfold fVil; (repeat (first | rw [if_pos (by omega)] | rw [if_neg (by omega)])); first | done | (exfalso; omega)
      have he7 : (fb (-1000000000 - (-1000000002)) f1) = (fb (fVil e1 ce) f1) := by rw [hf]; rfl
      have hP := Eq.mp (congrArg (fun z9 => va_P g.1 vwCl (wX g a b d fo tp sh z9 f20 ++ (wLs g b e1 e10 e11)) H) he7) hP
      have hD := Eq.mp (congrArg (fun z9 => va_D (va_A (wX g a b d fo tp sh f1 f20 ++ (wLs g b e1 e10 e11)) s.heap.size) (wX g a b d fo tp sh z9 f20 ++ (wLs g b e1 e10 e11))) he7) hD
      obtain ⟨hP0, hP1⟩ := va_P_app.mp hP
      have he8 : e1 = (if fVil e1 ce = 0 then nVil e1 ce else e1) := by rw [hf]; rfl
      have hP := Eq.mp (congrArg (fun z9 => va_P g.1 vwCl (wX g a b d fo tp sh (fb (fVil e1 ce) f1) f20 ++ (wLs g b z9 e10 e11)) H) he8) hP
      have hD := Eq.mp (congrArg (fun z9 => va_D (va_A (wX g a b d fo tp sh f1 f20 ++ (wLs g b e1 e10 e11)) s.heap.size) (wX g a b d fo tp sh (fb (fVil e1 ce) f1) f20 ++ (wLs g b z9 e10 e11))) he8) hD
      obtain ⟨hP0, hP1⟩ := va_P_app.mp hP
      have hP : va_P g.1 vwCl (wX g a b d fo tp sh (fb (fVil e1 ce) f1) f20 ++ (wLs g b (if fVil e1 ce = 0 then nVil e1 ce else e1) e10 e11)) H := hP
      have hD : va_D (va_A (wX g a b d fo tp sh f1 f20 ++ (wLs g b e1 e10 e11)) s.heap.size) (wX g a b d fo tp sh (fb (fVil e1 ce) f1) f20 ++ (wLs g b (if fVil e1 ce = 0 then nVil e1 ce else e1) e10 e11)) := hD
      exact W.iret hx hb hr (fun t ht hW => ⟨⟨_, (), rfl, by rw [hf]; rfl, by rw [ht]; exact hP, hD⟩, hS.F ht⟩) hS.2.2 dX4_village_32
  · refine xi_zf_ne hx hb ⟨by decide, by decide⟩ (by decide) dX4_village_4 ⟨14, by decide⟩ ?_
    refine lv_aload_n hx hb dX4_village_7 rfl (lv_at hl 0 rfl) ?_
    refine xi_ldc hx hb hown hts kk_X4_58 dX4_village_8 ?_
    refine xmF_i (rV (rest := []) hx hb hml hown hts hK hl (c_X4_finding l g b d fo tp sh a f1 f20 (-1000000001) (s.heap).size (show 0 ≤ -1000000001 - (-1000000001) ∧ -1000000001 - (-1000000001) < 7 from by omega)) lk_X4_59 ⟨rfl, hP0, (va_D_app hD).1.weaken (fun _ _ _ _ => trivial)⟩ (va_recv hK.1 hP0 (ci := 4) (q0 := 0) rfl rfl) rfl rfl rfl (Rm.of rfl) rfl rfl dX4_village_10) hP hD hS hA (fun x9 _ H locs hw hP hD hS => ?_)
    obtain rfl : x9 = iI (-1000000001) := hw
    have hP : va_P g.1 vwCl (wX g a b d fo tp sh (fb (-1000000000 - (-1000000001)) f1) f20 ++ (wLs g b e1 e10 e11)) H := hP
    have hD : va_D (va_A (wX g a b d fo tp sh f1 f20 ++ (wLs g b e1 e10 e11)) s.heap.size) (wX g a b d fo tp sh (fb (-1000000000 - (-1000000001)) f1) f20 ++ (wLs g b e1 e10 e11)) := hD
    obtain ⟨hP0, hP1⟩ := va_P_app.mp hP
    have hf : fVil e1 ce = 1 := by unfold fVil; (repeat (first | rw [if_pos (by omega)] | rw [if_neg (by omega)])); first | done | (exfalso; omega)
    have he10 : (fb (-1000000000 - (-1000000001)) f1) = (fb (fVil e1 ce) f1) := by rw [hf]; rfl
    have hP := Eq.mp (congrArg (fun z9 => va_P g.1 vwCl (wX g a b d fo tp sh z9 f20 ++ (wLs g b e1 e10 e11)) H) he10) hP
    have hD := Eq.mp (congrArg (fun z9 => va_D (va_A (wX g a b d fo tp sh f1 f20 ++ (wLs g b e1 e10 e11)) s.heap.size) (wX g a b d fo tp sh z9 f20 ++ (wLs g b e1 e10 e11))) he10) hD
    obtain ⟨hP0, hP1⟩ := va_P_app.mp hP
    have he11 : e1 = (if fVil e1 ce = 0 then nVil e1 ce else e1) := by rw [hf]; rfl
    have hP := Eq.mp (congrArg (fun z9 => va_P g.1 vwCl (wX g a b d fo tp sh (fb (fVil e1 ce) f1) f20 ++ (wLs g b z9 e10 e11)) H) he11) hP
    have hD := Eq.mp (congrArg (fun z9 => va_D (va_A (wX g a b d fo tp sh f1 f20 ++ (wLs g b e1 e10 e11)) s.heap.size) (wX g a b d fo tp sh (fb (fVil e1 ce) f1) f20 ++ (wLs g b z9 e10 e11))) he11) hD
    obtain ⟨hP0, hP1⟩ := va_P_app.mp hP
    have hP : va_P g.1 vwCl (wX g a b d fo tp sh (fb (fVil e1 ce) f1) f20 ++ (wLs g b (if fVil e1 ce = 0 then nVil e1 ce else e1) e10 e11)) H := hP
    have hD : va_D (va_A (wX g a b d fo tp sh f1 f20 ++ (wLs g b e1 e10 e11)) s.heap.size) (wX g a b d fo tp sh (fb (fVil e1 ce) f1) f20 ++ (wLs g b (if fVil e1 ce = 0 then nVil e1 ce else e1) e10 e11)) := hD
    exact W.iret hx hb hr (fun t ht hW => ⟨⟨_, (), rfl, by rw [hf]; rfl, by rw [ht]; exact hP, hD⟩, hS.F ht⟩) hS.2.2 dX4_village_13
abbrev rm_X4_villageOf : Room := { frames := 2, cells := 0, slots := 0, locals := 44 }
set_option maxRecDepth 100000 in
set_option maxHeartbeats 4000000 in
theorem c_X4_villageOf (l : Launch) (g : Gd) (d : Nat → Nat) (fo : Nat → Nat) (tp : Nat → Nat) (sh : Nat → Nat) (a : Nat → Nat) (f1 : Int → Int) (f20 : Int) (b : Nat → Nat) (e1 : Int → Int) (e10 : Int → Int) (e11 : Int → Int) (v : Int) (w : Int) (sz : Nat) (h1 : InvK 0 e1) (h2 : e1 0 ≤ 9999) (h3 : IR v) (h4 : IR w) : Met l yX4_villageOf (wsOf yX4_villageOf cX4_villageOf 3 (some .int)) rm_X4_villageOf (PX g (wP g (wX g a b d fo tp sh f1 f20 ++ (wLs g b e1 e10 e11)) sz) [.ref (a 0), .int (iI v), .int (iI w)]) (QMi g (fun _ : Unit => wX g a b d fo tp sh (fb (fVOf e1 v w) f1) f20 ++ (wLs g b e1 e10 e11)) (fun r9 _ => r9 = ab (fVOf e1 v w) (iI (aVOf e1 v w))) (va_A (wX g a b d fo tp sh f1 f20 ++ (wLs g b e1 e10 e11)) sz)) 0 0 (va_A (wX g a b d fo tp sh f1 f20 ++ (wLs g b e1 e10 e11)) sz) := by
  refine me (g := g) (by decide) rfl ?_
  intro pq eq s mq below meth cq C hnm hB ls hl
  obtain ⟨hx, hb, hr, hml, hown, hts, hlocks, hK⟩ := C
  have hown : s.vm.findClass RX4 = some mq.cls := hown
  have hl : lv_has ls 3 [(0, .ref (a 0)), (1, .int (iI v)), (2, .int (iI w))] := hl
  obtain ⟨hsz, hP, hD0⟩ := hB
  subst hsz
  have hD := hD0.self (sz := s.heap.size)
  have hA : ∀ q : Nat, s.heap.size ≤ q → va_A (wX g a b d fo tp sh f1 f20 ++ (wLs g b e1 e10 e11)) s.heap.size q := fun q h => Or.inr h
  have hS : va_S (va_A (wX g a b d fo tp sh f1 f20 ++ (wLs g b e1 e10 e11)) s.heap.size) s.heap s.heap [] := va_S.rf
  obtain ⟨hP0, hP1⟩ := va_P_app.mp hP
  have hI := h1
  have hI8 : Inv e1 := h1.mono (by omega)
  have hn := hI.num
  have hs := hI.sea
  have hv := hI.vil
  have q1 := h3.1
  have q3 := h4.1
  have q2 := h3.2
  have q4 := h4.2
  refine lv_aload_n hx hb dX4_villageOf_0 rfl (lv_at hl 0 rfl) ?_
  refine lv_iload_n hx hb dX4_villageOf_1 rfl (lv_at hl 1 rfl) ?_
  refine xu_b (P := 0 ≤ v ∧ v < e1 2) (rV (rest := []) hx hb hml hown hts hK hl (c_X4_isVillage l g d fo tp sh a f1 f20 b e1 e10 e11 v (show IR v from ⟨by omega, by omega⟩) (show 0 ≤ e1 2 ∧ e1 2 ≤ 6 from by omega)) lk_X4_90 (va_P_app.mpr ⟨hP0, hP1⟩) (va_recv hK.1 hP0 (ci := 4) (q0 := 0) rfl rfl) rfl rfl rfl (Rm.of rfl) rfl rfl dX4_villageOf_2) (fun z1 => ?_) (fun z1 => ?_)
  · refine xi_zt_ne (tgt := 15) hx hb ⟨by decide, by decide⟩ (by decide) dX4_villageOf_5 (by decide) ?_
    refine lv_iload_n hx hb dX4_villageOf_15 rfl (lv_at hl 2 rfl) ?_
    have hir2 : IR (w) := ⟨by omega, by omega⟩
    rcases (show (w) = 0 ∨ (w) = 1 ∨ (¬ (w) = 0 ∧ ¬ (w) = 1) by omega) with z2 | z2 | z2
    · refine lv_lookup (tgt := 44) (off := 28) hx hb dX4_villageOf_16 (by decide) (by rw [iI_toInt hir2, z2]; decide) (by decide) ?_
      refine lv_aload_n hx hb dX4_villageOf_44 rfl (lv_at hl 0 rfl) ?_
      refine xg_X4 hx hb hts hown hK hP0 0 rfl 0 (by decide) fk_X4_10 (v := .ref (b 0)) rfl dX4_villageOf_45 ?_
      refine xgN_X1 hx hb hts hown hK hP1 0 rfl 5 (by decide) fk_X4_93 (v := .ref (b 3)) rfl dX4_villageOf_48 ?_
      refine lv_iload_n hx hb dX4_villageOf_51 rfl (lv_at hl 1 rfl) ?_
      refine xi_alq hx hb hK hP1 3 (s0 := e1) rfl (i := v) ⟨by omega, by omega⟩ rfl dX4_villageOf_52 ?_
      have hf : fVOf e1 v w = 0 := by unfold fVOf; (repeat (first | rw [if_pos (by omega)] | rw [if_neg (by omega)])); first | done | (exfalso; omega)
      have he3 : f1 = (fb (fVOf e1 v w) f1) := by rw [hf]; rfl
      have hP := Eq.mp (congrArg (fun z9 => va_P g.1 vwCl (wX g a b d fo tp sh z9 f20 ++ (wLs g b e1 e10 e11)) s.heap) he3) hP
      have hD := Eq.mp (congrArg (fun z9 => va_D (va_A (wX g a b d fo tp sh f1 f20 ++ (wLs g b e1 e10 e11)) s.heap.size) (wX g a b d fo tp sh z9 f20 ++ (wLs g b e1 e10 e11))) he3) hD
      obtain ⟨hP0, hP1⟩ := va_P_app.mp hP
      have hP : va_P g.1 vwCl (wX g a b d fo tp sh (fb (fVOf e1 v w) f1) f20 ++ (wLs g b e1 e10 e11)) s.heap := hP
      have hD : va_D (va_A (wX g a b d fo tp sh f1 f20 ++ (wLs g b e1 e10 e11)) s.heap.size) (wX g a b d fo tp sh (fb (fVOf e1 v w) f1) f20 ++ (wLs g b e1 e10 e11)) := hD
      exact W.iret hx hb hr (fun t ht hW => ⟨⟨_, (), rfl, by rw [hf, ab_0]; exact congrArg iI (by unfold aVOf; (repeat (first | rw [if_pos (by omega)] | rw [if_neg (by omega)])); first | done | (rw [bI_t (by assumption)]; done) | (rw [bI_f (by assumption)]; done)), by rw [ht]; exact hP, hD⟩, hS.F ht⟩) hS.2.2 dX4_villageOf_53
    · refine lv_lookup (tgt := 54) (off := 38) hx hb dX4_villageOf_16 (by decide) (by rw [iI_toInt hir2, z2]; decide) (by decide) ?_
      refine lv_aload_n hx hb dX4_villageOf_54 rfl (lv_at hl 0 rfl) ?_
      refine xg_X4 hx hb hts hown hK hP0 0 rfl 0 (by decide) fk_X4_10 (v := .ref (b 0)) rfl dX4_villageOf_55 ?_
      refine lv_iload_n hx hb dX4_villageOf_58 rfl (lv_at hl 1 rfl) ?_
      refine xu_b (P := litP e1 v) (rVN (rest := []) hx hb hml hown hts hK hl (c_X1_isLit l g b e1 e10 e11 v (show Inv e1 from hI8) (show 0 ≤ v ∧ v < e1 2 from by omega)) lk_X4_96 hP1 (va_recv hK.1 hP1 (ci := 1) (q0 := 0) rfl rfl) rfl rfl rfl (Rm.of rfl) rfl rfl dX4_villageOf_59) (fun z4 => ?_) (fun z4 => ?_)
      · refine xi_zf_eq hx hb ⟨by decide, by decide⟩ (by decide) dX4_villageOf_62 ⟨69, by decide⟩ ?_
        refine lv_iconst (v := iI (1)) hx hb dX4_villageOf_65 (by decide) ?_
        refine lv_goto (tgt := 70) hx hb dX4_villageOf_66 (by decide) ?_
        have hf : fVOf e1 v w = 0 := by unfold fVOf; (repeat (first | rw [if_pos (by omega)] | rw [if_neg (by omega)])); first | done | (exfalso; omega)
        have he5 : f1 = (fb (fVOf e1 v w) f1) := by rw [hf]; rfl
        have hP := Eq.mp (congrArg (fun z9 => va_P g.1 vwCl (wX g a b d fo tp sh z9 f20 ++ (wLs g b e1 e10 e11)) s.heap) he5) hP
        have hD := Eq.mp (congrArg (fun z9 => va_D (va_A (wX g a b d fo tp sh f1 f20 ++ (wLs g b e1 e10 e11)) s.heap.size) (wX g a b d fo tp sh z9 f20 ++ (wLs g b e1 e10 e11))) he5) hD
        obtain ⟨hP0, hP1⟩ := va_P_app.mp hP
        have hP : va_P g.1 vwCl (wX g a b d fo tp sh (fb (fVOf e1 v w) f1) f20 ++ (wLs g b e1 e10 e11)) s.heap := hP
        have hD : va_D (va_A (wX g a b d fo tp sh f1 f20 ++ (wLs g b e1 e10 e11)) s.heap.size) (wX g a b d fo tp sh (fb (fVOf e1 v w) f1) f20 ++ (wLs g b e1 e10 e11)) := hD
        exact W.iret hx hb hr (fun t ht hW => ⟨⟨_, (), rfl, by rw [hf, ab_0]; exact congrArg iI (by unfold aVOf; (repeat (first | rw [if_pos (by omega)] | rw [if_neg (by omega)])); first | done | (rw [bI_t (by assumption)]; done) | (rw [bI_f (by assumption)]; done)), by rw [ht]; exact hP, hD⟩, hS.F ht⟩) hS.2.2 dX4_villageOf_70
      · refine xi_zt_eq (tgt := 69) hx hb ⟨by decide, by decide⟩ (by decide) dX4_villageOf_62 (by decide) ?_
        refine lv_iconst (v := iI (0)) hx hb dX4_villageOf_69 (by decide) ?_
        have hf : fVOf e1 v w = 0 := by unfold fVOf; (repeat (first | rw [if_pos (by omega)] | rw [if_neg (by omega)])); first | done | (exfalso; omega)
        have he6 : f1 = (fb (fVOf e1 v w) f1) := by rw [hf]; rfl
        have hP := Eq.mp (congrArg (fun z9 => va_P g.1 vwCl (wX g a b d fo tp sh z9 f20 ++ (wLs g b e1 e10 e11)) s.heap) he6) hP
        have hD := Eq.mp (congrArg (fun z9 => va_D (va_A (wX g a b d fo tp sh f1 f20 ++ (wLs g b e1 e10 e11)) s.heap.size) (wX g a b d fo tp sh z9 f20 ++ (wLs g b e1 e10 e11))) he6) hD
        obtain ⟨hP0, hP1⟩ := va_P_app.mp hP
        have hP : va_P g.1 vwCl (wX g a b d fo tp sh (fb (fVOf e1 v w) f1) f20 ++ (wLs g b e1 e10 e11)) s.heap := hP
        have hD : va_D (va_A (wX g a b d fo tp sh f1 f20 ++ (wLs g b e1 e10 e11)) s.heap.size) (wX g a b d fo tp sh (fb (fVOf e1 v w) f1) f20 ++ (wLs g b e1 e10 e11)) := hD
        exact W.iret hx hb hr (fun t ht hW => ⟨⟨_, (), rfl, by rw [hf, ab_0]; exact congrArg iI (by unfold aVOf; (repeat (first | rw [if_pos (by omega)] | rw [if_neg (by omega)])); first | done | (rw [bI_t (by assumption)]; done) | (rw [bI_f (by assumption)]; done)), by rw [ht]; exact hP, hD⟩, hS.F ht⟩) hS.2.2 dX4_villageOf_70
    · refine lv_lookup (tgt := 71) (off := 55) hx hb dX4_villageOf_16 (by decide) (by rw [iI_toInt hir2]; exact lku_no2 z2) (by decide) ?_
      refine lv_aload_n hx hb dX4_villageOf_71 rfl (lv_at hl 0 rfl) ?_
      refine xi_ldc hx hb hown hts kk_X4_58 dX4_villageOf_72 ?_
      refine xmF_i (rV (rest := []) hx hb hml hown hts hK hl (c_X4_finding l g b d fo tp sh a f1 f20 (-1000000001) (s.heap).size (show 0 ≤ -1000000001 - (-1000000001) ∧ -1000000001 - (-1000000001) < 7 from by omega)) lk_X4_59 ⟨rfl, hP0, (va_D_app hD).1.weaken (fun _ _ _ _ => trivial)⟩ (va_recv hK.1 hP0 (ci := 4) (q0 := 0) rfl rfl) rfl rfl rfl (Rm.of rfl) rfl rfl dX4_villageOf_74) hP hD hS hA (fun x9 _ H locs hw hP hD hS => ?_)
      obtain rfl : x9 = iI (-1000000001) := hw
      have hP : va_P g.1 vwCl (wX g a b d fo tp sh (fb (-1000000000 - (-1000000001)) f1) f20 ++ (wLs g b e1 e10 e11)) H := hP
      have hD : va_D (va_A (wX g a b d fo tp sh f1 f20 ++ (wLs g b e1 e10 e11)) s.heap.size) (wX g a b d fo tp sh (fb (-1000000000 - (-1000000001)) f1) f20 ++ (wLs g b e1 e10 e11)) := hD
      obtain ⟨hP0, hP1⟩ := va_P_app.mp hP
      have hf : fVOf e1 v w = 1 := by unfold fVOf; (repeat (first | rw [if_pos (by omega)] | rw [if_neg (by omega)])); first | done | (exfalso; omega)
      have he8 : (fb (-1000000000 - (-1000000001)) f1) = (fb (fVOf e1 v w) f1) := by rw [hf]; rfl
      have hP := Eq.mp (congrArg (fun z9 => va_P g.1 vwCl (wX g a b d fo tp sh z9 f20 ++ (wLs g b e1 e10 e11)) H) he8) hP
      have hD := Eq.mp (congrArg (fun z9 => va_D (va_A (wX g a b d fo tp sh f1 f20 ++ (wLs g b e1 e10 e11)) s.heap.size) (wX g a b d fo tp sh z9 f20 ++ (wLs g b e1 e10 e11))) he8) hD
      obtain ⟨hP0, hP1⟩ := va_P_app.mp hP
      have hP : va_P g.1 vwCl (wX g a b d fo tp sh (fb (fVOf e1 v w) f1) f20 ++ (wLs g b e1 e10 e11)) H := hP
      have hD : va_D (va_A (wX g a b d fo tp sh f1 f20 ++ (wLs g b e1 e10 e11)) s.heap.size) (wX g a b d fo tp sh (fb (fVOf e1 v w) f1) f20 ++ (wLs g b e1 e10 e11)) := hD
      exact W.iret hx hb hr (fun t ht hW => ⟨⟨_, (), rfl, by rw [hf]; rfl, by rw [ht]; exact hP, hD⟩, hS.F ht⟩) hS.2.2 dX4_villageOf_77
  · refine xi_zf_ne hx hb ⟨by decide, by decide⟩ (by decide) dX4_villageOf_5 ⟨15, by decide⟩ ?_
    refine lv_aload_n hx hb dX4_villageOf_8 rfl (lv_at hl 0 rfl) ?_
    refine xi_ldc hx hb hown hts kk_X4_58 dX4_villageOf_9 ?_
    refine xmF_i (rV (rest := []) hx hb hml hown hts hK hl (c_X4_finding l g b d fo tp sh a f1 f20 (-1000000001) (s.heap).size (show 0 ≤ -1000000001 - (-1000000001) ∧ -1000000001 - (-1000000001) < 7 from by omega)) lk_X4_59 ⟨rfl, hP0, (va_D_app hD).1.weaken (fun _ _ _ _ => trivial)⟩ (va_recv hK.1 hP0 (ci := 4) (q0 := 0) rfl rfl) rfl rfl rfl (Rm.of rfl) rfl rfl dX4_villageOf_11) hP hD hS hA (fun x9 _ H locs hw hP hD hS => ?_)
    obtain rfl : x9 = iI (-1000000001) := hw
    have hP : va_P g.1 vwCl (wX g a b d fo tp sh (fb (-1000000000 - (-1000000001)) f1) f20 ++ (wLs g b e1 e10 e11)) H := hP
    have hD : va_D (va_A (wX g a b d fo tp sh f1 f20 ++ (wLs g b e1 e10 e11)) s.heap.size) (wX g a b d fo tp sh (fb (-1000000000 - (-1000000001)) f1) f20 ++ (wLs g b e1 e10 e11)) := hD
    obtain ⟨hP0, hP1⟩ := va_P_app.mp hP
    have hf : fVOf e1 v w = 1 := by unfold fVOf; (repeat (first | rw [if_pos (by omega)] | rw [if_neg (by omega)])); first | done | (exfalso; omega)
    have he10 : (fb (-1000000000 - (-1000000001)) f1) = (fb (fVOf e1 v w) f1) := by rw [hf]; rfl
    have hP := Eq.mp (congrArg (fun z9 => va_P g.1 vwCl (wX g a b d fo tp sh z9 f20 ++ (wLs g b e1 e10 e11)) H) he10) hP
    have hD := Eq.mp (congrArg (fun z9 => va_D (va_A (wX g a b d fo tp sh f1 f20 ++ (wLs g b e1 e10 e11)) s.heap.size) (wX g a b d fo tp sh z9 f20 ++ (wLs g b e1 e10 e11))) he10) hD
    obtain ⟨hP0, hP1⟩ := va_P_app.mp hP
    have hP : va_P g.1 vwCl (wX g a b d fo tp sh (fb (fVOf e1 v w) f1) f20 ++ (wLs g b e1 e10 e11)) H := hP
    have hD : va_D (va_A (wX g a b d fo tp sh f1 f20 ++ (wLs g b e1 e10 e11)) s.heap.size) (wX g a b d fo tp sh (fb (fVOf e1 v w) f1) f20 ++ (wLs g b e1 e10 e11)) := hD
    exact W.iret hx hb hr (fun t ht hW => ⟨⟨_, (), rfl, by rw [hf]; rfl, by rw [ht]; exact hP, hD⟩, hS.F ht⟩) hS.2.2 dX4_villageOf_14
abbrev rm_X4_order : Room := { frames := 1, cells := 0, slots := 0, locals := 22 }
set_option maxRecDepth 100000 in
set_option maxHeartbeats 4000000 in
theorem c_X4_order (l : Launch) (g : Gd) (d : Nat → Nat) (fo : Nat → Nat) (tp : Nat → Nat) (sh : Nat → Nat) (a : Nat → Nat) (f1 : Int → Int) (f20 : Int) (b : Nat → Nat) (e1 : Int → Int) (e10 : Int → Int) (e11 : Int → Int) (w : Int) (v : Int) (sz : Nat) (h1 : InvK 0 e1) (h2 : e1 0 ≤ 9999) (h3 : IR w) (h4 : IR v) : Met l yX4_order (wsOf yX4_order cX4_order 4 (some .int)) rm_X4_order (PX g (wP g (wX g a b d fo tp sh f1 f20 ++ (wLs g b e1 e10 e11)) sz) [.ref (a 0), .int (iI w), .int (iI v)]) (QMi g (fun _ : Unit => wX g a b d fo tp sh (fb (fOrd w v) f1) f20 ++ (wLs g b (if fOrd w v = 0 then up e1 (3 + w) v else e1) e10 e11)) (fun r9 _ => r9 = ab (fOrd w v) (iI (e1 (3 + w)))) (va_A (wX g a b d fo tp sh f1 f20 ++ (wLs g b e1 e10 e11)) sz)) 0 0 (va_A (wX g a b d fo tp sh f1 f20 ++ (wLs g b e1 e10 e11)) sz) := by
  refine me (g := g) (by decide) rfl ?_
  intro pq eq s mq below meth cq C hnm hB ls hl
  obtain ⟨hx, hb, hr, hml, hown, hts, hlocks, hK⟩ := C
  have hown : s.vm.findClass RX4 = some mq.cls := hown
  have hl : lv_has ls 4 [(0, .ref (a 0)), (1, .int (iI w)), (2, .int (iI v))] := hl
  obtain ⟨hsz, hP, hD0⟩ := hB
  subst hsz
  have hD := hD0.self (sz := s.heap.size)
  have hA : ∀ q : Nat, s.heap.size ≤ q → va_A (wX g a b d fo tp sh f1 f20 ++ (wLs g b e1 e10 e11)) s.heap.size q := fun q h => Or.inr h
  have hS : va_S (va_A (wX g a b d fo tp sh f1 f20 ++ (wLs g b e1 e10 e11)) s.heap.size) s.heap s.heap [] := va_S.rf
  obtain ⟨hP0, hP1⟩ := va_P_app.mp hP
  have hI := h1
  have hI8 : Inv e1 := h1.mono (by omega)
  have hn := hI.num
  have hs := hI.sea
  have hv := hI.vil
  have q1 := h3.1
  have q3 := h4.1
  have q2 := h3.2
  have q4 := h4.2
  refine lv_iload_n hx hb dX4_order_0 rfl (lv_at hl 1 rfl) ?_
  refine lv_iconst (v := iI (0)) hx hb dX4_order_1 (by decide) ?_
  refine lv_iconst (v := iI (3)) hx hb dX4_order_2 (by decide) ?_
  refine xu_b (P := 0 ≤ w ∧ w ≤ 3) (rS (rest := []) hx hb hml hown hts hK hl (c_X4_isBetween l g w 0 3 (show IR w from ⟨by omega, by omega⟩) (show IR 0 from ⟨by omega, by omega⟩) (show IR 3 from ⟨by omega, by omega⟩)) lk_X4_99 trivial rfl rfl rfl (Rm.of rfl) rfl rfl dX4_order_3) (fun z1 => ?_) (fun z1 => ?_)
  · refine xi_zf_eq hx hb ⟨by decide, by decide⟩ (by decide) dX4_order_6 ⟨20, by decide⟩ ?_
    refine lv_iload_n hx hb dX4_order_9 rfl (lv_at hl 2 rfl) ?_
    refine lv_bipush (v := iI (-9)) hx hb dX4_order_10 (by decide) ?_
    refine lv_bipush (v := iI (9)) hx hb dX4_order_12 (by decide) ?_
    refine xu_b (P := (-9) ≤ v ∧ v ≤ 9) (rS (rest := []) hx hb hml hown hts hK hl (c_X4_isBetween l g v (-9) 9 (show IR v from ⟨by omega, by omega⟩) (show IR (-9) from ⟨by omega, by omega⟩) (show IR 9 from ⟨by omega, by omega⟩)) lk_X4_99 trivial rfl rfl rfl (Rm.of rfl) rfl rfl dX4_order_14) (fun z2 => ?_) (fun z2 => ?_)
    · refine xi_zt_ne (tgt := 27) hx hb ⟨by decide, by decide⟩ (by decide) dX4_order_17 (by decide) ?_
      refine lv_aload_n hx hb dX4_order_27 rfl (lv_at hl 0 rfl) ?_
      refine xg_X4 hx hb hts hown hK hP0 0 rfl 0 (by decide) fk_X4_10 (v := .ref (b 0)) rfl dX4_order_28 ?_
      refine xgN_X1 hx hb hts hown hK hP1 0 rfl 6 (by decide) fk_X4_103 (v := .ref (b 4)) rfl dX4_order_31 ?_
      refine lv_iload_n hx hb dX4_order_34 rfl (lv_at hl 1 rfl) ?_
      refine xi_alq hx hb hK hP1 4 (s0 := e1) rfl (i := w) ⟨by omega, by omega⟩ rfl dX4_order_35 ?_
      refine lv_istore_n (lv' := [(3, .int (iI (e1 (3 + w)))), (0, .ref (a 0)), (1, .int (iI w)), (2, .int (iI v))]) hx hb dX4_order_36 rfl hl (by decide) rfl (fun ls hl => ?_)
      refine lv_aload_n hx hb dX4_order_37 rfl (lv_at hl 1 rfl) ?_
      refine xg_X4 hx hb hts hown hK hP0 0 rfl 0 (by decide) fk_X4_10 (v := .ref (b 0)) rfl dX4_order_38 ?_
      refine xgN_X1 hx hb hts hown hK hP1 0 rfl 6 (by decide) fk_X4_103 (v := .ref (b 4)) rfl dX4_order_41 ?_
      refine lv_iload_n hx hb dX4_order_44 rfl (lv_at hl 2 rfl) ?_
      refine lv_iload_n hx hb dX4_order_45 rfl (lv_at hl 3 rfl) ?_
      refine xi_ast hx hb hK hP hD hS 7 (f := pj 3 4 e1) rfl (i := w) (v := v) ⟨by omega, by omega⟩ rfl dX4_order_46 (fun H locs hP hD hS => ?_)
      have hP := Eq.mp (congrArg (fun z9 : va_W => va_P g.1 vwCl (wX g a b d fo tp sh f1 f20 ++ (z9)) H) (Ls_weights (g := g) (a := b) (s := e1) (x10 := e10) (x11 := e11) (i := w) (v := v) ⟨by omega, by omega⟩)) hP
      have hD := Eq.mp (congrArg (fun z9 : va_W => va_D (va_A (wX g a b d fo tp sh f1 f20 ++ (wLs g b e1 e10 e11)) s.heap.size) (wX g a b d fo tp sh f1 f20 ++ (z9))) (Ls_weights (g := g) (a := b) (s := e1) (x10 := e10) (x11 := e11) (i := w) (v := v) ⟨by omega, by omega⟩)) hD
      have hP : va_P g.1 vwCl (wX g a b d fo tp sh f1 f20 ++ (wLs g b (up e1 (3 + w) v) e10 e11)) H := hP
      have hD : va_D (va_A (wX g a b d fo tp sh f1 f20 ++ (wLs g b e1 e10 e11)) s.heap.size) (wX g a b d fo tp sh f1 f20 ++ (wLs g b (up e1 (3 + w) v) e10 e11)) := hD
      obtain ⟨hP0, hP1⟩ := va_P_app.mp hP
      refine lv_iload_n hx hb dX4_order_47 rfl (lv_at hl 0 rfl) ?_
      have hf : fOrd w v = 0 := by unfold fOrd; (repeat (first | rw [if_pos (by omega)] | rw [if_neg (by omega)])); first | done | (exfalso; omega)
      have he3 : f1 = (fb (fOrd w v) f1) := by rw [hf]; rfl
      have hP := Eq.mp (congrArg (fun z9 => va_P g.1 vwCl (wX g a b d fo tp sh z9 f20 ++ (wLs g b (up e1 (3 + w) v) e10 e11)) H) he3) hP
      have hD := Eq.mp (congrArg (fun z9 => va_D (va_A (wX g a b d fo tp sh f1 f20 ++ (wLs g b e1 e10 e11)) s.heap.size) (wX g a b d fo tp sh z9 f20 ++ (wLs g b (up e1 (3 + w) v) e10 e11))) he3) hD
      obtain ⟨hP0, hP1⟩ := va_P_app.mp hP
      have he4 : (up e1 (3 + w) v) = (if fOrd w v = 0 then up e1 (3 + w) v else e1) := by rw [hf]; rfl
      have hP := Eq.mp (congrArg (fun z9 => va_P g.1 vwCl (wX g a b d fo tp sh (fb (fOrd w v) f1) f20 ++ (wLs g b z9 e10 e11)) H) he4) hP
      have hD := Eq.mp (congrArg (fun z9 => va_D (va_A (wX g a b d fo tp sh f1 f20 ++ (wLs g b e1 e10 e11)) s.heap.size) (wX g a b d fo tp sh (fb (fOrd w v) f1) f20 ++ (wLs g b z9 e10 e11))) he4) hD
      obtain ⟨hP0, hP1⟩ := va_P_app.mp hP
      have hP : va_P g.1 vwCl (wX g a b d fo tp sh (fb (fOrd w v) f1) f20 ++ (wLs g b (if fOrd w v = 0 then up e1 (3 + w) v else e1) e10 e11)) H := hP
      have hD : va_D (va_A (wX g a b d fo tp sh f1 f20 ++ (wLs g b e1 e10 e11)) s.heap.size) (wX g a b d fo tp sh (fb (fOrd w v) f1) f20 ++ (wLs g b (if fOrd w v = 0 then up e1 (3 + w) v else e1) e10 e11)) := hD
      exact W.iret hx hb hr (fun t ht hW => ⟨⟨_, (), rfl, by rw [hf, ab_0]; (try (repeat (first | rw [if_pos (by omega)] | rw [if_neg (by omega)]))); first | done | rfl | exact congrArg iI (by omega) | exact congrArg iI (by simp only [up]; (repeat (first | rw [if_pos (by omega)] | rw [if_neg (by omega)])); first | done | omega), by rw [ht]; exact hP, hD⟩, hS.F ht⟩) hS.2.2 dX4_order_48
    · refine xi_zf_ne hx hb ⟨by decide, by decide⟩ (by decide) dX4_order_17 ⟨27, by decide⟩ ?_
      refine lv_aload_n hx hb dX4_order_20 rfl (lv_at hl 0 rfl) ?_
      refine xi_ldc hx hb hown hts kk_X4_58 dX4_order_21 ?_
      refine xmF_i (rV (rest := []) hx hb hml hown hts hK hl (c_X4_finding l g b d fo tp sh a f1 f20 (-1000000001) (s.heap).size (show 0 ≤ -1000000001 - (-1000000001) ∧ -1000000001 - (-1000000001) < 7 from by omega)) lk_X4_59 ⟨rfl, hP0, (va_D_app hD).1.weaken (fun _ _ _ _ => trivial)⟩ (va_recv hK.1 hP0 (ci := 4) (q0 := 0) rfl rfl) rfl rfl rfl (Rm.of rfl) rfl rfl dX4_order_23) hP hD hS hA (fun x9 _ H locs hw hP hD hS => ?_)
      obtain rfl : x9 = iI (-1000000001) := hw
      have hP : va_P g.1 vwCl (wX g a b d fo tp sh (fb (-1000000000 - (-1000000001)) f1) f20 ++ (wLs g b e1 e10 e11)) H := hP
      have hD : va_D (va_A (wX g a b d fo tp sh f1 f20 ++ (wLs g b e1 e10 e11)) s.heap.size) (wX g a b d fo tp sh (fb (-1000000000 - (-1000000001)) f1) f20 ++ (wLs g b e1 e10 e11)) := hD
      obtain ⟨hP0, hP1⟩ := va_P_app.mp hP
      have hf : fOrd w v = 1 := by unfold fOrd; (repeat (first | rw [if_pos (by omega)] | rw [if_neg (by omega)])); first | done | (exfalso; omega)
      have he6 : (fb (-1000000000 - (-1000000001)) f1) = (fb (fOrd w v) f1) := by rw [hf]; rfl
      have hP := Eq.mp (congrArg (fun z9 => va_P g.1 vwCl (wX g a b d fo tp sh z9 f20 ++ (wLs g b e1 e10 e11)) H) he6) hP
      have hD := Eq.mp (congrArg (fun z9 => va_D (va_A (wX g a b d fo tp sh f1 f20 ++ (wLs g b e1 e10 e11)) s.heap.size) (wX g a b d fo tp sh z9 f20 ++ (wLs g b e1 e10 e11))) he6) hD
      obtain ⟨hP0, hP1⟩ := va_P_app.mp hP
      have he7 : e1 = (if fOrd w v = 0 then up e1 (3 + w) v else e1) := by rw [hf]; rfl
      have hP := Eq.mp (congrArg (fun z9 => va_P g.1 vwCl (wX g a b d fo tp sh (fb (fOrd w v) f1) f20 ++ (wLs g b z9 e10 e11)) H) he7) hP
      have hD := Eq.mp (congrArg (fun z9 => va_D (va_A (wX g a b d fo tp sh f1 f20 ++ (wLs g b e1 e10 e11)) s.heap.size) (wX g a b d fo tp sh (fb (fOrd w v) f1) f20 ++ (wLs g b z9 e10 e11))) he7) hD
      obtain ⟨hP0, hP1⟩ := va_P_app.mp hP
      have hP : va_P g.1 vwCl (wX g a b d fo tp sh (fb (fOrd w v) f1) f20 ++ (wLs g b (if fOrd w v = 0 then up e1 (3 + w) v else e1) e10 e11)) H := hP
      have hD : va_D (va_A (wX g a b d fo tp sh f1 f20 ++ (wLs g b e1 e10 e11)) s.heap.size) (wX g a b d fo tp sh (fb (fOrd w v) f1) f20 ++ (wLs g b (if fOrd w v = 0 then up e1 (3 + w) v else e1) e10 e11)) := hD
      exact W.iret hx hb hr (fun t ht hW => ⟨⟨_, (), rfl, by rw [hf]; rfl, by rw [ht]; exact hP, hD⟩, hS.F ht⟩) hS.2.2 dX4_order_26
  · refine xi_zt_eq (tgt := 20) hx hb ⟨by decide, by decide⟩ (by decide) dX4_order_6 (by decide) ?_
    refine lv_aload_n hx hb dX4_order_20 rfl (lv_at hl 0 rfl) ?_
    refine xi_ldc hx hb hown hts kk_X4_58 dX4_order_21 ?_
    refine xmF_i (rV (rest := []) hx hb hml hown hts hK hl (c_X4_finding l g b d fo tp sh a f1 f20 (-1000000001) (s.heap).size (show 0 ≤ -1000000001 - (-1000000001) ∧ -1000000001 - (-1000000001) < 7 from by omega)) lk_X4_59 ⟨rfl, hP0, (va_D_app hD).1.weaken (fun _ _ _ _ => trivial)⟩ (va_recv hK.1 hP0 (ci := 4) (q0 := 0) rfl rfl) rfl rfl rfl (Rm.of rfl) rfl rfl dX4_order_23) hP hD hS hA (fun x9 _ H locs hw hP hD hS => ?_)
    obtain rfl : x9 = iI (-1000000001) := hw
    have hP : va_P g.1 vwCl (wX g a b d fo tp sh (fb (-1000000000 - (-1000000001)) f1) f20 ++ (wLs g b e1 e10 e11)) H := hP
    have hD : va_D (va_A (wX g a b d fo tp sh f1 f20 ++ (wLs g b e1 e10 e11)) s.heap.size) (wX g a b d fo tp sh (fb (-1000000000 - (-1000000001)) f1) f20 ++ (wLs g b e1 e10 e11)) := hD
    obtain ⟨hP0, hP1⟩ := va_P_app.mp hP
    have hf : fOrd w v = 1 := by unfold fOrd; (repeat (first | rw [if_pos (by omega)] | rw [if_neg (by omega)])); first | done | (exfalso; omega)
    have he9 : (fb (-1000000000 - (-1000000001)) f1) = (fb (fOrd w v) f1) := by rw [hf]; rfl
    have hP := Eq.mp (congrArg (fun z9 => va_P g.1 vwCl (wX g a b d fo tp sh z9 f20 ++ (wLs g b e1 e10 e11)) H) he9) hP
    have hD := Eq.mp (congrArg (fun z9 => va_D (va_A (wX g a b d fo tp sh f1 f20 ++ (wLs g b e1 e10 e11)) s.heap.size) (wX g a b d fo tp sh z9 f20 ++ (wLs g b e1 e10 e11))) he9) hD
    obtain ⟨hP0, hP1⟩ := va_P_app.mp hP
    have he10 : e1 = (if fOrd w v = 0 then up e1 (3 + w) v else e1) := by rw [hf]; rfl
    have hP := Eq.mp (congrArg (fun z9 => va_P g.1 vwCl (wX g a b d fo tp sh (fb (fOrd w v) f1) f20 ++ (wLs g b z9 e10 e11)) H) he10) hP
    have hD := Eq.mp (congrArg (fun z9 => va_D (va_A (wX g a b d fo tp sh f1 f20 ++ (wLs g b e1 e10 e11)) s.heap.size) (wX g a b d fo tp sh (fb (fOrd w v) f1) f20 ++ (wLs g b z9 e10 e11))) he10) hD
    obtain ⟨hP0, hP1⟩ := va_P_app.mp hP
    have hP : va_P g.1 vwCl (wX g a b d fo tp sh (fb (fOrd w v) f1) f20 ++ (wLs g b (if fOrd w v = 0 then up e1 (3 + w) v else e1) e10 e11)) H := hP
    have hD : va_D (va_A (wX g a b d fo tp sh f1 f20 ++ (wLs g b e1 e10 e11)) s.heap.size) (wX g a b d fo tp sh (fb (fOrd w v) f1) f20 ++ (wLs g b (if fOrd w v = 0 then up e1 (3 + w) v else e1) e10 e11)) := hD
    exact W.iret hx hb hr (fun t ht hW => ⟨⟨_, (), rfl, by rw [hf]; rfl, by rw [ht]; exact hP, hD⟩, hS.F ht⟩) hS.2.2 dX4_order_26
abbrev rm_X4_range : Room := { frames := 2, cells := 0, slots := 0, locals := 42 }
set_option maxRecDepth 100000 in
set_option maxHeartbeats 4000000 in
theorem c_X4_range (l : Launch) (g : Gd) (d : Nat → Nat) (fo : Nat → Nat) (tp : Nat → Nat) (sh : Nat → Nat) (a : Nat → Nat) (f1 : Int → Int) (f20 : Int) (b : Nat → Nat) (e1 : Int → Int) (e10 : Int → Int) (e11 : Int → Int) (k : Int) (ce : Int) (sz : Nat) (h1 : InvK 0 e1) (h2 : e1 0 ≤ 9999) (h3 : IR k) (h4 : IR ce) : Met l yX4_range (wsOf yX4_range cX4_range 3 (some .int)) rm_X4_range (PX g (wP g (wX g a b d fo tp sh f1 f20 ++ (wLs g b e1 e10 e11)) sz) [.ref (a 0), .int (iI k), .int (iI ce)]) (QMi g (fun _ : Unit => wX g a b d fo tp sh (fb (fRan e1 k ce) f1) f20 ++ (wLs g b (if fRan e1 k ce = 0 then addR e1 k ce 0 else e1) e10 e11)) (fun r9 _ => r9 = ab (fRan e1 k ce) (iI (e1 1))) (va_A (wX g a b d fo tp sh f1 f20 ++ (wLs g b e1 e10 e11)) sz)) 0 0 (va_A (wX g a b d fo tp sh f1 f20 ++ (wLs g b e1 e10 e11)) sz) := by
  refine me (g := g) (by decide) rfl ?_
  intro pq eq s mq below meth cq C hnm hB ls hl
  obtain ⟨hx, hb, hr, hml, hown, hts, hlocks, hK⟩ := C
  have hown : s.vm.findClass RX4 = some mq.cls := hown
  have hl : lv_has ls 3 [(0, .ref (a 0)), (1, .int (iI k)), (2, .int (iI ce))] := hl
  obtain ⟨hsz, hP, hD0⟩ := hB
  subst hsz
  have hD := hD0.self (sz := s.heap.size)
  have hA : ∀ q : Nat, s.heap.size ≤ q → va_A (wX g a b d fo tp sh f1 f20 ++ (wLs g b e1 e10 e11)) s.heap.size q := fun q h => Or.inr h
  have hS : va_S (va_A (wX g a b d fo tp sh f1 f20 ++ (wLs g b e1 e10 e11)) s.heap.size) s.heap s.heap [] := va_S.rf
  obtain ⟨hP0, hP1⟩ := va_P_app.mp hP
  have hI := h1
  have hI8 : Inv e1 := h1.mono (by omega)
  have hn := hI.num
  have hs := hI.sea
  have hv := hI.vil
  have q1 := h3.1
  have q3 := h4.1
  have q2 := h3.2
  have q4 := h4.2
  have hw := who_b (s := e1) ce hn
  refine lv_iload_n hx hb dX4_range_0 rfl (lv_at hl 1 rfl) ?_
  refine xu_b (P := 0 ≤ k ∧ k ≤ 5) (rS (rest := []) hx hb hml hown hts hK hl (c_X4_isKind l g k (show IR k from ⟨by omega, by omega⟩)) lk_X4_106 trivial rfl rfl rfl (Rm.of rfl) rfl rfl dX4_range_1) (fun z1 => ?_) (fun z1 => ?_)
  · refine xi_zf_eq hx hb ⟨by decide, by decide⟩ (by decide) dX4_range_4 ⟨14, by decide⟩ ?_
    refine lv_iload_n hx hb dX4_range_7 rfl (lv_at hl 2 rfl) ?_
    refine xu_b (P := 0 ≤ ce ∧ ce ≤ 23) (rS (rest := []) hx hb hml hown hts hK hl (c_X4_isCell l g ce (show IR ce from ⟨by omega, by omega⟩)) lk_X4_50 trivial rfl rfl rfl (Rm.of rfl) rfl rfl dX4_range_8) (fun z2 => ?_) (fun z2 => ?_)
    · refine xi_zt_ne (tgt := 21) hx hb ⟨by decide, by decide⟩ (by decide) dX4_range_11 (by decide) ?_
      refine lv_aload_n hx hb dX4_range_21 rfl (lv_at hl 0 rfl) ?_
      refine xg_X4 hx hb hts hown hK hP0 0 rfl 0 (by decide) fk_X4_10 (v := .ref (b 0)) rfl dX4_range_22 ?_
      refine lv_iload_n hx hb dX4_range_25 rfl (lv_at hl 2 rfl) ?_
      refine xu_i (x := iI (who e1 ce)) (rVN (rest := []) hx hb hml hown hts hK hl (c_X1_rangeIn l g b e1 e10 e11 ce (show Inv e1 from hI8) (show IR ce from ⟨by omega, by omega⟩)) lk_X4_79 hP1 (va_recv hK.1 hP1 (ci := 1) (q0 := 0) rfl rfl) rfl rfl rfl (Rm.of rfl) rfl rfl dX4_range_26) ?_
      refine xi_z_lt (tgt := 39) hx hb ⟨by omega, by omega⟩ dX4_range_29 (by decide) (fun z4 => ?_) (fun z4 => ?_)
      · refine lv_aload_n hx hb dX4_range_39 rfl (lv_at hl 0 rfl) ?_
        refine xg_X4 hx hb hts hown hK hP0 0 rfl 0 (by decide) fk_X4_10 (v := .ref (b 0)) rfl dX4_range_40 ?_
        refine xgN_X1 hx hb hts hown hK hP1 0 rfl 1 (by decide) fk_X4_110 (v := .int (iI (e1 1))) rfl dX4_range_43 ?_
        refine lv_bipush (v := iI (8)) hx hb dX4_range_46 (by decide) ?_
        refine xi_c_lt (tgt := 58) hx hb ⟨by omega, by omega⟩ ⟨by decide, by decide⟩ dX4_range_48 (by decide) (fun z5 => ?_) (fun z5 => ?_)
        · refine lv_aload_n hx hb dX4_range_58 rfl (lv_at hl 0 rfl) ?_
          refine xg_X4 hx hb hts hown hK hP0 0 rfl 0 (by decide) fk_X4_10 (v := .ref (b 0)) rfl dX4_range_59 ?_
          refine lv_iload_n hx hb dX4_range_62 rfl (lv_at hl 1 rfl) ?_
          refine lv_iload_n hx hb dX4_range_63 rfl (lv_at hl 2 rfl) ?_
          refine lv_iconst (v := iI (0)) hx hb dX4_range_64 (by decide) ?_
          have hD : va_D (va_A (wX g a b d fo tp sh f1 f20 ++ (wLs g b e1 e10 e11)) s.heap.size) (wLs g b e1 e10 e11 ++ (wX g a b d fo tp sh f1 f20)) := D_perm (List.perm_append_comm) hD
          have hP : va_P g.1 vwCl (wLs g b e1 e10 e11 ++ (wX g a b d fo tp sh f1 f20)) s.heap := va_P_app.mpr ⟨hP1, hP0⟩
          refine xmF_i (rVN (rest := []) hx hb hml hown hts hK hl (c_X1_addRange l g b e1 e10 e11 k ce 0 (s.heap).size (show 0 ≤ e1 1 ∧ e1 1 < 8 from by omega)) lk_X4_113 ⟨rfl, hP1, (va_D_app hD).1.weaken (fun _ _ _ _ => trivial)⟩ (va_recv hK.1 hP1 (ci := 1) (q0 := 0) rfl rfl) rfl rfl rfl (Rm.of rfl) rfl rfl dX4_range_65) hP hD hS hA (fun x9 _ H locs hw hP hD hS => ?_)
          obtain rfl : x9 = iI (e1 1) := hw
          have hP : va_P g.1 vwCl (wLs g b (addR e1 k ce 0) e10 e11 ++ (wX g a b d fo tp sh f1 f20)) H := hP
          have hD : va_D (va_A (wX g a b d fo tp sh f1 f20 ++ (wLs g b e1 e10 e11)) s.heap.size) (wLs g b (addR e1 k ce 0) e10 e11 ++ (wX g a b d fo tp sh f1 f20)) := hD
          obtain ⟨hP1, hP0⟩ := va_P_app.mp hP
          have hD : va_D (va_A (wX g a b d fo tp sh f1 f20 ++ (wLs g b e1 e10 e11)) s.heap.size) (wX g a b d fo tp sh f1 f20 ++ (wLs g b (addR e1 k ce 0) e10 e11)) := D_perm (List.perm_append_comm) hD
          have hP : va_P g.1 vwCl (wX g a b d fo tp sh f1 f20 ++ (wLs g b (addR e1 k ce 0) e10 e11)) H := va_P_app.mpr ⟨hP0, hP1⟩
          have hf : fRan e1 k ce = 0 := by unfold fRan; (repeat (first | rw [if_pos (by omega)] | rw [if_neg (by omega)])); first | done | (exfalso; omega)
          have he7 : f1 = (fb (fRan e1 k ce) f1) := by rw [hf]; rfl
          have hP := Eq.mp (congrArg (fun z9 => va_P g.1 vwCl (wX g a b d fo tp sh z9 f20 ++ (wLs g b (addR e1 k ce 0) e10 e11)) H) he7) hP
          have hD := Eq.mp (congrArg (fun z9 => va_D (va_A (wX g a b d fo tp sh f1 f20 ++ (wLs g b e1 e10 e11)) s.heap.size) (wX g a b d fo tp sh z9 f20 ++ (wLs g b (addR e1 k ce 0) e10 e11))) he7) hD
          obtain ⟨hP0, hP1⟩ := va_P_app.mp hP
          have he8 : (addR e1 k ce 0) = (if fRan e1 k ce = 0 then addR e1 k ce 0 else e1) := by rw [hf]; rfl
          have hP := Eq.mp (congrArg (fun z9 => va_P g.1 vwCl (wX g a b d fo tp sh (fb (fRan e1 k ce) f1) f20 ++ (wLs g b z9 e10 e11)) H) he8) hP
          have hD := Eq.mp (congrArg (fun z9 => va_D (va_A (wX g a b d fo tp sh f1 f20 ++ (wLs g b e1 e10 e11)) s.heap.size) (wX g a b d fo tp sh (fb (fRan e1 k ce) f1) f20 ++ (wLs g b z9 e10 e11))) he8) hD
          obtain ⟨hP0, hP1⟩ := va_P_app.mp hP
          have hP : va_P g.1 vwCl (wX g a b d fo tp sh (fb (fRan e1 k ce) f1) f20 ++ (wLs g b (if fRan e1 k ce = 0 then addR e1 k ce 0 else e1) e10 e11)) H := hP
          have hD : va_D (va_A (wX g a b d fo tp sh f1 f20 ++ (wLs g b e1 e10 e11)) s.heap.size) (wX g a b d fo tp sh (fb (fRan e1 k ce) f1) f20 ++ (wLs g b (if fRan e1 k ce = 0 then addR e1 k ce 0 else e1) e10 e11)) := hD
          exact W.iret hx hb hr (fun t ht hW => ⟨⟨_, (), rfl, by rw [hf, ab_0]; (try (repeat (first | rw [if_pos (by omega)] | rw [if_neg (by omega)]))); first | done | rfl | exact congrArg iI (by omega) | exact congrArg iI (by simp only [up]; (repeat (first | rw [if_pos (by omega)] | rw [if_neg (by omega)])); first | done | omega), by rw [ht]; exact hP, hD⟩, hS.F ht⟩) hS.2.2 dX4_range_68
        · refine lv_aload_n hx hb dX4_range_51 rfl (lv_at hl 0 rfl) ?_
          refine xi_ldc hx hb hown hts kk_X4_86 dX4_range_52 ?_
          refine xmF_i (rV (rest := []) hx hb hml hown hts hK hl (c_X4_finding l g b d fo tp sh a f1 f20 (-1000000002) (s.heap).size (show 0 ≤ -1000000001 - (-1000000002) ∧ -1000000001 - (-1000000002) < 7 from by omega)) lk_X4_59 ⟨rfl, hP0, (va_D_app hD).1.weaken (fun _ _ _ _ => trivial)⟩ (va_recv hK.1 hP0 (ci := 4) (q0 := 0) rfl rfl) rfl rfl rfl (Rm.of rfl) rfl rfl dX4_range_54) hP hD hS hA (fun x9 _ H locs hw hP hD hS => ?_)
          obtain rfl : x9 = iI (-1000000002) := hw
          have hP : va_P g.1 vwCl (wX g a b d fo tp sh (fb (-1000000000 - (-1000000002)) f1) f20 ++ (wLs g b e1 e10 e11)) H := hP
          have hD : va_D (va_A (wX g a b d fo tp sh f1 f20 ++ (wLs g b e1 e10 e11)) s.heap.size) (wX g a b d fo tp sh (fb (-1000000000 - (-1000000002)) f1) f20 ++ (wLs g b e1 e10 e11)) := hD
          obtain ⟨hP0, hP1⟩ := va_P_app.mp hP
          have hf : fRan e1 k ce = 2 := by unfold fRan; (repeat (first | rw [if_pos (by omega)] | rw [if_neg (by omega)])); first | done | (exfalso; omega)
          have he10 : (fb (-1000000000 - (-1000000002)) f1) = (fb (fRan e1 k ce) f1) := by rw [hf]; rfl
          have hP := Eq.mp (congrArg (fun z9 => va_P g.1 vwCl (wX g a b d fo tp sh z9 f20 ++ (wLs g b e1 e10 e11)) H) he10) hP
          have hD := Eq.mp (congrArg (fun z9 => va_D (va_A (wX g a b d fo tp sh f1 f20 ++ (wLs g b e1 e10 e11)) s.heap.size) (wX g a b d fo tp sh z9 f20 ++ (wLs g b e1 e10 e11))) he10) hD
          obtain ⟨hP0, hP1⟩ := va_P_app.mp hP
          have he11 : e1 = (if fRan e1 k ce = 0 then addR e1 k ce 0 else e1) := by rw [hf]; rfl
          have hP := Eq.mp (congrArg (fun z9 => va_P g.1 vwCl (wX g a b d fo tp sh (fb (fRan e1 k ce) f1) f20 ++ (wLs g b z9 e10 e11)) H) he11) hP
          have hD := Eq.mp (congrArg (fun z9 => va_D (va_A (wX g a b d fo tp sh f1 f20 ++ (wLs g b e1 e10 e11)) s.heap.size) (wX g a b d fo tp sh (fb (fRan e1 k ce) f1) f20 ++ (wLs g b z9 e10 e11))) he11) hD
          obtain ⟨hP0, hP1⟩ := va_P_app.mp hP
          have hP : va_P g.1 vwCl (wX g a b d fo tp sh (fb (fRan e1 k ce) f1) f20 ++ (wLs g b (if fRan e1 k ce = 0 then addR e1 k ce 0 else e1) e10 e11)) H := hP
          have hD : va_D (va_A (wX g a b d fo tp sh f1 f20 ++ (wLs g b e1 e10 e11)) s.heap.size) (wX g a b d fo tp sh (fb (fRan e1 k ce) f1) f20 ++ (wLs g b (if fRan e1 k ce = 0 then addR e1 k ce 0 else e1) e10 e11)) := hD
          exact W.iret hx hb hr (fun t ht hW => ⟨⟨_, (), rfl, by rw [hf]; rfl, by rw [ht]; exact hP, hD⟩, hS.F ht⟩) hS.2.2 dX4_range_57
      · refine lv_aload_n hx hb dX4_range_32 rfl (lv_at hl 0 rfl) ?_
        refine xi_ldc hx hb hown hts kk_X4_109 dX4_range_33 ?_
        refine xmF_i (rV (rest := []) hx hb hml hown hts hK hl (c_X4_finding l g b d fo tp sh a f1 f20 (-1000000005) (s.heap).size (show 0 ≤ -1000000001 - (-1000000005) ∧ -1000000001 - (-1000000005) < 7 from by omega)) lk_X4_59 ⟨rfl, hP0, (va_D_app hD).1.weaken (fun _ _ _ _ => trivial)⟩ (va_recv hK.1 hP0 (ci := 4) (q0 := 0) rfl rfl) rfl rfl rfl (Rm.of rfl) rfl rfl dX4_range_35) hP hD hS hA (fun x9 _ H locs hw hP hD hS => ?_)
        obtain rfl : x9 = iI (-1000000005) := hw
        have hP : va_P g.1 vwCl (wX g a b d fo tp sh (fb (-1000000000 - (-1000000005)) f1) f20 ++ (wLs g b e1 e10 e11)) H := hP
        have hD : va_D (va_A (wX g a b d fo tp sh f1 f20 ++ (wLs g b e1 e10 e11)) s.heap.size) (wX g a b d fo tp sh (fb (-1000000000 - (-1000000005)) f1) f20 ++ (wLs g b e1 e10 e11)) := hD
        obtain ⟨hP0, hP1⟩ := va_P_app.mp hP
        have hf : fRan e1 k ce = 5 := by unfold fRan; (repeat (first | rw [if_pos (by omega)] | rw [if_neg (by omega)])); first | done | (exfalso; omega)
        have he13 : (fb (-1000000000 - (-1000000005)) f1) = (fb (fRan e1 k ce) f1) := by rw [hf]; rfl
        have hP := Eq.mp (congrArg (fun z9 => va_P g.1 vwCl (wX g a b d fo tp sh z9 f20 ++ (wLs g b e1 e10 e11)) H) he13) hP
        have hD := Eq.mp (congrArg (fun z9 => va_D (va_A (wX g a b d fo tp sh f1 f20 ++ (wLs g b e1 e10 e11)) s.heap.size) (wX g a b d fo tp sh z9 f20 ++ (wLs g b e1 e10 e11))) he13) hD
        obtain ⟨hP0, hP1⟩ := va_P_app.mp hP
        have he14 : e1 = (if fRan e1 k ce = 0 then addR e1 k ce 0 else e1) := by rw [hf]; rfl
        have hP := Eq.mp (congrArg (fun z9 => va_P g.1 vwCl (wX g a b d fo tp sh (fb (fRan e1 k ce) f1) f20 ++ (wLs g b z9 e10 e11)) H) he14) hP
        have hD := Eq.mp (congrArg (fun z9 => va_D (va_A (wX g a b d fo tp sh f1 f20 ++ (wLs g b e1 e10 e11)) s.heap.size) (wX g a b d fo tp sh (fb (fRan e1 k ce) f1) f20 ++ (wLs g b z9 e10 e11))) he14) hD
        obtain ⟨hP0, hP1⟩ := va_P_app.mp hP
        have hP : va_P g.1 vwCl (wX g a b d fo tp sh (fb (fRan e1 k ce) f1) f20 ++ (wLs g b (if fRan e1 k ce = 0 then addR e1 k ce 0 else e1) e10 e11)) H := hP
        have hD : va_D (va_A (wX g a b d fo tp sh f1 f20 ++ (wLs g b e1 e10 e11)) s.heap.size) (wX g a b d fo tp sh (fb (fRan e1 k ce) f1) f20 ++ (wLs g b (if fRan e1 k ce = 0 then addR e1 k ce 0 else e1) e10 e11)) := hD
        exact W.iret hx hb hr (fun t ht hW => ⟨⟨_, (), rfl, by rw [hf]; rfl, by rw [ht]; exact hP, hD⟩, hS.F ht⟩) hS.2.2 dX4_range_38
    · refine xi_zf_ne hx hb ⟨by decide, by decide⟩ (by decide) dX4_range_11 ⟨21, by decide⟩ ?_
      refine lv_aload_n hx hb dX4_range_14 rfl (lv_at hl 0 rfl) ?_
      refine xi_ldc hx hb hown hts kk_X4_58 dX4_range_15 ?_
      refine xmF_i (rV (rest := []) hx hb hml hown hts hK hl (c_X4_finding l g b d fo tp sh a f1 f20 (-1000000001) (s.heap).size (show 0 ≤ -1000000001 - (-1000000001) ∧ -1000000001 - (-1000000001) < 7 from by omega)) lk_X4_59 ⟨rfl, hP0, (va_D_app hD).1.weaken (fun _ _ _ _ => trivial)⟩ (va_recv hK.1 hP0 (ci := 4) (q0 := 0) rfl rfl) rfl rfl rfl (Rm.of rfl) rfl rfl dX4_range_17) hP hD hS hA (fun x9 _ H locs hw hP hD hS => ?_)
      obtain rfl : x9 = iI (-1000000001) := hw
      have hP : va_P g.1 vwCl (wX g a b d fo tp sh (fb (-1000000000 - (-1000000001)) f1) f20 ++ (wLs g b e1 e10 e11)) H := hP
      have hD : va_D (va_A (wX g a b d fo tp sh f1 f20 ++ (wLs g b e1 e10 e11)) s.heap.size) (wX g a b d fo tp sh (fb (-1000000000 - (-1000000001)) f1) f20 ++ (wLs g b e1 e10 e11)) := hD
      obtain ⟨hP0, hP1⟩ := va_P_app.mp hP
      have hf : fRan e1 k ce = 1 := by unfold fRan; (repeat (first | rw [if_pos (by omega)] | rw [if_neg (by omega)])); first | done | (exfalso; omega)
      have he16 : (fb (-1000000000 - (-1000000001)) f1) = (fb (fRan e1 k ce) f1) := by rw [hf]; rfl
      have hP := Eq.mp (congrArg (fun z9 => va_P g.1 vwCl (wX g a b d fo tp sh z9 f20 ++ (wLs g b e1 e10 e11)) H) he16) hP
      have hD := Eq.mp (congrArg (fun z9 => va_D (va_A (wX g a b d fo tp sh f1 f20 ++ (wLs g b e1 e10 e11)) s.heap.size) (wX g a b d fo tp sh z9 f20 ++ (wLs g b e1 e10 e11))) he16) hD
      obtain ⟨hP0, hP1⟩ := va_P_app.mp hP
      have he17 : e1 = (if fRan e1 k ce = 0 then addR e1 k ce 0 else e1) := by rw [hf]; rfl
      have hP := Eq.mp (congrArg (fun z9 => va_P g.1 vwCl (wX g a b d fo tp sh (fb (fRan e1 k ce) f1) f20 ++ (wLs g b z9 e10 e11)) H) he17) hP
      have hD := Eq.mp (congrArg (fun z9 => va_D (va_A (wX g a b d fo tp sh f1 f20 ++ (wLs g b e1 e10 e11)) s.heap.size) (wX g a b d fo tp sh (fb (fRan e1 k ce) f1) f20 ++ (wLs g b z9 e10 e11))) he17) hD
      obtain ⟨hP0, hP1⟩ := va_P_app.mp hP
      have hP : va_P g.1 vwCl (wX g a b d fo tp sh (fb (fRan e1 k ce) f1) f20 ++ (wLs g b (if fRan e1 k ce = 0 then addR e1 k ce 0 else e1) e10 e11)) H := hP
      have hD : va_D (va_A (wX g a b d fo tp sh f1 f20 ++ (wLs g b e1 e10 e11)) s.heap.size) (wX g a b d fo tp sh (fb (fRan e1 k ce) f1) f20 ++ (wLs g b (if fRan e1 k ce = 0 then addR e1 k ce 0 else e1) e10 e11)) := hD
      exact W.iret hx hb hr (fun t ht hW => ⟨⟨_, (), rfl, by rw [hf]; rfl, by rw [ht]; exact hP, hD⟩, hS.F ht⟩) hS.2.2 dX4_range_20
  · refine xi_zt_eq (tgt := 14) hx hb ⟨by decide, by decide⟩ (by decide) dX4_range_4 (by decide) ?_
    refine lv_aload_n hx hb dX4_range_14 rfl (lv_at hl 0 rfl) ?_
    refine xi_ldc hx hb hown hts kk_X4_58 dX4_range_15 ?_
    refine xmF_i (rV (rest := []) hx hb hml hown hts hK hl (c_X4_finding l g b d fo tp sh a f1 f20 (-1000000001) (s.heap).size (show 0 ≤ -1000000001 - (-1000000001) ∧ -1000000001 - (-1000000001) < 7 from by omega)) lk_X4_59 ⟨rfl, hP0, (va_D_app hD).1.weaken (fun _ _ _ _ => trivial)⟩ (va_recv hK.1 hP0 (ci := 4) (q0 := 0) rfl rfl) rfl rfl rfl (Rm.of rfl) rfl rfl dX4_range_17) hP hD hS hA (fun x9 _ H locs hw hP hD hS => ?_)
    obtain rfl : x9 = iI (-1000000001) := hw
    have hP : va_P g.1 vwCl (wX g a b d fo tp sh (fb (-1000000000 - (-1000000001)) f1) f20 ++ (wLs g b e1 e10 e11)) H := hP
    have hD : va_D (va_A (wX g a b d fo tp sh f1 f20 ++ (wLs g b e1 e10 e11)) s.heap.size) (wX g a b d fo tp sh (fb (-1000000000 - (-1000000001)) f1) f20 ++ (wLs g b e1 e10 e11)) := hD
    obtain ⟨hP0, hP1⟩ := va_P_app.mp hP
    have hf : fRan e1 k ce = 1 := by unfold fRan; (repeat (first | rw [if_pos (by omega)] | rw [if_neg (by omega)])); first | done | (exfalso; omega)
    have he19 : (fb (-1000000000 - (-1000000001)) f1) = (fb (fRan e1 k ce) f1) := by rw [hf]; rfl
    have hP := Eq.mp (congrArg (fun z9 => va_P g.1 vwCl (wX g a b d fo tp sh z9 f20 ++ (wLs g b e1 e10 e11)) H) he19) hP
    have hD := Eq.mp (congrArg (fun z9 => va_D (va_A (wX g a b d fo tp sh f1 f20 ++ (wLs g b e1 e10 e11)) s.heap.size) (wX g a b d fo tp sh z9 f20 ++ (wLs g b e1 e10 e11))) he19) hD
    obtain ⟨hP0, hP1⟩ := va_P_app.mp hP
    have he20 : e1 = (if fRan e1 k ce = 0 then addR e1 k ce 0 else e1) := by rw [hf]; rfl
    have hP := Eq.mp (congrArg (fun z9 => va_P g.1 vwCl (wX g a b d fo tp sh (fb (fRan e1 k ce) f1) f20 ++ (wLs g b z9 e10 e11)) H) he20) hP
    have hD := Eq.mp (congrArg (fun z9 => va_D (va_A (wX g a b d fo tp sh f1 f20 ++ (wLs g b e1 e10 e11)) s.heap.size) (wX g a b d fo tp sh (fb (fRan e1 k ce) f1) f20 ++ (wLs g b z9 e10 e11))) he20) hD
    obtain ⟨hP0, hP1⟩ := va_P_app.mp hP
    have hP : va_P g.1 vwCl (wX g a b d fo tp sh (fb (fRan e1 k ce) f1) f20 ++ (wLs g b (if fRan e1 k ce = 0 then addR e1 k ce 0 else e1) e10 e11)) H := hP
    have hD : va_D (va_A (wX g a b d fo tp sh f1 f20 ++ (wLs g b e1 e10 e11)) s.heap.size) (wX g a b d fo tp sh (fb (fRan e1 k ce) f1) f20 ++ (wLs g b (if fRan e1 k ce = 0 then addR e1 k ce 0 else e1) e10 e11)) := hD
    exact W.iret hx hb hr (fun t ht hW => ⟨⟨_, (), rfl, by rw [hf]; rfl, by rw [ht]; exact hP, hD⟩, hS.F ht⟩) hS.2.2 dX4_range_20
abbrev rm_X4_of : Room := { frames := 3, cells := 0, slots := 0, locals := 67 }
set_option maxRecDepth 100000 in
set_option maxHeartbeats 4000000 in
theorem c_X4_of (l : Launch) (g : Gd) (d : Nat → Nat) (fo : Nat → Nat) (tp : Nat → Nat) (sh : Nat → Nat) (a : Nat → Nat) (f1 : Int → Int) (f20 : Int) (b : Nat → Nat) (e1 : Int → Int) (e10 : Int → Int) (e11 : Int → Int) (r : Int) (w : Int) (sz : Nat) (h1 : InvK 0 e1) (h2 : e1 0 ≤ 9999) (h3 : IR r) (h4 : IR w) : Met l yX4_of (wsOf yX4_of cX4_of 3 (some .int)) rm_X4_of (PX g (wP g (wX g a b d fo tp sh f1 f20 ++ (wLs g b e1 e10 e11)) sz) [.ref (a 0), .int (iI r), .int (iI w)]) (QMi g (fun u9 : Nat → Int → Int => wX g a b d fo tp sh (fb (fOf e1 r w) f1) f20 ++ (wLs g b e1 (u9 110) (u9 111))) (fun r9 _ => r9 = ab (fOf e1 r w) (iI (aOf e1 r w))) (va_A (wX g a b d fo tp sh f1 f20 ++ (wLs g b e1 e10 e11)) sz)) 0 0 (va_A (wX g a b d fo tp sh f1 f20 ++ (wLs g b e1 e10 e11)) sz) := by
  refine me (g := g) (by decide) rfl ?_
  intro pq eq s mq below meth cq C hnm hB ls hl
  obtain ⟨hx, hb, hr, hml, hown, hts, hlocks, hK⟩ := C
  have hown : s.vm.findClass RX4 = some mq.cls := hown
  have hl : lv_has ls 3 [(0, .ref (a 0)), (1, .int (iI r)), (2, .int (iI w))] := hl
  obtain ⟨hsz, hP, hD0⟩ := hB
  subst hsz
  have hD := hD0.self (sz := s.heap.size)
  have hA : ∀ q : Nat, s.heap.size ≤ q → va_A (wX g a b d fo tp sh f1 f20 ++ (wLs g b e1 e10 e11)) s.heap.size q := fun q h => Or.inr h
  have hS : va_S (va_A (wX g a b d fo tp sh f1 f20 ++ (wLs g b e1 e10 e11)) s.heap.size) s.heap s.heap [] := va_S.rf
  obtain ⟨hP0, hP1⟩ := va_P_app.mp hP
  have hI := h1
  have hI8 : Inv e1 := h1.mono (by omega)
  have hn := hI.num
  have hs := hI.sea
  have hv := hI.vil
  have q1 := h3.1
  have q3 := h4.1
  have q2 := h3.2
  have q4 := h4.2
  refine lv_aload_n hx hb dX4_of_0 rfl (lv_at hl 0 rfl) ?_
  refine lv_iload_n hx hb dX4_of_1 rfl (lv_at hl 1 rfl) ?_
  refine xu_b (P := 0 ≤ r ∧ r < e1 1) (rV (rest := []) hx hb hml hown hts hK hl (c_X4_isRange l g d fo tp sh a f1 f20 b e1 e10 e11 r (show IR r from ⟨by omega, by omega⟩) (show 0 ≤ e1 1 ∧ e1 1 ≤ 8 from by omega)) lk_X4_117 (va_P_app.mpr ⟨hP0, hP1⟩) (va_recv hK.1 hP0 (ci := 4) (q0 := 0) rfl rfl) rfl rfl rfl (Rm.of rfl) rfl rfl dX4_of_2) (fun z1 => ?_) (fun z1 => ?_)
  · refine xi_zt_ne (tgt := 15) hx hb ⟨by decide, by decide⟩ (by decide) dX4_of_5 (by decide) ?_
    refine lv_iload_n hx hb dX4_of_15 rfl (lv_at hl 2 rfl) ?_
    have hir2 : IR (w) := ⟨by omega, by omega⟩
    rcases (show (w) = 0 ∨ (w) = 1 ∨ (w) = 2 ∨ (w) = 3 ∨ (w) = 4 ∨ (w) = 5 ∨ (w) = 6 ∨ (w) = 7 ∨ ((w) < 0 ∨ 7 < (w)) by omega) with z2 | z2 | z2 | z2 | z2 | z2 | z2 | z2 | z2
    · refine lv_tableIn (tgt := 64) (off := 48) hx hb dX4_of_16 (by rw [iI_toInt hir2, z2]; decide) (by rw [iI_toInt hir2, z2]; decide) (by rw [iI_toInt hir2, z2]; rfl) (by decide) ?_
      refine lv_aload_n hx hb dX4_of_64 rfl (lv_at hl 0 rfl) ?_
      refine xg_X4 hx hb hts hown hK hP0 0 rfl 0 (by decide) fk_X4_10 (v := .ref (b 0)) rfl dX4_of_65 ?_
      refine xgN_X1 hx hb hts hown hK hP1 0 rfl 7 (by decide) fk_X4_120 (v := .ref (b 5)) rfl dX4_of_68 ?_
      refine lv_iload_n hx hb dX4_of_71 rfl (lv_at hl 1 rfl) ?_
      refine xi_alz hx hb hK hP1 5 (s0 := e1) rfl (i := r) ⟨by omega, by omega⟩ rfl dX4_of_72 ?_
      have hf : fOf e1 r w = 0 := by unfold fOf; (repeat (first | rw [if_pos (by omega)] | rw [if_neg (by omega)])); first | done | (exfalso; omega)
      have he3 : f1 = (fb (fOf e1 r w) f1) := by rw [hf]; rfl
      have hP := Eq.mp (congrArg (fun z9 => va_P g.1 vwCl (wX g a b d fo tp sh z9 f20 ++ (wLs g b e1 e10 e11)) s.heap) he3) hP
      have hD := Eq.mp (congrArg (fun z9 => va_D (va_A (wX g a b d fo tp sh f1 f20 ++ (wLs g b e1 e10 e11)) s.heap.size) (wX g a b d fo tp sh z9 f20 ++ (wLs g b e1 e10 e11))) he3) hD
      obtain ⟨hP0, hP1⟩ := va_P_app.mp hP
      have hP : va_P g.1 vwCl (wX g a b d fo tp sh (fb (fOf e1 r w) f1) f20 ++ (wLs g b e1 ((su (su (fun _ _ => 0) 110 e10) 111 e11) 110) ((su (su (fun _ _ => 0) 110 e10) 111 e11) 111))) s.heap := hP
      have hD : va_D (va_A (wX g a b d fo tp sh f1 f20 ++ (wLs g b e1 e10 e11)) s.heap.size) (wX g a b d fo tp sh (fb (fOf e1 r w) f1) f20 ++ (wLs g b e1 ((su (su (fun _ _ => 0) 110 e10) 111 e11) 110) ((su (su (fun _ _ => 0) 110 e10) 111 e11) 111))) := hD
      exact W.iret hx hb hr (fun t ht hW => ⟨⟨_, (su (su (fun _ _ => 0) 110 e10) 111 e11), rfl, by rw [hf, ab_0]; exact congrArg iI (by unfold aOf; (repeat (first | rw [if_pos (by omega)] | rw [if_neg (by omega)])); first | done | (exfalso; omega) | (congr 1; omega)), by rw [ht]; exact hP, hD⟩, hS.F ht⟩) hS.2.2 dX4_of_73
    · refine lv_tableIn (tgt := 74) (off := 58) hx hb dX4_of_16 (by rw [iI_toInt hir2, z2]; decide) (by rw [iI_toInt hir2, z2]; decide) (by rw [iI_toInt hir2, z2]; rfl) (by decide) ?_
      refine lv_aload_n hx hb dX4_of_74 rfl (lv_at hl 0 rfl) ?_
      refine xg_X4 hx hb hts hown hK hP0 0 rfl 0 (by decide) fk_X4_10 (v := .ref (b 0)) rfl dX4_of_75 ?_
      refine xgN_X1 hx hb hts hown hK hP1 0 rfl 8 (by decide) fk_X4_123 (v := .ref (b 6)) rfl dX4_of_78 ?_
      refine lv_iload_n hx hb dX4_of_81 rfl (lv_at hl 1 rfl) ?_
      refine xi_alz hx hb hK hP1 6 (s0 := e1) rfl (i := r) ⟨by omega, by omega⟩ rfl dX4_of_82 ?_
      have hf : fOf e1 r w = 0 := by unfold fOf; (repeat (first | rw [if_pos (by omega)] | rw [if_neg (by omega)])); first | done | (exfalso; omega)
      have he4 : f1 = (fb (fOf e1 r w) f1) := by rw [hf]; rfl
      have hP := Eq.mp (congrArg (fun z9 => va_P g.1 vwCl (wX g a b d fo tp sh z9 f20 ++ (wLs g b e1 e10 e11)) s.heap) he4) hP
      have hD := Eq.mp (congrArg (fun z9 => va_D (va_A (wX g a b d fo tp sh f1 f20 ++ (wLs g b e1 e10 e11)) s.heap.size) (wX g a b d fo tp sh z9 f20 ++ (wLs g b e1 e10 e11))) he4) hD
      obtain ⟨hP0, hP1⟩ := va_P_app.mp hP
      have hP : va_P g.1 vwCl (wX g a b d fo tp sh (fb (fOf e1 r w) f1) f20 ++ (wLs g b e1 ((su (su (fun _ _ => 0) 110 e10) 111 e11) 110) ((su (su (fun _ _ => 0) 110 e10) 111 e11) 111))) s.heap := hP
      have hD : va_D (va_A (wX g a b d fo tp sh f1 f20 ++ (wLs g b e1 e10 e11)) s.heap.size) (wX g a b d fo tp sh (fb (fOf e1 r w) f1) f20 ++ (wLs g b e1 ((su (su (fun _ _ => 0) 110 e10) 111 e11) 110) ((su (su (fun _ _ => 0) 110 e10) 111 e11) 111))) := hD
      exact W.iret hx hb hr (fun t ht hW => ⟨⟨_, (su (su (fun _ _ => 0) 110 e10) 111 e11), rfl, by rw [hf, ab_0]; exact congrArg iI (by unfold aOf; (repeat (first | rw [if_pos (by omega)] | rw [if_neg (by omega)])); first | done | (exfalso; omega) | (congr 1; omega)), by rw [ht]; exact hP, hD⟩, hS.F ht⟩) hS.2.2 dX4_of_83
    · refine lv_tableIn (tgt := 84) (off := 68) hx hb dX4_of_16 (by rw [iI_toInt hir2, z2]; decide) (by rw [iI_toInt hir2, z2]; decide) (by rw [iI_toInt hir2, z2]; rfl) (by decide) ?_
      refine lv_aload_n hx hb dX4_of_84 rfl (lv_at hl 0 rfl) ?_
      refine xg_X4 hx hb hts hown hK hP0 0 rfl 0 (by decide) fk_X4_10 (v := .ref (b 0)) rfl dX4_of_85 ?_
      refine xgN_X1 hx hb hts hown hK hP1 0 rfl 9 (by decide) fk_X4_126 (v := .ref (b 7)) rfl dX4_of_88 ?_
      refine lv_iload_n hx hb dX4_of_91 rfl (lv_at hl 1 rfl) ?_
      refine xi_alz hx hb hK hP1 7 (s0 := e1) rfl (i := r) ⟨by omega, by omega⟩ rfl dX4_of_92 ?_
      have hf : fOf e1 r w = 0 := by unfold fOf; (repeat (first | rw [if_pos (by omega)] | rw [if_neg (by omega)])); first | done | (exfalso; omega)
      have he5 : f1 = (fb (fOf e1 r w) f1) := by rw [hf]; rfl
      have hP := Eq.mp (congrArg (fun z9 => va_P g.1 vwCl (wX g a b d fo tp sh z9 f20 ++ (wLs g b e1 e10 e11)) s.heap) he5) hP
      have hD := Eq.mp (congrArg (fun z9 => va_D (va_A (wX g a b d fo tp sh f1 f20 ++ (wLs g b e1 e10 e11)) s.heap.size) (wX g a b d fo tp sh z9 f20 ++ (wLs g b e1 e10 e11))) he5) hD
      obtain ⟨hP0, hP1⟩ := va_P_app.mp hP
      have hP : va_P g.1 vwCl (wX g a b d fo tp sh (fb (fOf e1 r w) f1) f20 ++ (wLs g b e1 ((su (su (fun _ _ => 0) 110 e10) 111 e11) 110) ((su (su (fun _ _ => 0) 110 e10) 111 e11) 111))) s.heap := hP
      have hD : va_D (va_A (wX g a b d fo tp sh f1 f20 ++ (wLs g b e1 e10 e11)) s.heap.size) (wX g a b d fo tp sh (fb (fOf e1 r w) f1) f20 ++ (wLs g b e1 ((su (su (fun _ _ => 0) 110 e10) 111 e11) 110) ((su (su (fun _ _ => 0) 110 e10) 111 e11) 111))) := hD
      exact W.iret hx hb hr (fun t ht hW => ⟨⟨_, (su (su (fun _ _ => 0) 110 e10) 111 e11), rfl, by rw [hf, ab_0]; exact congrArg iI (by unfold aOf; (repeat (first | rw [if_pos (by omega)] | rw [if_neg (by omega)])); first | done | (exfalso; omega) | (congr 1; omega)), by rw [ht]; exact hP, hD⟩, hS.F ht⟩) hS.2.2 dX4_of_93
    · refine lv_tableIn (tgt := 94) (off := 78) hx hb dX4_of_16 (by rw [iI_toInt hir2, z2]; decide) (by rw [iI_toInt hir2, z2]; decide) (by rw [iI_toInt hir2, z2]; rfl) (by decide) ?_
      refine lv_aload_n hx hb dX4_of_94 rfl (lv_at hl 0 rfl) ?_
      refine xg_X4 hx hb hts hown hK hP0 0 rfl 0 (by decide) fk_X4_10 (v := .ref (b 0)) rfl dX4_of_95 ?_
      refine xgN_X1 hx hb hts hown hK hP1 0 rfl 10 (by decide) fk_X4_129 (v := .ref (b 8)) rfl dX4_of_98 ?_
      refine lv_iload_n hx hb dX4_of_101 rfl (lv_at hl 1 rfl) ?_
      refine xi_alz hx hb hK hP1 8 (s0 := e1) rfl (i := r) ⟨by omega, by omega⟩ rfl dX4_of_102 ?_
      have hf : fOf e1 r w = 0 := by unfold fOf; (repeat (first | rw [if_pos (by omega)] | rw [if_neg (by omega)])); first | done | (exfalso; omega)
      have he6 : f1 = (fb (fOf e1 r w) f1) := by rw [hf]; rfl
      have hP := Eq.mp (congrArg (fun z9 => va_P g.1 vwCl (wX g a b d fo tp sh z9 f20 ++ (wLs g b e1 e10 e11)) s.heap) he6) hP
      have hD := Eq.mp (congrArg (fun z9 => va_D (va_A (wX g a b d fo tp sh f1 f20 ++ (wLs g b e1 e10 e11)) s.heap.size) (wX g a b d fo tp sh z9 f20 ++ (wLs g b e1 e10 e11))) he6) hD
      obtain ⟨hP0, hP1⟩ := va_P_app.mp hP
      have hP : va_P g.1 vwCl (wX g a b d fo tp sh (fb (fOf e1 r w) f1) f20 ++ (wLs g b e1 ((su (su (fun _ _ => 0) 110 e10) 111 e11) 110) ((su (su (fun _ _ => 0) 110 e10) 111 e11) 111))) s.heap := hP
      have hD : va_D (va_A (wX g a b d fo tp sh f1 f20 ++ (wLs g b e1 e10 e11)) s.heap.size) (wX g a b d fo tp sh (fb (fOf e1 r w) f1) f20 ++ (wLs g b e1 ((su (su (fun _ _ => 0) 110 e10) 111 e11) 110) ((su (su (fun _ _ => 0) 110 e10) 111 e11) 111))) := hD
      exact W.iret hx hb hr (fun t ht hW => ⟨⟨_, (su (su (fun _ _ => 0) 110 e10) 111 e11), rfl, by rw [hf, ab_0]; exact congrArg iI (by unfold aOf; (repeat (first | rw [if_pos (by omega)] | rw [if_neg (by omega)])); first | done | (exfalso; omega) | (congr 1; omega)), by rw [ht]; exact hP, hD⟩, hS.F ht⟩) hS.2.2 dX4_of_103
    · refine lv_tableIn (tgt := 104) (off := 88) hx hb dX4_of_16 (by rw [iI_toInt hir2, z2]; decide) (by rw [iI_toInt hir2, z2]; decide) (by rw [iI_toInt hir2, z2]; rfl) (by decide) ?_
      refine lv_aload_n hx hb dX4_of_104 rfl (lv_at hl 0 rfl) ?_
      refine xg_X4 hx hb hts hown hK hP0 0 rfl 0 (by decide) fk_X4_10 (v := .ref (b 0)) rfl dX4_of_105 ?_
      refine xgN_X1 hx hb hts hown hK hP1 0 rfl 11 (by decide) fk_X4_132 (v := .ref (b 9)) rfl dX4_of_108 ?_
      refine lv_iload_n hx hb dX4_of_111 rfl (lv_at hl 1 rfl) ?_
      refine xi_alz hx hb hK hP1 9 (s0 := e1) rfl (i := r) ⟨by omega, by omega⟩ rfl dX4_of_112 ?_
      have hf : fOf e1 r w = 0 := by unfold fOf; (repeat (first | rw [if_pos (by omega)] | rw [if_neg (by omega)])); first | done | (exfalso; omega)
      have he7 : f1 = (fb (fOf e1 r w) f1) := by rw [hf]; rfl
      have hP := Eq.mp (congrArg (fun z9 => va_P g.1 vwCl (wX g a b d fo tp sh z9 f20 ++ (wLs g b e1 e10 e11)) s.heap) he7) hP
      have hD := Eq.mp (congrArg (fun z9 => va_D (va_A (wX g a b d fo tp sh f1 f20 ++ (wLs g b e1 e10 e11)) s.heap.size) (wX g a b d fo tp sh z9 f20 ++ (wLs g b e1 e10 e11))) he7) hD
      obtain ⟨hP0, hP1⟩ := va_P_app.mp hP
      have hP : va_P g.1 vwCl (wX g a b d fo tp sh (fb (fOf e1 r w) f1) f20 ++ (wLs g b e1 ((su (su (fun _ _ => 0) 110 e10) 111 e11) 110) ((su (su (fun _ _ => 0) 110 e10) 111 e11) 111))) s.heap := hP
      have hD : va_D (va_A (wX g a b d fo tp sh f1 f20 ++ (wLs g b e1 e10 e11)) s.heap.size) (wX g a b d fo tp sh (fb (fOf e1 r w) f1) f20 ++ (wLs g b e1 ((su (su (fun _ _ => 0) 110 e10) 111 e11) 110) ((su (su (fun _ _ => 0) 110 e10) 111 e11) 111))) := hD
      exact W.iret hx hb hr (fun t ht hW => ⟨⟨_, (su (su (fun _ _ => 0) 110 e10) 111 e11), rfl, by rw [hf, ab_0]; exact congrArg iI (by unfold aOf; (repeat (first | rw [if_pos (by omega)] | rw [if_neg (by omega)])); first | done | (exfalso; omega) | (congr 1; omega)), by rw [ht]; exact hP, hD⟩, hS.F ht⟩) hS.2.2 dX4_of_113
    · refine lv_tableIn (tgt := 114) (off := 98) hx hb dX4_of_16 (by rw [iI_toInt hir2, z2]; decide) (by rw [iI_toInt hir2, z2]; decide) (by rw [iI_toInt hir2, z2]; rfl) (by decide) ?_
      refine lv_aload_n hx hb dX4_of_114 rfl (lv_at hl 0 rfl) ?_
      refine xg_X4 hx hb hts hown hK hP0 0 rfl 0 (by decide) fk_X4_10 (v := .ref (b 0)) rfl dX4_of_115 ?_
      refine lv_iload_n hx hb dX4_of_118 rfl (lv_at hl 1 rfl) ?_
      refine xu_i (x := iI (stride e1 r)) (rVN (rest := []) hx hb hml hown hts hK hl (c_X1_strideOf l g b e1 e10 e11 r (show Inv e1 from hI8) (show 0 ≤ r ∧ r < e1 1 from by omega)) lk_X4_135 hP1 (va_recv hK.1 hP1 (ci := 1) (q0 := 0) rfl rfl) rfl rfl rfl (Rm.of rfl) rfl rfl dX4_of_119) ?_
      have hf : fOf e1 r w = 0 := by unfold fOf; (repeat (first | rw [if_pos (by omega)] | rw [if_neg (by omega)])); first | done | (exfalso; omega)
      have he9 : f1 = (fb (fOf e1 r w) f1) := by rw [hf]; rfl
      have hP := Eq.mp (congrArg (fun z9 => va_P g.1 vwCl (wX g a b d fo tp sh z9 f20 ++ (wLs g b e1 e10 e11)) s.heap) he9) hP
      have hD := Eq.mp (congrArg (fun z9 => va_D (va_A (wX g a b d fo tp sh f1 f20 ++ (wLs g b e1 e10 e11)) s.heap.size) (wX g a b d fo tp sh z9 f20 ++ (wLs g b e1 e10 e11))) he9) hD
      obtain ⟨hP0, hP1⟩ := va_P_app.mp hP
      have hP : va_P g.1 vwCl (wX g a b d fo tp sh (fb (fOf e1 r w) f1) f20 ++ (wLs g b e1 ((su (su (fun _ _ => 0) 110 e10) 111 e11) 110) ((su (su (fun _ _ => 0) 110 e10) 111 e11) 111))) s.heap := hP
      have hD : va_D (va_A (wX g a b d fo tp sh f1 f20 ++ (wLs g b e1 e10 e11)) s.heap.size) (wX g a b d fo tp sh (fb (fOf e1 r w) f1) f20 ++ (wLs g b e1 ((su (su (fun _ _ => 0) 110 e10) 111 e11) 110) ((su (su (fun _ _ => 0) 110 e10) 111 e11) 111))) := hD
      exact W.iret hx hb hr (fun t ht hW => ⟨⟨_, (su (su (fun _ _ => 0) 110 e10) 111 e11), rfl, by rw [hf, ab_0]; exact congrArg iI (by unfold aOf; (repeat (first | rw [if_pos (by omega)] | rw [if_neg (by omega)])); first | done | (exfalso; omega) | (congr 1; omega)), by rw [ht]; exact hP, hD⟩, hS.F ht⟩) hS.2.2 dX4_of_122
    · refine lv_tableIn (tgt := 123) (off := 107) hx hb dX4_of_16 (by rw [iI_toInt hir2, z2]; decide) (by rw [iI_toInt hir2, z2]; decide) (by rw [iI_toInt hir2, z2]; rfl) (by decide) ?_
      refine lv_aload_n hx hb dX4_of_123 rfl (lv_at hl 0 rfl) ?_
      refine xg_X4 hx hb hts hown hK hP0 0 rfl 0 (by decide) fk_X4_10 (v := .ref (b 0)) rfl dX4_of_124 ?_
      refine lv_iload_n hx hb dX4_of_127 rfl (lv_at hl 1 rfl) ?_
      refine xu_i (x := iI (val e1 r)) (rVN (rest := []) hx hb hml hown hts hK hl (c_X1_worth l g b e1 e10 e11 r (show 0 ≤ r ∧ r < 8 from by omega)) lk_X4_138 hP1 (va_recv hK.1 hP1 (ci := 1) (q0 := 0) rfl rfl) rfl rfl rfl (Rm.of rfl) rfl rfl dX4_of_128) ?_
      have hf : fOf e1 r w = 0 := by unfold fOf; (repeat (first | rw [if_pos (by omega)] | rw [if_neg (by omega)])); first | done | (exfalso; omega)
      have he11 : f1 = (fb (fOf e1 r w) f1) := by rw [hf]; rfl
      have hP := Eq.mp (congrArg (fun z9 => va_P g.1 vwCl (wX g a b d fo tp sh z9 f20 ++ (wLs g b e1 e10 e11)) s.heap) he11) hP
      have hD := Eq.mp (congrArg (fun z9 => va_D (va_A (wX g a b d fo tp sh f1 f20 ++ (wLs g b e1 e10 e11)) s.heap.size) (wX g a b d fo tp sh z9 f20 ++ (wLs g b e1 e10 e11))) he11) hD
      obtain ⟨hP0, hP1⟩ := va_P_app.mp hP
      have hP : va_P g.1 vwCl (wX g a b d fo tp sh (fb (fOf e1 r w) f1) f20 ++ (wLs g b e1 ((su (su (fun _ _ => 0) 110 e10) 111 e11) 110) ((su (su (fun _ _ => 0) 110 e10) 111 e11) 111))) s.heap := hP
      have hD : va_D (va_A (wX g a b d fo tp sh f1 f20 ++ (wLs g b e1 e10 e11)) s.heap.size) (wX g a b d fo tp sh (fb (fOf e1 r w) f1) f20 ++ (wLs g b e1 ((su (su (fun _ _ => 0) 110 e10) 111 e11) 110) ((su (su (fun _ _ => 0) 110 e10) 111 e11) 111))) := hD
      exact W.iret hx hb hr (fun t ht hW => ⟨⟨_, (su (su (fun _ _ => 0) 110 e10) 111 e11), rfl, by rw [hf, ab_0]; exact congrArg iI (by unfold aOf; (repeat (first | rw [if_pos (by omega)] | rw [if_neg (by omega)])); first | done | (exfalso; omega) | (congr 1; omega)), by rw [ht]; exact hP, hD⟩, hS.F ht⟩) hS.2.2 dX4_of_131
    · refine lv_tableIn (tgt := 132) (off := 116) hx hb dX4_of_16 (by rw [iI_toInt hir2, z2]; decide) (by rw [iI_toInt hir2, z2]; decide) (by rw [iI_toInt hir2, z2]; rfl) (by decide) ?_
      refine lv_aload_n hx hb dX4_of_132 rfl (lv_at hl 0 rfl) ?_
      refine xg_X4 hx hb hts hown hK hP0 0 rfl 0 (by decide) fk_X4_10 (v := .ref (b 0)) rfl dX4_of_133 ?_
      refine lv_iload_n hx hb dX4_of_136 rfl (lv_at hl 1 rfl) ?_
      have hD : va_D (va_A (wX g a b d fo tp sh f1 f20 ++ (wLs g b e1 e10 e11)) s.heap.size) (wLs g b e1 e10 e11 ++ (wX g a b d fo tp sh f1 f20)) := D_perm (List.perm_append_comm) hD
      have hP : va_P g.1 vwCl (wLs g b e1 e10 e11 ++ (wX g a b d fo tp sh f1 f20)) s.heap := va_P_app.mpr ⟨hP1, hP0⟩
      refine xmF_i (rVN (rest := []) hx hb hml hown hts hK hl (c_X1_whoGoesBefore l g b e1 e10 e11 r (s.heap).size (show Inv e1 from hI8) (show 0 ≤ r ∧ r < e1 1 from by omega)) lk_X4_141 ⟨rfl, hP1, (va_D_app hD).1.weaken (fun _ _ _ _ => trivial)⟩ (va_recv hK.1 hP1 (ci := 1) (q0 := 0) rfl rfl) rfl rfl rfl (Rm.of rfl) rfl rfl dX4_of_137) hP hD hS hA (fun x9 u12 H locs hw hP hD hS => ?_)
      obtain rfl : x9 = iI (raT e1 r (e1 1).toNat) := hw
      have hP : va_P g.1 vwCl (wLs g b e1 (u12 10) (u12 11) ++ (wX g a b d fo tp sh f1 f20)) H := hP
      have hD : va_D (va_A (wX g a b d fo tp sh f1 f20 ++ (wLs g b e1 e10 e11)) s.heap.size) (wLs g b e1 (u12 10) (u12 11) ++ (wX g a b d fo tp sh f1 f20)) := hD
      obtain ⟨hP1, hP0⟩ := va_P_app.mp hP
      have hD : va_D (va_A (wX g a b d fo tp sh f1 f20 ++ (wLs g b e1 e10 e11)) s.heap.size) (wX g a b d fo tp sh f1 f20 ++ (wLs g b e1 (u12 10) (u12 11))) := D_perm (List.perm_append_comm) hD
      have hP : va_P g.1 vwCl (wX g a b d fo tp sh f1 f20 ++ (wLs g b e1 (u12 10) (u12 11))) H := va_P_app.mpr ⟨hP0, hP1⟩
      have hf : fOf e1 r w = 0 := by unfold fOf; (repeat (first | rw [if_pos (by omega)] | rw [if_neg (by omega)])); first | done | (exfalso; omega)
      have he13 : f1 = (fb (fOf e1 r w) f1) := by rw [hf]; rfl
      have hP := Eq.mp (congrArg (fun z9 => va_P g.1 vwCl (wX g a b d fo tp sh z9 f20 ++ (wLs g b e1 (u12 10) (u12 11))) H) he13) hP
      have hD := Eq.mp (congrArg (fun z9 => va_D (va_A (wX g a b d fo tp sh f1 f20 ++ (wLs g b e1 e10 e11)) s.heap.size) (wX g a b d fo tp sh z9 f20 ++ (wLs g b e1 (u12 10) (u12 11)))) he13) hD
      obtain ⟨hP0, hP1⟩ := va_P_app.mp hP
      have hP : va_P g.1 vwCl (wX g a b d fo tp sh (fb (fOf e1 r w) f1) f20 ++ (wLs g b e1 ((su (su (fun _ _ => 0) 110 (u12 10)) 111 (u12 11)) 110) ((su (su (fun _ _ => 0) 110 (u12 10)) 111 (u12 11)) 111))) H := hP
      have hD : va_D (va_A (wX g a b d fo tp sh f1 f20 ++ (wLs g b e1 e10 e11)) s.heap.size) (wX g a b d fo tp sh (fb (fOf e1 r w) f1) f20 ++ (wLs g b e1 ((su (su (fun _ _ => 0) 110 (u12 10)) 111 (u12 11)) 110) ((su (su (fun _ _ => 0) 110 (u12 10)) 111 (u12 11)) 111))) := hD
      exact W.iret hx hb hr (fun t ht hW => ⟨⟨_, (su (su (fun _ _ => 0) 110 (u12 10)) 111 (u12 11)), rfl, by rw [hf, ab_0]; exact congrArg iI (by unfold aOf; (repeat (first | rw [if_pos (by omega)] | rw [if_neg (by omega)])); first | done | (exfalso; omega) | (congr 1; omega)), by rw [ht]; exact hP, hD⟩, hS.F ht⟩) hS.2.2 dX4_of_140
    · refine lv_tableOut (tgt := 141) hx hb dX4_of_16 (by rw [iI_toInt hir2]; exact z2) (by decide) ?_
      refine lv_aload_n hx hb dX4_of_141 rfl (lv_at hl 0 rfl) ?_
      refine xi_ldc hx hb hown hts kk_X4_58 dX4_of_142 ?_
      refine xmF_i (rV (rest := []) hx hb hml hown hts hK hl (c_X4_finding l g b d fo tp sh a f1 f20 (-1000000001) (s.heap).size (show 0 ≤ -1000000001 - (-1000000001) ∧ -1000000001 - (-1000000001) < 7 from by omega)) lk_X4_59 ⟨rfl, hP0, (va_D_app hD).1.weaken (fun _ _ _ _ => trivial)⟩ (va_recv hK.1 hP0 (ci := 4) (q0 := 0) rfl rfl) rfl rfl rfl (Rm.of rfl) rfl rfl dX4_of_144) hP hD hS hA (fun x9 _ H locs hw hP hD hS => ?_)
      obtain rfl : x9 = iI (-1000000001) := hw
      have hP : va_P g.1 vwCl (wX g a b d fo tp sh (fb (-1000000000 - (-1000000001)) f1) f20 ++ (wLs g b e1 e10 e11)) H := hP
      have hD : va_D (va_A (wX g a b d fo tp sh f1 f20 ++ (wLs g b e1 e10 e11)) s.heap.size) (wX g a b d fo tp sh (fb (-1000000000 - (-1000000001)) f1) f20 ++ (wLs g b e1 e10 e11)) := hD
      obtain ⟨hP0, hP1⟩ := va_P_app.mp hP
      have hf : fOf e1 r w = 1 := by unfold fOf; (repeat (first | rw [if_pos (by omega)] | rw [if_neg (by omega)])); first | done | (exfalso; omega)
      have he15 : (fb (-1000000000 - (-1000000001)) f1) = (fb (fOf e1 r w) f1) := by rw [hf]; rfl
      have hP := Eq.mp (congrArg (fun z9 => va_P g.1 vwCl (wX g a b d fo tp sh z9 f20 ++ (wLs g b e1 e10 e11)) H) he15) hP
      have hD := Eq.mp (congrArg (fun z9 => va_D (va_A (wX g a b d fo tp sh f1 f20 ++ (wLs g b e1 e10 e11)) s.heap.size) (wX g a b d fo tp sh z9 f20 ++ (wLs g b e1 e10 e11))) he15) hD
      obtain ⟨hP0, hP1⟩ := va_P_app.mp hP
      have hP : va_P g.1 vwCl (wX g a b d fo tp sh (fb (fOf e1 r w) f1) f20 ++ (wLs g b e1 ((su (su (fun _ _ => 0) 110 e10) 111 e11) 110) ((su (su (fun _ _ => 0) 110 e10) 111 e11) 111))) H := hP
      have hD : va_D (va_A (wX g a b d fo tp sh f1 f20 ++ (wLs g b e1 e10 e11)) s.heap.size) (wX g a b d fo tp sh (fb (fOf e1 r w) f1) f20 ++ (wLs g b e1 ((su (su (fun _ _ => 0) 110 e10) 111 e11) 110) ((su (su (fun _ _ => 0) 110 e10) 111 e11) 111))) := hD
      exact W.iret hx hb hr (fun t ht hW => ⟨⟨_, (su (su (fun _ _ => 0) 110 e10) 111 e11), rfl, by rw [hf]; rfl, by rw [ht]; exact hP, hD⟩, hS.F ht⟩) hS.2.2 dX4_of_147
  · refine xi_zf_ne hx hb ⟨by decide, by decide⟩ (by decide) dX4_of_5 ⟨15, by decide⟩ ?_
    refine lv_aload_n hx hb dX4_of_8 rfl (lv_at hl 0 rfl) ?_
    refine xi_ldc hx hb hown hts kk_X4_58 dX4_of_9 ?_
    refine xmF_i (rV (rest := []) hx hb hml hown hts hK hl (c_X4_finding l g b d fo tp sh a f1 f20 (-1000000001) (s.heap).size (show 0 ≤ -1000000001 - (-1000000001) ∧ -1000000001 - (-1000000001) < 7 from by omega)) lk_X4_59 ⟨rfl, hP0, (va_D_app hD).1.weaken (fun _ _ _ _ => trivial)⟩ (va_recv hK.1 hP0 (ci := 4) (q0 := 0) rfl rfl) rfl rfl rfl (Rm.of rfl) rfl rfl dX4_of_11) hP hD hS hA (fun x9 _ H locs hw hP hD hS => ?_)
    obtain rfl : x9 = iI (-1000000001) := hw
    have hP : va_P g.1 vwCl (wX g a b d fo tp sh (fb (-1000000000 - (-1000000001)) f1) f20 ++ (wLs g b e1 e10 e11)) H := hP
    have hD : va_D (va_A (wX g a b d fo tp sh f1 f20 ++ (wLs g b e1 e10 e11)) s.heap.size) (wX g a b d fo tp sh (fb (-1000000000 - (-1000000001)) f1) f20 ++ (wLs g b e1 e10 e11)) := hD
    obtain ⟨hP0, hP1⟩ := va_P_app.mp hP
    have hf : fOf e1 r w = 1 := by unfold fOf; (repeat (first | rw [if_pos (by omega)] | rw [if_neg (by omega)])); first | done | (exfalso; omega)
    have he17 : (fb (-1000000000 - (-1000000001)) f1) = (fb (fOf e1 r w) f1) := by rw [hf]; rfl
    have hP := Eq.mp (congrArg (fun z9 => va_P g.1 vwCl (wX g a b d fo tp sh z9 f20 ++ (wLs g b e1 e10 e11)) H) he17) hP
    have hD := Eq.mp (congrArg (fun z9 => va_D (va_A (wX g a b d fo tp sh f1 f20 ++ (wLs g b e1 e10 e11)) s.heap.size) (wX g a b d fo tp sh z9 f20 ++ (wLs g b e1 e10 e11))) he17) hD
    obtain ⟨hP0, hP1⟩ := va_P_app.mp hP
    have hP : va_P g.1 vwCl (wX g a b d fo tp sh (fb (fOf e1 r w) f1) f20 ++ (wLs g b e1 ((su (su (fun _ _ => 0) 110 e10) 111 e11) 110) ((su (su (fun _ _ => 0) 110 e10) 111 e11) 111))) H := hP
    have hD : va_D (va_A (wX g a b d fo tp sh f1 f20 ++ (wLs g b e1 e10 e11)) s.heap.size) (wX g a b d fo tp sh (fb (fOf e1 r w) f1) f20 ++ (wLs g b e1 ((su (su (fun _ _ => 0) 110 e10) 111 e11) 110) ((su (su (fun _ _ => 0) 110 e10) 111 e11) 111))) := hD
    exact W.iret hx hb hr (fun t ht hW => ⟨⟨_, (su (su (fun _ _ => 0) 110 e10) 111 e11), rfl, by rw [hf]; rfl, by rw [ht]; exact hP, hD⟩, hS.F ht⟩) hS.2.2 dX4_of_14
abbrev rm_X4_moveTo : Room := { frames := 1, cells := 0, slots := 0, locals := 22 }
set_option maxRecDepth 100000 in
set_option maxHeartbeats 4000000 in
theorem c_X4_moveToN (l : Launch) (g : Gd) (d : Nat → Nat) (fo : Nat → Nat) (tp : Nat → Nat) (sh : Nat → Nat) (a : Nat → Nat) (f1 : Int → Int) (f20 : Int) (b : Nat → Nat) (e1 : Int → Int) (e10 : Int → Int) (e11 : Int → Int) (r : Int) (v : Int) (sz : Nat) (h1 : InvK 0 e1) (h2 : 0 ≤ r ∧ r < e1 1) (h3 : 0 ≤ v ∧ v ≤ 23) (h4 : 0 ≤ who e1 v ∧ who e1 v ≠ r) : Met l yX4_moveTo (wsOf yX4_moveTo cX4_moveTo 5 (some .int)) rm_X4_moveTo (PX g (wP g (wX g a b d fo tp sh f1 f20 ++ (wLs g b e1 e10 e11)) sz) [.ref (a 0), .int (iI r), .int (iI v)]) (QMi g (fun _ : Unit => wX g a b d fo tp sh (fb (-1000000000 - (-1000000005)) f1) f20 ++ (wLs g b e1 e10 e11)) (fun r9 _ => r9 = iI (-1000000005)) (va_A (wX g a b d fo tp sh f1 f20 ++ (wLs g b e1 e10 e11)) sz)) 0 0 (va_A (wX g a b d fo tp sh f1 f20 ++ (wLs g b e1 e10 e11)) sz) := by
  refine me (g := g) (by decide) rfl ?_
  intro pq eq s mq below meth cq C hnm hB ls hl
  obtain ⟨hx, hb, hr, hml, hown, hts, hlocks, hK⟩ := C
  have hown : s.vm.findClass RX4 = some mq.cls := hown
  have hl : lv_has ls 5 [(0, .ref (a 0)), (1, .int (iI r)), (2, .int (iI v))] := hl
  obtain ⟨hsz, hP, hD0⟩ := hB
  subst hsz
  have hD := hD0.self (sz := s.heap.size)
  have hA : ∀ q : Nat, s.heap.size ≤ q → va_A (wX g a b d fo tp sh f1 f20 ++ (wLs g b e1 e10 e11)) s.heap.size q := fun q h => Or.inr h
  have hS : va_S (va_A (wX g a b d fo tp sh f1 f20 ++ (wLs g b e1 e10 e11)) s.heap.size) s.heap s.heap [] := va_S.rf
  obtain ⟨hP0, hP1⟩ := va_P_app.mp hP
  have hI := h1
  have hI8 : Inv e1 := h1.mono (by omega)
  have hn := hI.num
  have hs := hI.sea
  have hv := hI.vil
  have hw := who_b (s := e1) v hn
  refine lv_aload_n hx hb dX4_moveTo_0 rfl (lv_at hl 0 rfl) ?_
  refine xg_X4 hx hb hts hown hK hP0 0 rfl 0 (by decide) fk_X4_10 (v := .ref (b 0)) rfl dX4_moveTo_1 ?_
  refine lv_iload_n hx hb dX4_moveTo_4 rfl (lv_at hl 2 rfl) ?_
  refine xu_i (x := iI (who e1 v)) (rVN (rest := []) hx hb hml hown hts hK hl (c_X1_rangeIn l g b e1 e10 e11 v (show Inv e1 from hI8) (show IR v from ⟨by omega, by omega⟩)) lk_X4_79 hP1 (va_recv hK.1 hP1 (ci := 1) (q0 := 0) rfl rfl) rfl rfl rfl (Rm.of rfl) rfl rfl dX4_moveTo_5) ?_
  refine lv_istore_n (lv' := [(3, .int (iI (who e1 v))), (0, .ref (a 0)), (1, .int (iI r)), (2, .int (iI v))]) hx hb dX4_moveTo_8 rfl hl (by decide) rfl (fun ls hl => ?_)
  refine lv_iload_n hx hb dX4_moveTo_9 rfl (lv_at hl 0 rfl) ?_
  refine xi_z_lt (tgt := 25) hx hb ⟨by omega, by omega⟩ dX4_moveTo_10 (by decide) (fun z2 => ?_) (fun z2 => ?_)
  · refine lv_aload_n hx hb dX4_moveTo_25 rfl (lv_at hl 1 rfl) ?_
    refine xg_X4 hx hb hts hown hK hP0 0 rfl 0 (by decide) fk_X4_10 (v := .ref (b 0)) rfl dX4_moveTo_26 ?_
    refine xgN_X1 hx hb hts hown hK hP1 0 rfl 8 (by decide) fk_X4_123 (v := .ref (b 6)) rfl dX4_moveTo_29 ?_
    refine lv_iload_n hx hb dX4_moveTo_32 rfl (lv_at hl 2 rfl) ?_
    refine xi_alz hx hb hK hP1 6 (s0 := e1) rfl (i := r) ⟨by omega, by omega⟩ rfl dX4_moveTo_33 ?_
    refine lv_istore (lv' := [(4, .int (iI (e1 (61 + 5 * r + 1)))), (3, .int (iI (who e1 v))), (0, .ref (a 0)), (1, .int (iI r)), (2, .int (iI v))]) hx hb dX4_moveTo_34 hl (by decide) rfl (fun ls hl => ?_)
    refine lv_aload_n hx hb dX4_moveTo_36 rfl (lv_at hl 2 rfl) ?_
    refine xg_X4 hx hb hts hown hK hP0 0 rfl 0 (by decide) fk_X4_10 (v := .ref (b 0)) rfl dX4_moveTo_37 ?_
    refine xgN_X1 hx hb hts hown hK hP1 0 rfl 8 (by decide) fk_X4_123 (v := .ref (b 6)) rfl dX4_moveTo_40 ?_
    refine lv_iload_n hx hb dX4_moveTo_43 rfl (lv_at hl 3 rfl) ?_
    refine lv_iload_n hx hb dX4_moveTo_44 rfl (lv_at hl 4 rfl) ?_
    refine xi_ast hx hb hK hP hD hS 9 (f := pz 1 e1) rfl (i := r) (v := v) ⟨by omega, by omega⟩ rfl dX4_moveTo_45 (fun H locs hP hD hS => ?_)
    have hP := Eq.mp (congrArg (fun z9 : va_W => va_P g.1 vwCl (wX g a b d fo tp sh f1 f20 ++ (z9)) H) (Ls_cells (g := g) (a := b) (s := e1) (x10 := e10) (x11 := e11) (i := r) (v := v) ⟨by omega, by omega⟩)) hP
    have hD := Eq.mp (congrArg (fun z9 : va_W => va_D (va_A (wX g a b d fo tp sh f1 f20 ++ (wLs g b e1 e10 e11)) s.heap.size) (wX g a b d fo tp sh f1 f20 ++ (z9))) (Ls_cells (g := g) (a := b) (s := e1) (x10 := e10) (x11 := e11) (i := r) (v := v) ⟨by omega, by omega⟩)) hD
    have hP : va_P g.1 vwCl (wX g a b d fo tp sh f1 f20 ++ (wLs g b (up e1 (61 + 5 * r + 1) v) e10 e11)) H := hP
    have hD : va_D (va_A (wX g a b d fo tp sh f1 f20 ++ (wLs g b e1 e10 e11)) s.heap.size) (wX g a b d fo tp sh f1 f20 ++ (wLs g b (up e1 (61 + 5 * r + 1) v) e10 e11)) := hD
    obtain ⟨hP0, hP1⟩ := va_P_app.mp hP
    refine lv_iload hx hb dX4_moveTo_46 (lv_at hl 0 rfl) ?_
    have he3 : f1 = (fb (-1000000000 - (-1000000005)) f1) := by exfalso; omega
    have hP := Eq.mp (congrArg (fun z9 => va_P g.1 vwCl (wX g a b d fo tp sh z9 f20 ++ (wLs g b (up e1 (61 + 5 * r + 1) v) e10 e11)) H) he3) hP
    have hD := Eq.mp (congrArg (fun z9 => va_D (va_A (wX g a b d fo tp sh f1 f20 ++ (wLs g b e1 e10 e11)) s.heap.size) (wX g a b d fo tp sh z9 f20 ++ (wLs g b (up e1 (61 + 5 * r + 1) v) e10 e11))) he3) hD
    obtain ⟨hP0, hP1⟩ := va_P_app.mp hP
    have he4 : (up e1 (61 + 5 * r + 1) v) = e1 := by exfalso; omega
    have hP := Eq.mp (congrArg (fun z9 => va_P g.1 vwCl (wX g a b d fo tp sh (fb (-1000000000 - (-1000000005)) f1) f20 ++ (wLs g b z9 e10 e11)) H) he4) hP
    have hD := Eq.mp (congrArg (fun z9 => va_D (va_A (wX g a b d fo tp sh f1 f20 ++ (wLs g b e1 e10 e11)) s.heap.size) (wX g a b d fo tp sh (fb (-1000000000 - (-1000000005)) f1) f20 ++ (wLs g b z9 e10 e11))) he4) hD
    obtain ⟨hP0, hP1⟩ := va_P_app.mp hP
    have hP : va_P g.1 vwCl (wX g a b d fo tp sh (fb (-1000000000 - (-1000000005)) f1) f20 ++ (wLs g b e1 e10 e11)) H := hP
    have hD : va_D (va_A (wX g a b d fo tp sh f1 f20 ++ (wLs g b e1 e10 e11)) s.heap.size) (wX g a b d fo tp sh (fb (-1000000000 - (-1000000005)) f1) f20 ++ (wLs g b e1 e10 e11)) := hD
    exact W.iret hx hb hr (fun t ht hW => ⟨⟨_, (), rfl, by exfalso; omega, by rw [ht]; exact hP, hD⟩, hS.F ht⟩) hS.2.2 dX4_moveTo_48
  · refine lv_iload_n hx hb dX4_moveTo_13 rfl (lv_at hl 0 rfl) ?_
    refine lv_iload_n hx hb dX4_moveTo_14 rfl (lv_at hl 2 rfl) ?_
    refine xi_c_eq (tgt := 25) hx hb ⟨by omega, by omega⟩ ⟨by omega, by omega⟩ dX4_moveTo_15 (by decide) (fun z5 => ?_) (fun z5 => ?_)
    · refine lv_aload_n hx hb dX4_moveTo_25 rfl (lv_at hl 1 rfl) ?_
      refine xg_X4 hx hb hts hown hK hP0 0 rfl 0 (by decide) fk_X4_10 (v := .ref (b 0)) rfl dX4_moveTo_26 ?_
      refine xgN_X1 hx hb hts hown hK hP1 0 rfl 8 (by decide) fk_X4_123 (v := .ref (b 6)) rfl dX4_moveTo_29 ?_
      refine lv_iload_n hx hb dX4_moveTo_32 rfl (lv_at hl 2 rfl) ?_
      refine xi_alz hx hb hK hP1 6 (s0 := e1) rfl (i := r) ⟨by omega, by omega⟩ rfl dX4_moveTo_33 ?_
      refine lv_istore (lv' := [(4, .int (iI (e1 (61 + 5 * r + 1)))), (3, .int (iI (who e1 v))), (0, .ref (a 0)), (1, .int (iI r)), (2, .int (iI v))]) hx hb dX4_moveTo_34 hl (by decide) rfl (fun ls hl => ?_)
      refine lv_aload_n hx hb dX4_moveTo_36 rfl (lv_at hl 2 rfl) ?_
      refine xg_X4 hx hb hts hown hK hP0 0 rfl 0 (by decide) fk_X4_10 (v := .ref (b 0)) rfl dX4_moveTo_37 ?_
      refine xgN_X1 hx hb hts hown hK hP1 0 rfl 8 (by decide) fk_X4_123 (v := .ref (b 6)) rfl dX4_moveTo_40 ?_
      refine lv_iload_n hx hb dX4_moveTo_43 rfl (lv_at hl 3 rfl) ?_
      refine lv_iload_n hx hb dX4_moveTo_44 rfl (lv_at hl 4 rfl) ?_
      refine xi_ast hx hb hK hP hD hS 9 (f := pz 1 e1) rfl (i := r) (v := v) ⟨by omega, by omega⟩ rfl dX4_moveTo_45 (fun H locs hP hD hS => ?_)
      have hP := Eq.mp (congrArg (fun z9 : va_W => va_P g.1 vwCl (wX g a b d fo tp sh f1 f20 ++ (z9)) H) (Ls_cells (g := g) (a := b) (s := e1) (x10 := e10) (x11 := e11) (i := r) (v := v) ⟨by omega, by omega⟩)) hP
      have hD := Eq.mp (congrArg (fun z9 : va_W => va_D (va_A (wX g a b d fo tp sh f1 f20 ++ (wLs g b e1 e10 e11)) s.heap.size) (wX g a b d fo tp sh f1 f20 ++ (z9))) (Ls_cells (g := g) (a := b) (s := e1) (x10 := e10) (x11 := e11) (i := r) (v := v) ⟨by omega, by omega⟩)) hD
      have hP : va_P g.1 vwCl (wX g a b d fo tp sh f1 f20 ++ (wLs g b (up e1 (61 + 5 * r + 1) v) e10 e11)) H := hP
      have hD : va_D (va_A (wX g a b d fo tp sh f1 f20 ++ (wLs g b e1 e10 e11)) s.heap.size) (wX g a b d fo tp sh f1 f20 ++ (wLs g b (up e1 (61 + 5 * r + 1) v) e10 e11)) := hD
      obtain ⟨hP0, hP1⟩ := va_P_app.mp hP
      refine lv_iload hx hb dX4_moveTo_46 (lv_at hl 0 rfl) ?_
      have he6 : f1 = (fb (-1000000000 - (-1000000005)) f1) := by exfalso; omega
      have hP := Eq.mp (congrArg (fun z9 => va_P g.1 vwCl (wX g a b d fo tp sh z9 f20 ++ (wLs g b (up e1 (61 + 5 * r + 1) v) e10 e11)) H) he6) hP
      have hD := Eq.mp (congrArg (fun z9 => va_D (va_A (wX g a b d fo tp sh f1 f20 ++ (wLs g b e1 e10 e11)) s.heap.size) (wX g a b d fo tp sh z9 f20 ++ (wLs g b (up e1 (61 + 5 * r + 1) v) e10 e11))) he6) hD
      obtain ⟨hP0, hP1⟩ := va_P_app.mp hP
      have he7 : (up e1 (61 + 5 * r + 1) v) = e1 := by exfalso; omega
      have hP := Eq.mp (congrArg (fun z9 => va_P g.1 vwCl (wX g a b d fo tp sh (fb (-1000000000 - (-1000000005)) f1) f20 ++ (wLs g b z9 e10 e11)) H) he7) hP
      have hD := Eq.mp (congrArg (fun z9 => va_D (va_A (wX g a b d fo tp sh f1 f20 ++ (wLs g b e1 e10 e11)) s.heap.size) (wX g a b d fo tp sh (fb (-1000000000 - (-1000000005)) f1) f20 ++ (wLs g b z9 e10 e11))) he7) hD
      obtain ⟨hP0, hP1⟩ := va_P_app.mp hP
      have hP : va_P g.1 vwCl (wX g a b d fo tp sh (fb (-1000000000 - (-1000000005)) f1) f20 ++ (wLs g b e1 e10 e11)) H := hP
      have hD : va_D (va_A (wX g a b d fo tp sh f1 f20 ++ (wLs g b e1 e10 e11)) s.heap.size) (wX g a b d fo tp sh (fb (-1000000000 - (-1000000005)) f1) f20 ++ (wLs g b e1 e10 e11)) := hD
      exact W.iret hx hb hr (fun t ht hW => ⟨⟨_, (), rfl, by exfalso; omega, by rw [ht]; exact hP, hD⟩, hS.F ht⟩) hS.2.2 dX4_moveTo_48
    · refine lv_aload_n hx hb dX4_moveTo_18 rfl (lv_at hl 1 rfl) ?_
      refine xi_ldc hx hb hown hts kk_X4_109 dX4_moveTo_19 ?_
      refine xmF_i (rV (rest := []) hx hb hml hown hts hK hl (c_X4_finding l g b d fo tp sh a f1 f20 (-1000000005) (s.heap).size (show 0 ≤ -1000000001 - (-1000000005) ∧ -1000000001 - (-1000000005) < 7 from by omega)) lk_X4_59 ⟨rfl, hP0, (va_D_app hD).1.weaken (fun _ _ _ _ => trivial)⟩ (va_recv hK.1 hP0 (ci := 4) (q0 := 0) rfl rfl) rfl rfl rfl (Rm.of rfl) rfl rfl dX4_moveTo_21) hP hD hS hA (fun x9 _ H locs hw hP hD hS => ?_)
      obtain rfl : x9 = iI (-1000000005) := hw
      have hP : va_P g.1 vwCl (wX g a b d fo tp sh (fb (-1000000000 - (-1000000005)) f1) f20 ++ (wLs g b e1 e10 e11)) H := hP
      have hD : va_D (va_A (wX g a b d fo tp sh f1 f20 ++ (wLs g b e1 e10 e11)) s.heap.size) (wX g a b d fo tp sh (fb (-1000000000 - (-1000000005)) f1) f20 ++ (wLs g b e1 e10 e11)) := hD
      obtain ⟨hP0, hP1⟩ := va_P_app.mp hP
      have hP : va_P g.1 vwCl (wX g a b d fo tp sh (fb (-1000000000 - (-1000000005)) f1) f20 ++ (wLs g b e1 e10 e11)) H := hP
      have hD : va_D (va_A (wX g a b d fo tp sh f1 f20 ++ (wLs g b e1 e10 e11)) s.heap.size) (wX g a b d fo tp sh (fb (-1000000000 - (-1000000005)) f1) f20 ++ (wLs g b e1 e10 e11)) := hD
      exact W.iret hx hb hr (fun t ht hW => ⟨⟨_, (), rfl, rfl, by rw [ht]; exact hP, hD⟩, hS.F ht⟩) hS.2.2 dX4_moveTo_24
set_option maxRecDepth 100000 in
set_option maxHeartbeats 4000000 in
theorem c_X4_moveToP (l : Launch) (g : Gd) (d : Nat → Nat) (fo : Nat → Nat) (tp : Nat → Nat) (sh : Nat → Nat) (a : Nat → Nat) (f1 : Int → Int) (f20 : Int) (b : Nat → Nat) (e1 : Int → Int) (e10 : Int → Int) (e11 : Int → Int) (r : Int) (v : Int) (sz : Nat) (h1 : InvK 0 e1) (h2 : 0 ≤ r ∧ r < e1 1) (h3 : 0 ≤ v ∧ v ≤ 23) (h4 : ¬ (0 ≤ who e1 v ∧ who e1 v ≠ r)) : Met l yX4_moveTo (wsOf yX4_moveTo cX4_moveTo 5 (some .int)) rm_X4_moveTo (PX g (wP g (wX g a b d fo tp sh f1 f20 ++ (wLs g b e1 e10 e11)) sz) [.ref (a 0), .int (iI r), .int (iI v)]) (QMi g (fun _ : Unit => wX g a b d fo tp sh f1 f20 ++ (wLs g b (up e1 (61 + 5 * r + 1) v) e10 e11)) (fun r9 _ => r9 = iI (e1 (61 + 5 * r + 1))) (va_A (wX g a b d fo tp sh f1 f20 ++ (wLs g b e1 e10 e11)) sz)) 0 0 (va_A (wX g a b d fo tp sh f1 f20 ++ (wLs g b e1 e10 e11)) sz) := by
  refine me (g := g) (by decide) rfl ?_
  intro pq eq s mq below meth cq C hnm hB ls hl
  obtain ⟨hx, hb, hr, hml, hown, hts, hlocks, hK⟩ := C
  have hown : s.vm.findClass RX4 = some mq.cls := hown
  have hl : lv_has ls 5 [(0, .ref (a 0)), (1, .int (iI r)), (2, .int (iI v))] := hl
  obtain ⟨hsz, hP, hD0⟩ := hB
  subst hsz
  have hD := hD0.self (sz := s.heap.size)
  have hA : ∀ q : Nat, s.heap.size ≤ q → va_A (wX g a b d fo tp sh f1 f20 ++ (wLs g b e1 e10 e11)) s.heap.size q := fun q h => Or.inr h
  have hS : va_S (va_A (wX g a b d fo tp sh f1 f20 ++ (wLs g b e1 e10 e11)) s.heap.size) s.heap s.heap [] := va_S.rf
  obtain ⟨hP0, hP1⟩ := va_P_app.mp hP
  have hI := h1
  have hI8 : Inv e1 := h1.mono (by omega)
  have hn := hI.num
  have hs := hI.sea
  have hv := hI.vil
  have hw := who_b (s := e1) v hn
  refine lv_aload_n hx hb dX4_moveTo_0 rfl (lv_at hl 0 rfl) ?_
  refine xg_X4 hx hb hts hown hK hP0 0 rfl 0 (by decide) fk_X4_10 (v := .ref (b 0)) rfl dX4_moveTo_1 ?_
  refine lv_iload_n hx hb dX4_moveTo_4 rfl (lv_at hl 2 rfl) ?_
  refine xu_i (x := iI (who e1 v)) (rVN (rest := []) hx hb hml hown hts hK hl (c_X1_rangeIn l g b e1 e10 e11 v (show Inv e1 from hI8) (show IR v from ⟨by omega, by omega⟩)) lk_X4_79 hP1 (va_recv hK.1 hP1 (ci := 1) (q0 := 0) rfl rfl) rfl rfl rfl (Rm.of rfl) rfl rfl dX4_moveTo_5) ?_
  refine lv_istore_n (lv' := [(3, .int (iI (who e1 v))), (0, .ref (a 0)), (1, .int (iI r)), (2, .int (iI v))]) hx hb dX4_moveTo_8 rfl hl (by decide) rfl (fun ls hl => ?_)
  refine lv_iload_n hx hb dX4_moveTo_9 rfl (lv_at hl 0 rfl) ?_
  refine xi_z_lt (tgt := 25) hx hb ⟨by omega, by omega⟩ dX4_moveTo_10 (by decide) (fun z2 => ?_) (fun z2 => ?_)
  · refine lv_aload_n hx hb dX4_moveTo_25 rfl (lv_at hl 1 rfl) ?_
    refine xg_X4 hx hb hts hown hK hP0 0 rfl 0 (by decide) fk_X4_10 (v := .ref (b 0)) rfl dX4_moveTo_26 ?_
    refine xgN_X1 hx hb hts hown hK hP1 0 rfl 8 (by decide) fk_X4_123 (v := .ref (b 6)) rfl dX4_moveTo_29 ?_
    refine lv_iload_n hx hb dX4_moveTo_32 rfl (lv_at hl 2 rfl) ?_
    refine xi_alz hx hb hK hP1 6 (s0 := e1) rfl (i := r) ⟨by omega, by omega⟩ rfl dX4_moveTo_33 ?_
    refine lv_istore (lv' := [(4, .int (iI (e1 (61 + 5 * r + 1)))), (3, .int (iI (who e1 v))), (0, .ref (a 0)), (1, .int (iI r)), (2, .int (iI v))]) hx hb dX4_moveTo_34 hl (by decide) rfl (fun ls hl => ?_)
    refine lv_aload_n hx hb dX4_moveTo_36 rfl (lv_at hl 2 rfl) ?_
    refine xg_X4 hx hb hts hown hK hP0 0 rfl 0 (by decide) fk_X4_10 (v := .ref (b 0)) rfl dX4_moveTo_37 ?_
    refine xgN_X1 hx hb hts hown hK hP1 0 rfl 8 (by decide) fk_X4_123 (v := .ref (b 6)) rfl dX4_moveTo_40 ?_
    refine lv_iload_n hx hb dX4_moveTo_43 rfl (lv_at hl 3 rfl) ?_
    refine lv_iload_n hx hb dX4_moveTo_44 rfl (lv_at hl 4 rfl) ?_
    refine xi_ast hx hb hK hP hD hS 9 (f := pz 1 e1) rfl (i := r) (v := v) ⟨by omega, by omega⟩ rfl dX4_moveTo_45 (fun H locs hP hD hS => ?_)
    have hP := Eq.mp (congrArg (fun z9 : va_W => va_P g.1 vwCl (wX g a b d fo tp sh f1 f20 ++ (z9)) H) (Ls_cells (g := g) (a := b) (s := e1) (x10 := e10) (x11 := e11) (i := r) (v := v) ⟨by omega, by omega⟩)) hP
    have hD := Eq.mp (congrArg (fun z9 : va_W => va_D (va_A (wX g a b d fo tp sh f1 f20 ++ (wLs g b e1 e10 e11)) s.heap.size) (wX g a b d fo tp sh f1 f20 ++ (z9))) (Ls_cells (g := g) (a := b) (s := e1) (x10 := e10) (x11 := e11) (i := r) (v := v) ⟨by omega, by omega⟩)) hD
    have hP : va_P g.1 vwCl (wX g a b d fo tp sh f1 f20 ++ (wLs g b (up e1 (61 + 5 * r + 1) v) e10 e11)) H := hP
    have hD : va_D (va_A (wX g a b d fo tp sh f1 f20 ++ (wLs g b e1 e10 e11)) s.heap.size) (wX g a b d fo tp sh f1 f20 ++ (wLs g b (up e1 (61 + 5 * r + 1) v) e10 e11)) := hD
    obtain ⟨hP0, hP1⟩ := va_P_app.mp hP
    refine lv_iload hx hb dX4_moveTo_46 (lv_at hl 0 rfl) ?_
    have hP : va_P g.1 vwCl (wX g a b d fo tp sh f1 f20 ++ (wLs g b (up e1 (61 + 5 * r + 1) v) e10 e11)) H := hP
    have hD : va_D (va_A (wX g a b d fo tp sh f1 f20 ++ (wLs g b e1 e10 e11)) s.heap.size) (wX g a b d fo tp sh f1 f20 ++ (wLs g b (up e1 (61 + 5 * r + 1) v) e10 e11)) := hD
    exact W.iret hx hb hr (fun t ht hW => ⟨⟨_, (), rfl, rfl, by rw [ht]; exact hP, hD⟩, hS.F ht⟩) hS.2.2 dX4_moveTo_48
  · refine lv_iload_n hx hb dX4_moveTo_13 rfl (lv_at hl 0 rfl) ?_
    refine lv_iload_n hx hb dX4_moveTo_14 rfl (lv_at hl 2 rfl) ?_
    refine xi_c_eq (tgt := 25) hx hb ⟨by omega, by omega⟩ ⟨by omega, by omega⟩ dX4_moveTo_15 (by decide) (fun z3 => ?_) (fun z3 => ?_)
    · refine lv_aload_n hx hb dX4_moveTo_25 rfl (lv_at hl 1 rfl) ?_
      refine xg_X4 hx hb hts hown hK hP0 0 rfl 0 (by decide) fk_X4_10 (v := .ref (b 0)) rfl dX4_moveTo_26 ?_
      refine xgN_X1 hx hb hts hown hK hP1 0 rfl 8 (by decide) fk_X4_123 (v := .ref (b 6)) rfl dX4_moveTo_29 ?_
      refine lv_iload_n hx hb dX4_moveTo_32 rfl (lv_at hl 2 rfl) ?_
      refine xi_alz hx hb hK hP1 6 (s0 := e1) rfl (i := r) ⟨by omega, by omega⟩ rfl dX4_moveTo_33 ?_
      refine lv_istore (lv' := [(4, .int (iI (e1 (61 + 5 * r + 1)))), (3, .int (iI (who e1 v))), (0, .ref (a 0)), (1, .int (iI r)), (2, .int (iI v))]) hx hb dX4_moveTo_34 hl (by decide) rfl (fun ls hl => ?_)
      refine lv_aload_n hx hb dX4_moveTo_36 rfl (lv_at hl 2 rfl) ?_
      refine xg_X4 hx hb hts hown hK hP0 0 rfl 0 (by decide) fk_X4_10 (v := .ref (b 0)) rfl dX4_moveTo_37 ?_
      refine xgN_X1 hx hb hts hown hK hP1 0 rfl 8 (by decide) fk_X4_123 (v := .ref (b 6)) rfl dX4_moveTo_40 ?_
      refine lv_iload_n hx hb dX4_moveTo_43 rfl (lv_at hl 3 rfl) ?_
      refine lv_iload_n hx hb dX4_moveTo_44 rfl (lv_at hl 4 rfl) ?_
      refine xi_ast hx hb hK hP hD hS 9 (f := pz 1 e1) rfl (i := r) (v := v) ⟨by omega, by omega⟩ rfl dX4_moveTo_45 (fun H locs hP hD hS => ?_)
      have hP := Eq.mp (congrArg (fun z9 : va_W => va_P g.1 vwCl (wX g a b d fo tp sh f1 f20 ++ (z9)) H) (Ls_cells (g := g) (a := b) (s := e1) (x10 := e10) (x11 := e11) (i := r) (v := v) ⟨by omega, by omega⟩)) hP
      have hD := Eq.mp (congrArg (fun z9 : va_W => va_D (va_A (wX g a b d fo tp sh f1 f20 ++ (wLs g b e1 e10 e11)) s.heap.size) (wX g a b d fo tp sh f1 f20 ++ (z9))) (Ls_cells (g := g) (a := b) (s := e1) (x10 := e10) (x11 := e11) (i := r) (v := v) ⟨by omega, by omega⟩)) hD
      have hP : va_P g.1 vwCl (wX g a b d fo tp sh f1 f20 ++ (wLs g b (up e1 (61 + 5 * r + 1) v) e10 e11)) H := hP
      have hD : va_D (va_A (wX g a b d fo tp sh f1 f20 ++ (wLs g b e1 e10 e11)) s.heap.size) (wX g a b d fo tp sh f1 f20 ++ (wLs g b (up e1 (61 + 5 * r + 1) v) e10 e11)) := hD
      obtain ⟨hP0, hP1⟩ := va_P_app.mp hP
      refine lv_iload hx hb dX4_moveTo_46 (lv_at hl 0 rfl) ?_
      have hP : va_P g.1 vwCl (wX g a b d fo tp sh f1 f20 ++ (wLs g b (up e1 (61 + 5 * r + 1) v) e10 e11)) H := hP
      have hD : va_D (va_A (wX g a b d fo tp sh f1 f20 ++ (wLs g b e1 e10 e11)) s.heap.size) (wX g a b d fo tp sh f1 f20 ++ (wLs g b (up e1 (61 + 5 * r + 1) v) e10 e11)) := hD
      exact W.iret hx hb hr (fun t ht hW => ⟨⟨_, (), rfl, rfl, by rw [ht]; exact hP, hD⟩, hS.F ht⟩) hS.2.2 dX4_moveTo_48
    · refine lv_aload_n hx hb dX4_moveTo_18 rfl (lv_at hl 1 rfl) ?_
      refine xi_ldc hx hb hown hts kk_X4_109 dX4_moveTo_19 ?_
      refine xmF_i (rV (rest := []) hx hb hml hown hts hK hl (c_X4_finding l g b d fo tp sh a f1 f20 (-1000000005) (s.heap).size (show 0 ≤ -1000000001 - (-1000000005) ∧ -1000000001 - (-1000000005) < 7 from by omega)) lk_X4_59 ⟨rfl, hP0, (va_D_app hD).1.weaken (fun _ _ _ _ => trivial)⟩ (va_recv hK.1 hP0 (ci := 4) (q0 := 0) rfl rfl) rfl rfl rfl (Rm.of rfl) rfl rfl dX4_moveTo_21) hP hD hS hA (fun x9 _ H locs hw hP hD hS => ?_)
      obtain rfl : x9 = iI (-1000000005) := hw
      have hP : va_P g.1 vwCl (wX g a b d fo tp sh (fb (-1000000000 - (-1000000005)) f1) f20 ++ (wLs g b e1 e10 e11)) H := hP
      have hD : va_D (va_A (wX g a b d fo tp sh f1 f20 ++ (wLs g b e1 e10 e11)) s.heap.size) (wX g a b d fo tp sh (fb (-1000000000 - (-1000000005)) f1) f20 ++ (wLs g b e1 e10 e11)) := hD
      obtain ⟨hP0, hP1⟩ := va_P_app.mp hP
      have he5 : (fb (-1000000000 - (-1000000005)) f1) = f1 := by exfalso; omega
      have hP := Eq.mp (congrArg (fun z9 => va_P g.1 vwCl (wX g a b d fo tp sh z9 f20 ++ (wLs g b e1 e10 e11)) H) he5) hP
      have hD := Eq.mp (congrArg (fun z9 => va_D (va_A (wX g a b d fo tp sh f1 f20 ++ (wLs g b e1 e10 e11)) s.heap.size) (wX g a b d fo tp sh z9 f20 ++ (wLs g b e1 e10 e11))) he5) hD
      obtain ⟨hP0, hP1⟩ := va_P_app.mp hP
      have he6 : e1 = (up e1 (61 + 5 * r + 1) v) := by exfalso; omega
      have hP := Eq.mp (congrArg (fun z9 => va_P g.1 vwCl (wX g a b d fo tp sh f1 f20 ++ (wLs g b z9 e10 e11)) H) he6) hP
      have hD := Eq.mp (congrArg (fun z9 => va_D (va_A (wX g a b d fo tp sh f1 f20 ++ (wLs g b e1 e10 e11)) s.heap.size) (wX g a b d fo tp sh f1 f20 ++ (wLs g b z9 e10 e11))) he6) hD
      obtain ⟨hP0, hP1⟩ := va_P_app.mp hP
      have hP : va_P g.1 vwCl (wX g a b d fo tp sh f1 f20 ++ (wLs g b (up e1 (61 + 5 * r + 1) v) e10 e11)) H := hP
      have hD : va_D (va_A (wX g a b d fo tp sh f1 f20 ++ (wLs g b e1 e10 e11)) s.heap.size) (wX g a b d fo tp sh f1 f20 ++ (wLs g b (up e1 (61 + 5 * r + 1) v) e10 e11)) := hD
      exact W.iret hx hb hr (fun t ht hW => ⟨⟨_, (), rfl, by exfalso; omega, by rw [ht]; exact hP, hD⟩, hS.F ht⟩) hS.2.2 dX4_moveTo_24
abbrev rm_X4_set : Room := { frames := 2, cells := 0, slots := 0, locals := 46 }
set_option maxRecDepth 100000 in
set_option maxHeartbeats 4000000 in
theorem c_X4_set (l : Launch) (g : Gd) (d : Nat → Nat) (fo : Nat → Nat) (tp : Nat → Nat) (sh : Nat → Nat) (a : Nat → Nat) (f1 : Int → Int) (f20 : Int) (b : Nat → Nat) (e1 : Int → Int) (e10 : Int → Int) (e11 : Int → Int) (r : Int) (w : Int) (v : Int) (sz : Nat) (h1 : InvK 0 e1) (h2 : e1 0 ≤ 9999) (h3 : IR r) (h4 : IR w) (h5 : IR v) : Met l yX4_set (wsOf yX4_set cX4_set 5 (some .int)) rm_X4_set (PX g (wP g (wX g a b d fo tp sh f1 f20 ++ (wLs g b e1 e10 e11)) sz) [.ref (a 0), .int (iI r), .int (iI w), .int (iI v)]) (QMi g (fun _ : Unit => wX g a b d fo tp sh (fb (fSet e1 r w v) f1) f20 ++ (wLs g b (if fSet e1 r w v = 0 then up e1 (61 + 5 * r + w) v else e1) e10 e11)) (fun r9 _ => r9 = ab (fSet e1 r w v) (iI (e1 (61 + 5 * r + w)))) (va_A (wX g a b d fo tp sh f1 f20 ++ (wLs g b e1 e10 e11)) sz)) 0 0 (va_A (wX g a b d fo tp sh f1 f20 ++ (wLs g b e1 e10 e11)) sz) := by
  refine me (g := g) (by decide) rfl ?_
  intro pq eq s mq below meth cq C hnm hB ls hl
  obtain ⟨hx, hb, hr, hml, hown, hts, hlocks, hK⟩ := C
  have hown : s.vm.findClass RX4 = some mq.cls := hown
  have hl : lv_has ls 5 [(0, .ref (a 0)), (1, .int (iI r)), (2, .int (iI w)), (3, .int (iI v))] := hl
  obtain ⟨hsz, hP, hD0⟩ := hB
  subst hsz
  have hD := hD0.self (sz := s.heap.size)
  have hA : ∀ q : Nat, s.heap.size ≤ q → va_A (wX g a b d fo tp sh f1 f20 ++ (wLs g b e1 e10 e11)) s.heap.size q := fun q h => Or.inr h
  have hS : va_S (va_A (wX g a b d fo tp sh f1 f20 ++ (wLs g b e1 e10 e11)) s.heap.size) s.heap s.heap [] := va_S.rf
  obtain ⟨hP0, hP1⟩ := va_P_app.mp hP
  have hI := h1
  have hI8 : Inv e1 := h1.mono (by omega)
  have hn := hI.num
  have hs := hI.sea
  have hv := hI.vil
  have q1 := h3.1
  have q3 := h4.1
  have q5 := h5.1
  have q2 := h3.2
  have q4 := h4.2
  have q6 := h5.2
  have hw := who_b (s := e1) v hn
  refine lv_aload_n hx hb dX4_set_0 rfl (lv_at hl 0 rfl) ?_
  refine lv_iload_n hx hb dX4_set_1 rfl (lv_at hl 1 rfl) ?_
  refine xu_b (P := 0 ≤ r ∧ r < e1 1) (rV (rest := []) hx hb hml hown hts hK hl (c_X4_isRange l g d fo tp sh a f1 f20 b e1 e10 e11 r (show IR r from ⟨by omega, by omega⟩) (show 0 ≤ e1 1 ∧ e1 1 ≤ 8 from by omega)) lk_X4_117 (va_P_app.mpr ⟨hP0, hP1⟩) (va_recv hK.1 hP0 (ci := 4) (q0 := 0) rfl rfl) rfl rfl rfl (Rm.of rfl) rfl rfl dX4_set_2) (fun z1 => ?_) (fun z1 => ?_)
  · refine xi_zt_ne (tgt := 15) hx hb ⟨by decide, by decide⟩ (by decide) dX4_set_5 (by decide) ?_
    refine lv_iload_n hx hb dX4_set_15 rfl (lv_at hl 2 rfl) ?_
    refine lv_iconst (v := iI (1)) hx hb dX4_set_16 (by decide) ?_
    refine xi_c_ne (tgt := 34) hx hb ⟨by omega, by omega⟩ ⟨by decide, by decide⟩ dX4_set_17 (by decide) (fun z2 => ?_) (fun z2 => ?_)
    · refine lv_iload_n hx hb dX4_set_34 rfl (lv_at hl 2 rfl) ?_
      refine lv_iconst (v := iI (2)) hx hb dX4_set_35 (by decide) ?_
      refine xi_c_ne (tgt := 73) hx hb ⟨by omega, by omega⟩ ⟨by decide, by decide⟩ dX4_set_36 (by decide) (fun z3 => ?_) (fun z3 => ?_)
      · refine lv_aload_n hx hb dX4_set_73 rfl (lv_at hl 0 rfl) ?_
        refine xi_ldc hx hb hown hts kk_X4_58 dX4_set_74 ?_
        refine xmF_i (rV (rest := []) hx hb hml hown hts hK hl (c_X4_finding l g b d fo tp sh a f1 f20 (-1000000001) (s.heap).size (show 0 ≤ -1000000001 - (-1000000001) ∧ -1000000001 - (-1000000001) < 7 from by omega)) lk_X4_59 ⟨rfl, hP0, (va_D_app hD).1.weaken (fun _ _ _ _ => trivial)⟩ (va_recv hK.1 hP0 (ci := 4) (q0 := 0) rfl rfl) rfl rfl rfl (Rm.of rfl) rfl rfl dX4_set_76) hP hD hS hA (fun x9 _ H locs hw hP hD hS => ?_)
        obtain rfl : x9 = iI (-1000000001) := hw
        have hP : va_P g.1 vwCl (wX g a b d fo tp sh (fb (-1000000000 - (-1000000001)) f1) f20 ++ (wLs g b e1 e10 e11)) H := hP
        have hD : va_D (va_A (wX g a b d fo tp sh f1 f20 ++ (wLs g b e1 e10 e11)) s.heap.size) (wX g a b d fo tp sh (fb (-1000000000 - (-1000000001)) f1) f20 ++ (wLs g b e1 e10 e11)) := hD
        obtain ⟨hP0, hP1⟩ := va_P_app.mp hP
        have hf : fSet e1 r w v = 1 := by unfold fSet; (repeat (first | rw [if_pos (by omega)] | rw [if_neg (by omega)])); first | done | (exfalso; omega)
        have he5 : (fb (-1000000000 - (-1000000001)) f1) = (fb (fSet e1 r w v) f1) := by rw [hf]; rfl
        have hP := Eq.mp (congrArg (fun z9 => va_P g.1 vwCl (wX g a b d fo tp sh z9 f20 ++ (wLs g b e1 e10 e11)) H) he5) hP
        have hD := Eq.mp (congrArg (fun z9 => va_D (va_A (wX g a b d fo tp sh f1 f20 ++ (wLs g b e1 e10 e11)) s.heap.size) (wX g a b d fo tp sh z9 f20 ++ (wLs g b e1 e10 e11))) he5) hD
        obtain ⟨hP0, hP1⟩ := va_P_app.mp hP
        have he6 : e1 = (if fSet e1 r w v = 0 then up e1 (61 + 5 * r + w) v else e1) := by rw [hf]; rfl
        have hP := Eq.mp (congrArg (fun z9 => va_P g.1 vwCl (wX g a b d fo tp sh (fb (fSet e1 r w v) f1) f20 ++ (wLs g b z9 e10 e11)) H) he6) hP
        have hD := Eq.mp (congrArg (fun z9 => va_D (va_A (wX g a b d fo tp sh f1 f20 ++ (wLs g b e1 e10 e11)) s.heap.size) (wX g a b d fo tp sh (fb (fSet e1 r w v) f1) f20 ++ (wLs g b z9 e10 e11))) he6) hD
        obtain ⟨hP0, hP1⟩ := va_P_app.mp hP
        have hP : va_P g.1 vwCl (wX g a b d fo tp sh (fb (fSet e1 r w v) f1) f20 ++ (wLs g b (if fSet e1 r w v = 0 then up e1 (61 + 5 * r + w) v else e1) e10 e11)) H := hP
        have hD : va_D (va_A (wX g a b d fo tp sh f1 f20 ++ (wLs g b e1 e10 e11)) s.heap.size) (wX g a b d fo tp sh (fb (fSet e1 r w v) f1) f20 ++ (wLs g b (if fSet e1 r w v = 0 then up e1 (61 + 5 * r + w) v else e1) e10 e11)) := hD
        exact W.iret hx hb hr (fun t ht hW => ⟨⟨_, (), rfl, by rw [hf]; rfl, by rw [ht]; exact hP, hD⟩, hS.F ht⟩) hS.2.2 dX4_set_79
      · refine lv_iload_n hx hb dX4_set_39 rfl (lv_at hl 3 rfl) ?_
        refine lv_iconst (v := iI (0)) hx hb dX4_set_40 (by decide) ?_
        refine lv_bipush (v := iI (9)) hx hb dX4_set_41 (by decide) ?_
        refine xu_b (P := 0 ≤ v ∧ v ≤ 9) (rS (rest := []) hx hb hml hown hts hK hl (c_X4_isBetween l g v 0 9 (show IR v from ⟨by omega, by omega⟩) (show IR 0 from ⟨by omega, by omega⟩) (show IR 9 from ⟨by omega, by omega⟩)) lk_X4_99 trivial rfl rfl rfl (Rm.of rfl) rfl rfl dX4_set_43) (fun z7 => ?_) (fun z7 => ?_)
        · refine xi_zf_eq hx hb ⟨by decide, by decide⟩ (by decide) dX4_set_46 ⟨73, by decide⟩ ?_
          refine lv_aload_n hx hb dX4_set_49 rfl (lv_at hl 0 rfl) ?_
          refine xg_X4 hx hb hts hown hK hP0 0 rfl 0 (by decide) fk_X4_10 (v := .ref (b 0)) rfl dX4_set_50 ?_
          refine xgN_X1 hx hb hts hown hK hP1 0 rfl 9 (by decide) fk_X4_126 (v := .ref (b 7)) rfl dX4_set_53 ?_
          refine lv_iload_n hx hb dX4_set_56 rfl (lv_at hl 1 rfl) ?_
          refine xi_alz hx hb hK hP1 7 (s0 := e1) rfl (i := r) ⟨by omega, by omega⟩ rfl dX4_set_57 ?_
          refine lv_istore (lv' := [(4, .int (iI (e1 (61 + 5 * r + 2)))), (0, .ref (a 0)), (1, .int (iI r)), (2, .int (iI w)), (3, .int (iI v))]) hx hb dX4_set_58 hl (by decide) rfl (fun ls hl => ?_)
          refine lv_aload_n hx hb dX4_set_60 rfl (lv_at hl 1 rfl) ?_
          refine xg_X4 hx hb hts hown hK hP0 0 rfl 0 (by decide) fk_X4_10 (v := .ref (b 0)) rfl dX4_set_61 ?_
          refine xgN_X1 hx hb hts hown hK hP1 0 rfl 9 (by decide) fk_X4_126 (v := .ref (b 7)) rfl dX4_set_64 ?_
          refine lv_iload_n hx hb dX4_set_67 rfl (lv_at hl 2 rfl) ?_
          refine lv_iload_n hx hb dX4_set_68 rfl (lv_at hl 4 rfl) ?_
          refine xi_ast hx hb hK hP hD hS 10 (f := pz 2 e1) rfl (i := r) (v := v) ⟨by omega, by omega⟩ rfl dX4_set_69 (fun H locs hP hD hS => ?_)
          have hP := Eq.mp (congrArg (fun z9 : va_W => va_P g.1 vwCl (wX g a b d fo tp sh f1 f20 ++ (z9)) H) (Ls_hastes (g := g) (a := b) (s := e1) (x10 := e10) (x11 := e11) (i := r) (v := v) ⟨by omega, by omega⟩)) hP
          have hD := Eq.mp (congrArg (fun z9 : va_W => va_D (va_A (wX g a b d fo tp sh f1 f20 ++ (wLs g b e1 e10 e11)) s.heap.size) (wX g a b d fo tp sh f1 f20 ++ (z9))) (Ls_hastes (g := g) (a := b) (s := e1) (x10 := e10) (x11 := e11) (i := r) (v := v) ⟨by omega, by omega⟩)) hD
          have hP : va_P g.1 vwCl (wX g a b d fo tp sh f1 f20 ++ (wLs g b (up e1 (61 + 5 * r + 2) v) e10 e11)) H := hP
          have hD : va_D (va_A (wX g a b d fo tp sh f1 f20 ++ (wLs g b e1 e10 e11)) s.heap.size) (wX g a b d fo tp sh f1 f20 ++ (wLs g b (up e1 (61 + 5 * r + 2) v) e10 e11)) := hD
          obtain ⟨hP0, hP1⟩ := va_P_app.mp hP
          refine lv_iload hx hb dX4_set_70 (lv_at hl 0 rfl) ?_
          have hf : fSet e1 r w v = 0 := by unfold fSet; (repeat (first | rw [if_pos (by omega)] | rw [if_neg (by omega)])); first | done | (exfalso; omega)
          have he8 : f1 = (fb (fSet e1 r w v) f1) := by rw [hf]; rfl
          have hP := Eq.mp (congrArg (fun z9 => va_P g.1 vwCl (wX g a b d fo tp sh z9 f20 ++ (wLs g b (up e1 (61 + 5 * r + 2) v) e10 e11)) H) he8) hP
          have hD := Eq.mp (congrArg (fun z9 => va_D (va_A (wX g a b d fo tp sh f1 f20 ++ (wLs g b e1 e10 e11)) s.heap.size) (wX g a b d fo tp sh z9 f20 ++ (wLs g b (up e1 (61 + 5 * r + 2) v) e10 e11))) he8) hD
          obtain ⟨hP0, hP1⟩ := va_P_app.mp hP
          have he9 : (up e1 (61 + 5 * r + 2) v) = (if fSet e1 r w v = 0 then up e1 (61 + 5 * r + w) v else e1) := by rw [hf, if_pos rfl]; first | (rw [show w = 1 by omega]; done) | (rw [show w = 2 by omega]; done)
          have hP := Eq.mp (congrArg (fun z9 => va_P g.1 vwCl (wX g a b d fo tp sh (fb (fSet e1 r w v) f1) f20 ++ (wLs g b z9 e10 e11)) H) he9) hP
          have hD := Eq.mp (congrArg (fun z9 => va_D (va_A (wX g a b d fo tp sh f1 f20 ++ (wLs g b e1 e10 e11)) s.heap.size) (wX g a b d fo tp sh (fb (fSet e1 r w v) f1) f20 ++ (wLs g b z9 e10 e11))) he9) hD
          obtain ⟨hP0, hP1⟩ := va_P_app.mp hP
          have hP : va_P g.1 vwCl (wX g a b d fo tp sh (fb (fSet e1 r w v) f1) f20 ++ (wLs g b (if fSet e1 r w v = 0 then up e1 (61 + 5 * r + w) v else e1) e10 e11)) H := hP
          have hD : va_D (va_A (wX g a b d fo tp sh f1 f20 ++ (wLs g b e1 e10 e11)) s.heap.size) (wX g a b d fo tp sh (fb (fSet e1 r w v) f1) f20 ++ (wLs g b (if fSet e1 r w v = 0 then up e1 (61 + 5 * r + w) v else e1) e10 e11)) := hD
          exact W.iret hx hb hr (fun t ht hW => ⟨⟨_, (), rfl, by rw [hf, ab_0]; exact congrArg iI (by first | (rw [show w = 1 by omega]; done) | (rw [show w = 2 by omega]; done)), by rw [ht]; exact hP, hD⟩, hS.F ht⟩) hS.2.2 dX4_set_72
        · refine xi_zt_eq (tgt := 73) hx hb ⟨by decide, by decide⟩ (by decide) dX4_set_46 (by decide) ?_
          refine lv_aload_n hx hb dX4_set_73 rfl (lv_at hl 0 rfl) ?_
          refine xi_ldc hx hb hown hts kk_X4_58 dX4_set_74 ?_
          refine xmF_i (rV (rest := []) hx hb hml hown hts hK hl (c_X4_finding l g b d fo tp sh a f1 f20 (-1000000001) (s.heap).size (show 0 ≤ -1000000001 - (-1000000001) ∧ -1000000001 - (-1000000001) < 7 from by omega)) lk_X4_59 ⟨rfl, hP0, (va_D_app hD).1.weaken (fun _ _ _ _ => trivial)⟩ (va_recv hK.1 hP0 (ci := 4) (q0 := 0) rfl rfl) rfl rfl rfl (Rm.of rfl) rfl rfl dX4_set_76) hP hD hS hA (fun x9 _ H locs hw hP hD hS => ?_)
          obtain rfl : x9 = iI (-1000000001) := hw
          have hP : va_P g.1 vwCl (wX g a b d fo tp sh (fb (-1000000000 - (-1000000001)) f1) f20 ++ (wLs g b e1 e10 e11)) H := hP
          have hD : va_D (va_A (wX g a b d fo tp sh f1 f20 ++ (wLs g b e1 e10 e11)) s.heap.size) (wX g a b d fo tp sh (fb (-1000000000 - (-1000000001)) f1) f20 ++ (wLs g b e1 e10 e11)) := hD
          obtain ⟨hP0, hP1⟩ := va_P_app.mp hP
          have hf : fSet e1 r w v = 1 := by unfold fSet; (repeat (first | rw [if_pos (by omega)] | rw [if_neg (by omega)])); first | done | (exfalso; omega)
          have he11 : (fb (-1000000000 - (-1000000001)) f1) = (fb (fSet e1 r w v) f1) := by rw [hf]; rfl
          have hP := Eq.mp (congrArg (fun z9 => va_P g.1 vwCl (wX g a b d fo tp sh z9 f20 ++ (wLs g b e1 e10 e11)) H) he11) hP
          have hD := Eq.mp (congrArg (fun z9 => va_D (va_A (wX g a b d fo tp sh f1 f20 ++ (wLs g b e1 e10 e11)) s.heap.size) (wX g a b d fo tp sh z9 f20 ++ (wLs g b e1 e10 e11))) he11) hD
          obtain ⟨hP0, hP1⟩ := va_P_app.mp hP
          have he12 : e1 = (if fSet e1 r w v = 0 then up e1 (61 + 5 * r + w) v else e1) := by rw [hf]; rfl
          have hP := Eq.mp (congrArg (fun z9 => va_P g.1 vwCl (wX g a b d fo tp sh (fb (fSet e1 r w v) f1) f20 ++ (wLs g b z9 e10 e11)) H) he12) hP
          have hD := Eq.mp (congrArg (fun z9 => va_D (va_A (wX g a b d fo tp sh f1 f20 ++ (wLs g b e1 e10 e11)) s.heap.size) (wX g a b d fo tp sh (fb (fSet e1 r w v) f1) f20 ++ (wLs g b z9 e10 e11))) he12) hD
          obtain ⟨hP0, hP1⟩ := va_P_app.mp hP
          have hP : va_P g.1 vwCl (wX g a b d fo tp sh (fb (fSet e1 r w v) f1) f20 ++ (wLs g b (if fSet e1 r w v = 0 then up e1 (61 + 5 * r + w) v else e1) e10 e11)) H := hP
          have hD : va_D (va_A (wX g a b d fo tp sh f1 f20 ++ (wLs g b e1 e10 e11)) s.heap.size) (wX g a b d fo tp sh (fb (fSet e1 r w v) f1) f20 ++ (wLs g b (if fSet e1 r w v = 0 then up e1 (61 + 5 * r + w) v else e1) e10 e11)) := hD
          exact W.iret hx hb hr (fun t ht hW => ⟨⟨_, (), rfl, by rw [hf]; rfl, by rw [ht]; exact hP, hD⟩, hS.F ht⟩) hS.2.2 dX4_set_79
    · refine lv_iload_n hx hb dX4_set_20 rfl (lv_at hl 3 rfl) ?_
      refine xu_b (P := 0 ≤ v ∧ v ≤ 23) (rS (rest := []) hx hb hml hown hts hK hl (c_X4_isCell l g v (show IR v from ⟨by omega, by omega⟩)) lk_X4_50 trivial rfl rfl rfl (Rm.of rfl) rfl rfl dX4_set_21) (fun z13 => ?_) (fun z13 => ?_)
      · refine xi_zf_eq hx hb ⟨by decide, by decide⟩ (by decide) dX4_set_24 ⟨34, by decide⟩ ?_
        refine lv_aload_n hx hb dX4_set_27 rfl (lv_at hl 0 rfl) ?_
        refine lv_iload_n hx hb dX4_set_28 rfl (lv_at hl 1 rfl) ?_
        refine lv_iload_n hx hb dX4_set_29 rfl (lv_at hl 3 rfl) ?_
        rcases (show (0 ≤ who e1 v ∧ who e1 v ≠ r) ∨ (¬ (0 ≤ who e1 v ∧ who e1 v ≠ r)) from Decidable.em _) with z14 | z14
        · refine xm_i (rV (rest := []) hx hb hml hown hts hK hl (c_X4_moveToN l g d fo tp sh a f1 f20 b e1 e10 e11 r v (s.heap).size (show InvK 0 e1 from h1) (show 0 ≤ r ∧ r < e1 1 from by omega) (show 0 ≤ v ∧ v ≤ 23 from by omega) (show 0 ≤ who e1 v ∧ who e1 v ≠ r from by omega)) lk_X4_144 ⟨rfl, hP, hD.weaken (fun _ _ _ _ => trivial)⟩ (va_recv hK.1 hP0 (ci := 4) (q0 := 0) rfl rfl) rfl rfl rfl (Rm.of rfl) rfl rfl dX4_set_30) hD hS hA (fun x9 _ H locs hw hP hD hS => ?_)
          obtain rfl : x9 = iI (-1000000005) := hw
          have hP : va_P g.1 vwCl (wX g a b d fo tp sh (fb (-1000000000 - (-1000000005)) f1) f20 ++ (wLs g b e1 e10 e11)) H := hP
          have hD : va_D (va_A (wX g a b d fo tp sh f1 f20 ++ (wLs g b e1 e10 e11)) s.heap.size) (wX g a b d fo tp sh (fb (-1000000000 - (-1000000005)) f1) f20 ++ (wLs g b e1 e10 e11)) := hD
          obtain ⟨hP0, hP1⟩ := va_P_app.mp hP
          have hf : fSet e1 r w v = 5 := by unfold fSet; (repeat (first | rw [if_pos (by omega)] | rw [if_neg (by omega)])); first | done | (exfalso; omega)
          have he16 : (fb (-1000000000 - (-1000000005)) f1) = (fb (fSet e1 r w v) f1) := by rw [hf]; rfl
          have hP := Eq.mp (congrArg (fun z9 => va_P g.1 vwCl (wX g a b d fo tp sh z9 f20 ++ (wLs g b e1 e10 e11)) H) he16) hP
          have hD := Eq.mp (congrArg (fun z9 => va_D (va_A (wX g a b d fo tp sh f1 f20 ++ (wLs g b e1 e10 e11)) s.heap.size) (wX g a b d fo tp sh z9 f20 ++ (wLs g b e1 e10 e11))) he16) hD
          obtain ⟨hP0, hP1⟩ := va_P_app.mp hP
          have he17 : e1 = (if fSet e1 r w v = 0 then up e1 (61 + 5 * r + w) v else e1) := by rw [hf]; rfl
          have hP := Eq.mp (congrArg (fun z9 => va_P g.1 vwCl (wX g a b d fo tp sh (fb (fSet e1 r w v) f1) f20 ++ (wLs g b z9 e10 e11)) H) he17) hP
          have hD := Eq.mp (congrArg (fun z9 => va_D (va_A (wX g a b d fo tp sh f1 f20 ++ (wLs g b e1 e10 e11)) s.heap.size) (wX g a b d fo tp sh (fb (fSet e1 r w v) f1) f20 ++ (wLs g b z9 e10 e11))) he17) hD
          obtain ⟨hP0, hP1⟩ := va_P_app.mp hP
          have hP : va_P g.1 vwCl (wX g a b d fo tp sh (fb (fSet e1 r w v) f1) f20 ++ (wLs g b (if fSet e1 r w v = 0 then up e1 (61 + 5 * r + w) v else e1) e10 e11)) H := hP
          have hD : va_D (va_A (wX g a b d fo tp sh f1 f20 ++ (wLs g b e1 e10 e11)) s.heap.size) (wX g a b d fo tp sh (fb (fSet e1 r w v) f1) f20 ++ (wLs g b (if fSet e1 r w v = 0 then up e1 (61 + 5 * r + w) v else e1) e10 e11)) := hD
          exact W.iret hx hb hr (fun t ht hW => ⟨⟨_, (), rfl, by rw [hf]; rfl, by rw [ht]; exact hP, hD⟩, hS.F ht⟩) hS.2.2 dX4_set_33
        · refine xm_i (rV (rest := []) hx hb hml hown hts hK hl (c_X4_moveToP l g d fo tp sh a f1 f20 b e1 e10 e11 r v (s.heap).size (show InvK 0 e1 from h1) (show 0 ≤ r ∧ r < e1 1 from by omega) (show 0 ≤ v ∧ v ≤ 23 from by omega) (show ¬ (0 ≤ who e1 v ∧ who e1 v ≠ r) from by omega)) lk_X4_144 ⟨rfl, hP, hD.weaken (fun _ _ _ _ => trivial)⟩ (va_recv hK.1 hP0 (ci := 4) (q0 := 0) rfl rfl) rfl rfl rfl (Rm.of rfl) rfl rfl dX4_set_30) hD hS hA (fun x9 _ H locs hw hP hD hS => ?_)
          obtain rfl : x9 = iI (e1 (61 + 5 * r + 1)) := hw
          have hP : va_P g.1 vwCl (wX g a b d fo tp sh f1 f20 ++ (wLs g b (up e1 (61 + 5 * r + 1) v) e10 e11)) H := hP
          have hD : va_D (va_A (wX g a b d fo tp sh f1 f20 ++ (wLs g b e1 e10 e11)) s.heap.size) (wX g a b d fo tp sh f1 f20 ++ (wLs g b (up e1 (61 + 5 * r + 1) v) e10 e11)) := hD
          obtain ⟨hP0, hP1⟩ := va_P_app.mp hP
          have hf : fSet e1 r w v = 0 := by unfold fSet; (repeat (first | rw [if_pos (by omega)] | rw [if_neg (by omega)])); first | done | (exfalso; omega)
          have he19 : f1 = (fb (fSet e1 r w v) f1) := by rw [hf]; rfl
          have hP := Eq.mp (congrArg (fun z9 => va_P g.1 vwCl (wX g a b d fo tp sh z9 f20 ++ (wLs g b (up e1 (61 + 5 * r + 1) v) e10 e11)) H) he19) hP
          have hD := Eq.mp (congrArg (fun z9 => va_D (va_A (wX g a b d fo tp sh f1 f20 ++ (wLs g b e1 e10 e11)) s.heap.size) (wX g a b d fo tp sh z9 f20 ++ (wLs g b (up e1 (61 + 5 * r + 1) v) e10 e11))) he19) hD
          obtain ⟨hP0, hP1⟩ := va_P_app.mp hP
          have he20 : (up e1 (61 + 5 * r + 1) v) = (if fSet e1 r w v = 0 then up e1 (61 + 5 * r + w) v else e1) := by rw [hf, if_pos rfl]; first | (rw [show w = 1 by omega]; done) | (rw [show w = 2 by omega]; done)
          have hP := Eq.mp (congrArg (fun z9 => va_P g.1 vwCl (wX g a b d fo tp sh (fb (fSet e1 r w v) f1) f20 ++ (wLs g b z9 e10 e11)) H) he20) hP
          have hD := Eq.mp (congrArg (fun z9 => va_D (va_A (wX g a b d fo tp sh f1 f20 ++ (wLs g b e1 e10 e11)) s.heap.size) (wX g a b d fo tp sh (fb (fSet e1 r w v) f1) f20 ++ (wLs g b z9 e10 e11))) he20) hD
          obtain ⟨hP0, hP1⟩ := va_P_app.mp hP
          have hP : va_P g.1 vwCl (wX g a b d fo tp sh (fb (fSet e1 r w v) f1) f20 ++ (wLs g b (if fSet e1 r w v = 0 then up e1 (61 + 5 * r + w) v else e1) e10 e11)) H := hP
          have hD : va_D (va_A (wX g a b d fo tp sh f1 f20 ++ (wLs g b e1 e10 e11)) s.heap.size) (wX g a b d fo tp sh (fb (fSet e1 r w v) f1) f20 ++ (wLs g b (if fSet e1 r w v = 0 then up e1 (61 + 5 * r + w) v else e1) e10 e11)) := hD
          exact W.iret hx hb hr (fun t ht hW => ⟨⟨_, (), rfl, by rw [hf, ab_0]; exact congrArg iI (by first | (rw [show w = 1 by omega]; done) | (rw [show w = 2 by omega]; done)), by rw [ht]; exact hP, hD⟩, hS.F ht⟩) hS.2.2 dX4_set_33
      · refine xi_zt_eq (tgt := 34) hx hb ⟨by decide, by decide⟩ (by decide) dX4_set_24 (by decide) ?_
        refine lv_iload_n hx hb dX4_set_34 rfl (lv_at hl 2 rfl) ?_
        refine lv_iconst (v := iI (2)) hx hb dX4_set_35 (by decide) ?_
        refine xi_c_ne (tgt := 73) hx hb ⟨by omega, by omega⟩ ⟨by decide, by decide⟩ dX4_set_36 (by decide) (fun z21 => ?_) (fun z21 => ?_)
        · refine lv_aload_n hx hb dX4_set_73 rfl (lv_at hl 0 rfl) ?_
          refine xi_ldc hx hb hown hts kk_X4_58 dX4_set_74 ?_
          refine xmF_i (rV (rest := []) hx hb hml hown hts hK hl (c_X4_finding l g b d fo tp sh a f1 f20 (-1000000001) (s.heap).size (show 0 ≤ -1000000001 - (-1000000001) ∧ -1000000001 - (-1000000001) < 7 from by omega)) lk_X4_59 ⟨rfl, hP0, (va_D_app hD).1.weaken (fun _ _ _ _ => trivial)⟩ (va_recv hK.1 hP0 (ci := 4) (q0 := 0) rfl rfl) rfl rfl rfl (Rm.of rfl) rfl rfl dX4_set_76) hP hD hS hA (fun x9 _ H locs hw hP hD hS => ?_)
          obtain rfl : x9 = iI (-1000000001) := hw
          have hP : va_P g.1 vwCl (wX g a b d fo tp sh (fb (-1000000000 - (-1000000001)) f1) f20 ++ (wLs g b e1 e10 e11)) H := hP
          have hD : va_D (va_A (wX g a b d fo tp sh f1 f20 ++ (wLs g b e1 e10 e11)) s.heap.size) (wX g a b d fo tp sh (fb (-1000000000 - (-1000000001)) f1) f20 ++ (wLs g b e1 e10 e11)) := hD
          obtain ⟨hP0, hP1⟩ := va_P_app.mp hP
          have hf : fSet e1 r w v = 1 := by unfold fSet; (repeat (first | rw [if_pos (by omega)] | rw [if_neg (by omega)])); first | done | (exfalso; omega)
          have he23 : (fb (-1000000000 - (-1000000001)) f1) = (fb (fSet e1 r w v) f1) := by rw [hf]; rfl
          have hP := Eq.mp (congrArg (fun z9 => va_P g.1 vwCl (wX g a b d fo tp sh z9 f20 ++ (wLs g b e1 e10 e11)) H) he23) hP
          have hD := Eq.mp (congrArg (fun z9 => va_D (va_A (wX g a b d fo tp sh f1 f20 ++ (wLs g b e1 e10 e11)) s.heap.size) (wX g a b d fo tp sh z9 f20 ++ (wLs g b e1 e10 e11))) he23) hD
          obtain ⟨hP0, hP1⟩ := va_P_app.mp hP
          have he24 : e1 = (if fSet e1 r w v = 0 then up e1 (61 + 5 * r + w) v else e1) := by rw [hf]; rfl
          have hP := Eq.mp (congrArg (fun z9 => va_P g.1 vwCl (wX g a b d fo tp sh (fb (fSet e1 r w v) f1) f20 ++ (wLs g b z9 e10 e11)) H) he24) hP
          have hD := Eq.mp (congrArg (fun z9 => va_D (va_A (wX g a b d fo tp sh f1 f20 ++ (wLs g b e1 e10 e11)) s.heap.size) (wX g a b d fo tp sh (fb (fSet e1 r w v) f1) f20 ++ (wLs g b z9 e10 e11))) he24) hD
          obtain ⟨hP0, hP1⟩ := va_P_app.mp hP
          have hP : va_P g.1 vwCl (wX g a b d fo tp sh (fb (fSet e1 r w v) f1) f20 ++ (wLs g b (if fSet e1 r w v = 0 then up e1 (61 + 5 * r + w) v else e1) e10 e11)) H := hP
          have hD : va_D (va_A (wX g a b d fo tp sh f1 f20 ++ (wLs g b e1 e10 e11)) s.heap.size) (wX g a b d fo tp sh (fb (fSet e1 r w v) f1) f20 ++ (wLs g b (if fSet e1 r w v = 0 then up e1 (61 + 5 * r + w) v else e1) e10 e11)) := hD
          exact W.iret hx hb hr (fun t ht hW => ⟨⟨_, (), rfl, by rw [hf]; rfl, by rw [ht]; exact hP, hD⟩, hS.F ht⟩) hS.2.2 dX4_set_79
        · refine lv_iload_n hx hb dX4_set_39 rfl (lv_at hl 3 rfl) ?_
          refine lv_iconst (v := iI (0)) hx hb dX4_set_40 (by decide) ?_
          refine lv_bipush (v := iI (9)) hx hb dX4_set_41 (by decide) ?_
          refine xu_b (P := 0 ≤ v ∧ v ≤ 9) (rS (rest := []) hx hb hml hown hts hK hl (c_X4_isBetween l g v 0 9 (show IR v from ⟨by omega, by omega⟩) (show IR 0 from ⟨by omega, by omega⟩) (show IR 9 from ⟨by omega, by omega⟩)) lk_X4_99 trivial rfl rfl rfl (Rm.of rfl) rfl rfl dX4_set_43) (fun z25 => ?_) (fun z25 => ?_)
          · refine xi_zf_eq hx hb ⟨by decide, by decide⟩ (by decide) dX4_set_46 ⟨73, by decide⟩ ?_
            refine lv_aload_n hx hb dX4_set_49 rfl (lv_at hl 0 rfl) ?_
            refine xg_X4 hx hb hts hown hK hP0 0 rfl 0 (by decide) fk_X4_10 (v := .ref (b 0)) rfl dX4_set_50 ?_
            refine xgN_X1 hx hb hts hown hK hP1 0 rfl 9 (by decide) fk_X4_126 (v := .ref (b 7)) rfl dX4_set_53 ?_
            refine lv_iload_n hx hb dX4_set_56 rfl (lv_at hl 1 rfl) ?_
            refine xi_alz hx hb hK hP1 7 (s0 := e1) rfl (i := r) ⟨by omega, by omega⟩ rfl dX4_set_57 ?_
            refine lv_istore (lv' := [(4, .int (iI (e1 (61 + 5 * r + 2)))), (0, .ref (a 0)), (1, .int (iI r)), (2, .int (iI w)), (3, .int (iI v))]) hx hb dX4_set_58 hl (by decide) rfl (fun ls hl => ?_)
            refine lv_aload_n hx hb dX4_set_60 rfl (lv_at hl 1 rfl) ?_
            refine xg_X4 hx hb hts hown hK hP0 0 rfl 0 (by decide) fk_X4_10 (v := .ref (b 0)) rfl dX4_set_61 ?_
            refine xgN_X1 hx hb hts hown hK hP1 0 rfl 9 (by decide) fk_X4_126 (v := .ref (b 7)) rfl dX4_set_64 ?_
            refine lv_iload_n hx hb dX4_set_67 rfl (lv_at hl 2 rfl) ?_
            refine lv_iload_n hx hb dX4_set_68 rfl (lv_at hl 4 rfl) ?_
            refine xi_ast hx hb hK hP hD hS 10 (f := pz 2 e1) rfl (i := r) (v := v) ⟨by omega, by omega⟩ rfl dX4_set_69 (fun H locs hP hD hS => ?_)
            have hP := Eq.mp (congrArg (fun z9 : va_W => va_P g.1 vwCl (wX g a b d fo tp sh f1 f20 ++ (z9)) H) (Ls_hastes (g := g) (a := b) (s := e1) (x10 := e10) (x11 := e11) (i := r) (v := v) ⟨by omega, by omega⟩)) hP
            have hD := Eq.mp (congrArg (fun z9 : va_W => va_D (va_A (wX g a b d fo tp sh f1 f20 ++ (wLs g b e1 e10 e11)) s.heap.size) (wX g a b d fo tp sh f1 f20 ++ (z9))) (Ls_hastes (g := g) (a := b) (s := e1) (x10 := e10) (x11 := e11) (i := r) (v := v) ⟨by omega, by omega⟩)) hD
            have hP : va_P g.1 vwCl (wX g a b d fo tp sh f1 f20 ++ (wLs g b (up e1 (61 + 5 * r + 2) v) e10 e11)) H := hP
            have hD : va_D (va_A (wX g a b d fo tp sh f1 f20 ++ (wLs g b e1 e10 e11)) s.heap.size) (wX g a b d fo tp sh f1 f20 ++ (wLs g b (up e1 (61 + 5 * r + 2) v) e10 e11)) := hD
            obtain ⟨hP0, hP1⟩ := va_P_app.mp hP
            refine lv_iload hx hb dX4_set_70 (lv_at hl 0 rfl) ?_
            have hf : fSet e1 r w v = 0 := by unfold fSet; (repeat (first | rw [if_pos (by omega)] | rw [if_neg (by omega)])); first | done | (exfalso; omega)
            have he26 : f1 = (fb (fSet e1 r w v) f1) := by rw [hf]; rfl
            have hP := Eq.mp (congrArg (fun z9 => va_P g.1 vwCl (wX g a b d fo tp sh z9 f20 ++ (wLs g b (up e1 (61 + 5 * r + 2) v) e10 e11)) H) he26) hP
            have hD := Eq.mp (congrArg (fun z9 => va_D (va_A (wX g a b d fo tp sh f1 f20 ++ (wLs g b e1 e10 e11)) s.heap.size) (wX g a b d fo tp sh z9 f20 ++ (wLs g b (up e1 (61 + 5 * r + 2) v) e10 e11))) he26) hD
            obtain ⟨hP0, hP1⟩ := va_P_app.mp hP
            have he27 : (up e1 (61 + 5 * r + 2) v) = (if fSet e1 r w v = 0 then up e1 (61 + 5 * r + w) v else e1) := by rw [hf, if_pos rfl]; first | (rw [show w = 1 by omega]; done) | (rw [show w = 2 by omega]; done)
            have hP := Eq.mp (congrArg (fun z9 => va_P g.1 vwCl (wX g a b d fo tp sh (fb (fSet e1 r w v) f1) f20 ++ (wLs g b z9 e10 e11)) H) he27) hP
            have hD := Eq.mp (congrArg (fun z9 => va_D (va_A (wX g a b d fo tp sh f1 f20 ++ (wLs g b e1 e10 e11)) s.heap.size) (wX g a b d fo tp sh (fb (fSet e1 r w v) f1) f20 ++ (wLs g b z9 e10 e11))) he27) hD
            obtain ⟨hP0, hP1⟩ := va_P_app.mp hP
            have hP : va_P g.1 vwCl (wX g a b d fo tp sh (fb (fSet e1 r w v) f1) f20 ++ (wLs g b (if fSet e1 r w v = 0 then up e1 (61 + 5 * r + w) v else e1) e10 e11)) H := hP
            have hD : va_D (va_A (wX g a b d fo tp sh f1 f20 ++ (wLs g b e1 e10 e11)) s.heap.size) (wX g a b d fo tp sh (fb (fSet e1 r w v) f1) f20 ++ (wLs g b (if fSet e1 r w v = 0 then up e1 (61 + 5 * r + w) v else e1) e10 e11)) := hD
            exact W.iret hx hb hr (fun t ht hW => ⟨⟨_, (), rfl, by rw [hf, ab_0]; exact congrArg iI (by first | (rw [show w = 1 by omega]; done) | (rw [show w = 2 by omega]; done)), by rw [ht]; exact hP, hD⟩, hS.F ht⟩) hS.2.2 dX4_set_72
          · refine xi_zt_eq (tgt := 73) hx hb ⟨by decide, by decide⟩ (by decide) dX4_set_46 (by decide) ?_
            refine lv_aload_n hx hb dX4_set_73 rfl (lv_at hl 0 rfl) ?_
            refine xi_ldc hx hb hown hts kk_X4_58 dX4_set_74 ?_
            refine xmF_i (rV (rest := []) hx hb hml hown hts hK hl (c_X4_finding l g b d fo tp sh a f1 f20 (-1000000001) (s.heap).size (show 0 ≤ -1000000001 - (-1000000001) ∧ -1000000001 - (-1000000001) < 7 from by omega)) lk_X4_59 ⟨rfl, hP0, (va_D_app hD).1.weaken (fun _ _ _ _ => trivial)⟩ (va_recv hK.1 hP0 (ci := 4) (q0 := 0) rfl rfl) rfl rfl rfl (Rm.of rfl) rfl rfl dX4_set_76) hP hD hS hA (fun x9 _ H locs hw hP hD hS => ?_)
            obtain rfl : x9 = iI (-1000000001) := hw
            have hP : va_P g.1 vwCl (wX g a b d fo tp sh (fb (-1000000000 - (-1000000001)) f1) f20 ++ (wLs g b e1 e10 e11)) H := hP
            have hD : va_D (va_A (wX g a b d fo tp sh f1 f20 ++ (wLs g b e1 e10 e11)) s.heap.size) (wX g a b d fo tp sh (fb (-1000000000 - (-1000000001)) f1) f20 ++ (wLs g b e1 e10 e11)) := hD
            obtain ⟨hP0, hP1⟩ := va_P_app.mp hP
            have hf : fSet e1 r w v = 1 := by unfold fSet; (repeat (first | rw [if_pos (by omega)] | rw [if_neg (by omega)])); first | done | (exfalso; omega)
            have he29 : (fb (-1000000000 - (-1000000001)) f1) = (fb (fSet e1 r w v) f1) := by rw [hf]; rfl
            have hP := Eq.mp (congrArg (fun z9 => va_P g.1 vwCl (wX g a b d fo tp sh z9 f20 ++ (wLs g b e1 e10 e11)) H) he29) hP
            have hD := Eq.mp (congrArg (fun z9 => va_D (va_A (wX g a b d fo tp sh f1 f20 ++ (wLs g b e1 e10 e11)) s.heap.size) (wX g a b d fo tp sh z9 f20 ++ (wLs g b e1 e10 e11))) he29) hD
            obtain ⟨hP0, hP1⟩ := va_P_app.mp hP
            have he30 : e1 = (if fSet e1 r w v = 0 then up e1 (61 + 5 * r + w) v else e1) := by rw [hf]; rfl
            have hP := Eq.mp (congrArg (fun z9 => va_P g.1 vwCl (wX g a b d fo tp sh (fb (fSet e1 r w v) f1) f20 ++ (wLs g b z9 e10 e11)) H) he30) hP
            have hD := Eq.mp (congrArg (fun z9 => va_D (va_A (wX g a b d fo tp sh f1 f20 ++ (wLs g b e1 e10 e11)) s.heap.size) (wX g a b d fo tp sh (fb (fSet e1 r w v) f1) f20 ++ (wLs g b z9 e10 e11))) he30) hD
            obtain ⟨hP0, hP1⟩ := va_P_app.mp hP
            have hP : va_P g.1 vwCl (wX g a b d fo tp sh (fb (fSet e1 r w v) f1) f20 ++ (wLs g b (if fSet e1 r w v = 0 then up e1 (61 + 5 * r + w) v else e1) e10 e11)) H := hP
            have hD : va_D (va_A (wX g a b d fo tp sh f1 f20 ++ (wLs g b e1 e10 e11)) s.heap.size) (wX g a b d fo tp sh (fb (fSet e1 r w v) f1) f20 ++ (wLs g b (if fSet e1 r w v = 0 then up e1 (61 + 5 * r + w) v else e1) e10 e11)) := hD
            exact W.iret hx hb hr (fun t ht hW => ⟨⟨_, (), rfl, by rw [hf]; rfl, by rw [ht]; exact hP, hD⟩, hS.F ht⟩) hS.2.2 dX4_set_79
  · refine xi_zf_ne hx hb ⟨by decide, by decide⟩ (by decide) dX4_set_5 ⟨15, by decide⟩ ?_
    refine lv_aload_n hx hb dX4_set_8 rfl (lv_at hl 0 rfl) ?_
    refine xi_ldc hx hb hown hts kk_X4_58 dX4_set_9 ?_
    refine xmF_i (rV (rest := []) hx hb hml hown hts hK hl (c_X4_finding l g b d fo tp sh a f1 f20 (-1000000001) (s.heap).size (show 0 ≤ -1000000001 - (-1000000001) ∧ -1000000001 - (-1000000001) < 7 from by omega)) lk_X4_59 ⟨rfl, hP0, (va_D_app hD).1.weaken (fun _ _ _ _ => trivial)⟩ (va_recv hK.1 hP0 (ci := 4) (q0 := 0) rfl rfl) rfl rfl rfl (Rm.of rfl) rfl rfl dX4_set_11) hP hD hS hA (fun x9 _ H locs hw hP hD hS => ?_)
    obtain rfl : x9 = iI (-1000000001) := hw
    have hP : va_P g.1 vwCl (wX g a b d fo tp sh (fb (-1000000000 - (-1000000001)) f1) f20 ++ (wLs g b e1 e10 e11)) H := hP
    have hD : va_D (va_A (wX g a b d fo tp sh f1 f20 ++ (wLs g b e1 e10 e11)) s.heap.size) (wX g a b d fo tp sh (fb (-1000000000 - (-1000000001)) f1) f20 ++ (wLs g b e1 e10 e11)) := hD
    obtain ⟨hP0, hP1⟩ := va_P_app.mp hP
    have hf : fSet e1 r w v = 1 := by unfold fSet; (repeat (first | rw [if_pos (by omega)] | rw [if_neg (by omega)])); first | done | (exfalso; omega)
    have he32 : (fb (-1000000000 - (-1000000001)) f1) = (fb (fSet e1 r w v) f1) := by rw [hf]; rfl
    have hP := Eq.mp (congrArg (fun z9 => va_P g.1 vwCl (wX g a b d fo tp sh z9 f20 ++ (wLs g b e1 e10 e11)) H) he32) hP
    have hD := Eq.mp (congrArg (fun z9 => va_D (va_A (wX g a b d fo tp sh f1 f20 ++ (wLs g b e1 e10 e11)) s.heap.size) (wX g a b d fo tp sh z9 f20 ++ (wLs g b e1 e10 e11))) he32) hD
    obtain ⟨hP0, hP1⟩ := va_P_app.mp hP
    have he33 : e1 = (if fSet e1 r w v = 0 then up e1 (61 + 5 * r + w) v else e1) := by rw [hf]; rfl
    have hP := Eq.mp (congrArg (fun z9 => va_P g.1 vwCl (wX g a b d fo tp sh (fb (fSet e1 r w v) f1) f20 ++ (wLs g b z9 e10 e11)) H) he33) hP
    have hD := Eq.mp (congrArg (fun z9 => va_D (va_A (wX g a b d fo tp sh f1 f20 ++ (wLs g b e1 e10 e11)) s.heap.size) (wX g a b d fo tp sh (fb (fSet e1 r w v) f1) f20 ++ (wLs g b z9 e10 e11))) he33) hD
    obtain ⟨hP0, hP1⟩ := va_P_app.mp hP
    have hP : va_P g.1 vwCl (wX g a b d fo tp sh (fb (fSet e1 r w v) f1) f20 ++ (wLs g b (if fSet e1 r w v = 0 then up e1 (61 + 5 * r + w) v else e1) e10 e11)) H := hP
    have hD : va_D (va_A (wX g a b d fo tp sh f1 f20 ++ (wLs g b e1 e10 e11)) s.heap.size) (wX g a b d fo tp sh (fb (fSet e1 r w v) f1) f20 ++ (wLs g b (if fSet e1 r w v = 0 then up e1 (61 + 5 * r + w) v else e1) e10 e11)) := hD
    exact W.iret hx hb hr (fun t ht hW => ⟨⟨_, (), rfl, by rw [hf]; rfl, by rw [ht]; exact hP, hD⟩, hS.F ht⟩) hS.2.2 dX4_set_14
abbrev rm_X4_turn : Room := { frames := 2, cells := 0, slots := 0, locals := 42 }
set_option maxRecDepth 100000 in
set_option maxHeartbeats 4000000 in
theorem c_X4_turn (l : Launch) (g : Gd) (d : Nat → Nat) (fo : Nat → Nat) (tp : Nat → Nat) (sh : Nat → Nat) (a : Nat → Nat) (f1 : Int → Int) (f20 : Int) (b : Nat → Nat) (e1 : Int → Int) (e10 : Int → Int) (e11 : Int → Int) (r : Int) (k : Int) (sz : Nat) (h1 : InvK 0 e1) (h2 : e1 0 ≤ 9999) (h3 : IR r) (h4 : IR k) : Met l yX4_turn (wsOf yX4_turn cX4_turn 4 (some .int)) rm_X4_turn (PX g (wP g (wX g a b d fo tp sh f1 f20 ++ (wLs g b e1 e10 e11)) sz) [.ref (a 0), .int (iI r), .int (iI k)]) (QMi g (fun _ : Unit => wX g a b d fo tp sh (fb (fTurn e1 r k) f1) f20 ++ (wLs g b (if fTurn e1 r k = 0 then up e1 (61 + 5 * r + 0) k else e1) e10 e11)) (fun r9 _ => r9 = ab (fTurn e1 r k) (iI (e1 (61 + 5 * r + 0)))) (va_A (wX g a b d fo tp sh f1 f20 ++ (wLs g b e1 e10 e11)) sz)) 0 0 (va_A (wX g a b d fo tp sh f1 f20 ++ (wLs g b e1 e10 e11)) sz) := by
  refine me (g := g) (by decide) rfl ?_
  intro pq eq s mq below meth cq C hnm hB ls hl
  obtain ⟨hx, hb, hr, hml, hown, hts, hlocks, hK⟩ := C
  have hown : s.vm.findClass RX4 = some mq.cls := hown
  have hl : lv_has ls 4 [(0, .ref (a 0)), (1, .int (iI r)), (2, .int (iI k))] := hl
  obtain ⟨hsz, hP, hD0⟩ := hB
  subst hsz
  have hD := hD0.self (sz := s.heap.size)
  have hA : ∀ q : Nat, s.heap.size ≤ q → va_A (wX g a b d fo tp sh f1 f20 ++ (wLs g b e1 e10 e11)) s.heap.size q := fun q h => Or.inr h
  have hS : va_S (va_A (wX g a b d fo tp sh f1 f20 ++ (wLs g b e1 e10 e11)) s.heap.size) s.heap s.heap [] := va_S.rf
  obtain ⟨hP0, hP1⟩ := va_P_app.mp hP
  have hI := h1
  have hI8 : Inv e1 := h1.mono (by omega)
  have hn := hI.num
  have hs := hI.sea
  have hv := hI.vil
  have q1 := h3.1
  have q3 := h4.1
  have q2 := h3.2
  have q4 := h4.2
  refine lv_aload_n hx hb dX4_turn_0 rfl (lv_at hl 0 rfl) ?_
  refine lv_iload_n hx hb dX4_turn_1 rfl (lv_at hl 1 rfl) ?_
  refine xu_b (P := 0 ≤ r ∧ r < e1 1) (rV (rest := []) hx hb hml hown hts hK hl (c_X4_isRange l g d fo tp sh a f1 f20 b e1 e10 e11 r (show IR r from ⟨by omega, by omega⟩) (show 0 ≤ e1 1 ∧ e1 1 ≤ 8 from by omega)) lk_X4_117 (va_P_app.mpr ⟨hP0, hP1⟩) (va_recv hK.1 hP0 (ci := 4) (q0 := 0) rfl rfl) rfl rfl rfl (Rm.of rfl) rfl rfl dX4_turn_2) (fun z1 => ?_) (fun z1 => ?_)
  · refine xi_zf_eq hx hb ⟨by decide, by decide⟩ (by decide) dX4_turn_5 ⟨15, by decide⟩ ?_
    refine lv_iload_n hx hb dX4_turn_8 rfl (lv_at hl 2 rfl) ?_
    refine xu_b (P := 0 ≤ k ∧ k ≤ 5) (rS (rest := []) hx hb hml hown hts hK hl (c_X4_isKind l g k (show IR k from ⟨by omega, by omega⟩)) lk_X4_106 trivial rfl rfl rfl (Rm.of rfl) rfl rfl dX4_turn_9) (fun z2 => ?_) (fun z2 => ?_)
    · refine xi_zt_ne (tgt := 22) hx hb ⟨by decide, by decide⟩ (by decide) dX4_turn_12 (by decide) ?_
      refine lv_aload_n hx hb dX4_turn_22 rfl (lv_at hl 0 rfl) ?_
      refine xg_X4 hx hb hts hown hK hP0 0 rfl 0 (by decide) fk_X4_10 (v := .ref (b 0)) rfl dX4_turn_23 ?_
      refine xgN_X1 hx hb hts hown hK hP1 0 rfl 7 (by decide) fk_X4_120 (v := .ref (b 5)) rfl dX4_turn_26 ?_
      refine lv_iload_n hx hb dX4_turn_29 rfl (lv_at hl 1 rfl) ?_
      refine xi_alz hx hb hK hP1 5 (s0 := e1) rfl (i := r) ⟨by omega, by omega⟩ rfl dX4_turn_30 ?_
      refine lv_istore_n (lv' := [(3, .int (iI (e1 (61 + 5 * r + 0)))), (0, .ref (a 0)), (1, .int (iI r)), (2, .int (iI k))]) hx hb dX4_turn_31 rfl hl (by decide) rfl (fun ls hl => ?_)
      refine lv_aload_n hx hb dX4_turn_32 rfl (lv_at hl 1 rfl) ?_
      refine xg_X4 hx hb hts hown hK hP0 0 rfl 0 (by decide) fk_X4_10 (v := .ref (b 0)) rfl dX4_turn_33 ?_
      refine xgN_X1 hx hb hts hown hK hP1 0 rfl 7 (by decide) fk_X4_120 (v := .ref (b 5)) rfl dX4_turn_36 ?_
      refine lv_iload_n hx hb dX4_turn_39 rfl (lv_at hl 2 rfl) ?_
      refine lv_iload_n hx hb dX4_turn_40 rfl (lv_at hl 3 rfl) ?_
      refine xi_ast hx hb hK hP hD hS 8 (f := pz 0 e1) rfl (i := r) (v := k) ⟨by omega, by omega⟩ rfl dX4_turn_41 (fun H locs hP hD hS => ?_)
      have hP := Eq.mp (congrArg (fun z9 : va_W => va_P g.1 vwCl (wX g a b d fo tp sh f1 f20 ++ (z9)) H) (Ls_kinds (g := g) (a := b) (s := e1) (x10 := e10) (x11 := e11) (i := r) (v := k) ⟨by omega, by omega⟩)) hP
      have hD := Eq.mp (congrArg (fun z9 : va_W => va_D (va_A (wX g a b d fo tp sh f1 f20 ++ (wLs g b e1 e10 e11)) s.heap.size) (wX g a b d fo tp sh f1 f20 ++ (z9))) (Ls_kinds (g := g) (a := b) (s := e1) (x10 := e10) (x11 := e11) (i := r) (v := k) ⟨by omega, by omega⟩)) hD
      have hP : va_P g.1 vwCl (wX g a b d fo tp sh f1 f20 ++ (wLs g b (up e1 (61 + 5 * r + 0) k) e10 e11)) H := hP
      have hD : va_D (va_A (wX g a b d fo tp sh f1 f20 ++ (wLs g b e1 e10 e11)) s.heap.size) (wX g a b d fo tp sh f1 f20 ++ (wLs g b (up e1 (61 + 5 * r + 0) k) e10 e11)) := hD
      obtain ⟨hP0, hP1⟩ := va_P_app.mp hP
      refine lv_iload_n hx hb dX4_turn_42 rfl (lv_at hl 0 rfl) ?_
      have hf : fTurn e1 r k = 0 := by unfold fTurn; (repeat (first | rw [if_pos (by omega)] | rw [if_neg (by omega)])); first | done | (exfalso; omega)
      have he3 : f1 = (fb (fTurn e1 r k) f1) := by rw [hf]; rfl
      have hP := Eq.mp (congrArg (fun z9 => va_P g.1 vwCl (wX g a b d fo tp sh z9 f20 ++ (wLs g b (up e1 (61 + 5 * r + 0) k) e10 e11)) H) he3) hP
      have hD := Eq.mp (congrArg (fun z9 => va_D (va_A (wX g a b d fo tp sh f1 f20 ++ (wLs g b e1 e10 e11)) s.heap.size) (wX g a b d fo tp sh z9 f20 ++ (wLs g b (up e1 (61 + 5 * r + 0) k) e10 e11))) he3) hD
      obtain ⟨hP0, hP1⟩ := va_P_app.mp hP
      have he4 : (up e1 (61 + 5 * r + 0) k) = (if fTurn e1 r k = 0 then up e1 (61 + 5 * r + 0) k else e1) := by rw [hf]; rfl
      have hP := Eq.mp (congrArg (fun z9 => va_P g.1 vwCl (wX g a b d fo tp sh (fb (fTurn e1 r k) f1) f20 ++ (wLs g b z9 e10 e11)) H) he4) hP
      have hD := Eq.mp (congrArg (fun z9 => va_D (va_A (wX g a b d fo tp sh f1 f20 ++ (wLs g b e1 e10 e11)) s.heap.size) (wX g a b d fo tp sh (fb (fTurn e1 r k) f1) f20 ++ (wLs g b z9 e10 e11))) he4) hD
      obtain ⟨hP0, hP1⟩ := va_P_app.mp hP
      have hP : va_P g.1 vwCl (wX g a b d fo tp sh (fb (fTurn e1 r k) f1) f20 ++ (wLs g b (if fTurn e1 r k = 0 then up e1 (61 + 5 * r + 0) k else e1) e10 e11)) H := hP
      have hD : va_D (va_A (wX g a b d fo tp sh f1 f20 ++ (wLs g b e1 e10 e11)) s.heap.size) (wX g a b d fo tp sh (fb (fTurn e1 r k) f1) f20 ++ (wLs g b (if fTurn e1 r k = 0 then up e1 (61 + 5 * r + 0) k else e1) e10 e11)) := hD
      exact W.iret hx hb hr (fun t ht hW => ⟨⟨_, (), rfl, by rw [hf, ab_0]; (try (repeat (first | rw [if_pos (by omega)] | rw [if_neg (by omega)]))); first | done | rfl | exact congrArg iI (by omega) | exact congrArg iI (by simp only [up]; (repeat (first | rw [if_pos (by omega)] | rw [if_neg (by omega)])); first | done | omega), by rw [ht]; exact hP, hD⟩, hS.F ht⟩) hS.2.2 dX4_turn_43
    · refine xi_zf_ne hx hb ⟨by decide, by decide⟩ (by decide) dX4_turn_12 ⟨22, by decide⟩ ?_
      refine lv_aload_n hx hb dX4_turn_15 rfl (lv_at hl 0 rfl) ?_
      refine xi_ldc hx hb hown hts kk_X4_58 dX4_turn_16 ?_
      refine xmF_i (rV (rest := []) hx hb hml hown hts hK hl (c_X4_finding l g b d fo tp sh a f1 f20 (-1000000001) (s.heap).size (show 0 ≤ -1000000001 - (-1000000001) ∧ -1000000001 - (-1000000001) < 7 from by omega)) lk_X4_59 ⟨rfl, hP0, (va_D_app hD).1.weaken (fun _ _ _ _ => trivial)⟩ (va_recv hK.1 hP0 (ci := 4) (q0 := 0) rfl rfl) rfl rfl rfl (Rm.of rfl) rfl rfl dX4_turn_18) hP hD hS hA (fun x9 _ H locs hw hP hD hS => ?_)
      obtain rfl : x9 = iI (-1000000001) := hw
      have hP : va_P g.1 vwCl (wX g a b d fo tp sh (fb (-1000000000 - (-1000000001)) f1) f20 ++ (wLs g b e1 e10 e11)) H := hP
      have hD : va_D (va_A (wX g a b d fo tp sh f1 f20 ++ (wLs g b e1 e10 e11)) s.heap.size) (wX g a b d fo tp sh (fb (-1000000000 - (-1000000001)) f1) f20 ++ (wLs g b e1 e10 e11)) := hD
      obtain ⟨hP0, hP1⟩ := va_P_app.mp hP
      have hf : fTurn e1 r k = 1 := by unfold fTurn; (repeat (first | rw [if_pos (by omega)] | rw [if_neg (by omega)])); first | done | (exfalso; omega)
      have he6 : (fb (-1000000000 - (-1000000001)) f1) = (fb (fTurn e1 r k) f1) := by rw [hf]; rfl
      have hP := Eq.mp (congrArg (fun z9 => va_P g.1 vwCl (wX g a b d fo tp sh z9 f20 ++ (wLs g b e1 e10 e11)) H) he6) hP
      have hD := Eq.mp (congrArg (fun z9 => va_D (va_A (wX g a b d fo tp sh f1 f20 ++ (wLs g b e1 e10 e11)) s.heap.size) (wX g a b d fo tp sh z9 f20 ++ (wLs g b e1 e10 e11))) he6) hD
      obtain ⟨hP0, hP1⟩ := va_P_app.mp hP
      have he7 : e1 = (if fTurn e1 r k = 0 then up e1 (61 + 5 * r + 0) k else e1) := by rw [hf]; rfl
      have hP := Eq.mp (congrArg (fun z9 => va_P g.1 vwCl (wX g a b d fo tp sh (fb (fTurn e1 r k) f1) f20 ++ (wLs g b z9 e10 e11)) H) he7) hP
      have hD := Eq.mp (congrArg (fun z9 => va_D (va_A (wX g a b d fo tp sh f1 f20 ++ (wLs g b e1 e10 e11)) s.heap.size) (wX g a b d fo tp sh (fb (fTurn e1 r k) f1) f20 ++ (wLs g b z9 e10 e11))) he7) hD
      obtain ⟨hP0, hP1⟩ := va_P_app.mp hP
      have hP : va_P g.1 vwCl (wX g a b d fo tp sh (fb (fTurn e1 r k) f1) f20 ++ (wLs g b (if fTurn e1 r k = 0 then up e1 (61 + 5 * r + 0) k else e1) e10 e11)) H := hP
      have hD : va_D (va_A (wX g a b d fo tp sh f1 f20 ++ (wLs g b e1 e10 e11)) s.heap.size) (wX g a b d fo tp sh (fb (fTurn e1 r k) f1) f20 ++ (wLs g b (if fTurn e1 r k = 0 then up e1 (61 + 5 * r + 0) k else e1) e10 e11)) := hD
      exact W.iret hx hb hr (fun t ht hW => ⟨⟨_, (), rfl, by rw [hf]; rfl, by rw [ht]; exact hP, hD⟩, hS.F ht⟩) hS.2.2 dX4_turn_21
  · refine xi_zt_eq (tgt := 15) hx hb ⟨by decide, by decide⟩ (by decide) dX4_turn_5 (by decide) ?_
    refine lv_aload_n hx hb dX4_turn_15 rfl (lv_at hl 0 rfl) ?_
    refine xi_ldc hx hb hown hts kk_X4_58 dX4_turn_16 ?_
    refine xmF_i (rV (rest := []) hx hb hml hown hts hK hl (c_X4_finding l g b d fo tp sh a f1 f20 (-1000000001) (s.heap).size (show 0 ≤ -1000000001 - (-1000000001) ∧ -1000000001 - (-1000000001) < 7 from by omega)) lk_X4_59 ⟨rfl, hP0, (va_D_app hD).1.weaken (fun _ _ _ _ => trivial)⟩ (va_recv hK.1 hP0 (ci := 4) (q0 := 0) rfl rfl) rfl rfl rfl (Rm.of rfl) rfl rfl dX4_turn_18) hP hD hS hA (fun x9 _ H locs hw hP hD hS => ?_)
    obtain rfl : x9 = iI (-1000000001) := hw
    have hP : va_P g.1 vwCl (wX g a b d fo tp sh (fb (-1000000000 - (-1000000001)) f1) f20 ++ (wLs g b e1 e10 e11)) H := hP
    have hD : va_D (va_A (wX g a b d fo tp sh f1 f20 ++ (wLs g b e1 e10 e11)) s.heap.size) (wX g a b d fo tp sh (fb (-1000000000 - (-1000000001)) f1) f20 ++ (wLs g b e1 e10 e11)) := hD
    obtain ⟨hP0, hP1⟩ := va_P_app.mp hP
    have hf : fTurn e1 r k = 1 := by unfold fTurn; (repeat (first | rw [if_pos (by omega)] | rw [if_neg (by omega)])); first | done | (exfalso; omega)
    have he9 : (fb (-1000000000 - (-1000000001)) f1) = (fb (fTurn e1 r k) f1) := by rw [hf]; rfl
    have hP := Eq.mp (congrArg (fun z9 => va_P g.1 vwCl (wX g a b d fo tp sh z9 f20 ++ (wLs g b e1 e10 e11)) H) he9) hP
    have hD := Eq.mp (congrArg (fun z9 => va_D (va_A (wX g a b d fo tp sh f1 f20 ++ (wLs g b e1 e10 e11)) s.heap.size) (wX g a b d fo tp sh z9 f20 ++ (wLs g b e1 e10 e11))) he9) hD
    obtain ⟨hP0, hP1⟩ := va_P_app.mp hP
    have he10 : e1 = (if fTurn e1 r k = 0 then up e1 (61 + 5 * r + 0) k else e1) := by rw [hf]; rfl
    have hP := Eq.mp (congrArg (fun z9 => va_P g.1 vwCl (wX g a b d fo tp sh (fb (fTurn e1 r k) f1) f20 ++ (wLs g b z9 e10 e11)) H) he10) hP
    have hD := Eq.mp (congrArg (fun z9 => va_D (va_A (wX g a b d fo tp sh f1 f20 ++ (wLs g b e1 e10 e11)) s.heap.size) (wX g a b d fo tp sh (fb (fTurn e1 r k) f1) f20 ++ (wLs g b z9 e10 e11))) he10) hD
    obtain ⟨hP0, hP1⟩ := va_P_app.mp hP
    have hP : va_P g.1 vwCl (wX g a b d fo tp sh (fb (fTurn e1 r k) f1) f20 ++ (wLs g b (if fTurn e1 r k = 0 then up e1 (61 + 5 * r + 0) k else e1) e10 e11)) H := hP
    have hD : va_D (va_A (wX g a b d fo tp sh f1 f20 ++ (wLs g b e1 e10 e11)) s.heap.size) (wX g a b d fo tp sh (fb (fTurn e1 r k) f1) f20 ++ (wLs g b (if fTurn e1 r k = 0 then up e1 (61 + 5 * r + 0) k else e1) e10 e11)) := hD
    exact W.iret hx hb hr (fun t ht hW => ⟨⟨_, (), rfl, by rw [hf]; rfl, by rw [ht]; exact hP, hD⟩, hS.F ht⟩) hS.2.2 dX4_turn_21
abbrev rm_X4_as : Room := { frames := 2, cells := 0, slots := 0, locals := 43 }
set_option maxRecDepth 100000 in
set_option maxHeartbeats 4000000 in
theorem c_X4_as (l : Launch) (g : Gd) (d : Nat → Nat) (fo : Nat → Nat) (tp : Nat → Nat) (sh : Nat → Nat) (a : Nat → Nat) (f1 : Int → Int) (f20 : Int) (b : Nat → Nat) (e1 : Int → Int) (e10 : Int → Int) (e11 : Int → Int) (r : Int) (k : Int) (sz : Nat) (h1 : InvK 0 e1) (h2 : e1 0 ≤ 9999) (h3 : IR r) (h4 : IR k) : Met l yX4_as (wsOf yX4_as cX4_as 3 (some .int)) rm_X4_as (PX g (wP g (wX g a b d fo tp sh f1 f20 ++ (wLs g b e1 e10 e11)) sz) [.ref (a 0), .int (iI r), .int (iI k)]) (QMi g (fun _ : Unit => wX g a b d fo tp sh (fb (fAs e1 r k) f1) f20 ++ (wLs g b e1 e10 e11)) (fun r9 _ => r9 = ab (fAs e1 r k) (iI (e1 (61 + 5 * r + 2)))) (va_A (wX g a b d fo tp sh f1 f20 ++ (wLs g b e1 e10 e11)) sz)) 0 0 (va_A (wX g a b d fo tp sh f1 f20 ++ (wLs g b e1 e10 e11)) sz) := by
  refine me (g := g) (by decide) rfl ?_
  intro pq eq s mq below meth cq C hnm hB ls hl
  obtain ⟨hx, hb, hr, hml, hown, hts, hlocks, hK⟩ := C
  have hown : s.vm.findClass RX4 = some mq.cls := hown
  have hl : lv_has ls 3 [(0, .ref (a 0)), (1, .int (iI r)), (2, .int (iI k))] := hl
  obtain ⟨hsz, hP, hD0⟩ := hB
  subst hsz
  have hD := hD0.self (sz := s.heap.size)
  have hA : ∀ q : Nat, s.heap.size ≤ q → va_A (wX g a b d fo tp sh f1 f20 ++ (wLs g b e1 e10 e11)) s.heap.size q := fun q h => Or.inr h
  have hS : va_S (va_A (wX g a b d fo tp sh f1 f20 ++ (wLs g b e1 e10 e11)) s.heap.size) s.heap s.heap [] := va_S.rf
  obtain ⟨hP0, hP1⟩ := va_P_app.mp hP
  have hI := h1
  have hI8 : Inv e1 := h1.mono (by omega)
  have hn := hI.num
  have hs := hI.sea
  have hv := hI.vil
  have q1 := h3.1
  have q3 := h4.1
  have q2 := h3.2
  have q4 := h4.2
  refine lv_aload_n hx hb dX4_as_0 rfl (lv_at hl 0 rfl) ?_
  refine lv_iload_n hx hb dX4_as_1 rfl (lv_at hl 1 rfl) ?_
  refine xu_b (P := 0 ≤ r ∧ r < e1 1) (rV (rest := []) hx hb hml hown hts hK hl (c_X4_isRange l g d fo tp sh a f1 f20 b e1 e10 e11 r (show IR r from ⟨by omega, by omega⟩) (show 0 ≤ e1 1 ∧ e1 1 ≤ 8 from by omega)) lk_X4_117 (va_P_app.mpr ⟨hP0, hP1⟩) (va_recv hK.1 hP0 (ci := 4) (q0 := 0) rfl rfl) rfl rfl rfl (Rm.of rfl) rfl rfl dX4_as_2) (fun z1 => ?_) (fun z1 => ?_)
  · refine xi_zf_eq hx hb ⟨by decide, by decide⟩ (by decide) dX4_as_5 ⟨15, by decide⟩ ?_
    refine lv_iload_n hx hb dX4_as_8 rfl (lv_at hl 2 rfl) ?_
    refine xu_b (P := 0 ≤ k ∧ k ≤ 5) (rS (rest := []) hx hb hml hown hts hK hl (c_X4_isKind l g k (show IR k from ⟨by omega, by omega⟩)) lk_X4_106 trivial rfl rfl rfl (Rm.of rfl) rfl rfl dX4_as_9) (fun z2 => ?_) (fun z2 => ?_)
    · refine xi_zt_ne (tgt := 22) hx hb ⟨by decide, by decide⟩ (by decide) dX4_as_12 (by decide) ?_
      refine lv_aload_n hx hb dX4_as_22 rfl (lv_at hl 0 rfl) ?_
      refine xg_X4 hx hb hts hown hK hP0 0 rfl 0 (by decide) fk_X4_10 (v := .ref (b 0)) rfl dX4_as_23 ?_
      refine xgN_X1 hx hb hts hown hK hP1 0 rfl 7 (by decide) fk_X4_120 (v := .ref (b 5)) rfl dX4_as_26 ?_
      refine lv_iload_n hx hb dX4_as_29 rfl (lv_at hl 1 rfl) ?_
      refine xi_alz hx hb hK hP1 5 (s0 := e1) rfl (i := r) ⟨by omega, by omega⟩ rfl dX4_as_30 ?_
      have hc := hI.ran r (by omega) (by omega)
      refine lv_iload_n hx hb dX4_as_31 rfl (lv_at hl 2 rfl) ?_
      refine xu_b (P := (e1 (61 + 5 * r + 0)) = k ∨ k = 0 ∨ ((e1 (61 + 5 * r + 0)) = 4 ∧ k = 1) ∨ ((e1 (61 + 5 * r + 0)) = 5 ∧ k = 2)) (rS (rest := []) hx hb hml hown hts hK hl (c_X4_isOrIsUnder l g (e1 (61 + 5 * r + 0)) k (show 0 ≤ (e1 (61 + 5 * r + 0)) ∧ (e1 (61 + 5 * r + 0)) ≤ 5 from by omega) (show 0 ≤ k ∧ k ≤ 5 from by omega)) lk_X4_148 trivial rfl rfl rfl (Rm.of rfl) rfl rfl dX4_as_32) (fun z3 => ?_) (fun z3 => ?_)
      · refine xi_zt_ne (tgt := 45) hx hb ⟨by decide, by decide⟩ (by decide) dX4_as_35 (by decide) ?_
        refine lv_aload_n hx hb dX4_as_45 rfl (lv_at hl 0 rfl) ?_
        refine xg_X4 hx hb hts hown hK hP0 0 rfl 0 (by decide) fk_X4_10 (v := .ref (b 0)) rfl dX4_as_46 ?_
        refine xgN_X1 hx hb hts hown hK hP1 0 rfl 9 (by decide) fk_X4_126 (v := .ref (b 7)) rfl dX4_as_49 ?_
        refine lv_iload_n hx hb dX4_as_52 rfl (lv_at hl 1 rfl) ?_
        refine xi_alz hx hb hK hP1 7 (s0 := e1) rfl (i := r) ⟨by omega, by omega⟩ rfl dX4_as_53 ?_
        have hf : fAs e1 r k = 0 := by unfold fAs; (repeat (first | rw [if_pos (by omega)] | rw [if_neg (by omega)])); first | done | (exfalso; omega)
        have he4 : f1 = (fb (fAs e1 r k) f1) := by rw [hf]; rfl
        have hP := Eq.mp (congrArg (fun z9 => va_P g.1 vwCl (wX g a b d fo tp sh z9 f20 ++ (wLs g b e1 e10 e11)) s.heap) he4) hP
        have hD := Eq.mp (congrArg (fun z9 => va_D (va_A (wX g a b d fo tp sh f1 f20 ++ (wLs g b e1 e10 e11)) s.heap.size) (wX g a b d fo tp sh z9 f20 ++ (wLs g b e1 e10 e11))) he4) hD
        obtain ⟨hP0, hP1⟩ := va_P_app.mp hP
        have hP : va_P g.1 vwCl (wX g a b d fo tp sh (fb (fAs e1 r k) f1) f20 ++ (wLs g b e1 e10 e11)) s.heap := hP
        have hD : va_D (va_A (wX g a b d fo tp sh f1 f20 ++ (wLs g b e1 e10 e11)) s.heap.size) (wX g a b d fo tp sh (fb (fAs e1 r k) f1) f20 ++ (wLs g b e1 e10 e11)) := hD
        exact W.iret hx hb hr (fun t ht hW => ⟨⟨_, (), rfl, by rw [hf, ab_0]; (try (repeat (first | rw [if_pos (by omega)] | rw [if_neg (by omega)]))); first | done | rfl | exact congrArg iI (by omega) | exact congrArg iI (by simp only [up]; (repeat (first | rw [if_pos (by omega)] | rw [if_neg (by omega)])); first | done | omega), by rw [ht]; exact hP, hD⟩, hS.F ht⟩) hS.2.2 dX4_as_54
      · refine xi_zf_ne hx hb ⟨by decide, by decide⟩ (by decide) dX4_as_35 ⟨45, by decide⟩ ?_
        refine lv_aload_n hx hb dX4_as_38 rfl (lv_at hl 0 rfl) ?_
        refine xi_ldc hx hb hown hts kk_X4_151 dX4_as_39 ?_
        refine xmF_i (rV (rest := []) hx hb hml hown hts hK hl (c_X4_finding l g b d fo tp sh a f1 f20 (-1000000003) (s.heap).size (show 0 ≤ -1000000001 - (-1000000003) ∧ -1000000001 - (-1000000003) < 7 from by omega)) lk_X4_59 ⟨rfl, hP0, (va_D_app hD).1.weaken (fun _ _ _ _ => trivial)⟩ (va_recv hK.1 hP0 (ci := 4) (q0 := 0) rfl rfl) rfl rfl rfl (Rm.of rfl) rfl rfl dX4_as_41) hP hD hS hA (fun x9 _ H locs hw hP hD hS => ?_)
        obtain rfl : x9 = iI (-1000000003) := hw
        have hP : va_P g.1 vwCl (wX g a b d fo tp sh (fb (-1000000000 - (-1000000003)) f1) f20 ++ (wLs g b e1 e10 e11)) H := hP
        have hD : va_D (va_A (wX g a b d fo tp sh f1 f20 ++ (wLs g b e1 e10 e11)) s.heap.size) (wX g a b d fo tp sh (fb (-1000000000 - (-1000000003)) f1) f20 ++ (wLs g b e1 e10 e11)) := hD
        obtain ⟨hP0, hP1⟩ := va_P_app.mp hP
        have hf : fAs e1 r k = 3 := by unfold fAs; (repeat (first | rw [if_pos (by omega)] | rw [if_neg (by omega)])); first | done | (exfalso; omega)
        have he6 : (fb (-1000000000 - (-1000000003)) f1) = (fb (fAs e1 r k) f1) := by rw [hf]; rfl
        have hP := Eq.mp (congrArg (fun z9 => va_P g.1 vwCl (wX g a b d fo tp sh z9 f20 ++ (wLs g b e1 e10 e11)) H) he6) hP
        have hD := Eq.mp (congrArg (fun z9 => va_D (va_A (wX g a b d fo tp sh f1 f20 ++ (wLs g b e1 e10 e11)) s.heap.size) (wX g a b d fo tp sh z9 f20 ++ (wLs g b e1 e10 e11))) he6) hD
        obtain ⟨hP0, hP1⟩ := va_P_app.mp hP
        have hP : va_P g.1 vwCl (wX g a b d fo tp sh (fb (fAs e1 r k) f1) f20 ++ (wLs g b e1 e10 e11)) H := hP
        have hD : va_D (va_A (wX g a b d fo tp sh f1 f20 ++ (wLs g b e1 e10 e11)) s.heap.size) (wX g a b d fo tp sh (fb (fAs e1 r k) f1) f20 ++ (wLs g b e1 e10 e11)) := hD
        exact W.iret hx hb hr (fun t ht hW => ⟨⟨_, (), rfl, by rw [hf]; rfl, by rw [ht]; exact hP, hD⟩, hS.F ht⟩) hS.2.2 dX4_as_44
    · refine xi_zf_ne hx hb ⟨by decide, by decide⟩ (by decide) dX4_as_12 ⟨22, by decide⟩ ?_
      refine lv_aload_n hx hb dX4_as_15 rfl (lv_at hl 0 rfl) ?_
      refine xi_ldc hx hb hown hts kk_X4_58 dX4_as_16 ?_
      refine xmF_i (rV (rest := []) hx hb hml hown hts hK hl (c_X4_finding l g b d fo tp sh a f1 f20 (-1000000001) (s.heap).size (show 0 ≤ -1000000001 - (-1000000001) ∧ -1000000001 - (-1000000001) < 7 from by omega)) lk_X4_59 ⟨rfl, hP0, (va_D_app hD).1.weaken (fun _ _ _ _ => trivial)⟩ (va_recv hK.1 hP0 (ci := 4) (q0 := 0) rfl rfl) rfl rfl rfl (Rm.of rfl) rfl rfl dX4_as_18) hP hD hS hA (fun x9 _ H locs hw hP hD hS => ?_)
      obtain rfl : x9 = iI (-1000000001) := hw
      have hP : va_P g.1 vwCl (wX g a b d fo tp sh (fb (-1000000000 - (-1000000001)) f1) f20 ++ (wLs g b e1 e10 e11)) H := hP
      have hD : va_D (va_A (wX g a b d fo tp sh f1 f20 ++ (wLs g b e1 e10 e11)) s.heap.size) (wX g a b d fo tp sh (fb (-1000000000 - (-1000000001)) f1) f20 ++ (wLs g b e1 e10 e11)) := hD
      obtain ⟨hP0, hP1⟩ := va_P_app.mp hP
      have hf : fAs e1 r k = 1 := by unfold fAs; (repeat (first | rw [if_pos (by omega)] | rw [if_neg (by omega)])); first | done | (exfalso; omega)
      have he8 : (fb (-1000000000 - (-1000000001)) f1) = (fb (fAs e1 r k) f1) := by rw [hf]; rfl
      have hP := Eq.mp (congrArg (fun z9 => va_P g.1 vwCl (wX g a b d fo tp sh z9 f20 ++ (wLs g b e1 e10 e11)) H) he8) hP
      have hD := Eq.mp (congrArg (fun z9 => va_D (va_A (wX g a b d fo tp sh f1 f20 ++ (wLs g b e1 e10 e11)) s.heap.size) (wX g a b d fo tp sh z9 f20 ++ (wLs g b e1 e10 e11))) he8) hD
      obtain ⟨hP0, hP1⟩ := va_P_app.mp hP
      have hP : va_P g.1 vwCl (wX g a b d fo tp sh (fb (fAs e1 r k) f1) f20 ++ (wLs g b e1 e10 e11)) H := hP
      have hD : va_D (va_A (wX g a b d fo tp sh f1 f20 ++ (wLs g b e1 e10 e11)) s.heap.size) (wX g a b d fo tp sh (fb (fAs e1 r k) f1) f20 ++ (wLs g b e1 e10 e11)) := hD
      exact W.iret hx hb hr (fun t ht hW => ⟨⟨_, (), rfl, by rw [hf]; rfl, by rw [ht]; exact hP, hD⟩, hS.F ht⟩) hS.2.2 dX4_as_21
  · refine xi_zt_eq (tgt := 15) hx hb ⟨by decide, by decide⟩ (by decide) dX4_as_5 (by decide) ?_
    refine lv_aload_n hx hb dX4_as_15 rfl (lv_at hl 0 rfl) ?_
    refine xi_ldc hx hb hown hts kk_X4_58 dX4_as_16 ?_
    refine xmF_i (rV (rest := []) hx hb hml hown hts hK hl (c_X4_finding l g b d fo tp sh a f1 f20 (-1000000001) (s.heap).size (show 0 ≤ -1000000001 - (-1000000001) ∧ -1000000001 - (-1000000001) < 7 from by omega)) lk_X4_59 ⟨rfl, hP0, (va_D_app hD).1.weaken (fun _ _ _ _ => trivial)⟩ (va_recv hK.1 hP0 (ci := 4) (q0 := 0) rfl rfl) rfl rfl rfl (Rm.of rfl) rfl rfl dX4_as_18) hP hD hS hA (fun x9 _ H locs hw hP hD hS => ?_)
    obtain rfl : x9 = iI (-1000000001) := hw
    have hP : va_P g.1 vwCl (wX g a b d fo tp sh (fb (-1000000000 - (-1000000001)) f1) f20 ++ (wLs g b e1 e10 e11)) H := hP
    have hD : va_D (va_A (wX g a b d fo tp sh f1 f20 ++ (wLs g b e1 e10 e11)) s.heap.size) (wX g a b d fo tp sh (fb (-1000000000 - (-1000000001)) f1) f20 ++ (wLs g b e1 e10 e11)) := hD
    obtain ⟨hP0, hP1⟩ := va_P_app.mp hP
    have hf : fAs e1 r k = 1 := by unfold fAs; (repeat (first | rw [if_pos (by omega)] | rw [if_neg (by omega)])); first | done | (exfalso; omega)
    have he10 : (fb (-1000000000 - (-1000000001)) f1) = (fb (fAs e1 r k) f1) := by rw [hf]; rfl
    have hP := Eq.mp (congrArg (fun z9 => va_P g.1 vwCl (wX g a b d fo tp sh z9 f20 ++ (wLs g b e1 e10 e11)) H) he10) hP
    have hD := Eq.mp (congrArg (fun z9 => va_D (va_A (wX g a b d fo tp sh f1 f20 ++ (wLs g b e1 e10 e11)) s.heap.size) (wX g a b d fo tp sh z9 f20 ++ (wLs g b e1 e10 e11))) he10) hD
    obtain ⟨hP0, hP1⟩ := va_P_app.mp hP
    have hP : va_P g.1 vwCl (wX g a b d fo tp sh (fb (fAs e1 r k) f1) f20 ++ (wLs g b e1 e10 e11)) H := hP
    have hD : va_D (va_A (wX g a b d fo tp sh f1 f20 ++ (wLs g b e1 e10 e11)) s.heap.size) (wX g a b d fo tp sh (fb (fAs e1 r k) f1) f20 ++ (wLs g b e1 e10 e11)) := hD
    exact W.iret hx hb hr (fun t ht hW => ⟨⟨_, (), rfl, by rw [hf]; rfl, by rw [ht]; exact hP, hD⟩, hS.F ht⟩) hS.2.2 dX4_as_21
abbrev rm_X4_level : Room := { frames := 1, cells := 0, slots := 0, locals := 22 }
set_option maxRecDepth 100000 in
set_option maxHeartbeats 4000000 in
theorem c_X4_level (l : Launch) (g : Gd) (d : Nat → Nat) (fo : Nat → Nat) (tp : Nat → Nat) (sh : Nat → Nat) (a : Nat → Nat) (f1 : Int → Int) (f20 : Int) (b : Nat → Nat) (e1 : Int → Int) (e10 : Int → Int) (e11 : Int → Int) (r : Int) (sz : Nat) (h1 : InvK 0 e1) (h2 : e1 0 ≤ 9999) (h3 : IR r) : Met l yX4_level (wsOf yX4_level cX4_level 3 (some .int)) rm_X4_level (PX g (wP g (wX g a b d fo tp sh f1 f20 ++ (wLs g b e1 e10 e11)) sz) [.ref (a 0), .int (iI r)]) (QMi g (fun _ : Unit => wX g a b d fo tp sh (fb (fLev e1 r) f1) f20 ++ (wLs g b (if fLev e1 r = 0 then nLev e1 r else e1) e10 e11)) (fun r9 _ => r9 = ab (fLev e1 r) (iI (e1 (61 + 5 * r + 3)))) (va_A (wX g a b d fo tp sh f1 f20 ++ (wLs g b e1 e10 e11)) sz)) 0 0 (va_A (wX g a b d fo tp sh f1 f20 ++ (wLs g b e1 e10 e11)) sz) := by
  refine me (g := g) (by decide) rfl ?_
  intro pq eq s mq below meth cq C hnm hB ls hl
  obtain ⟨hx, hb, hr, hml, hown, hts, hlocks, hK⟩ := C
  have hown : s.vm.findClass RX4 = some mq.cls := hown
  have hl : lv_has ls 3 [(0, .ref (a 0)), (1, .int (iI r))] := hl
  obtain ⟨hsz, hP, hD0⟩ := hB
  subst hsz
  have hD := hD0.self (sz := s.heap.size)
  have hA : ∀ q : Nat, s.heap.size ≤ q → va_A (wX g a b d fo tp sh f1 f20 ++ (wLs g b e1 e10 e11)) s.heap.size q := fun q h => Or.inr h
  have hS : va_S (va_A (wX g a b d fo tp sh f1 f20 ++ (wLs g b e1 e10 e11)) s.heap.size) s.heap s.heap [] := va_S.rf
  obtain ⟨hP0, hP1⟩ := va_P_app.mp hP
  have hI := h1
  have hI8 : Inv e1 := h1.mono (by omega)
  have hn := hI.num
  have hs := hI.sea
  have hv := hI.vil
  have q1 := h3.1
  have q2 := h3.2
  refine lv_aload_n hx hb dX4_level_0 rfl (lv_at hl 0 rfl) ?_
  refine lv_iload_n hx hb dX4_level_1 rfl (lv_at hl 1 rfl) ?_
  refine xu_b (P := 0 ≤ r ∧ r < e1 1) (rV (rest := []) hx hb hml hown hts hK hl (c_X4_isRange l g d fo tp sh a f1 f20 b e1 e10 e11 r (show IR r from ⟨by omega, by omega⟩) (show 0 ≤ e1 1 ∧ e1 1 ≤ 8 from by omega)) lk_X4_117 (va_P_app.mpr ⟨hP0, hP1⟩) (va_recv hK.1 hP0 (ci := 4) (q0 := 0) rfl rfl) rfl rfl rfl (Rm.of rfl) rfl rfl dX4_level_2) (fun z1 => ?_) (fun z1 => ?_)
  · refine xi_zt_ne (tgt := 15) hx hb ⟨by decide, by decide⟩ (by decide) dX4_level_5 (by decide) ?_
    refine lv_aload_n hx hb dX4_level_15 rfl (lv_at hl 0 rfl) ?_
    refine xg_X4 hx hb hts hown hK hP0 0 rfl 0 (by decide) fk_X4_10 (v := .ref (b 0)) rfl dX4_level_16 ?_
    refine xgN_X1 hx hb hts hown hK hP1 0 rfl 10 (by decide) fk_X4_129 (v := .ref (b 8)) rfl dX4_level_19 ?_
    refine lv_iload_n hx hb dX4_level_22 rfl (lv_at hl 1 rfl) ?_
    refine xi_alz hx hb hK hP1 8 (s0 := e1) rfl (i := r) ⟨by omega, by omega⟩ rfl dX4_level_23 ?_
    refine lv_istore_n (lv' := [(2, .int (iI (e1 (61 + 5 * r + 3)))), (0, .ref (a 0)), (1, .int (iI r))]) hx hb dX4_level_24 rfl hl (by decide) rfl (fun ls hl => ?_)
    refine lv_aload_n hx hb dX4_level_25 rfl (lv_at hl 1 rfl) ?_
    refine xg_X4 hx hb hts hown hK hP0 0 rfl 0 (by decide) fk_X4_10 (v := .ref (b 0)) rfl dX4_level_26 ?_
    refine lv_iload_n hx hb dX4_level_29 rfl (lv_at hl 2 rfl) ?_
    have hD : va_D (va_A (wX g a b d fo tp sh f1 f20 ++ (wLs g b e1 e10 e11)) s.heap.size) (wLs g b e1 e10 e11 ++ (wX g a b d fo tp sh f1 f20)) := D_perm (List.perm_append_comm) hD
    have hP : va_P g.1 vwCl (wLs g b e1 e10 e11 ++ (wX g a b d fo tp sh f1 f20)) s.heap := va_P_app.mpr ⟨hP1, hP0⟩
    refine xmF_v (rVN (rest := []) hx hb hml hown hts hK hl (c_X1_removeRange l g b e1 e10 e11 r (s.heap).size (show 0 ≤ r ∧ r < e1 1 from by omega) (show 0 ≤ e1 1 ∧ e1 1 ≤ 8 from by omega)) lk_X4_152 ⟨rfl, hP1, (va_D_app hD).1.weaken (fun _ _ _ _ => trivial)⟩ (va_recv hK.1 hP1 (ci := 1) (q0 := 0) rfl rfl) rfl rfl rfl (Rm.of rfl) rfl rfl dX4_level_30) hP hD hS hA (fun _ H locs hw hP hD hS => ?_)
    have hP : va_P g.1 vwCl (wLs g b (nLev e1 r) e10 e11 ++ (wX g a b d fo tp sh f1 f20)) H := hP
    have hD : va_D (va_A (wX g a b d fo tp sh f1 f20 ++ (wLs g b e1 e10 e11)) s.heap.size) (wLs g b (nLev e1 r) e10 e11 ++ (wX g a b d fo tp sh f1 f20)) := hD
    obtain ⟨hP1, hP0⟩ := va_P_app.mp hP
    refine lv_iload_n hx hb dX4_level_33 rfl (lv_at hl 0 rfl) ?_
    have hD : va_D (va_A (wX g a b d fo tp sh f1 f20 ++ (wLs g b e1 e10 e11)) s.heap.size) (wX g a b d fo tp sh f1 f20 ++ (wLs g b (nLev e1 r) e10 e11)) := D_perm (List.perm_append_comm) hD
    have hP : va_P g.1 vwCl (wX g a b d fo tp sh f1 f20 ++ (wLs g b (nLev e1 r) e10 e11)) H := va_P_app.mpr ⟨hP0, hP1⟩
    have hf : fLev e1 r = 0 := by unfold fLev; (repeat (first | rw [if_pos (by omega)] | rw [if_neg (by omega)])); first | done | (exfalso; omega)
    have he3 : f1 = (fb (fLev e1 r) f1) := by rw [hf]; rfl
    have hP := Eq.mp (congrArg (fun z9 => va_P g.1 vwCl (wX g a b d fo tp sh z9 f20 ++ (wLs g b (nLev e1 r) e10 e11)) H) he3) hP
    have hD := Eq.mp (congrArg (fun z9 => va_D (va_A (wX g a b d fo tp sh f1 f20 ++ (wLs g b e1 e10 e11)) s.heap.size) (wX g a b d fo tp sh z9 f20 ++ (wLs g b (nLev e1 r) e10 e11))) he3) hD
    obtain ⟨hP0, hP1⟩ := va_P_app.mp hP
    have he4 : (nLev e1 r) = (if fLev e1 r = 0 then nLev e1 r else e1) := by rw [hf]; rfl
    have hP := Eq.mp (congrArg (fun z9 => va_P g.1 vwCl (wX g a b d fo tp sh (fb (fLev e1 r) f1) f20 ++ (wLs g b z9 e10 e11)) H) he4) hP
    have hD := Eq.mp (congrArg (fun z9 => va_D (va_A (wX g a b d fo tp sh f1 f20 ++ (wLs g b e1 e10 e11)) s.heap.size) (wX g a b d fo tp sh (fb (fLev e1 r) f1) f20 ++ (wLs g b z9 e10 e11))) he4) hD
    obtain ⟨hP0, hP1⟩ := va_P_app.mp hP
    have hP : va_P g.1 vwCl (wX g a b d fo tp sh (fb (fLev e1 r) f1) f20 ++ (wLs g b (if fLev e1 r = 0 then nLev e1 r else e1) e10 e11)) H := hP
    have hD : va_D (va_A (wX g a b d fo tp sh f1 f20 ++ (wLs g b e1 e10 e11)) s.heap.size) (wX g a b d fo tp sh (fb (fLev e1 r) f1) f20 ++ (wLs g b (if fLev e1 r = 0 then nLev e1 r else e1) e10 e11)) := hD
    exact W.iret hx hb hr (fun t ht hW => ⟨⟨_, (), rfl, by rw [hf, ab_0]; (try (repeat (first | rw [if_pos (by omega)] | rw [if_neg (by omega)]))); first | done | rfl | exact congrArg iI (by omega) | exact congrArg iI (by simp only [up]; (repeat (first | rw [if_pos (by omega)] | rw [if_neg (by omega)])); first | done | omega), by rw [ht]; exact hP, hD⟩, hS.F ht⟩) hS.2.2 dX4_level_34
  · refine xi_zf_ne hx hb ⟨by decide, by decide⟩ (by decide) dX4_level_5 ⟨15, by decide⟩ ?_
    refine lv_aload_n hx hb dX4_level_8 rfl (lv_at hl 0 rfl) ?_
    refine xi_ldc hx hb hown hts kk_X4_58 dX4_level_9 ?_
    refine xmF_i (rV (rest := []) hx hb hml hown hts hK hl (c_X4_finding l g b d fo tp sh a f1 f20 (-1000000001) (s.heap).size (show 0 ≤ -1000000001 - (-1000000001) ∧ -1000000001 - (-1000000001) < 7 from by omega)) lk_X4_59 ⟨rfl, hP0, (va_D_app hD).1.weaken (fun _ _ _ _ => trivial)⟩ (va_recv hK.1 hP0 (ci := 4) (q0 := 0) rfl rfl) rfl rfl rfl (Rm.of rfl) rfl rfl dX4_level_11) hP hD hS hA (fun x9 _ H locs hw hP hD hS => ?_)
    obtain rfl : x9 = iI (-1000000001) := hw
    have hP : va_P g.1 vwCl (wX g a b d fo tp sh (fb (-1000000000 - (-1000000001)) f1) f20 ++ (wLs g b e1 e10 e11)) H := hP
    have hD : va_D (va_A (wX g a b d fo tp sh f1 f20 ++ (wLs g b e1 e10 e11)) s.heap.size) (wX g a b d fo tp sh (fb (-1000000000 - (-1000000001)) f1) f20 ++ (wLs g b e1 e10 e11)) := hD
    obtain ⟨hP0, hP1⟩ := va_P_app.mp hP
    have hf : fLev e1 r = 1 := by unfold fLev; (repeat (first | rw [if_pos (by omega)] | rw [if_neg (by omega)])); first | done | (exfalso; omega)
    have he6 : (fb (-1000000000 - (-1000000001)) f1) = (fb (fLev e1 r) f1) := by rw [hf]; rfl
    have hP := Eq.mp (congrArg (fun z9 => va_P g.1 vwCl (wX g a b d fo tp sh z9 f20 ++ (wLs g b e1 e10 e11)) H) he6) hP
    have hD := Eq.mp (congrArg (fun z9 => va_D (va_A (wX g a b d fo tp sh f1 f20 ++ (wLs g b e1 e10 e11)) s.heap.size) (wX g a b d fo tp sh z9 f20 ++ (wLs g b e1 e10 e11))) he6) hD
    obtain ⟨hP0, hP1⟩ := va_P_app.mp hP
    have he7 : e1 = (if fLev e1 r = 0 then nLev e1 r else e1) := by rw [hf]; rfl
    have hP := Eq.mp (congrArg (fun z9 => va_P g.1 vwCl (wX g a b d fo tp sh (fb (fLev e1 r) f1) f20 ++ (wLs g b z9 e10 e11)) H) he7) hP
    have hD := Eq.mp (congrArg (fun z9 => va_D (va_A (wX g a b d fo tp sh f1 f20 ++ (wLs g b e1 e10 e11)) s.heap.size) (wX g a b d fo tp sh (fb (fLev e1 r) f1) f20 ++ (wLs g b z9 e10 e11))) he7) hD
    obtain ⟨hP0, hP1⟩ := va_P_app.mp hP
    have hP : va_P g.1 vwCl (wX g a b d fo tp sh (fb (fLev e1 r) f1) f20 ++ (wLs g b (if fLev e1 r = 0 then nLev e1 r else e1) e10 e11)) H := hP
    have hD : va_D (va_A (wX g a b d fo tp sh f1 f20 ++ (wLs g b e1 e10 e11)) s.heap.size) (wX g a b d fo tp sh (fb (fLev e1 r) f1) f20 ++ (wLs g b (if fLev e1 r = 0 then nLev e1 r else e1) e10 e11)) := hD
    exact W.iret hx hb hr (fun t ht hW => ⟨⟨_, (), rfl, by rw [hf]; rfl, by rw [ht]; exact hP, hD⟩, hS.F ht⟩) hS.2.2 dX4_level_14
abbrev rm_X4_seasons : Room := { frames := 4, cells := 0, slots := 0, locals := 94 }
set_option maxRecDepth 100000 in
set_option maxHeartbeats 4000000 in
theorem c_X4_seasons (l : Launch) (g : Gd) (d : Nat → Nat) (fo : Nat → Nat) (tp : Nat → Nat) (sh : Nat → Nat) (a : Nat → Nat) (f1 : Int → Int) (f20 : Int) (b : Nat → Nat) (e1 : Int → Int) (e10 : Int → Int) (e11 : Int → Int) (n : Int) (sz : Nat) (h1 : InvK 0 e1) (h2 : e1 0 ≤ 9999) (h3 : IR n) : Met l yX4_seasons (wsOf yX4_seasons cX4_seasons 2 (some .int)) rm_X4_seasons (PX g (wP g (wX g a b d fo tp sh f1 f20 ++ (wLs g b e1 e10 e11)) sz) [.ref (a 0), .int (iI n)]) (QMi g (fun u9 : Nat → Int → Int => wX g a b d fo tp sh (fb (fSea e1 n) f1) f20 ++ (wLs g b (if fSea e1 n = 0 then seaN e1 (Int.toNat n) else e1) (u9 110) (u9 111))) (fun r9 _ => r9 = ab (fSea e1 n) (iI (sumA (seaN e1 (Int.toNat n)) 3))) (va_A (wX g a b d fo tp sh f1 f20 ++ (wLs g b e1 e10 e11)) sz)) 0 0 (va_A (wX g a b d fo tp sh f1 f20 ++ (wLs g b e1 e10 e11)) sz) := by
  refine me (g := g) (by decide) rfl ?_
  intro pq eq s mq below meth cq C hnm hB ls hl
  obtain ⟨hx, hb, hr, hml, hown, hts, hlocks, hK⟩ := C
  have hown : s.vm.findClass RX4 = some mq.cls := hown
  have hl : lv_has ls 2 [(0, .ref (a 0)), (1, .int (iI n))] := hl
  obtain ⟨hsz, hP, hD0⟩ := hB
  subst hsz
  have hD := hD0.self (sz := s.heap.size)
  have hA : ∀ q : Nat, s.heap.size ≤ q → va_A (wX g a b d fo tp sh f1 f20 ++ (wLs g b e1 e10 e11)) s.heap.size q := fun q h => Or.inr h
  have hS : va_S (va_A (wX g a b d fo tp sh f1 f20 ++ (wLs g b e1 e10 e11)) s.heap.size) s.heap s.heap [] := va_S.rf
  obtain ⟨hP0, hP1⟩ := va_P_app.mp hP
  have hI := h1
  have hI8 : Inv e1 := h1.mono (by omega)
  have hn := hI.num
  have hs := hI.sea
  have hv := hI.vil
  have q1 := h3.1
  have q2 := h3.2
  refine lv_iload_n hx hb dX4_seasons_0 rfl (lv_at hl 1 rfl) ?_
  refine lv_iconst (v := iI (1)) hx hb dX4_seasons_1 (by decide) ?_
  refine lv_bipush (v := iI (80)) hx hb dX4_seasons_2 (by decide) ?_
  refine xu_b (P := 1 ≤ n ∧ n ≤ 80) (rS (rest := []) hx hb hml hown hts hK hl (c_X4_isBetween l g n 1 80 (show IR n from ⟨by omega, by omega⟩) (show IR 1 from ⟨by omega, by omega⟩) (show IR 80 from ⟨by omega, by omega⟩)) lk_X4_99 trivial rfl rfl rfl (Rm.of rfl) rfl rfl dX4_seasons_4) (fun z1 => ?_) (fun z1 => ?_)
  · refine xi_zt_ne (tgt := 17) hx hb ⟨by decide, by decide⟩ (by decide) dX4_seasons_7 (by decide) ?_
    refine lv_aload_n hx hb dX4_seasons_17 rfl (lv_at hl 0 rfl) ?_
    refine xg_X4 hx hb hts hown hK hP0 0 rfl 0 (by decide) fk_X4_10 (v := .ref (b 0)) rfl dX4_seasons_18 ?_
    refine xgN_X1 hx hb hts hown hK hP1 0 rfl 0 (by decide) fk_X4_156 (v := .int (iI (e1 0))) rfl dX4_seasons_21 ?_
    refine lv_iload_n hx hb dX4_seasons_24 rfl (lv_at hl 1 rfl) ?_
    refine xi_add hx hb dX4_seasons_25 ?_
    refine lv_sipush (v := iI (9999)) hx hb dX4_seasons_26 (by decide) ?_
    refine xi_c_le (tgt := 39) hx hb ⟨by omega, by omega⟩ ⟨by decide, by decide⟩ dX4_seasons_29 (by decide) (fun z2 => ?_) (fun z2 => ?_)
    · refine lv_aload_n hx hb dX4_seasons_39 rfl (lv_at hl 0 rfl) ?_
      refine xg_X4 hx hb hts hown hK hP0 0 rfl 0 (by decide) fk_X4_10 (v := .ref (b 0)) rfl dX4_seasons_40 ?_
      refine lv_iload_n hx hb dX4_seasons_43 rfl (lv_at hl 1 rfl) ?_
      have hD : va_D (va_A (wX g a b d fo tp sh f1 f20 ++ (wLs g b e1 e10 e11)) s.heap.size) (wLs g b e1 e10 e11 ++ (wX g a b d fo tp sh f1 f20)) := D_perm (List.perm_append_comm) hD
      have hP : va_P g.1 vwCl (wLs g b e1 e10 e11 ++ (wX g a b d fo tp sh f1 f20)) s.heap := va_P_app.mpr ⟨hP1, hP0⟩
      refine xmF_v (rVN (rest := []) hx hb hml hown hts hK hl (c_X1_goSeasons l g b e1 e10 e11 n (s.heap).size (show InvK 0 e1 from h1) (show 0 ≤ n ∧ e1 0 + n ≤ 20000 from by omega)) lk_X4_159 ⟨rfl, hP1, (va_D_app hD).1.weaken (fun _ _ _ _ => trivial)⟩ (va_recv hK.1 hP1 (ci := 1) (q0 := 0) rfl rfl) rfl rfl rfl (Rm.of rfl) rfl rfl dX4_seasons_44) hP hD hS hA (fun u3 H locs hw hP hD hS => ?_)
      have hP : va_P g.1 vwCl (wLs g b (seaN e1 (Int.toNat n)) (u3 10) (u3 11) ++ (wX g a b d fo tp sh f1 f20)) H := hP
      have hD : va_D (va_A (wX g a b d fo tp sh f1 f20 ++ (wLs g b e1 e10 e11)) s.heap.size) (wLs g b (seaN e1 (Int.toNat n)) (u3 10) (u3 11) ++ (wX g a b d fo tp sh f1 f20)) := hD
      obtain ⟨hP1, hP0⟩ := va_P_app.mp hP
      refine lv_aload_n hx hb dX4_seasons_47 rfl (lv_at hl 0 rfl) ?_
      refine xg_X4 hx hb hts hown hK hP0 0 rfl 0 (by decide) fk_X4_10 (v := .ref (b 0)) rfl dX4_seasons_48 ?_
      refine xu_i (x := iI (sumA (seaN e1 (Int.toNat n)) 3)) (rVN (rest := []) hx hb hml hown hts hK hl (c_X1_allSteps l g b (seaN e1 (Int.toNat n)) (u3 10) (u3 11) (show 0 ≤ (seaN e1 (Int.toNat n)) 1 ∧ (seaN e1 (Int.toNat n)) 1 ≤ 8 from (seaN_inv hI n.toNat (by omega)).1.num)) lk_X4_162 hP1 (va_recv hK.1 hP1 (ci := 1) (q0 := 0) rfl rfl) rfl rfl rfl (Rm.of rfl) rfl rfl dX4_seasons_51) ?_
      have hD : va_D (va_A (wX g a b d fo tp sh f1 f20 ++ (wLs g b e1 e10 e11)) s.heap.size) (wX g a b d fo tp sh f1 f20 ++ (wLs g b (seaN e1 (Int.toNat n)) (u3 10) (u3 11))) := D_perm (List.perm_append_comm) hD
      have hP : va_P g.1 vwCl (wX g a b d fo tp sh f1 f20 ++ (wLs g b (seaN e1 (Int.toNat n)) (u3 10) (u3 11))) H := va_P_app.mpr ⟨hP0, hP1⟩
      have hf : fSea e1 n = 0 := by unfold fSea; (repeat (first | rw [if_pos (by omega)] | rw [if_neg (by omega)])); first | done | (exfalso; omega)
      have he5 : f1 = (fb (fSea e1 n) f1) := by rw [hf]; rfl
      have hP := Eq.mp (congrArg (fun z9 => va_P g.1 vwCl (wX g a b d fo tp sh z9 f20 ++ (wLs g b (seaN e1 (Int.toNat n)) (u3 10) (u3 11))) H) he5) hP
      have hD := Eq.mp (congrArg (fun z9 => va_D (va_A (wX g a b d fo tp sh f1 f20 ++ (wLs g b e1 e10 e11)) s.heap.size) (wX g a b d fo tp sh z9 f20 ++ (wLs g b (seaN e1 (Int.toNat n)) (u3 10) (u3 11)))) he5) hD
      obtain ⟨hP0, hP1⟩ := va_P_app.mp hP
      have he6 : (seaN e1 (Int.toNat n)) = (if fSea e1 n = 0 then seaN e1 (Int.toNat n) else e1) := by rw [hf]; rfl
      have hP := Eq.mp (congrArg (fun z9 => va_P g.1 vwCl (wX g a b d fo tp sh (fb (fSea e1 n) f1) f20 ++ (wLs g b z9 (u3 10) (u3 11))) H) he6) hP
      have hD := Eq.mp (congrArg (fun z9 => va_D (va_A (wX g a b d fo tp sh f1 f20 ++ (wLs g b e1 e10 e11)) s.heap.size) (wX g a b d fo tp sh (fb (fSea e1 n) f1) f20 ++ (wLs g b z9 (u3 10) (u3 11)))) he6) hD
      obtain ⟨hP0, hP1⟩ := va_P_app.mp hP
      have hP : va_P g.1 vwCl (wX g a b d fo tp sh (fb (fSea e1 n) f1) f20 ++ (wLs g b (if fSea e1 n = 0 then seaN e1 (Int.toNat n) else e1) ((su (su (fun _ _ => 0) 110 (u3 10)) 111 (u3 11)) 110) ((su (su (fun _ _ => 0) 110 (u3 10)) 111 (u3 11)) 111))) H := hP
      have hD : va_D (va_A (wX g a b d fo tp sh f1 f20 ++ (wLs g b e1 e10 e11)) s.heap.size) (wX g a b d fo tp sh (fb (fSea e1 n) f1) f20 ++ (wLs g b (if fSea e1 n = 0 then seaN e1 (Int.toNat n) else e1) ((su (su (fun _ _ => 0) 110 (u3 10)) 111 (u3 11)) 110) ((su (su (fun _ _ => 0) 110 (u3 10)) 111 (u3 11)) 111))) := hD
      exact W.iret hx hb hr (fun t ht hW => ⟨⟨_, (su (su (fun _ _ => 0) 110 (u3 10)) 111 (u3 11)), rfl, by rw [hf, ab_0], by rw [ht]; exact hP, hD⟩, hS.F ht⟩) hS.2.2 dX4_seasons_54
    · refine lv_aload_n hx hb dX4_seasons_32 rfl (lv_at hl 0 rfl) ?_
      refine xi_ldc hx hb hown hts kk_X4_109 dX4_seasons_33 ?_
      refine xmF_i (rV (rest := []) hx hb hml hown hts hK hl (c_X4_finding l g b d fo tp sh a f1 f20 (-1000000005) (s.heap).size (show 0 ≤ -1000000001 - (-1000000005) ∧ -1000000001 - (-1000000005) < 7 from by omega)) lk_X4_59 ⟨rfl, hP0, (va_D_app hD).1.weaken (fun _ _ _ _ => trivial)⟩ (va_recv hK.1 hP0 (ci := 4) (q0 := 0) rfl rfl) rfl rfl rfl (Rm.of rfl) rfl rfl dX4_seasons_35) hP hD hS hA (fun x9 _ H locs hw hP hD hS => ?_)
      obtain rfl : x9 = iI (-1000000005) := hw
      have hP : va_P g.1 vwCl (wX g a b d fo tp sh (fb (-1000000000 - (-1000000005)) f1) f20 ++ (wLs g b e1 e10 e11)) H := hP
      have hD : va_D (va_A (wX g a b d fo tp sh f1 f20 ++ (wLs g b e1 e10 e11)) s.heap.size) (wX g a b d fo tp sh (fb (-1000000000 - (-1000000005)) f1) f20 ++ (wLs g b e1 e10 e11)) := hD
      obtain ⟨hP0, hP1⟩ := va_P_app.mp hP
      have hf : fSea e1 n = 5 := by unfold fSea; (repeat (first | rw [if_pos (by omega)] | rw [if_neg (by omega)])); first | done | (exfalso; omega)
      have he8 : (fb (-1000000000 - (-1000000005)) f1) = (fb (fSea e1 n) f1) := by rw [hf]; rfl
      have hP := Eq.mp (congrArg (fun z9 => va_P g.1 vwCl (wX g a b d fo tp sh z9 f20 ++ (wLs g b e1 e10 e11)) H) he8) hP
      have hD := Eq.mp (congrArg (fun z9 => va_D (va_A (wX g a b d fo tp sh f1 f20 ++ (wLs g b e1 e10 e11)) s.heap.size) (wX g a b d fo tp sh z9 f20 ++ (wLs g b e1 e10 e11))) he8) hD
      obtain ⟨hP0, hP1⟩ := va_P_app.mp hP
      have he9 : e1 = (if fSea e1 n = 0 then seaN e1 (Int.toNat n) else e1) := by rw [hf]; rfl
      have hP := Eq.mp (congrArg (fun z9 => va_P g.1 vwCl (wX g a b d fo tp sh (fb (fSea e1 n) f1) f20 ++ (wLs g b z9 e10 e11)) H) he9) hP
      have hD := Eq.mp (congrArg (fun z9 => va_D (va_A (wX g a b d fo tp sh f1 f20 ++ (wLs g b e1 e10 e11)) s.heap.size) (wX g a b d fo tp sh (fb (fSea e1 n) f1) f20 ++ (wLs g b z9 e10 e11))) he9) hD
      obtain ⟨hP0, hP1⟩ := va_P_app.mp hP
      have hP : va_P g.1 vwCl (wX g a b d fo tp sh (fb (fSea e1 n) f1) f20 ++ (wLs g b (if fSea e1 n = 0 then seaN e1 (Int.toNat n) else e1) ((su (su (fun _ _ => 0) 110 e10) 111 e11) 110) ((su (su (fun _ _ => 0) 110 e10) 111 e11) 111))) H := hP
      have hD : va_D (va_A (wX g a b d fo tp sh f1 f20 ++ (wLs g b e1 e10 e11)) s.heap.size) (wX g a b d fo tp sh (fb (fSea e1 n) f1) f20 ++ (wLs g b (if fSea e1 n = 0 then seaN e1 (Int.toNat n) else e1) ((su (su (fun _ _ => 0) 110 e10) 111 e11) 110) ((su (su (fun _ _ => 0) 110 e10) 111 e11) 111))) := hD
      exact W.iret hx hb hr (fun t ht hW => ⟨⟨_, (su (su (fun _ _ => 0) 110 e10) 111 e11), rfl, by rw [hf]; rfl, by rw [ht]; exact hP, hD⟩, hS.F ht⟩) hS.2.2 dX4_seasons_38
  · refine xi_zf_ne hx hb ⟨by decide, by decide⟩ (by decide) dX4_seasons_7 ⟨17, by decide⟩ ?_
    refine lv_aload_n hx hb dX4_seasons_10 rfl (lv_at hl 0 rfl) ?_
    refine xi_ldc hx hb hown hts kk_X4_58 dX4_seasons_11 ?_
    refine xmF_i (rV (rest := []) hx hb hml hown hts hK hl (c_X4_finding l g b d fo tp sh a f1 f20 (-1000000001) (s.heap).size (show 0 ≤ -1000000001 - (-1000000001) ∧ -1000000001 - (-1000000001) < 7 from by omega)) lk_X4_59 ⟨rfl, hP0, (va_D_app hD).1.weaken (fun _ _ _ _ => trivial)⟩ (va_recv hK.1 hP0 (ci := 4) (q0 := 0) rfl rfl) rfl rfl rfl (Rm.of rfl) rfl rfl dX4_seasons_13) hP hD hS hA (fun x9 _ H locs hw hP hD hS => ?_)
    obtain rfl : x9 = iI (-1000000001) := hw
    have hP : va_P g.1 vwCl (wX g a b d fo tp sh (fb (-1000000000 - (-1000000001)) f1) f20 ++ (wLs g b e1 e10 e11)) H := hP
    have hD : va_D (va_A (wX g a b d fo tp sh f1 f20 ++ (wLs g b e1 e10 e11)) s.heap.size) (wX g a b d fo tp sh (fb (-1000000000 - (-1000000001)) f1) f20 ++ (wLs g b e1 e10 e11)) := hD
    obtain ⟨hP0, hP1⟩ := va_P_app.mp hP
    have hf : fSea e1 n = 1 := by unfold fSea; (repeat (first | rw [if_pos (by omega)] | rw [if_neg (by omega)])); first | done | (exfalso; omega)
    have he11 : (fb (-1000000000 - (-1000000001)) f1) = (fb (fSea e1 n) f1) := by rw [hf]; rfl
    have hP := Eq.mp (congrArg (fun z9 => va_P g.1 vwCl (wX g a b d fo tp sh z9 f20 ++ (wLs g b e1 e10 e11)) H) he11) hP
    have hD := Eq.mp (congrArg (fun z9 => va_D (va_A (wX g a b d fo tp sh f1 f20 ++ (wLs g b e1 e10 e11)) s.heap.size) (wX g a b d fo tp sh z9 f20 ++ (wLs g b e1 e10 e11))) he11) hD
    obtain ⟨hP0, hP1⟩ := va_P_app.mp hP
    have he12 : e1 = (if fSea e1 n = 0 then seaN e1 (Int.toNat n) else e1) := by rw [hf]; rfl
    have hP := Eq.mp (congrArg (fun z9 => va_P g.1 vwCl (wX g a b d fo tp sh (fb (fSea e1 n) f1) f20 ++ (wLs g b z9 e10 e11)) H) he12) hP
    have hD := Eq.mp (congrArg (fun z9 => va_D (va_A (wX g a b d fo tp sh f1 f20 ++ (wLs g b e1 e10 e11)) s.heap.size) (wX g a b d fo tp sh (fb (fSea e1 n) f1) f20 ++ (wLs g b z9 e10 e11))) he12) hD
    obtain ⟨hP0, hP1⟩ := va_P_app.mp hP
    have hP : va_P g.1 vwCl (wX g a b d fo tp sh (fb (fSea e1 n) f1) f20 ++ (wLs g b (if fSea e1 n = 0 then seaN e1 (Int.toNat n) else e1) ((su (su (fun _ _ => 0) 110 e10) 111 e11) 110) ((su (su (fun _ _ => 0) 110 e10) 111 e11) 111))) H := hP
    have hD : va_D (va_A (wX g a b d fo tp sh f1 f20 ++ (wLs g b e1 e10 e11)) s.heap.size) (wX g a b d fo tp sh (fb (fSea e1 n) f1) f20 ++ (wLs g b (if fSea e1 n = 0 then seaN e1 (Int.toNat n) else e1) ((su (su (fun _ _ => 0) 110 e10) 111 e11) 110) ((su (su (fun _ _ => 0) 110 e10) 111 e11) 111))) := hD
    exact W.iret hx hb hr (fun t ht hW => ⟨⟨_, (su (su (fun _ _ => 0) 110 e10) 111 e11), rfl, by rw [hf]; rfl, by rw [ht]; exact hP, hD⟩, hS.F ht⟩) hS.2.2 dX4_seasons_16
abbrev rm_X4_now : Room := { frames := 3, cells := 0, slots := 0, locals := 66 }
set_option maxRecDepth 100000 in
set_option maxHeartbeats 4000000 in
theorem c_X4_now (l : Launch) (g : Gd) (d : Nat → Nat) (fo : Nat → Nat) (tp : Nat → Nat) (sh : Nat → Nat) (a : Nat → Nat) (f1 : Int → Int) (f20 : Int) (b : Nat → Nat) (e1 : Int → Int) (e10 : Int → Int) (e11 : Int → Int) (w : Int) (sz : Nat) (h1 : InvK 0 e1) (h2 : e1 0 ≤ 9999) (h3 : IR w) : Met l yX4_now (wsOf yX4_now cX4_now 2 (some .int)) rm_X4_now (PX g (wP g (wX g a b d fo tp sh f1 f20 ++ (wLs g b e1 e10 e11)) sz) [.ref (a 0), .int (iI w)]) (QMi g (fun _ : Unit => wX g a b d fo tp sh (fb (fBtw w 0 6) f1) f20 ++ (wLs g b e1 e10 e11)) (fun r9 _ => r9 = ab (fBtw w 0 6) (aNow e1 w)) (va_A (wX g a b d fo tp sh f1 f20 ++ (wLs g b e1 e10 e11)) sz)) 0 0 (va_A (wX g a b d fo tp sh f1 f20 ++ (wLs g b e1 e10 e11)) sz) := by
  refine me (g := g) (by decide) rfl ?_
  intro pq eq s mq below meth cq C hnm hB ls hl
  obtain ⟨hx, hb, hr, hml, hown, hts, hlocks, hK⟩ := C
  have hown : s.vm.findClass RX4 = some mq.cls := hown
  have hl : lv_has ls 2 [(0, .ref (a 0)), (1, .int (iI w))] := hl
  obtain ⟨hsz, hP, hD0⟩ := hB
  subst hsz
  have hD := hD0.self (sz := s.heap.size)
  have hA : ∀ q : Nat, s.heap.size ≤ q → va_A (wX g a b d fo tp sh f1 f20 ++ (wLs g b e1 e10 e11)) s.heap.size q := fun q h => Or.inr h
  have hS : va_S (va_A (wX g a b d fo tp sh f1 f20 ++ (wLs g b e1 e10 e11)) s.heap.size) s.heap s.heap [] := va_S.rf
  obtain ⟨hP0, hP1⟩ := va_P_app.mp hP
  have hI := h1
  have hI8 : Inv e1 := h1.mono (by omega)
  have hn := hI.num
  have hs := hI.sea
  have hv := hI.vil
  have q1 := h3.1
  have q2 := h3.2
  refine lv_iload_n hx hb dX4_now_0 rfl (lv_at hl 1 rfl) ?_
  have hir1 : IR (w) := ⟨by omega, by omega⟩
  rcases (show (w) = 0 ∨ (w) = 1 ∨ (w) = 2 ∨ (w) = 3 ∨ (w) = 4 ∨ (w) = 5 ∨ (w) = 6 ∨ ((w) < 0 ∨ 6 < (w)) by omega) with z1 | z1 | z1 | z1 | z1 | z1 | z1 | z1
  · refine lv_tableIn (tgt := 44) (off := 43) hx hb dX4_now_1 (by rw [iI_toInt hir1, z1]; decide) (by rw [iI_toInt hir1, z1]; decide) (by rw [iI_toInt hir1, z1]; rfl) (by decide) ?_
    refine lv_aload_n hx hb dX4_now_44 rfl (lv_at hl 0 rfl) ?_
    refine xg_X4 hx hb hts hown hK hP0 0 rfl 0 (by decide) fk_X4_10 (v := .ref (b 0)) rfl dX4_now_45 ?_
    refine xgN_X1 hx hb hts hown hK hP1 0 rfl 0 (by decide) fk_X4_156 (v := .int (iI (e1 0))) rfl dX4_now_48 ?_
    have hf : fBtw w 0 6 = 0 := by unfold fBtw; (repeat (first | rw [if_pos (by omega)] | rw [if_neg (by omega)])); first | done | (exfalso; omega)
    have he2 : f1 = (fb (fBtw w 0 6) f1) := by rw [hf]; rfl
    have hP := Eq.mp (congrArg (fun z9 => va_P g.1 vwCl (wX g a b d fo tp sh z9 f20 ++ (wLs g b e1 e10 e11)) s.heap) he2) hP
    have hD := Eq.mp (congrArg (fun z9 => va_D (va_A (wX g a b d fo tp sh f1 f20 ++ (wLs g b e1 e10 e11)) s.heap.size) (wX g a b d fo tp sh z9 f20 ++ (wLs g b e1 e10 e11))) he2) hD
    obtain ⟨hP0, hP1⟩ := va_P_app.mp hP
    have hP : va_P g.1 vwCl (wX g a b d fo tp sh (fb (fBtw w 0 6) f1) f20 ++ (wLs g b e1 e10 e11)) s.heap := hP
    have hD : va_D (va_A (wX g a b d fo tp sh f1 f20 ++ (wLs g b e1 e10 e11)) s.heap.size) (wX g a b d fo tp sh (fb (fBtw w 0 6) f1) f20 ++ (wLs g b e1 e10 e11)) := hD
    exact W.iret hx hb hr (fun t ht hW => ⟨⟨_, (), rfl, by rw [hf, ab_0]; unfold aNow; (repeat (first | rw [if_pos (by omega)] | rw [if_neg (by omega)])); first | done | rfl | (rw [bI_t (by assumption)]; done) | (rw [bI_f (by assumption)]; done), by rw [ht]; exact hP, hD⟩, hS.F ht⟩) hS.2.2 dX4_now_51
  · refine lv_tableIn (tgt := 52) (off := 51) hx hb dX4_now_1 (by rw [iI_toInt hir1, z1]; decide) (by rw [iI_toInt hir1, z1]; decide) (by rw [iI_toInt hir1, z1]; rfl) (by decide) ?_
    refine lv_aload_n hx hb dX4_now_52 rfl (lv_at hl 0 rfl) ?_
    refine xg_X4 hx hb hts hown hK hP0 0 rfl 0 (by decide) fk_X4_10 (v := .ref (b 0)) rfl dX4_now_53 ?_
    refine xu_i (x := iI (sumA e1 3)) (rVN (rest := []) hx hb hml hown hts hK hl (c_X1_allSteps l g b e1 e10 e11 (show 0 ≤ e1 1 ∧ e1 1 ≤ 8 from by omega)) lk_X4_162 hP1 (va_recv hK.1 hP1 (ci := 1) (q0 := 0) rfl rfl) rfl rfl rfl (Rm.of rfl) rfl rfl dX4_now_56) ?_
    have hf : fBtw w 0 6 = 0 := by unfold fBtw; (repeat (first | rw [if_pos (by omega)] | rw [if_neg (by omega)])); first | done | (exfalso; omega)
    have he4 : f1 = (fb (fBtw w 0 6) f1) := by rw [hf]; rfl
    have hP := Eq.mp (congrArg (fun z9 => va_P g.1 vwCl (wX g a b d fo tp sh z9 f20 ++ (wLs g b e1 e10 e11)) s.heap) he4) hP
    have hD := Eq.mp (congrArg (fun z9 => va_D (va_A (wX g a b d fo tp sh f1 f20 ++ (wLs g b e1 e10 e11)) s.heap.size) (wX g a b d fo tp sh z9 f20 ++ (wLs g b e1 e10 e11))) he4) hD
    obtain ⟨hP0, hP1⟩ := va_P_app.mp hP
    have hP : va_P g.1 vwCl (wX g a b d fo tp sh (fb (fBtw w 0 6) f1) f20 ++ (wLs g b e1 e10 e11)) s.heap := hP
    have hD : va_D (va_A (wX g a b d fo tp sh f1 f20 ++ (wLs g b e1 e10 e11)) s.heap.size) (wX g a b d fo tp sh (fb (fBtw w 0 6) f1) f20 ++ (wLs g b e1 e10 e11)) := hD
    exact W.iret hx hb hr (fun t ht hW => ⟨⟨_, (), rfl, by rw [hf, ab_0]; unfold aNow; (repeat (first | rw [if_pos (by omega)] | rw [if_neg (by omega)])); first | done | rfl | (rw [bI_t (by assumption)]; done) | (rw [bI_f (by assumption)]; done), by rw [ht]; exact hP, hD⟩, hS.F ht⟩) hS.2.2 dX4_now_59
  · refine lv_tableIn (tgt := 60) (off := 59) hx hb dX4_now_1 (by rw [iI_toInt hir1, z1]; decide) (by rw [iI_toInt hir1, z1]; decide) (by rw [iI_toInt hir1, z1]; rfl) (by decide) ?_
    refine lv_aload_n hx hb dX4_now_60 rfl (lv_at hl 0 rfl) ?_
    refine xg_X4 hx hb hts hown hK hP0 0 rfl 0 (by decide) fk_X4_10 (v := .ref (b 0)) rfl dX4_now_61 ?_
    refine xu_i (x := iI (sumA e1 4)) (rVN (rest := []) hx hb hml hown hts hK hl (c_X1_allWaits l g b e1 e10 e11 (show 0 ≤ e1 1 ∧ e1 1 ≤ 8 from by omega)) lk_X4_166 hP1 (va_recv hK.1 hP1 (ci := 1) (q0 := 0) rfl rfl) rfl rfl rfl (Rm.of rfl) rfl rfl dX4_now_64) ?_
    have hf : fBtw w 0 6 = 0 := by unfold fBtw; (repeat (first | rw [if_pos (by omega)] | rw [if_neg (by omega)])); first | done | (exfalso; omega)
    have he6 : f1 = (fb (fBtw w 0 6) f1) := by rw [hf]; rfl
    have hP := Eq.mp (congrArg (fun z9 => va_P g.1 vwCl (wX g a b d fo tp sh z9 f20 ++ (wLs g b e1 e10 e11)) s.heap) he6) hP
    have hD := Eq.mp (congrArg (fun z9 => va_D (va_A (wX g a b d fo tp sh f1 f20 ++ (wLs g b e1 e10 e11)) s.heap.size) (wX g a b d fo tp sh z9 f20 ++ (wLs g b e1 e10 e11))) he6) hD
    obtain ⟨hP0, hP1⟩ := va_P_app.mp hP
    have hP : va_P g.1 vwCl (wX g a b d fo tp sh (fb (fBtw w 0 6) f1) f20 ++ (wLs g b e1 e10 e11)) s.heap := hP
    have hD : va_D (va_A (wX g a b d fo tp sh f1 f20 ++ (wLs g b e1 e10 e11)) s.heap.size) (wX g a b d fo tp sh (fb (fBtw w 0 6) f1) f20 ++ (wLs g b e1 e10 e11)) := hD
    exact W.iret hx hb hr (fun t ht hW => ⟨⟨_, (), rfl, by rw [hf, ab_0]; unfold aNow; (repeat (first | rw [if_pos (by omega)] | rw [if_neg (by omega)])); first | done | rfl | (rw [bI_t (by assumption)]; done) | (rw [bI_f (by assumption)]; done), by rw [ht]; exact hP, hD⟩, hS.F ht⟩) hS.2.2 dX4_now_67
  · refine lv_tableIn (tgt := 68) (off := 67) hx hb dX4_now_1 (by rw [iI_toInt hir1, z1]; decide) (by rw [iI_toInt hir1, z1]; decide) (by rw [iI_toInt hir1, z1]; rfl) (by decide) ?_
    refine lv_aload_n hx hb dX4_now_68 rfl (lv_at hl 0 rfl) ?_
    refine xg_X4 hx hb hts hown hK hP0 0 rfl 0 (by decide) fk_X4_10 (v := .ref (b 0)) rfl dX4_now_69 ?_
    refine xu_i (x := orT (plT e1) (e1 1).toNat) (rVN (rest := []) hx hb hml hown hts hK hl (c_X1_takenCells l g b e1 e10 e11 (show Inv e1 from hI8)) lk_X4_169 hP1 (va_recv hK.1 hP1 (ci := 1) (q0 := 0) rfl rfl) rfl rfl rfl (Rm.of rfl) rfl rfl dX4_now_72) ?_
    have hf : fBtw w 0 6 = 0 := by unfold fBtw; (repeat (first | rw [if_pos (by omega)] | rw [if_neg (by omega)])); first | done | (exfalso; omega)
    have he8 : f1 = (fb (fBtw w 0 6) f1) := by rw [hf]; rfl
    have hP := Eq.mp (congrArg (fun z9 => va_P g.1 vwCl (wX g a b d fo tp sh z9 f20 ++ (wLs g b e1 e10 e11)) s.heap) he8) hP
    have hD := Eq.mp (congrArg (fun z9 => va_D (va_A (wX g a b d fo tp sh f1 f20 ++ (wLs g b e1 e10 e11)) s.heap.size) (wX g a b d fo tp sh z9 f20 ++ (wLs g b e1 e10 e11))) he8) hD
    obtain ⟨hP0, hP1⟩ := va_P_app.mp hP
    have hP : va_P g.1 vwCl (wX g a b d fo tp sh (fb (fBtw w 0 6) f1) f20 ++ (wLs g b e1 e10 e11)) s.heap := hP
    have hD : va_D (va_A (wX g a b d fo tp sh f1 f20 ++ (wLs g b e1 e10 e11)) s.heap.size) (wX g a b d fo tp sh (fb (fBtw w 0 6) f1) f20 ++ (wLs g b e1 e10 e11)) := hD
    exact W.iret hx hb hr (fun t ht hW => ⟨⟨_, (), rfl, by rw [hf, ab_0]; unfold aNow; (repeat (first | rw [if_pos (by omega)] | rw [if_neg (by omega)])); first | done | rfl | (rw [bI_t (by assumption)]; done) | (rw [bI_f (by assumption)]; done), by rw [ht]; exact hP, hD⟩, hS.F ht⟩) hS.2.2 dX4_now_75
  · refine lv_tableIn (tgt := 76) (off := 75) hx hb dX4_now_1 (by rw [iI_toInt hir1, z1]; decide) (by rw [iI_toInt hir1, z1]; decide) (by rw [iI_toInt hir1, z1]; rfl) (by decide) ?_
    refine lv_aload_n hx hb dX4_now_76 rfl (lv_at hl 0 rfl) ?_
    refine xg_X4 hx hb hts hown hK hP0 0 rfl 0 (by decide) fk_X4_10 (v := .ref (b 0)) rfl dX4_now_77 ?_
    refine xu_i (x := orT (opT e1) 24) (rVN (rest := []) hx hb hml hown hts hK hl (c_X1_openPasses l g b e1 e10 e11 (show Inv e1 from hI8)) lk_X4_172 hP1 (va_recv hK.1 hP1 (ci := 1) (q0 := 0) rfl rfl) rfl rfl rfl (Rm.of rfl) rfl rfl dX4_now_80) ?_
    have hf : fBtw w 0 6 = 0 := by unfold fBtw; (repeat (first | rw [if_pos (by omega)] | rw [if_neg (by omega)])); first | done | (exfalso; omega)
    have he10 : f1 = (fb (fBtw w 0 6) f1) := by rw [hf]; rfl
    have hP := Eq.mp (congrArg (fun z9 => va_P g.1 vwCl (wX g a b d fo tp sh z9 f20 ++ (wLs g b e1 e10 e11)) s.heap) he10) hP
    have hD := Eq.mp (congrArg (fun z9 => va_D (va_A (wX g a b d fo tp sh f1 f20 ++ (wLs g b e1 e10 e11)) s.heap.size) (wX g a b d fo tp sh z9 f20 ++ (wLs g b e1 e10 e11))) he10) hD
    obtain ⟨hP0, hP1⟩ := va_P_app.mp hP
    have hP : va_P g.1 vwCl (wX g a b d fo tp sh (fb (fBtw w 0 6) f1) f20 ++ (wLs g b e1 e10 e11)) s.heap := hP
    have hD : va_D (va_A (wX g a b d fo tp sh f1 f20 ++ (wLs g b e1 e10 e11)) s.heap.size) (wX g a b d fo tp sh (fb (fBtw w 0 6) f1) f20 ++ (wLs g b e1 e10 e11)) := hD
    exact W.iret hx hb hr (fun t ht hW => ⟨⟨_, (), rfl, by rw [hf, ab_0]; unfold aNow; (repeat (first | rw [if_pos (by omega)] | rw [if_neg (by omega)])); first | done | rfl | (rw [bI_t (by assumption)]; done) | (rw [bI_f (by assumption)]; done), by rw [ht]; exact hP, hD⟩, hS.F ht⟩) hS.2.2 dX4_now_83
  · refine lv_tableIn (tgt := 84) (off := 83) hx hb dX4_now_1 (by rw [iI_toInt hir1, z1]; decide) (by rw [iI_toInt hir1, z1]; decide) (by rw [iI_toInt hir1, z1]; rfl) (by decide) ?_
    refine lv_aload_n hx hb dX4_now_84 rfl (lv_at hl 0 rfl) ?_
    refine xg_X4 hx hb hts hown hK hP0 0 rfl 0 (by decide) fk_X4_10 (v := .ref (b 0)) rfl dX4_now_85 ?_
    refine xu_i (x := orT (liT e1) (e1 2).toNat) (rVN (rest := []) hx hb hml hown hts hK hl (c_X1_litVillages l g b e1 e10 e11 (show Inv e1 from hI8)) lk_X4_175 hP1 (va_recv hK.1 hP1 (ci := 1) (q0 := 0) rfl rfl) rfl rfl rfl (Rm.of rfl) rfl rfl dX4_now_88) ?_
    have hf : fBtw w 0 6 = 0 := by unfold fBtw; (repeat (first | rw [if_pos (by omega)] | rw [if_neg (by omega)])); first | done | (exfalso; omega)
    have he12 : f1 = (fb (fBtw w 0 6) f1) := by rw [hf]; rfl
    have hP := Eq.mp (congrArg (fun z9 => va_P g.1 vwCl (wX g a b d fo tp sh z9 f20 ++ (wLs g b e1 e10 e11)) s.heap) he12) hP
    have hD := Eq.mp (congrArg (fun z9 => va_D (va_A (wX g a b d fo tp sh f1 f20 ++ (wLs g b e1 e10 e11)) s.heap.size) (wX g a b d fo tp sh z9 f20 ++ (wLs g b e1 e10 e11))) he12) hD
    obtain ⟨hP0, hP1⟩ := va_P_app.mp hP
    have hP : va_P g.1 vwCl (wX g a b d fo tp sh (fb (fBtw w 0 6) f1) f20 ++ (wLs g b e1 e10 e11)) s.heap := hP
    have hD : va_D (va_A (wX g a b d fo tp sh f1 f20 ++ (wLs g b e1 e10 e11)) s.heap.size) (wX g a b d fo tp sh (fb (fBtw w 0 6) f1) f20 ++ (wLs g b e1 e10 e11)) := hD
    exact W.iret hx hb hr (fun t ht hW => ⟨⟨_, (), rfl, by rw [hf, ab_0]; unfold aNow; (repeat (first | rw [if_pos (by omega)] | rw [if_neg (by omega)])); first | done | rfl | (rw [bI_t (by assumption)]; done) | (rw [bI_f (by assumption)]; done), by rw [ht]; exact hP, hD⟩, hS.F ht⟩) hS.2.2 dX4_now_91
  · refine lv_tableIn (tgt := 92) (off := 91) hx hb dX4_now_1 (by rw [iI_toInt hir1, z1]; decide) (by rw [iI_toInt hir1, z1]; decide) (by rw [iI_toInt hir1, z1]; rfl) (by decide) ?_
    refine lv_aload_n hx hb dX4_now_92 rfl (lv_at hl 0 rfl) ?_
    refine xg_X4 hx hb hts hown hK hP0 0 rfl 0 (by decide) fk_X4_10 (v := .ref (b 0)) rfl dX4_now_93 ?_
    refine xu_b (P := e1 0 % 4 < 2) (rVN (rest := []) hx hb hml hown hts hK hl (c_X1_isSummer l g b e1 e10 e11 (show Inv e1 from hI8)) lk_X4_178 hP1 (va_recv hK.1 hP1 (ci := 1) (q0 := 0) rfl rfl) rfl rfl rfl (Rm.of rfl) rfl rfl dX4_now_96) (fun z13 => ?_) (fun z13 => ?_)
    · refine xi_zf_eq hx hb ⟨by decide, by decide⟩ (by decide) dX4_now_99 ⟨106, by decide⟩ ?_
      refine lv_iconst (v := iI (1)) hx hb dX4_now_102 (by decide) ?_
      refine lv_goto (tgt := 107) hx hb dX4_now_103 (by decide) ?_
      have hf : fBtw w 0 6 = 0 := by unfold fBtw; (repeat (first | rw [if_pos (by omega)] | rw [if_neg (by omega)])); first | done | (exfalso; omega)
      have he14 : f1 = (fb (fBtw w 0 6) f1) := by rw [hf]; rfl
      have hP := Eq.mp (congrArg (fun z9 => va_P g.1 vwCl (wX g a b d fo tp sh z9 f20 ++ (wLs g b e1 e10 e11)) s.heap) he14) hP
      have hD := Eq.mp (congrArg (fun z9 => va_D (va_A (wX g a b d fo tp sh f1 f20 ++ (wLs g b e1 e10 e11)) s.heap.size) (wX g a b d fo tp sh z9 f20 ++ (wLs g b e1 e10 e11))) he14) hD
      obtain ⟨hP0, hP1⟩ := va_P_app.mp hP
      have hP : va_P g.1 vwCl (wX g a b d fo tp sh (fb (fBtw w 0 6) f1) f20 ++ (wLs g b e1 e10 e11)) s.heap := hP
      have hD : va_D (va_A (wX g a b d fo tp sh f1 f20 ++ (wLs g b e1 e10 e11)) s.heap.size) (wX g a b d fo tp sh (fb (fBtw w 0 6) f1) f20 ++ (wLs g b e1 e10 e11)) := hD
      exact W.iret hx hb hr (fun t ht hW => ⟨⟨_, (), rfl, by rw [hf, ab_0]; unfold aNow; (repeat (first | rw [if_pos (by omega)] | rw [if_neg (by omega)])); first | done | rfl | (rw [bI_t (by assumption)]; done) | (rw [bI_f (by assumption)]; done), by rw [ht]; exact hP, hD⟩, hS.F ht⟩) hS.2.2 dX4_now_107
    · refine xi_zt_eq (tgt := 106) hx hb ⟨by decide, by decide⟩ (by decide) dX4_now_99 (by decide) ?_
      refine lv_iconst (v := iI (0)) hx hb dX4_now_106 (by decide) ?_
      have hf : fBtw w 0 6 = 0 := by unfold fBtw; (repeat (first | rw [if_pos (by omega)] | rw [if_neg (by omega)])); first | done | (exfalso; omega)
      have he15 : f1 = (fb (fBtw w 0 6) f1) := by rw [hf]; rfl
      have hP := Eq.mp (congrArg (fun z9 => va_P g.1 vwCl (wX g a b d fo tp sh z9 f20 ++ (wLs g b e1 e10 e11)) s.heap) he15) hP
      have hD := Eq.mp (congrArg (fun z9 => va_D (va_A (wX g a b d fo tp sh f1 f20 ++ (wLs g b e1 e10 e11)) s.heap.size) (wX g a b d fo tp sh z9 f20 ++ (wLs g b e1 e10 e11))) he15) hD
      obtain ⟨hP0, hP1⟩ := va_P_app.mp hP
      have hP : va_P g.1 vwCl (wX g a b d fo tp sh (fb (fBtw w 0 6) f1) f20 ++ (wLs g b e1 e10 e11)) s.heap := hP
      have hD : va_D (va_A (wX g a b d fo tp sh f1 f20 ++ (wLs g b e1 e10 e11)) s.heap.size) (wX g a b d fo tp sh (fb (fBtw w 0 6) f1) f20 ++ (wLs g b e1 e10 e11)) := hD
      exact W.iret hx hb hr (fun t ht hW => ⟨⟨_, (), rfl, by rw [hf, ab_0]; unfold aNow; (repeat (first | rw [if_pos (by omega)] | rw [if_neg (by omega)])); first | done | rfl | (rw [bI_t (by assumption)]; done) | (rw [bI_f (by assumption)]; done), by rw [ht]; exact hP, hD⟩, hS.F ht⟩) hS.2.2 dX4_now_107
  · refine lv_tableOut (tgt := 108) hx hb dX4_now_1 (by rw [iI_toInt hir1]; exact z1) (by decide) ?_
    refine lv_aload_n hx hb dX4_now_108 rfl (lv_at hl 0 rfl) ?_
    refine xi_ldc hx hb hown hts kk_X4_58 dX4_now_109 ?_
    refine xmF_i (rV (rest := []) hx hb hml hown hts hK hl (c_X4_finding l g b d fo tp sh a f1 f20 (-1000000001) (s.heap).size (show 0 ≤ -1000000001 - (-1000000001) ∧ -1000000001 - (-1000000001) < 7 from by omega)) lk_X4_59 ⟨rfl, hP0, (va_D_app hD).1.weaken (fun _ _ _ _ => trivial)⟩ (va_recv hK.1 hP0 (ci := 4) (q0 := 0) rfl rfl) rfl rfl rfl (Rm.of rfl) rfl rfl dX4_now_111) hP hD hS hA (fun x9 _ H locs hw hP hD hS => ?_)
    obtain rfl : x9 = iI (-1000000001) := hw
    have hP : va_P g.1 vwCl (wX g a b d fo tp sh (fb (-1000000000 - (-1000000001)) f1) f20 ++ (wLs g b e1 e10 e11)) H := hP
    have hD : va_D (va_A (wX g a b d fo tp sh f1 f20 ++ (wLs g b e1 e10 e11)) s.heap.size) (wX g a b d fo tp sh (fb (-1000000000 - (-1000000001)) f1) f20 ++ (wLs g b e1 e10 e11)) := hD
    obtain ⟨hP0, hP1⟩ := va_P_app.mp hP
    have hf : fBtw w 0 6 = 1 := by unfold fBtw; (repeat (first | rw [if_pos (by omega)] | rw [if_neg (by omega)])); first | done | (exfalso; omega)
    have he17 : (fb (-1000000000 - (-1000000001)) f1) = (fb (fBtw w 0 6) f1) := by rw [hf]; rfl
    have hP := Eq.mp (congrArg (fun z9 => va_P g.1 vwCl (wX g a b d fo tp sh z9 f20 ++ (wLs g b e1 e10 e11)) H) he17) hP
    have hD := Eq.mp (congrArg (fun z9 => va_D (va_A (wX g a b d fo tp sh f1 f20 ++ (wLs g b e1 e10 e11)) s.heap.size) (wX g a b d fo tp sh z9 f20 ++ (wLs g b e1 e10 e11))) he17) hD
    obtain ⟨hP0, hP1⟩ := va_P_app.mp hP
    have hP : va_P g.1 vwCl (wX g a b d fo tp sh (fb (fBtw w 0 6) f1) f20 ++ (wLs g b e1 e10 e11)) H := hP
    have hD : va_D (va_A (wX g a b d fo tp sh f1 f20 ++ (wLs g b e1 e10 e11)) s.heap.size) (wX g a b d fo tp sh (fb (fBtw w 0 6) f1) f20 ++ (wLs g b e1 e10 e11)) := hD
    exact W.iret hx hb hr (fun t ht hW => ⟨⟨_, (), rfl, by rw [hf]; rfl, by rw [ht]; exact hP, hD⟩, hS.F ht⟩) hS.2.2 dX4_now_114
abbrev rm_X4_ahead : Room := { frames := 2, cells := 0, slots := 0, locals := 44 }
set_option maxRecDepth 100000 in
set_option maxHeartbeats 4000000 in
theorem c_X4_ahead (l : Launch) (g : Gd) (d : Nat → Nat) (fo : Nat → Nat) (tp : Nat → Nat) (sh : Nat → Nat) (a : Nat → Nat) (f1 : Int → Int) (f20 : Int) (b : Nat → Nat) (e1 : Int → Int) (e10 : Int → Int) (e11 : Int → Int) (r : Int) (sz : Nat) (h1 : InvK 0 e1) (h2 : e1 0 ≤ 9999) (h3 : IR r) : Met l yX4_ahead (wsOf yX4_ahead cX4_ahead 2 (some .int)) rm_X4_ahead (PX g (wP g (wX g a b d fo tp sh f1 f20 ++ (wLs g b e1 e10 e11)) sz) [.ref (a 0), .int (iI r)]) (QMi g (fun _ : Unit => wX g a b d fo tp sh (fb (fLev e1 r) f1) f20 ++ (wLs g b e1 e10 e11)) (fun r9 _ => r9 = ab (fLev e1 r) (iI (ahd e1 r))) (va_A (wX g a b d fo tp sh f1 f20 ++ (wLs g b e1 e10 e11)) sz)) 0 0 (va_A (wX g a b d fo tp sh f1 f20 ++ (wLs g b e1 e10 e11)) sz) := by
  refine me (g := g) (by decide) rfl ?_
  intro pq eq s mq below meth cq C hnm hB ls hl
  obtain ⟨hx, hb, hr, hml, hown, hts, hlocks, hK⟩ := C
  have hown : s.vm.findClass RX4 = some mq.cls := hown
  have hl : lv_has ls 2 [(0, .ref (a 0)), (1, .int (iI r))] := hl
  obtain ⟨hsz, hP, hD0⟩ := hB
  subst hsz
  have hD := hD0.self (sz := s.heap.size)
  have hA : ∀ q : Nat, s.heap.size ≤ q → va_A (wX g a b d fo tp sh f1 f20 ++ (wLs g b e1 e10 e11)) s.heap.size q := fun q h => Or.inr h
  have hS : va_S (va_A (wX g a b d fo tp sh f1 f20 ++ (wLs g b e1 e10 e11)) s.heap.size) s.heap s.heap [] := va_S.rf
  obtain ⟨hP0, hP1⟩ := va_P_app.mp hP
  have hI := h1
  have hI8 : Inv e1 := h1.mono (by omega)
  have hn := hI.num
  have hs := hI.sea
  have hv := hI.vil
  have q1 := h3.1
  have q2 := h3.2
  refine lv_aload_n hx hb dX4_ahead_0 rfl (lv_at hl 0 rfl) ?_
  refine lv_iload_n hx hb dX4_ahead_1 rfl (lv_at hl 1 rfl) ?_
  refine xu_b (P := 0 ≤ r ∧ r < e1 1) (rV (rest := []) hx hb hml hown hts hK hl (c_X4_isRange l g d fo tp sh a f1 f20 b e1 e10 e11 r (show IR r from ⟨by omega, by omega⟩) (show 0 ≤ e1 1 ∧ e1 1 ≤ 8 from by omega)) lk_X4_117 (va_P_app.mpr ⟨hP0, hP1⟩) (va_recv hK.1 hP0 (ci := 4) (q0 := 0) rfl rfl) rfl rfl rfl (Rm.of rfl) rfl rfl dX4_ahead_2) (fun z1 => ?_) (fun z1 => ?_)
  · refine xi_zt_ne (tgt := 15) hx hb ⟨by decide, by decide⟩ (by decide) dX4_ahead_5 (by decide) ?_
    refine lv_aload_n hx hb dX4_ahead_15 rfl (lv_at hl 0 rfl) ?_
    refine xg_X4 hx hb hts hown hK hP0 0 rfl 0 (by decide) fk_X4_10 (v := .ref (b 0)) rfl dX4_ahead_16 ?_
    refine lv_iload_n hx hb dX4_ahead_19 rfl (lv_at hl 1 rfl) ?_
    refine xu_i (x := iI (ahd e1 r)) (rVN (rest := []) hx hb hml hown hts hK hl (c_X1_rangeAhead l g b e1 e10 e11 r (show Inv e1 from hI8) (show 0 ≤ r ∧ r < e1 1 from by omega)) lk_X4_201 hP1 (va_recv hK.1 hP1 (ci := 1) (q0 := 0) rfl rfl) rfl rfl rfl (Rm.of rfl) rfl rfl dX4_ahead_20) ?_
    have hf : fLev e1 r = 0 := by unfold fLev; (repeat (first | rw [if_pos (by omega)] | rw [if_neg (by omega)])); first | done | (exfalso; omega)
    have he3 : f1 = (fb (fLev e1 r) f1) := by rw [hf]; rfl
    have hP := Eq.mp (congrArg (fun z9 => va_P g.1 vwCl (wX g a b d fo tp sh z9 f20 ++ (wLs g b e1 e10 e11)) s.heap) he3) hP
    have hD := Eq.mp (congrArg (fun z9 => va_D (va_A (wX g a b d fo tp sh f1 f20 ++ (wLs g b e1 e10 e11)) s.heap.size) (wX g a b d fo tp sh z9 f20 ++ (wLs g b e1 e10 e11))) he3) hD
    obtain ⟨hP0, hP1⟩ := va_P_app.mp hP
    have hP : va_P g.1 vwCl (wX g a b d fo tp sh (fb (fLev e1 r) f1) f20 ++ (wLs g b e1 e10 e11)) s.heap := hP
    have hD : va_D (va_A (wX g a b d fo tp sh f1 f20 ++ (wLs g b e1 e10 e11)) s.heap.size) (wX g a b d fo tp sh (fb (fLev e1 r) f1) f20 ++ (wLs g b e1 e10 e11)) := hD
    exact W.iret hx hb hr (fun t ht hW => ⟨⟨_, (), rfl, by rw [hf, ab_0], by rw [ht]; exact hP, hD⟩, hS.F ht⟩) hS.2.2 dX4_ahead_23
  · refine xi_zf_ne hx hb ⟨by decide, by decide⟩ (by decide) dX4_ahead_5 ⟨15, by decide⟩ ?_
    refine lv_aload_n hx hb dX4_ahead_8 rfl (lv_at hl 0 rfl) ?_
    refine xi_ldc hx hb hown hts kk_X4_58 dX4_ahead_9 ?_
    refine xmF_i (rV (rest := []) hx hb hml hown hts hK hl (c_X4_finding l g b d fo tp sh a f1 f20 (-1000000001) (s.heap).size (show 0 ≤ -1000000001 - (-1000000001) ∧ -1000000001 - (-1000000001) < 7 from by omega)) lk_X4_59 ⟨rfl, hP0, (va_D_app hD).1.weaken (fun _ _ _ _ => trivial)⟩ (va_recv hK.1 hP0 (ci := 4) (q0 := 0) rfl rfl) rfl rfl rfl (Rm.of rfl) rfl rfl dX4_ahead_11) hP hD hS hA (fun x9 _ H locs hw hP hD hS => ?_)
    obtain rfl : x9 = iI (-1000000001) := hw
    have hP : va_P g.1 vwCl (wX g a b d fo tp sh (fb (-1000000000 - (-1000000001)) f1) f20 ++ (wLs g b e1 e10 e11)) H := hP
    have hD : va_D (va_A (wX g a b d fo tp sh f1 f20 ++ (wLs g b e1 e10 e11)) s.heap.size) (wX g a b d fo tp sh (fb (-1000000000 - (-1000000001)) f1) f20 ++ (wLs g b e1 e10 e11)) := hD
    obtain ⟨hP0, hP1⟩ := va_P_app.mp hP
    have hf : fLev e1 r = 1 := by unfold fLev; (repeat (first | rw [if_pos (by omega)] | rw [if_neg (by omega)])); first | done | (exfalso; omega)
    have he5 : (fb (-1000000000 - (-1000000001)) f1) = (fb (fLev e1 r) f1) := by rw [hf]; rfl
    have hP := Eq.mp (congrArg (fun z9 => va_P g.1 vwCl (wX g a b d fo tp sh z9 f20 ++ (wLs g b e1 e10 e11)) H) he5) hP
    have hD := Eq.mp (congrArg (fun z9 => va_D (va_A (wX g a b d fo tp sh f1 f20 ++ (wLs g b e1 e10 e11)) s.heap.size) (wX g a b d fo tp sh z9 f20 ++ (wLs g b e1 e10 e11))) he5) hD
    obtain ⟨hP0, hP1⟩ := va_P_app.mp hP
    have hP : va_P g.1 vwCl (wX g a b d fo tp sh (fb (fLev e1 r) f1) f20 ++ (wLs g b e1 e10 e11)) H := hP
    have hD : va_D (va_A (wX g a b d fo tp sh f1 f20 ++ (wLs g b e1 e10 e11)) s.heap.size) (wX g a b d fo tp sh (fb (fLev e1 r) f1) f20 ++ (wLs g b e1 e10 e11)) := hD
    exact W.iret hx hb hr (fun t ht hW => ⟨⟨_, (), rfl, by rw [hf]; rfl, by rw [ht]; exact hP, hD⟩, hS.F ht⟩) hS.2.2 dX4_ahead_14
abbrev rm_X4_count : Room := { frames := 2, cells := 0, slots := 0, locals := 43 }
set_option maxRecDepth 100000 in
set_option maxHeartbeats 4000000 in
theorem c_X4_count (l : Launch) (g : Gd) (d : Nat → Nat) (fo : Nat → Nat) (sh : Nat → Nat) (a : Nat → Nat) (f1 : Int → Int) (f20 : Int) (b : Nat → Nat) (e1 : Int → Int) (e10 : Int → Int) (e11 : Int → Int) (tp : Nat → Nat) (p1 : Int → Int) (p20 : Int) (p21 : Int) (p22 : Int) (p23 : Int) (p24 : Int) (w : Int) (sz : Nat) (h1 : InvK 0 e1) (h2 : e1 0 ≤ 9999) (h3 : IR w) : Met l yX4_count (wsOf yX4_count cX4_count 2 (some .int)) rm_X4_count (PX g (wP g (wX g a b d fo tp sh f1 f20 ++ (wLs g b e1 e10 e11 ++ (wT g tp p1 p20 p21 p22 p23 p24))) sz) [.ref (a 0), .int (iI w)]) (QMi g (fun _ : Unit => wX g a b d fo tp sh (fb (fBtw w 0 4) f1) f20 ++ (wLs g b e1 e10 e11 ++ (wT g tp p1 p20 p21 p22 p23 p24))) (fun r9 _ => r9 = ab (fBtw w 0 4) (iI (aCnt e1 p20 w))) (va_A (wX g a b d fo tp sh f1 f20 ++ (wLs g b e1 e10 e11 ++ (wT g tp p1 p20 p21 p22 p23 p24))) sz)) 0 0 (va_A (wX g a b d fo tp sh f1 f20 ++ (wLs g b e1 e10 e11 ++ (wT g tp p1 p20 p21 p22 p23 p24))) sz) := by
  refine me (g := g) (by decide) rfl ?_
  intro pq eq s mq below meth cq C hnm hB ls hl
  obtain ⟨hx, hb, hr, hml, hown, hts, hlocks, hK⟩ := C
  have hown : s.vm.findClass RX4 = some mq.cls := hown
  have hl : lv_has ls 2 [(0, .ref (a 0)), (1, .int (iI w))] := hl
  obtain ⟨hsz, hP, hD0⟩ := hB
  subst hsz
  have hD := hD0.self (sz := s.heap.size)
  have hA : ∀ q : Nat, s.heap.size ≤ q → va_A (wX g a b d fo tp sh f1 f20 ++ (wLs g b e1 e10 e11 ++ (wT g tp p1 p20 p21 p22 p23 p24))) s.heap.size q := fun q h => Or.inr h
  have hS : va_S (va_A (wX g a b d fo tp sh f1 f20 ++ (wLs g b e1 e10 e11 ++ (wT g tp p1 p20 p21 p22 p23 p24))) s.heap.size) s.heap s.heap [] := va_S.rf
  obtain ⟨hP0, hPr0⟩ := va_P_app.mp hP
  obtain ⟨hP1, hP2⟩ := va_P_app.mp hPr0
  have hI := h1
  have hI8 : Inv e1 := h1.mono (by omega)
  have hn := hI.num
  have hs := hI.sea
  have hv := hI.vil
  have q1 := h3.1
  have q2 := h3.2
  refine lv_iload_n hx hb dX4_count_0 rfl (lv_at hl 1 rfl) ?_
  have hir1 : IR (w) := ⟨by omega, by omega⟩
  rcases (show (w) = 0 ∨ (w) = 1 ∨ (w) = 2 ∨ (w) = 3 ∨ (w) = 4 ∨ ((w) < 0 ∨ 4 < (w)) by omega) with z1 | z1 | z1 | z1 | z1 | z1
  · refine lv_tableIn (tgt := 36) (off := 35) hx hb dX4_count_1 (by rw [iI_toInt hir1, z1]; decide) (by rw [iI_toInt hir1, z1]; decide) (by rw [iI_toInt hir1, z1]; rfl) (by decide) ?_
    refine lv_aload_n hx hb dX4_count_36 rfl (lv_at hl 0 rfl) ?_
    refine xg_X4 hx hb hts hown hK hP0 0 rfl 0 (by decide) fk_X4_10 (v := .ref (b 0)) rfl dX4_count_37 ?_
    refine xgN_X1 hx hb hts hown hK hP1 0 rfl 1 (by decide) fk_X4_110 (v := .int (iI (e1 1))) rfl dX4_count_40 ?_
    have hf : fBtw w 0 4 = 0 := by unfold fBtw; (repeat (first | rw [if_pos (by omega)] | rw [if_neg (by omega)])); first | done | (exfalso; omega)
    have he2 : f1 = (fb (fBtw w 0 4) f1) := by rw [hf]; rfl
    have hP := Eq.mp (congrArg (fun z9 => va_P g.1 vwCl (wX g a b d fo tp sh z9 f20 ++ (wLs g b e1 e10 e11 ++ (wT g tp p1 p20 p21 p22 p23 p24))) s.heap) he2) hP
    have hD := Eq.mp (congrArg (fun z9 => va_D (va_A (wX g a b d fo tp sh f1 f20 ++ (wLs g b e1 e10 e11 ++ (wT g tp p1 p20 p21 p22 p23 p24))) s.heap.size) (wX g a b d fo tp sh z9 f20 ++ (wLs g b e1 e10 e11 ++ (wT g tp p1 p20 p21 p22 p23 p24)))) he2) hD
    obtain ⟨hP0, hPr0⟩ := va_P_app.mp hP
    obtain ⟨hP1, hP2⟩ := va_P_app.mp hPr0
    have hP : va_P g.1 vwCl (wX g a b d fo tp sh (fb (fBtw w 0 4) f1) f20 ++ (wLs g b e1 e10 e11 ++ (wT g tp p1 p20 p21 p22 p23 p24))) s.heap := hP
    have hD : va_D (va_A (wX g a b d fo tp sh f1 f20 ++ (wLs g b e1 e10 e11 ++ (wT g tp p1 p20 p21 p22 p23 p24))) s.heap.size) (wX g a b d fo tp sh (fb (fBtw w 0 4) f1) f20 ++ (wLs g b e1 e10 e11 ++ (wT g tp p1 p20 p21 p22 p23 p24))) := hD
    exact W.iret hx hb hr (fun t ht hW => ⟨⟨_, (), rfl, by rw [hf, ab_0]; exact congrArg iI (by unfold aCnt; (repeat (first | rw [if_pos (by omega)] | rw [if_neg (by omega)])); first | done | rfl), by rw [ht]; exact hP, hD⟩, hS.F ht⟩) hS.2.2 dX4_count_43
  · refine lv_tableIn (tgt := 44) (off := 43) hx hb dX4_count_1 (by rw [iI_toInt hir1, z1]; decide) (by rw [iI_toInt hir1, z1]; decide) (by rw [iI_toInt hir1, z1]; rfl) (by decide) ?_
    refine lv_aload_n hx hb dX4_count_44 rfl (lv_at hl 0 rfl) ?_
    refine xg_X4 hx hb hts hown hK hP0 0 rfl 0 (by decide) fk_X4_10 (v := .ref (b 0)) rfl dX4_count_45 ?_
    refine xgN_X1 hx hb hts hown hK hP1 0 rfl 2 (by decide) fk_X4_82 (v := .int (iI (e1 2))) rfl dX4_count_48 ?_
    have hf : fBtw w 0 4 = 0 := by unfold fBtw; (repeat (first | rw [if_pos (by omega)] | rw [if_neg (by omega)])); first | done | (exfalso; omega)
    have he3 : f1 = (fb (fBtw w 0 4) f1) := by rw [hf]; rfl
    have hP := Eq.mp (congrArg (fun z9 => va_P g.1 vwCl (wX g a b d fo tp sh z9 f20 ++ (wLs g b e1 e10 e11 ++ (wT g tp p1 p20 p21 p22 p23 p24))) s.heap) he3) hP
    have hD := Eq.mp (congrArg (fun z9 => va_D (va_A (wX g a b d fo tp sh f1 f20 ++ (wLs g b e1 e10 e11 ++ (wT g tp p1 p20 p21 p22 p23 p24))) s.heap.size) (wX g a b d fo tp sh z9 f20 ++ (wLs g b e1 e10 e11 ++ (wT g tp p1 p20 p21 p22 p23 p24)))) he3) hD
    obtain ⟨hP0, hPr0⟩ := va_P_app.mp hP
    obtain ⟨hP1, hP2⟩ := va_P_app.mp hPr0
    have hP : va_P g.1 vwCl (wX g a b d fo tp sh (fb (fBtw w 0 4) f1) f20 ++ (wLs g b e1 e10 e11 ++ (wT g tp p1 p20 p21 p22 p23 p24))) s.heap := hP
    have hD : va_D (va_A (wX g a b d fo tp sh f1 f20 ++ (wLs g b e1 e10 e11 ++ (wT g tp p1 p20 p21 p22 p23 p24))) s.heap.size) (wX g a b d fo tp sh (fb (fBtw w 0 4) f1) f20 ++ (wLs g b e1 e10 e11 ++ (wT g tp p1 p20 p21 p22 p23 p24))) := hD
    exact W.iret hx hb hr (fun t ht hW => ⟨⟨_, (), rfl, by rw [hf, ab_0]; exact congrArg iI (by unfold aCnt; (repeat (first | rw [if_pos (by omega)] | rw [if_neg (by omega)])); first | done | rfl), by rw [ht]; exact hP, hD⟩, hS.F ht⟩) hS.2.2 dX4_count_51
  · refine lv_tableIn (tgt := 52) (off := 51) hx hb dX4_count_1 (by rw [iI_toInt hir1, z1]; decide) (by rw [iI_toInt hir1, z1]; decide) (by rw [iI_toInt hir1, z1]; rfl) (by decide) ?_
    refine lv_aload_n hx hb dX4_count_52 rfl (lv_at hl 0 rfl) ?_
    refine xg_X4 hx hb hts hown hK hP0 0 rfl 3 (by decide) fk_X4_31 (v := .ref (tp 0)) rfl dX4_count_53 ?_
    refine xgN_X3 hx hb hts hown hK hP2 0 rfl 1 (by decide) fk_X4_228 (v := .int (iI p20)) rfl dX4_count_56 ?_
    have hf : fBtw w 0 4 = 0 := by unfold fBtw; (repeat (first | rw [if_pos (by omega)] | rw [if_neg (by omega)])); first | done | (exfalso; omega)
    have he4 : f1 = (fb (fBtw w 0 4) f1) := by rw [hf]; rfl
    have hP := Eq.mp (congrArg (fun z9 => va_P g.1 vwCl (wX g a b d fo tp sh z9 f20 ++ (wLs g b e1 e10 e11 ++ (wT g tp p1 p20 p21 p22 p23 p24))) s.heap) he4) hP
    have hD := Eq.mp (congrArg (fun z9 => va_D (va_A (wX g a b d fo tp sh f1 f20 ++ (wLs g b e1 e10 e11 ++ (wT g tp p1 p20 p21 p22 p23 p24))) s.heap.size) (wX g a b d fo tp sh z9 f20 ++ (wLs g b e1 e10 e11 ++ (wT g tp p1 p20 p21 p22 p23 p24)))) he4) hD
    obtain ⟨hP0, hPr0⟩ := va_P_app.mp hP
    obtain ⟨hP1, hP2⟩ := va_P_app.mp hPr0
    have hP : va_P g.1 vwCl (wX g a b d fo tp sh (fb (fBtw w 0 4) f1) f20 ++ (wLs g b e1 e10 e11 ++ (wT g tp p1 p20 p21 p22 p23 p24))) s.heap := hP
    have hD : va_D (va_A (wX g a b d fo tp sh f1 f20 ++ (wLs g b e1 e10 e11 ++ (wT g tp p1 p20 p21 p22 p23 p24))) s.heap.size) (wX g a b d fo tp sh (fb (fBtw w 0 4) f1) f20 ++ (wLs g b e1 e10 e11 ++ (wT g tp p1 p20 p21 p22 p23 p24))) := hD
    exact W.iret hx hb hr (fun t ht hW => ⟨⟨_, (), rfl, by rw [hf, ab_0]; exact congrArg iI (by unfold aCnt; (repeat (first | rw [if_pos (by omega)] | rw [if_neg (by omega)])); first | done | rfl), by rw [ht]; exact hP, hD⟩, hS.F ht⟩) hS.2.2 dX4_count_59
  · refine lv_tableIn (tgt := 60) (off := 59) hx hb dX4_count_1 (by rw [iI_toInt hir1, z1]; decide) (by rw [iI_toInt hir1, z1]; decide) (by rw [iI_toInt hir1, z1]; rfl) (by decide) ?_
    refine lv_aload_n hx hb dX4_count_60 rfl (lv_at hl 0 rfl) ?_
    refine xg_X4 hx hb hts hown hK hP0 0 rfl 0 (by decide) fk_X4_10 (v := .ref (b 0)) rfl dX4_count_61 ?_
    refine xu_i (x := iI (psT e1 24)) (rVN (rest := []) hx hb hml hown hts hK hl (c_X1_allPasses l g b e1 e10 e11 (show Inv e1 from hI8)) lk_X4_293 hP1 (va_recv hK.1 hP1 (ci := 1) (q0 := 0) rfl rfl) rfl rfl rfl (Rm.of rfl) rfl rfl dX4_count_64) ?_
    have hf : fBtw w 0 4 = 0 := by unfold fBtw; (repeat (first | rw [if_pos (by omega)] | rw [if_neg (by omega)])); first | done | (exfalso; omega)
    have he6 : f1 = (fb (fBtw w 0 4) f1) := by rw [hf]; rfl
    have hP := Eq.mp (congrArg (fun z9 => va_P g.1 vwCl (wX g a b d fo tp sh z9 f20 ++ (wLs g b e1 e10 e11 ++ (wT g tp p1 p20 p21 p22 p23 p24))) s.heap) he6) hP
    have hD := Eq.mp (congrArg (fun z9 => va_D (va_A (wX g a b d fo tp sh f1 f20 ++ (wLs g b e1 e10 e11 ++ (wT g tp p1 p20 p21 p22 p23 p24))) s.heap.size) (wX g a b d fo tp sh z9 f20 ++ (wLs g b e1 e10 e11 ++ (wT g tp p1 p20 p21 p22 p23 p24)))) he6) hD
    obtain ⟨hP0, hPr0⟩ := va_P_app.mp hP
    obtain ⟨hP1, hP2⟩ := va_P_app.mp hPr0
    have hP : va_P g.1 vwCl (wX g a b d fo tp sh (fb (fBtw w 0 4) f1) f20 ++ (wLs g b e1 e10 e11 ++ (wT g tp p1 p20 p21 p22 p23 p24))) s.heap := hP
    have hD : va_D (va_A (wX g a b d fo tp sh f1 f20 ++ (wLs g b e1 e10 e11 ++ (wT g tp p1 p20 p21 p22 p23 p24))) s.heap.size) (wX g a b d fo tp sh (fb (fBtw w 0 4) f1) f20 ++ (wLs g b e1 e10 e11 ++ (wT g tp p1 p20 p21 p22 p23 p24))) := hD
    exact W.iret hx hb hr (fun t ht hW => ⟨⟨_, (), rfl, by rw [hf, ab_0]; exact congrArg iI (by unfold aCnt; (repeat (first | rw [if_pos (by omega)] | rw [if_neg (by omega)])); first | done | rfl), by rw [ht]; exact hP, hD⟩, hS.F ht⟩) hS.2.2 dX4_count_67
  · refine lv_tableIn (tgt := 68) (off := 67) hx hb dX4_count_1 (by rw [iI_toInt hir1, z1]; decide) (by rw [iI_toInt hir1, z1]; decide) (by rw [iI_toInt hir1, z1]; rfl) (by decide) ?_
    refine lv_aload_n hx hb dX4_count_68 rfl (lv_at hl 0 rfl) ?_
    refine xg_X4 hx hb hts hown hK hP0 0 rfl 0 (by decide) fk_X4_10 (v := .ref (b 0)) rfl dX4_count_69 ?_
    refine xu_i (x := iI (sumA e1 2)) (rVN (rest := []) hx hb hml hown hts hK hl (c_X1_allHaste l g b e1 e10 e11 (show 0 ≤ e1 1 ∧ e1 1 ≤ 8 from by omega)) lk_X4_296 hP1 (va_recv hK.1 hP1 (ci := 1) (q0 := 0) rfl rfl) rfl rfl rfl (Rm.of rfl) rfl rfl dX4_count_72) ?_
    have hf : fBtw w 0 4 = 0 := by unfold fBtw; (repeat (first | rw [if_pos (by omega)] | rw [if_neg (by omega)])); first | done | (exfalso; omega)
    have he8 : f1 = (fb (fBtw w 0 4) f1) := by rw [hf]; rfl
    have hP := Eq.mp (congrArg (fun z9 => va_P g.1 vwCl (wX g a b d fo tp sh z9 f20 ++ (wLs g b e1 e10 e11 ++ (wT g tp p1 p20 p21 p22 p23 p24))) s.heap) he8) hP
    have hD := Eq.mp (congrArg (fun z9 => va_D (va_A (wX g a b d fo tp sh f1 f20 ++ (wLs g b e1 e10 e11 ++ (wT g tp p1 p20 p21 p22 p23 p24))) s.heap.size) (wX g a b d fo tp sh z9 f20 ++ (wLs g b e1 e10 e11 ++ (wT g tp p1 p20 p21 p22 p23 p24)))) he8) hD
    obtain ⟨hP0, hPr0⟩ := va_P_app.mp hP
    obtain ⟨hP1, hP2⟩ := va_P_app.mp hPr0
    have hP : va_P g.1 vwCl (wX g a b d fo tp sh (fb (fBtw w 0 4) f1) f20 ++ (wLs g b e1 e10 e11 ++ (wT g tp p1 p20 p21 p22 p23 p24))) s.heap := hP
    have hD : va_D (va_A (wX g a b d fo tp sh f1 f20 ++ (wLs g b e1 e10 e11 ++ (wT g tp p1 p20 p21 p22 p23 p24))) s.heap.size) (wX g a b d fo tp sh (fb (fBtw w 0 4) f1) f20 ++ (wLs g b e1 e10 e11 ++ (wT g tp p1 p20 p21 p22 p23 p24))) := hD
    exact W.iret hx hb hr (fun t ht hW => ⟨⟨_, (), rfl, by rw [hf, ab_0]; exact congrArg iI (by unfold aCnt; (repeat (first | rw [if_pos (by omega)] | rw [if_neg (by omega)])); first | done | rfl), by rw [ht]; exact hP, hD⟩, hS.F ht⟩) hS.2.2 dX4_count_75
  · refine lv_tableOut (tgt := 76) hx hb dX4_count_1 (by rw [iI_toInt hir1]; exact z1) (by decide) ?_
    refine lv_aload_n hx hb dX4_count_76 rfl (lv_at hl 0 rfl) ?_
    refine xi_ldc hx hb hown hts kk_X4_58 dX4_count_77 ?_
    refine xmF_i (rV (rest := []) hx hb hml hown hts hK hl (c_X4_finding l g b d fo tp sh a f1 f20 (-1000000001) (s.heap).size (show 0 ≤ -1000000001 - (-1000000001) ∧ -1000000001 - (-1000000001) < 7 from by omega)) lk_X4_59 ⟨rfl, hP0, (va_D_app hD).1.weaken (fun _ _ _ _ => trivial)⟩ (va_recv hK.1 hP0 (ci := 4) (q0 := 0) rfl rfl) rfl rfl rfl (Rm.of rfl) rfl rfl dX4_count_79) hP hD hS hA (fun x9 _ H locs hw hP hD hS => ?_)
    obtain rfl : x9 = iI (-1000000001) := hw
    have hP : va_P g.1 vwCl (wX g a b d fo tp sh (fb (-1000000000 - (-1000000001)) f1) f20 ++ (wLs g b e1 e10 e11 ++ (wT g tp p1 p20 p21 p22 p23 p24))) H := hP
    have hD : va_D (va_A (wX g a b d fo tp sh f1 f20 ++ (wLs g b e1 e10 e11 ++ (wT g tp p1 p20 p21 p22 p23 p24))) s.heap.size) (wX g a b d fo tp sh (fb (-1000000000 - (-1000000001)) f1) f20 ++ (wLs g b e1 e10 e11 ++ (wT g tp p1 p20 p21 p22 p23 p24))) := hD
    obtain ⟨hP0, hPr0⟩ := va_P_app.mp hP
    obtain ⟨hP1, hP2⟩ := va_P_app.mp hPr0
    have hf : fBtw w 0 4 = 1 := by unfold fBtw; (repeat (first | rw [if_pos (by omega)] | rw [if_neg (by omega)])); first | done | (exfalso; omega)
    have he10 : (fb (-1000000000 - (-1000000001)) f1) = (fb (fBtw w 0 4) f1) := by rw [hf]; rfl
    have hP := Eq.mp (congrArg (fun z9 => va_P g.1 vwCl (wX g a b d fo tp sh z9 f20 ++ (wLs g b e1 e10 e11 ++ (wT g tp p1 p20 p21 p22 p23 p24))) H) he10) hP
    have hD := Eq.mp (congrArg (fun z9 => va_D (va_A (wX g a b d fo tp sh f1 f20 ++ (wLs g b e1 e10 e11 ++ (wT g tp p1 p20 p21 p22 p23 p24))) s.heap.size) (wX g a b d fo tp sh z9 f20 ++ (wLs g b e1 e10 e11 ++ (wT g tp p1 p20 p21 p22 p23 p24)))) he10) hD
    obtain ⟨hP0, hPr0⟩ := va_P_app.mp hP
    obtain ⟨hP1, hP2⟩ := va_P_app.mp hPr0
    have hP : va_P g.1 vwCl (wX g a b d fo tp sh (fb (fBtw w 0 4) f1) f20 ++ (wLs g b e1 e10 e11 ++ (wT g tp p1 p20 p21 p22 p23 p24))) H := hP
    have hD : va_D (va_A (wX g a b d fo tp sh f1 f20 ++ (wLs g b e1 e10 e11 ++ (wT g tp p1 p20 p21 p22 p23 p24))) s.heap.size) (wX g a b d fo tp sh (fb (fBtw w 0 4) f1) f20 ++ (wLs g b e1 e10 e11 ++ (wT g tp p1 p20 p21 p22 p23 p24))) := hD
    exact W.iret hx hb hr (fun t ht hW => ⟨⟨_, (), rfl, by rw [hf]; rfl, by rw [ht]; exact hP, hD⟩, hS.F ht⟩) hS.2.2 dX4_count_82

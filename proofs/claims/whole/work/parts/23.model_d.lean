abbrev rm_X5_pass : Room := { frames := 2, cells := 0, slots := 0, locals := 45 }
set_option maxRecDepth 100000 in
set_option maxHeartbeats 4000000 in
theorem c_X5_pass (l : Launch) (g : Gd) (a : Nat → Nat) (f1 : Int → Int) (f2 : Int → Int) (f3 : Int → Int) (f4 : Int → Int) (f5 : Int → Int) (f6 : Int → Int) (f7 : Int → Int) (f8 : Int → Int) (f9 : Int → Int) (f10 : Int → Int) (f11 : Int → Int) (f12 : Int → Int) (f13 : Int → Int) (f20 : Int) (f21 : Int) (f22 : Int) (f23 : Int) (f24 : Int) (f25 : Int) (ce : Int) (pe : Int) (op : Int) (sz : Nat) (h1 : InvK 0 f1) (h2 : f1 0 ≤ 9999) (h3 : IR ce) (h4 : IR pe) (h5 : IR op) : Met l yX5_pass (wsOf yX5_pass cX5_pass 5 (some .int)) rm_X5_pass (PX g (wP g (wM g a f1 f2 f3 f4 f5 f6 f7 f8 f9 f10 f11 f12 f13 f20 f21 f22 f23 f24 f25) sz) [.ref (a 0), .int (iI ce), .int (iI pe), .int (iI op)]) (QMi g (fun _ : Unit => wM g a (if fPass ce pe op = 0 then up (up f1 (7 + ce) pe) (31 + ce) (if pe = 0 then 0 else op) else f1) f2 f3 f4 f5 (fb (fPass ce pe op) f6) f7 f8 f9 f10 f11 f12 f13 f20 f21 f22 f23 f24 f25) (fun r9 _ => r9 = ab (fPass ce pe op) (iI (if 0 < f1 (7 + ce) then 1 else 0))) (va_A (wM g a f1 f2 f3 f4 f5 f6 f7 f8 f9 f10 f11 f12 f13 f20 f21 f22 f23 f24 f25) sz)) 0 0 (va_A (wM g a f1 f2 f3 f4 f5 f6 f7 f8 f9 f10 f11 f12 f13 f20 f21 f22 f23 f24 f25) sz) := by
  refine me (g := g) (by decide) rfl ?_
  intro pq eq s mq below meth cq C hnm hB ls hl
  obtain ⟨hx, hb, hr, hml, hown, hts, hlocks, hK⟩ := C
  have hown : s.vm.findClass RX5 = some mq.cls := hown
  have hl : lv_has ls 5 [(0, .ref (a 0)), (1, .int (iI ce)), (2, .int (iI pe)), (3, .int (iI op))] := hl
  obtain ⟨hsz, hP, hD0⟩ := hB
  subst hsz
  have hD := hD0.self (sz := s.heap.size)
  have hA : ∀ q : Nat, s.heap.size ≤ q → va_A (wM g a f1 f2 f3 f4 f5 f6 f7 f8 f9 f10 f11 f12 f13 f20 f21 f22 f23 f24 f25) s.heap.size q := fun q h => Or.inr h
  have hS : va_S (va_A (wM g a f1 f2 f3 f4 f5 f6 f7 f8 f9 f10 f11 f12 f13 f20 f21 f22 f23 f24 f25) s.heap.size) s.heap s.heap [] := va_S.rf
  have hI := h1
  have hI8 : Inv f1 := h1.mono (by omega)
  have hn := hI.num
  have hs := hI.sea
  have hv := hI.vil
  have q1 := h3.1
  have q3 := h4.1
  have q5 := h5.1
  have q2 := h3.2
  have q4 := h4.2
  have q6 := h5.2
  refine lv_iload_n hx hb dX5_pass_0 rfl (lv_at hl 1 rfl) ?_
  refine xu_b (P := 0 ≤ ce ∧ ce ≤ 23) (rS (rest := []) hx hb hml hown hts hK hl (c_X5_isCell l g ce (show IR ce from ⟨by omega, by omega⟩)) lk_X5_66 trivial rfl rfl rfl (Rm.of rfl) rfl rfl dX5_pass_1) (fun z1 => ?_) (fun z1 => ?_)
  · refine xi_zf_eq hx hb ⟨by decide, by decide⟩ (by decide) dX5_pass_4 ⟨36, by decide⟩ ?_
    refine lv_iload_n hx hb dX5_pass_7 rfl (lv_at hl 2 rfl) ?_
    refine xi_z_eq (tgt := 43) hx hb ⟨by omega, by omega⟩ dX5_pass_8 (by decide) (fun z2 => ?_) (fun z2 => ?_)
    · refine lv_aload_n hx hb dX5_pass_43 rfl (lv_at hl 0 rfl) ?_
      refine xg_X5 hx hb hts hown hK hP 0 rfl 0 (by decide) fk_X5_7 (v := .ref (a 1)) rfl dX5_pass_44 ?_
      refine lv_bipush (v := iI (7)) hx hb dX5_pass_47 (by decide) ?_
      refine lv_iload_n hx hb dX5_pass_49 rfl (lv_at hl 1 rfl) ?_
      refine xi_add hx hb dX5_pass_50 ?_
      refine xi_ald hx hb hK hP 1 (f := f1) rfl (i := 7 + ce) ⟨by omega, by omega⟩ rfl dX5_pass_51 ?_
      refine xi_z_le (tgt := 59) hx hb ⟨by have := (hI.pas ce (by omega) (by omega)); omega, by have := (hI.pas ce (by omega) (by omega)); omega⟩ dX5_pass_52 (by decide) (fun z3 => ?_) (fun z3 => ?_)
      · refine lv_iconst (v := iI (0)) hx hb dX5_pass_59 (by decide) ?_
        refine lv_istore (lv' := [(4, .int (iI 0)), (0, .ref (a 0)), (1, .int (iI ce)), (2, .int (iI pe)), (3, .int (iI op))]) hx hb dX5_pass_60 hl (by decide) rfl (fun ls hl => ?_)
        refine lv_aload_n hx hb dX5_pass_62 rfl (lv_at hl 1 rfl) ?_
        refine lv_iload_n hx hb dX5_pass_63 rfl (lv_at hl 2 rfl) ?_
        refine lv_iload_n hx hb dX5_pass_64 rfl (lv_at hl 3 rfl) ?_
        refine lv_iload_n hx hb dX5_pass_65 rfl (lv_at hl 4 rfl) ?_
        refine xm_v (rV (rest := []) hx hb hml hown hts hK hl (c_X5_laysPass l g a f1 f2 f3 f4 f5 f6 f7 f8 f9 f10 f11 f12 f13 f20 f21 f22 f23 f24 f25 ce pe op (s.heap).size (show 0 ≤ ce ∧ ce < 24 from by omega) (show IR pe from ⟨by omega, by omega⟩)) lk_X5_78 ⟨rfl, hP, hD.weaken (fun _ _ _ _ => trivial)⟩ (va_recv hK.1 hP (ci := 5) (q0 := 0) rfl rfl) rfl rfl rfl (Rm.of rfl) rfl rfl dX5_pass_66) hD hS hA (fun _ H locs hw hP hD hS => ?_)
        have hP : va_P g.1 vwCl (wM g a (up (up f1 (7 + ce) pe) (31 + ce) (if pe = 0 then 0 else op)) f2 f3 f4 f5 f6 f7 f8 f9 f10 f11 f12 f13 f20 f21 f22 f23 f24 f25) H := hP
        have hD : va_D (va_A (wM g a f1 f2 f3 f4 f5 f6 f7 f8 f9 f10 f11 f12 f13 f20 f21 f22 f23 f24 f25) s.heap.size) (wM g a (up (up f1 (7 + ce) pe) (31 + ce) (if pe = 0 then 0 else op)) f2 f3 f4 f5 f6 f7 f8 f9 f10 f11 f12 f13 f20 f21 f22 f23 f24 f25) := hD
        refine lv_iload hx hb dX5_pass_69 (lv_at hl 0 rfl) ?_
        have hf : fPass ce pe op = 0 := by unfold fPass; (repeat (first | rw [if_pos (by omega)] | rw [if_neg (by omega)])); first | done | (exfalso; omega)
        have he5 : (up (up f1 (7 + ce) pe) (31 + ce) (if pe = 0 then 0 else op)) = (if fPass ce pe op = 0 then up (up f1 (7 + ce) pe) (31 + ce) (if pe = 0 then 0 else op) else f1) := by rw [hf]; rfl
        have hP := Eq.mp (congrArg (fun z9 => va_P g.1 vwCl (wM g a z9 f2 f3 f4 f5 f6 f7 f8 f9 f10 f11 f12 f13 f20 f21 f22 f23 f24 f25) H) he5) hP
        have hD := Eq.mp (congrArg (fun z9 => va_D (va_A (wM g a f1 f2 f3 f4 f5 f6 f7 f8 f9 f10 f11 f12 f13 f20 f21 f22 f23 f24 f25) s.heap.size) (wM g a z9 f2 f3 f4 f5 f6 f7 f8 f9 f10 f11 f12 f13 f20 f21 f22 f23 f24 f25)) he5) hD
        have he6 : f6 = (fb (fPass ce pe op) f6) := by rw [hf]; rfl
        have hP := Eq.mp (congrArg (fun z9 => va_P g.1 vwCl (wM g a (if fPass ce pe op = 0 then up (up f1 (7 + ce) pe) (31 + ce) (if pe = 0 then 0 else op) else f1) f2 f3 f4 f5 z9 f7 f8 f9 f10 f11 f12 f13 f20 f21 f22 f23 f24 f25) H) he6) hP
        have hD := Eq.mp (congrArg (fun z9 => va_D (va_A (wM g a f1 f2 f3 f4 f5 f6 f7 f8 f9 f10 f11 f12 f13 f20 f21 f22 f23 f24 f25) s.heap.size) (wM g a (if fPass ce pe op = 0 then up (up f1 (7 + ce) pe) (31 + ce) (if pe = 0 then 0 else op) else f1) f2 f3 f4 f5 z9 f7 f8 f9 f10 f11 f12 f13 f20 f21 f22 f23 f24 f25)) he6) hD
        have hP : va_P g.1 vwCl (wM g a (if fPass ce pe op = 0 then up (up f1 (7 + ce) pe) (31 + ce) (if pe = 0 then 0 else op) else f1) f2 f3 f4 f5 (fb (fPass ce pe op) f6) f7 f8 f9 f10 f11 f12 f13 f20 f21 f22 f23 f24 f25) H := hP
        have hD : va_D (va_A (wM g a f1 f2 f3 f4 f5 f6 f7 f8 f9 f10 f11 f12 f13 f20 f21 f22 f23 f24 f25) s.heap.size) (wM g a (if fPass ce pe op = 0 then up (up f1 (7 + ce) pe) (31 + ce) (if pe = 0 then 0 else op) else f1) f2 f3 f4 f5 (fb (fPass ce pe op) f6) f7 f8 f9 f10 f11 f12 f13 f20 f21 f22 f23 f24 f25) := hD
        exact W.iret hx hb hr (fun t ht hW => ⟨⟨_, (), rfl, by rw [hf, ab_0]; exact congrArg iI (by first | rw [if_pos (by omega)] | rw [if_neg (by omega)]), by rw [ht]; exact hP, hD⟩, hS.F ht⟩) hS.2.2 dX5_pass_71
      · refine lv_iconst (v := iI (1)) hx hb dX5_pass_55 (by decide) ?_
        refine lv_goto (tgt := 60) hx hb dX5_pass_56 (by decide) ?_
        refine lv_istore (lv' := [(4, .int (iI 1)), (0, .ref (a 0)), (1, .int (iI ce)), (2, .int (iI pe)), (3, .int (iI op))]) hx hb dX5_pass_60 hl (by decide) rfl (fun ls hl => ?_)
        refine lv_aload_n hx hb dX5_pass_62 rfl (lv_at hl 1 rfl) ?_
        refine lv_iload_n hx hb dX5_pass_63 rfl (lv_at hl 2 rfl) ?_
        refine lv_iload_n hx hb dX5_pass_64 rfl (lv_at hl 3 rfl) ?_
        refine lv_iload_n hx hb dX5_pass_65 rfl (lv_at hl 4 rfl) ?_
        refine xm_v (rV (rest := []) hx hb hml hown hts hK hl (c_X5_laysPass l g a f1 f2 f3 f4 f5 f6 f7 f8 f9 f10 f11 f12 f13 f20 f21 f22 f23 f24 f25 ce pe op (s.heap).size (show 0 ≤ ce ∧ ce < 24 from by omega) (show IR pe from ⟨by omega, by omega⟩)) lk_X5_78 ⟨rfl, hP, hD.weaken (fun _ _ _ _ => trivial)⟩ (va_recv hK.1 hP (ci := 5) (q0 := 0) rfl rfl) rfl rfl rfl (Rm.of rfl) rfl rfl dX5_pass_66) hD hS hA (fun _ H locs hw hP hD hS => ?_)
        have hP : va_P g.1 vwCl (wM g a (up (up f1 (7 + ce) pe) (31 + ce) (if pe = 0 then 0 else op)) f2 f3 f4 f5 f6 f7 f8 f9 f10 f11 f12 f13 f20 f21 f22 f23 f24 f25) H := hP
        have hD : va_D (va_A (wM g a f1 f2 f3 f4 f5 f6 f7 f8 f9 f10 f11 f12 f13 f20 f21 f22 f23 f24 f25) s.heap.size) (wM g a (up (up f1 (7 + ce) pe) (31 + ce) (if pe = 0 then 0 else op)) f2 f3 f4 f5 f6 f7 f8 f9 f10 f11 f12 f13 f20 f21 f22 f23 f24 f25) := hD
        refine lv_iload hx hb dX5_pass_69 (lv_at hl 0 rfl) ?_
        have hf : fPass ce pe op = 0 := by unfold fPass; (repeat (first | rw [if_pos (by omega)] | rw [if_neg (by omega)])); first | done | (exfalso; omega)
        have he8 : (up (up f1 (7 + ce) pe) (31 + ce) (if pe = 0 then 0 else op)) = (if fPass ce pe op = 0 then up (up f1 (7 + ce) pe) (31 + ce) (if pe = 0 then 0 else op) else f1) := by rw [hf]; rfl
        have hP := Eq.mp (congrArg (fun z9 => va_P g.1 vwCl (wM g a z9 f2 f3 f4 f5 f6 f7 f8 f9 f10 f11 f12 f13 f20 f21 f22 f23 f24 f25) H) he8) hP
        have hD := Eq.mp (congrArg (fun z9 => va_D (va_A (wM g a f1 f2 f3 f4 f5 f6 f7 f8 f9 f10 f11 f12 f13 f20 f21 f22 f23 f24 f25) s.heap.size) (wM g a z9 f2 f3 f4 f5 f6 f7 f8 f9 f10 f11 f12 f13 f20 f21 f22 f23 f24 f25)) he8) hD
        have he9 : f6 = (fb (fPass ce pe op) f6) := by rw [hf]; rfl
        have hP := Eq.mp (congrArg (fun z9 => va_P g.1 vwCl (wM g a (if fPass ce pe op = 0 then up (up f1 (7 + ce) pe) (31 + ce) (if pe = 0 then 0 else op) else f1) f2 f3 f4 f5 z9 f7 f8 f9 f10 f11 f12 f13 f20 f21 f22 f23 f24 f25) H) he9) hP
        have hD := Eq.mp (congrArg (fun z9 => va_D (va_A (wM g a f1 f2 f3 f4 f5 f6 f7 f8 f9 f10 f11 f12 f13 f20 f21 f22 f23 f24 f25) s.heap.size) (wM g a (if fPass ce pe op = 0 then up (up f1 (7 + ce) pe) (31 + ce) (if pe = 0 then 0 else op) else f1) f2 f3 f4 f5 z9 f7 f8 f9 f10 f11 f12 f13 f20 f21 f22 f23 f24 f25)) he9) hD
        have hP : va_P g.1 vwCl (wM g a (if fPass ce pe op = 0 then up (up f1 (7 + ce) pe) (31 + ce) (if pe = 0 then 0 else op) else f1) f2 f3 f4 f5 (fb (fPass ce pe op) f6) f7 f8 f9 f10 f11 f12 f13 f20 f21 f22 f23 f24 f25) H := hP
        have hD : va_D (va_A (wM g a f1 f2 f3 f4 f5 f6 f7 f8 f9 f10 f11 f12 f13 f20 f21 f22 f23 f24 f25) s.heap.size) (wM g a (if fPass ce pe op = 0 then up (up f1 (7 + ce) pe) (31 + ce) (if pe = 0 then 0 else op) else f1) f2 f3 f4 f5 (fb (fPass ce pe op) f6) f7 f8 f9 f10 f11 f12 f13 f20 f21 f22 f23 f24 f25) := hD
        exact W.iret hx hb hr (fun t ht hW => ⟨⟨_, (), rfl, by rw [hf, ab_0]; exact congrArg iI (by first | rw [if_pos (by omega)] | rw [if_neg (by omega)]), by rw [ht]; exact hP, hD⟩, hS.F ht⟩) hS.2.2 dX5_pass_71
    · refine lv_iload_n hx hb dX5_pass_11 rfl (lv_at hl 2 rfl) ?_
      refine xi_i2l hx hb ⟨by omega, by omega⟩ dX5_pass_12 ?_
      refine xl_ldc hx hb hown hts kk_X5_70 dX5_pass_13 ?_
      refine xl_ldc hx hb hown hts kk_X5_72 dX5_pass_16 ?_
      refine xu_b (P := 2 ≤ pe ∧ pe ≤ 9) (rS (rest := []) hx hb hml hown hts hK hl (c_X5_in l g pe 2 9 (show LR pe from ⟨by omega, by omega⟩) (show LR 2 from ⟨by omega, by omega⟩) (show LR 9 from ⟨by omega, by omega⟩)) lk_X5_53 trivial rfl rfl rfl (Rm.of rfl) rfl rfl dX5_pass_19) (fun z10 => ?_) (fun z10 => ?_)
      · refine xi_zf_eq hx hb ⟨by decide, by decide⟩ (by decide) dX5_pass_22 ⟨36, by decide⟩ ?_
        refine lv_iload_n hx hb dX5_pass_25 rfl (lv_at hl 3 rfl) ?_
        refine xi_i2l hx hb ⟨by omega, by omega⟩ dX5_pass_26 ?_
        refine lv_lconst (v := lI (0)) hx hb dX5_pass_27 (by decide) ?_
        refine lv_iload_n hx hb dX5_pass_28 rfl (lv_at hl 2 rfl) ?_
        refine xi_i2l hx hb ⟨by omega, by omega⟩ dX5_pass_29 ?_
        refine xu_b (P := 0 ≤ op ∧ op ≤ pe) (rS (rest := []) hx hb hml hown hts hK hl (c_X5_in l g op 0 pe (show LR op from ⟨by omega, by omega⟩) (show LR 0 from ⟨by omega, by omega⟩) (show LR pe from ⟨by omega, by omega⟩)) lk_X5_53 trivial rfl rfl rfl (Rm.of rfl) rfl rfl dX5_pass_30) (fun z11 => ?_) (fun z11 => ?_)
        · refine xi_zt_ne (tgt := 43) hx hb ⟨by decide, by decide⟩ (by decide) dX5_pass_33 (by decide) ?_
          refine lv_aload_n hx hb dX5_pass_43 rfl (lv_at hl 0 rfl) ?_
          refine xg_X5 hx hb hts hown hK hP 0 rfl 0 (by decide) fk_X5_7 (v := .ref (a 1)) rfl dX5_pass_44 ?_
          refine lv_bipush (v := iI (7)) hx hb dX5_pass_47 (by decide) ?_
          refine lv_iload_n hx hb dX5_pass_49 rfl (lv_at hl 1 rfl) ?_
          refine xi_add hx hb dX5_pass_50 ?_
          refine xi_ald hx hb hK hP 1 (f := f1) rfl (i := 7 + ce) ⟨by omega, by omega⟩ rfl dX5_pass_51 ?_
          refine xi_z_le (tgt := 59) hx hb ⟨by have := (hI.pas ce (by omega) (by omega)); omega, by have := (hI.pas ce (by omega) (by omega)); omega⟩ dX5_pass_52 (by decide) (fun z12 => ?_) (fun z12 => ?_)
          · refine lv_iconst (v := iI (0)) hx hb dX5_pass_59 (by decide) ?_
            refine lv_istore (lv' := [(4, .int (iI 0)), (0, .ref (a 0)), (1, .int (iI ce)), (2, .int (iI pe)), (3, .int (iI op))]) hx hb dX5_pass_60 hl (by decide) rfl (fun ls hl => ?_)
            refine lv_aload_n hx hb dX5_pass_62 rfl (lv_at hl 1 rfl) ?_
            refine lv_iload_n hx hb dX5_pass_63 rfl (lv_at hl 2 rfl) ?_
            refine lv_iload_n hx hb dX5_pass_64 rfl (lv_at hl 3 rfl) ?_
            refine lv_iload_n hx hb dX5_pass_65 rfl (lv_at hl 4 rfl) ?_
            refine xm_v (rV (rest := []) hx hb hml hown hts hK hl (c_X5_laysPass l g a f1 f2 f3 f4 f5 f6 f7 f8 f9 f10 f11 f12 f13 f20 f21 f22 f23 f24 f25 ce pe op (s.heap).size (show 0 ≤ ce ∧ ce < 24 from by omega) (show IR pe from ⟨by omega, by omega⟩)) lk_X5_78 ⟨rfl, hP, hD.weaken (fun _ _ _ _ => trivial)⟩ (va_recv hK.1 hP (ci := 5) (q0 := 0) rfl rfl) rfl rfl rfl (Rm.of rfl) rfl rfl dX5_pass_66) hD hS hA (fun _ H locs hw hP hD hS => ?_)
            have hP : va_P g.1 vwCl (wM g a (up (up f1 (7 + ce) pe) (31 + ce) (if pe = 0 then 0 else op)) f2 f3 f4 f5 f6 f7 f8 f9 f10 f11 f12 f13 f20 f21 f22 f23 f24 f25) H := hP
            have hD : va_D (va_A (wM g a f1 f2 f3 f4 f5 f6 f7 f8 f9 f10 f11 f12 f13 f20 f21 f22 f23 f24 f25) s.heap.size) (wM g a (up (up f1 (7 + ce) pe) (31 + ce) (if pe = 0 then 0 else op)) f2 f3 f4 f5 f6 f7 f8 f9 f10 f11 f12 f13 f20 f21 f22 f23 f24 f25) := hD
            refine lv_iload hx hb dX5_pass_69 (lv_at hl 0 rfl) ?_
            have hf : fPass ce pe op = 0 := by unfold fPass; (repeat (first | rw [if_pos (by omega)] | rw [if_neg (by omega)])); first | done | (exfalso; omega)
            have he14 : (up (up f1 (7 + ce) pe) (31 + ce) (if pe = 0 then 0 else op)) = (if fPass ce pe op = 0 then up (up f1 (7 + ce) pe) (31 + ce) (if pe = 0 then 0 else op) else f1) := by rw [hf]; rfl
            have hP := Eq.mp (congrArg (fun z9 => va_P g.1 vwCl (wM g a z9 f2 f3 f4 f5 f6 f7 f8 f9 f10 f11 f12 f13 f20 f21 f22 f23 f24 f25) H) he14) hP
            have hD := Eq.mp (congrArg (fun z9 => va_D (va_A (wM g a f1 f2 f3 f4 f5 f6 f7 f8 f9 f10 f11 f12 f13 f20 f21 f22 f23 f24 f25) s.heap.size) (wM g a z9 f2 f3 f4 f5 f6 f7 f8 f9 f10 f11 f12 f13 f20 f21 f22 f23 f24 f25)) he14) hD
            have he15 : f6 = (fb (fPass ce pe op) f6) := by rw [hf]; rfl
            have hP := Eq.mp (congrArg (fun z9 => va_P g.1 vwCl (wM g a (if fPass ce pe op = 0 then up (up f1 (7 + ce) pe) (31 + ce) (if pe = 0 then 0 else op) else f1) f2 f3 f4 f5 z9 f7 f8 f9 f10 f11 f12 f13 f20 f21 f22 f23 f24 f25) H) he15) hP
            have hD := Eq.mp (congrArg (fun z9 => va_D (va_A (wM g a f1 f2 f3 f4 f5 f6 f7 f8 f9 f10 f11 f12 f13 f20 f21 f22 f23 f24 f25) s.heap.size) (wM g a (if fPass ce pe op = 0 then up (up f1 (7 + ce) pe) (31 + ce) (if pe = 0 then 0 else op) else f1) f2 f3 f4 f5 z9 f7 f8 f9 f10 f11 f12 f13 f20 f21 f22 f23 f24 f25)) he15) hD
            have hP : va_P g.1 vwCl (wM g a (if fPass ce pe op = 0 then up (up f1 (7 + ce) pe) (31 + ce) (if pe = 0 then 0 else op) else f1) f2 f3 f4 f5 (fb (fPass ce pe op) f6) f7 f8 f9 f10 f11 f12 f13 f20 f21 f22 f23 f24 f25) H := hP
            have hD : va_D (va_A (wM g a f1 f2 f3 f4 f5 f6 f7 f8 f9 f10 f11 f12 f13 f20 f21 f22 f23 f24 f25) s.heap.size) (wM g a (if fPass ce pe op = 0 then up (up f1 (7 + ce) pe) (31 + ce) (if pe = 0 then 0 else op) else f1) f2 f3 f4 f5 (fb (fPass ce pe op) f6) f7 f8 f9 f10 f11 f12 f13 f20 f21 f22 f23 f24 f25) := hD
            exact W.iret hx hb hr (fun t ht hW => ⟨⟨_, (), rfl, by rw [hf, ab_0]; exact congrArg iI (by first | rw [if_pos (by omega)] | rw [if_neg (by omega)]), by rw [ht]; exact hP, hD⟩, hS.F ht⟩) hS.2.2 dX5_pass_71
          · refine lv_iconst (v := iI (1)) hx hb dX5_pass_55 (by decide) ?_
            refine lv_goto (tgt := 60) hx hb dX5_pass_56 (by decide) ?_
            refine lv_istore (lv' := [(4, .int (iI 1)), (0, .ref (a 0)), (1, .int (iI ce)), (2, .int (iI pe)), (3, .int (iI op))]) hx hb dX5_pass_60 hl (by decide) rfl (fun ls hl => ?_)
            refine lv_aload_n hx hb dX5_pass_62 rfl (lv_at hl 1 rfl) ?_
            refine lv_iload_n hx hb dX5_pass_63 rfl (lv_at hl 2 rfl) ?_
            refine lv_iload_n hx hb dX5_pass_64 rfl (lv_at hl 3 rfl) ?_
            refine lv_iload_n hx hb dX5_pass_65 rfl (lv_at hl 4 rfl) ?_
            refine xm_v (rV (rest := []) hx hb hml hown hts hK hl (c_X5_laysPass l g a f1 f2 f3 f4 f5 f6 f7 f8 f9 f10 f11 f12 f13 f20 f21 f22 f23 f24 f25 ce pe op (s.heap).size (show 0 ≤ ce ∧ ce < 24 from by omega) (show IR pe from ⟨by omega, by omega⟩)) lk_X5_78 ⟨rfl, hP, hD.weaken (fun _ _ _ _ => trivial)⟩ (va_recv hK.1 hP (ci := 5) (q0 := 0) rfl rfl) rfl rfl rfl (Rm.of rfl) rfl rfl dX5_pass_66) hD hS hA (fun _ H locs hw hP hD hS => ?_)
            have hP : va_P g.1 vwCl (wM g a (up (up f1 (7 + ce) pe) (31 + ce) (if pe = 0 then 0 else op)) f2 f3 f4 f5 f6 f7 f8 f9 f10 f11 f12 f13 f20 f21 f22 f23 f24 f25) H := hP
            have hD : va_D (va_A (wM g a f1 f2 f3 f4 f5 f6 f7 f8 f9 f10 f11 f12 f13 f20 f21 f22 f23 f24 f25) s.heap.size) (wM g a (up (up f1 (7 + ce) pe) (31 + ce) (if pe = 0 then 0 else op)) f2 f3 f4 f5 f6 f7 f8 f9 f10 f11 f12 f13 f20 f21 f22 f23 f24 f25) := hD
            refine lv_iload hx hb dX5_pass_69 (lv_at hl 0 rfl) ?_
            have hf : fPass ce pe op = 0 := by unfold fPass; (repeat (first | rw [if_pos (by omega)] | rw [if_neg (by omega)])); first | done | (exfalso; omega)
            have he17 : (up (up f1 (7 + ce) pe) (31 + ce) (if pe = 0 then 0 else op)) = (if fPass ce pe op = 0 then up (up f1 (7 + ce) pe) (31 + ce) (if pe = 0 then 0 else op) else f1) := by rw [hf]; rfl
            have hP := Eq.mp (congrArg (fun z9 => va_P g.1 vwCl (wM g a z9 f2 f3 f4 f5 f6 f7 f8 f9 f10 f11 f12 f13 f20 f21 f22 f23 f24 f25) H) he17) hP
            have hD := Eq.mp (congrArg (fun z9 => va_D (va_A (wM g a f1 f2 f3 f4 f5 f6 f7 f8 f9 f10 f11 f12 f13 f20 f21 f22 f23 f24 f25) s.heap.size) (wM g a z9 f2 f3 f4 f5 f6 f7 f8 f9 f10 f11 f12 f13 f20 f21 f22 f23 f24 f25)) he17) hD
            have he18 : f6 = (fb (fPass ce pe op) f6) := by rw [hf]; rfl
            have hP := Eq.mp (congrArg (fun z9 => va_P g.1 vwCl (wM g a (if fPass ce pe op = 0 then up (up f1 (7 + ce) pe) (31 + ce) (if pe = 0 then 0 else op) else f1) f2 f3 f4 f5 z9 f7 f8 f9 f10 f11 f12 f13 f20 f21 f22 f23 f24 f25) H) he18) hP
            have hD := Eq.mp (congrArg (fun z9 => va_D (va_A (wM g a f1 f2 f3 f4 f5 f6 f7 f8 f9 f10 f11 f12 f13 f20 f21 f22 f23 f24 f25) s.heap.size) (wM g a (if fPass ce pe op = 0 then up (up f1 (7 + ce) pe) (31 + ce) (if pe = 0 then 0 else op) else f1) f2 f3 f4 f5 z9 f7 f8 f9 f10 f11 f12 f13 f20 f21 f22 f23 f24 f25)) he18) hD
            have hP : va_P g.1 vwCl (wM g a (if fPass ce pe op = 0 then up (up f1 (7 + ce) pe) (31 + ce) (if pe = 0 then 0 else op) else f1) f2 f3 f4 f5 (fb (fPass ce pe op) f6) f7 f8 f9 f10 f11 f12 f13 f20 f21 f22 f23 f24 f25) H := hP
            have hD : va_D (va_A (wM g a f1 f2 f3 f4 f5 f6 f7 f8 f9 f10 f11 f12 f13 f20 f21 f22 f23 f24 f25) s.heap.size) (wM g a (if fPass ce pe op = 0 then up (up f1 (7 + ce) pe) (31 + ce) (if pe = 0 then 0 else op) else f1) f2 f3 f4 f5 (fb (fPass ce pe op) f6) f7 f8 f9 f10 f11 f12 f13 f20 f21 f22 f23 f24 f25) := hD
            exact W.iret hx hb hr (fun t ht hW => ⟨⟨_, (), rfl, by rw [hf, ab_0]; exact congrArg iI (by first | rw [if_pos (by omega)] | rw [if_neg (by omega)]), by rw [ht]; exact hP, hD⟩, hS.F ht⟩) hS.2.2 dX5_pass_71
        · refine xi_zf_ne hx hb ⟨by decide, by decide⟩ (by decide) dX5_pass_33 ⟨43, by decide⟩ ?_
          refine lv_aload_n hx hb dX5_pass_36 rfl (lv_at hl 0 rfl) ?_
          refine xi_ldc hx hb hown hts kk_X5_50 dX5_pass_37 ?_
          refine xm_i (rV (rest := []) hx hb hml hown hts hK hl (c_X5_finds l g a f1 f2 f3 f4 f5 f6 f7 f8 f9 f10 f11 f12 f13 f20 f21 f22 f23 f24 f25 (-1000000001) (s.heap).size (show 0 ≤ -1000000001 - (-1000000001) ∧ -1000000001 - (-1000000001) < 7 from by omega)) lk_X5_74 ⟨rfl, hP, hD.weaken (fun _ _ _ _ => trivial)⟩ (va_recv hK.1 hP (ci := 5) (q0 := 0) rfl rfl) rfl rfl rfl (Rm.of rfl) rfl rfl dX5_pass_39) hD hS hA (fun x9 _ H locs hw hP hD hS => ?_)
          obtain rfl : x9 = iI (-1000000001) := hw
          have hP : va_P g.1 vwCl (wM g a f1 f2 f3 f4 f5 (fb (-1000000000 - (-1000000001)) f6) f7 f8 f9 f10 f11 f12 f13 f20 f21 f22 f23 f24 f25) H := hP
          have hD : va_D (va_A (wM g a f1 f2 f3 f4 f5 f6 f7 f8 f9 f10 f11 f12 f13 f20 f21 f22 f23 f24 f25) s.heap.size) (wM g a f1 f2 f3 f4 f5 (fb (-1000000000 - (-1000000001)) f6) f7 f8 f9 f10 f11 f12 f13 f20 f21 f22 f23 f24 f25) := hD
          have hf : fPass ce pe op = 1 := by unfold fPass; (repeat (first | rw [if_pos (by omega)] | rw [if_neg (by omega)])); first | done | (exfalso; omega)
          have he20 : f1 = (if fPass ce pe op = 0 then up (up f1 (7 + ce) pe) (31 + ce) (if pe = 0 then 0 else op) else f1) := by rw [hf]; rfl
          have hP := Eq.mp (congrArg (fun z9 => va_P g.1 vwCl (wM g a z9 f2 f3 f4 f5 (fb (-1000000000 - (-1000000001)) f6) f7 f8 f9 f10 f11 f12 f13 f20 f21 f22 f23 f24 f25) H) he20) hP
          have hD := Eq.mp (congrArg (fun z9 => va_D (va_A (wM g a f1 f2 f3 f4 f5 f6 f7 f8 f9 f10 f11 f12 f13 f20 f21 f22 f23 f24 f25) s.heap.size) (wM g a z9 f2 f3 f4 f5 (fb (-1000000000 - (-1000000001)) f6) f7 f8 f9 f10 f11 f12 f13 f20 f21 f22 f23 f24 f25)) he20) hD
          have he21 : (fb (-1000000000 - (-1000000001)) f6) = (fb (fPass ce pe op) f6) := by rw [hf]; rfl
          have hP := Eq.mp (congrArg (fun z9 => va_P g.1 vwCl (wM g a (if fPass ce pe op = 0 then up (up f1 (7 + ce) pe) (31 + ce) (if pe = 0 then 0 else op) else f1) f2 f3 f4 f5 z9 f7 f8 f9 f10 f11 f12 f13 f20 f21 f22 f23 f24 f25) H) he21) hP
          have hD := Eq.mp (congrArg (fun z9 => va_D (va_A (wM g a f1 f2 f3 f4 f5 f6 f7 f8 f9 f10 f11 f12 f13 f20 f21 f22 f23 f24 f25) s.heap.size) (wM g a (if fPass ce pe op = 0 then up (up f1 (7 + ce) pe) (31 + ce) (if pe = 0 then 0 else op) else f1) f2 f3 f4 f5 z9 f7 f8 f9 f10 f11 f12 f13 f20 f21 f22 f23 f24 f25)) he21) hD
          have hP : va_P g.1 vwCl (wM g a (if fPass ce pe op = 0 then up (up f1 (7 + ce) pe) (31 + ce) (if pe = 0 then 0 else op) else f1) f2 f3 f4 f5 (fb (fPass ce pe op) f6) f7 f8 f9 f10 f11 f12 f13 f20 f21 f22 f23 f24 f25) H := hP
          have hD : va_D (va_A (wM g a f1 f2 f3 f4 f5 f6 f7 f8 f9 f10 f11 f12 f13 f20 f21 f22 f23 f24 f25) s.heap.size) (wM g a (if fPass ce pe op = 0 then up (up f1 (7 + ce) pe) (31 + ce) (if pe = 0 then 0 else op) else f1) f2 f3 f4 f5 (fb (fPass ce pe op) f6) f7 f8 f9 f10 f11 f12 f13 f20 f21 f22 f23 f24 f25) := hD
          exact W.iret hx hb hr (fun t ht hW => ⟨⟨_, (), rfl, by rw [hf]; rfl, by rw [ht]; exact hP, hD⟩, hS.F ht⟩) hS.2.2 dX5_pass_42
      · refine xi_zt_eq (tgt := 36) hx hb ⟨by decide, by decide⟩ (by decide) dX5_pass_22 (by decide) ?_
        refine lv_aload_n hx hb dX5_pass_36 rfl (lv_at hl 0 rfl) ?_
        refine xi_ldc hx hb hown hts kk_X5_50 dX5_pass_37 ?_
        refine xm_i (rV (rest := []) hx hb hml hown hts hK hl (c_X5_finds l g a f1 f2 f3 f4 f5 f6 f7 f8 f9 f10 f11 f12 f13 f20 f21 f22 f23 f24 f25 (-1000000001) (s.heap).size (show 0 ≤ -1000000001 - (-1000000001) ∧ -1000000001 - (-1000000001) < 7 from by omega)) lk_X5_74 ⟨rfl, hP, hD.weaken (fun _ _ _ _ => trivial)⟩ (va_recv hK.1 hP (ci := 5) (q0 := 0) rfl rfl) rfl rfl rfl (Rm.of rfl) rfl rfl dX5_pass_39) hD hS hA (fun x9 _ H locs hw hP hD hS => ?_)
        obtain rfl : x9 = iI (-1000000001) := hw
        have hP : va_P g.1 vwCl (wM g a f1 f2 f3 f4 f5 (fb (-1000000000 - (-1000000001)) f6) f7 f8 f9 f10 f11 f12 f13 f20 f21 f22 f23 f24 f25) H := hP
        have hD : va_D (va_A (wM g a f1 f2 f3 f4 f5 f6 f7 f8 f9 f10 f11 f12 f13 f20 f21 f22 f23 f24 f25) s.heap.size) (wM g a f1 f2 f3 f4 f5 (fb (-1000000000 - (-1000000001)) f6) f7 f8 f9 f10 f11 f12 f13 f20 f21 f22 f23 f24 f25) := hD
        have hf : fPass ce pe op = 1 := by unfold fPass; (repeat (first | rw [if_pos (by omega)] | rw [if_neg (by omega)])); first | done | (exfalso; omega)
        have he23 : f1 = (if fPass ce pe op = 0 then up (up f1 (7 + ce) pe) (31 + ce) (if pe = 0 then 0 else op) else f1) := by rw [hf]; rfl
        have hP := Eq.mp (congrArg (fun z9 => va_P g.1 vwCl (wM g a z9 f2 f3 f4 f5 (fb (-1000000000 - (-1000000001)) f6) f7 f8 f9 f10 f11 f12 f13 f20 f21 f22 f23 f24 f25) H) he23) hP
        have hD := Eq.mp (congrArg (fun z9 => va_D (va_A (wM g a f1 f2 f3 f4 f5 f6 f7 f8 f9 f10 f11 f12 f13 f20 f21 f22 f23 f24 f25) s.heap.size) (wM g a z9 f2 f3 f4 f5 (fb (-1000000000 - (-1000000001)) f6) f7 f8 f9 f10 f11 f12 f13 f20 f21 f22 f23 f24 f25)) he23) hD
        have he24 : (fb (-1000000000 - (-1000000001)) f6) = (fb (fPass ce pe op) f6) := by rw [hf]; rfl
        have hP := Eq.mp (congrArg (fun z9 => va_P g.1 vwCl (wM g a (if fPass ce pe op = 0 then up (up f1 (7 + ce) pe) (31 + ce) (if pe = 0 then 0 else op) else f1) f2 f3 f4 f5 z9 f7 f8 f9 f10 f11 f12 f13 f20 f21 f22 f23 f24 f25) H) he24) hP
        have hD := Eq.mp (congrArg (fun z9 => va_D (va_A (wM g a f1 f2 f3 f4 f5 f6 f7 f8 f9 f10 f11 f12 f13 f20 f21 f22 f23 f24 f25) s.heap.size) (wM g a (if fPass ce pe op = 0 then up (up f1 (7 + ce) pe) (31 + ce) (if pe = 0 then 0 else op) else f1) f2 f3 f4 f5 z9 f7 f8 f9 f10 f11 f12 f13 f20 f21 f22 f23 f24 f25)) he24) hD
        have hP : va_P g.1 vwCl (wM g a (if fPass ce pe op = 0 then up (up f1 (7 + ce) pe) (31 + ce) (if pe = 0 then 0 else op) else f1) f2 f3 f4 f5 (fb (fPass ce pe op) f6) f7 f8 f9 f10 f11 f12 f13 f20 f21 f22 f23 f24 f25) H := hP
        have hD : va_D (va_A (wM g a f1 f2 f3 f4 f5 f6 f7 f8 f9 f10 f11 f12 f13 f20 f21 f22 f23 f24 f25) s.heap.size) (wM g a (if fPass ce pe op = 0 then up (up f1 (7 + ce) pe) (31 + ce) (if pe = 0 then 0 else op) else f1) f2 f3 f4 f5 (fb (fPass ce pe op) f6) f7 f8 f9 f10 f11 f12 f13 f20 f21 f22 f23 f24 f25) := hD
        exact W.iret hx hb hr (fun t ht hW => ⟨⟨_, (), rfl, by rw [hf]; rfl, by rw [ht]; exact hP, hD⟩, hS.F ht⟩) hS.2.2 dX5_pass_42
  · refine xi_zt_eq (tgt := 36) hx hb ⟨by decide, by decide⟩ (by decide) dX5_pass_4 (by decide) ?_
    refine lv_aload_n hx hb dX5_pass_36 rfl (lv_at hl 0 rfl) ?_
    refine xi_ldc hx hb hown hts kk_X5_50 dX5_pass_37 ?_
    refine xm_i (rV (rest := []) hx hb hml hown hts hK hl (c_X5_finds l g a f1 f2 f3 f4 f5 f6 f7 f8 f9 f10 f11 f12 f13 f20 f21 f22 f23 f24 f25 (-1000000001) (s.heap).size (show 0 ≤ -1000000001 - (-1000000001) ∧ -1000000001 - (-1000000001) < 7 from by omega)) lk_X5_74 ⟨rfl, hP, hD.weaken (fun _ _ _ _ => trivial)⟩ (va_recv hK.1 hP (ci := 5) (q0 := 0) rfl rfl) rfl rfl rfl (Rm.of rfl) rfl rfl dX5_pass_39) hD hS hA (fun x9 _ H locs hw hP hD hS => ?_)
    obtain rfl : x9 = iI (-1000000001) := hw
    have hP : va_P g.1 vwCl (wM g a f1 f2 f3 f4 f5 (fb (-1000000000 - (-1000000001)) f6) f7 f8 f9 f10 f11 f12 f13 f20 f21 f22 f23 f24 f25) H := hP
    have hD : va_D (va_A (wM g a f1 f2 f3 f4 f5 f6 f7 f8 f9 f10 f11 f12 f13 f20 f21 f22 f23 f24 f25) s.heap.size) (wM g a f1 f2 f3 f4 f5 (fb (-1000000000 - (-1000000001)) f6) f7 f8 f9 f10 f11 f12 f13 f20 f21 f22 f23 f24 f25) := hD
    have hf : fPass ce pe op = 1 := by unfold fPass; (repeat (first | rw [if_pos (by omega)] | rw [if_neg (by omega)])); first | done | (exfalso; omega)
    have he26 : f1 = (if fPass ce pe op = 0 then up (up f1 (7 + ce) pe) (31 + ce) (if pe = 0 then 0 else op) else f1) := by rw [hf]; rfl
    have hP := Eq.mp (congrArg (fun z9 => va_P g.1 vwCl (wM g a z9 f2 f3 f4 f5 (fb (-1000000000 - (-1000000001)) f6) f7 f8 f9 f10 f11 f12 f13 f20 f21 f22 f23 f24 f25) H) he26) hP
    have hD := Eq.mp (congrArg (fun z9 => va_D (va_A (wM g a f1 f2 f3 f4 f5 f6 f7 f8 f9 f10 f11 f12 f13 f20 f21 f22 f23 f24 f25) s.heap.size) (wM g a z9 f2 f3 f4 f5 (fb (-1000000000 - (-1000000001)) f6) f7 f8 f9 f10 f11 f12 f13 f20 f21 f22 f23 f24 f25)) he26) hD
    have he27 : (fb (-1000000000 - (-1000000001)) f6) = (fb (fPass ce pe op) f6) := by rw [hf]; rfl
    have hP := Eq.mp (congrArg (fun z9 => va_P g.1 vwCl (wM g a (if fPass ce pe op = 0 then up (up f1 (7 + ce) pe) (31 + ce) (if pe = 0 then 0 else op) else f1) f2 f3 f4 f5 z9 f7 f8 f9 f10 f11 f12 f13 f20 f21 f22 f23 f24 f25) H) he27) hP
    have hD := Eq.mp (congrArg (fun z9 => va_D (va_A (wM g a f1 f2 f3 f4 f5 f6 f7 f8 f9 f10 f11 f12 f13 f20 f21 f22 f23 f24 f25) s.heap.size) (wM g a (if fPass ce pe op = 0 then up (up f1 (7 + ce) pe) (31 + ce) (if pe = 0 then 0 else op) else f1) f2 f3 f4 f5 z9 f7 f8 f9 f10 f11 f12 f13 f20 f21 f22 f23 f24 f25)) he27) hD
    have hP : va_P g.1 vwCl (wM g a (if fPass ce pe op = 0 then up (up f1 (7 + ce) pe) (31 + ce) (if pe = 0 then 0 else op) else f1) f2 f3 f4 f5 (fb (fPass ce pe op) f6) f7 f8 f9 f10 f11 f12 f13 f20 f21 f22 f23 f24 f25) H := hP
    have hD : va_D (va_A (wM g a f1 f2 f3 f4 f5 f6 f7 f8 f9 f10 f11 f12 f13 f20 f21 f22 f23 f24 f25) s.heap.size) (wM g a (if fPass ce pe op = 0 then up (up f1 (7 + ce) pe) (31 + ce) (if pe = 0 then 0 else op) else f1) f2 f3 f4 f5 (fb (fPass ce pe op) f6) f7 f8 f9 f10 f11 f12 f13 f20 f21 f22 f23 f24 f25) := hD
    exact W.iret hx hb hr (fun t ht hW => ⟨⟨_, (), rfl, by rw [hf]; rfl, by rw [ht]; exact hP, hD⟩, hS.F ht⟩) hS.2.2 dX5_pass_42
abbrev rm_X5_cell : Room := { frames := 3, cells := 0, slots := 0, locals := 66 }
set_option maxRecDepth 100000 in
set_option maxHeartbeats 4000000 in
theorem c_X5_cell (l : Launch) (g : Gd) (a : Nat → Nat) (f1 : Int → Int) (f2 : Int → Int) (f3 : Int → Int) (f4 : Int → Int) (f5 : Int → Int) (f6 : Int → Int) (f7 : Int → Int) (f8 : Int → Int) (f9 : Int → Int) (f10 : Int → Int) (f11 : Int → Int) (f12 : Int → Int) (f13 : Int → Int) (f20 : Int) (f21 : Int) (f22 : Int) (f23 : Int) (f24 : Int) (f25 : Int) (ce : Int) (w : Int) (sz : Nat) (h1 : InvK 0 f1) (h2 : f1 0 ≤ 9999) (h3 : IR ce) (h4 : IR w) : Met l yX5_cell (wsOf yX5_cell cX5_cell 3 (some .int)) rm_X5_cell (PX g (wP g (wM g a f1 f2 f3 f4 f5 f6 f7 f8 f9 f10 f11 f12 f13 f20 f21 f22 f23 f24 f25) sz) [.ref (a 0), .int (iI ce), .int (iI w)]) (QMi g (fun _ : Unit => wM g a f1 f2 f3 f4 f5 (fb (fCell ce w) f6) f7 f8 f9 f10 f11 f12 f13 f20 f21 f22 f23 f24 f25) (fun r9 _ => r9 = ab (fCell ce w) (iI (aCell f1 ce w))) (va_A (wM g a f1 f2 f3 f4 f5 f6 f7 f8 f9 f10 f11 f12 f13 f20 f21 f22 f23 f24 f25) sz)) 0 0 (va_A (wM g a f1 f2 f3 f4 f5 f6 f7 f8 f9 f10 f11 f12 f13 f20 f21 f22 f23 f24 f25) sz) := by
  refine me (g := g) (by decide) rfl ?_
  intro pq eq s mq below meth cq C hnm hB ls hl
  obtain ⟨hx, hb, hr, hml, hown, hts, hlocks, hK⟩ := C
  have hown : s.vm.findClass RX5 = some mq.cls := hown
  have hl : lv_has ls 3 [(0, .ref (a 0)), (1, .int (iI ce)), (2, .int (iI w))] := hl
  obtain ⟨hsz, hP, hD0⟩ := hB
  subst hsz
  have hD := hD0.self (sz := s.heap.size)
  have hA : ∀ q : Nat, s.heap.size ≤ q → va_A (wM g a f1 f2 f3 f4 f5 f6 f7 f8 f9 f10 f11 f12 f13 f20 f21 f22 f23 f24 f25) s.heap.size q := fun q h => Or.inr h
  have hS : va_S (va_A (wM g a f1 f2 f3 f4 f5 f6 f7 f8 f9 f10 f11 f12 f13 f20 f21 f22 f23 f24 f25) s.heap.size) s.heap s.heap [] := va_S.rf
  have hI := h1
  have hI8 : Inv f1 := h1.mono (by omega)
  have hn := hI.num
  have hs := hI.sea
  have hv := hI.vil
  have q1 := h3.1
  have q3 := h4.1
  have q2 := h3.2
  have q4 := h4.2
  refine lv_iload_n hx hb dX5_cell_0 rfl (lv_at hl 1 rfl) ?_
  refine xu_b (P := 0 ≤ ce ∧ ce ≤ 23) (rS (rest := []) hx hb hml hown hts hK hl (c_X5_isCell l g ce (show IR ce from ⟨by omega, by omega⟩)) lk_X5_66 trivial rfl rfl rfl (Rm.of rfl) rfl rfl dX5_cell_1) (fun z1 => ?_) (fun z1 => ?_)
  · refine xi_zf_eq hx hb ⟨by decide, by decide⟩ (by decide) dX5_cell_4 ⟨19, by decide⟩ ?_
    refine lv_iload_n hx hb dX5_cell_7 rfl (lv_at hl 2 rfl) ?_
    refine xi_i2l hx hb ⟨by omega, by omega⟩ dX5_cell_8 ?_
    refine lv_lconst (v := lI (0)) hx hb dX5_cell_9 (by decide) ?_
    refine xl_ldc hx hb hown hts kk_X5_82 dX5_cell_10 ?_
    refine xu_b (P := 0 ≤ w ∧ w ≤ 3) (rS (rest := []) hx hb hml hown hts hK hl (c_X5_in l g w 0 3 (show LR w from ⟨by omega, by omega⟩) (show LR 0 from ⟨by omega, by omega⟩) (show LR 3 from ⟨by omega, by omega⟩)) lk_X5_53 trivial rfl rfl rfl (Rm.of rfl) rfl rfl dX5_cell_13) (fun z2 => ?_) (fun z2 => ?_)
    · refine xi_zt_ne (tgt := 26) hx hb ⟨by decide, by decide⟩ (by decide) dX5_cell_16 (by decide) ?_
      refine lv_iload_n hx hb dX5_cell_26 rfl (lv_at hl 2 rfl) ?_
      have hir3 : IR (w) := ⟨by omega, by omega⟩
      rcases (show (w) = 0 ∨ (w) = 1 ∨ (w) = 2 ∨ ((w) < 0 ∨ 2 < (w)) by omega) with z3 | z3 | z3 | z3
      · refine lv_tableIn (tgt := 52) (off := 25) hx hb dX5_cell_27 (by rw [iI_toInt hir3, z3]; decide) (by rw [iI_toInt hir3, z3]; decide) (by rw [iI_toInt hir3, z3]; rfl) (by decide) ?_
        refine lv_aload_n hx hb dX5_cell_52 rfl (lv_at hl 0 rfl) ?_
        refine xg_X5 hx hb hts hown hK hP 0 rfl 0 (by decide) fk_X5_7 (v := .ref (a 1)) rfl dX5_cell_53 ?_
        refine lv_bipush (v := iI (7)) hx hb dX5_cell_56 (by decide) ?_
        refine lv_iload_n hx hb dX5_cell_58 rfl (lv_at hl 1 rfl) ?_
        refine xi_add hx hb dX5_cell_59 ?_
        refine xi_ald hx hb hK hP 1 (f := f1) rfl (i := 7 + ce) ⟨by omega, by omega⟩ rfl dX5_cell_60 ?_
        have hf : fCell ce w = 0 := by unfold fCell; (repeat (first | rw [if_pos (by omega)] | rw [if_neg (by omega)])); first | done | (exfalso; omega)
        have he4 : f6 = (fb (fCell ce w) f6) := by rw [hf]; rfl
        have hP := Eq.mp (congrArg (fun z9 => va_P g.1 vwCl (wM g a f1 f2 f3 f4 f5 z9 f7 f8 f9 f10 f11 f12 f13 f20 f21 f22 f23 f24 f25) s.heap) he4) hP
        have hD := Eq.mp (congrArg (fun z9 => va_D (va_A (wM g a f1 f2 f3 f4 f5 f6 f7 f8 f9 f10 f11 f12 f13 f20 f21 f22 f23 f24 f25) s.heap.size) (wM g a f1 f2 f3 f4 f5 z9 f7 f8 f9 f10 f11 f12 f13 f20 f21 f22 f23 f24 f25)) he4) hD
        have hP : va_P g.1 vwCl (wM g a f1 f2 f3 f4 f5 (fb (fCell ce w) f6) f7 f8 f9 f10 f11 f12 f13 f20 f21 f22 f23 f24 f25) s.heap := hP
        have hD : va_D (va_A (wM g a f1 f2 f3 f4 f5 f6 f7 f8 f9 f10 f11 f12 f13 f20 f21 f22 f23 f24 f25) s.heap.size) (wM g a f1 f2 f3 f4 f5 (fb (fCell ce w) f6) f7 f8 f9 f10 f11 f12 f13 f20 f21 f22 f23 f24 f25) := hD
        exact W.iret hx hb hr (fun t ht hW => ⟨⟨_, (), rfl, by rw [hf, ab_0]; exact congrArg iI (by unfold aCell; (repeat (first | rw [if_pos (by omega)] | rw [if_neg (by omega)])); first | done | (rw [bI_t (by assumption)]; done) | (rw [bI_f (by assumption)]; done)), by rw [ht]; exact hP, hD⟩, hS.F ht⟩) hS.2.2 dX5_cell_61
      · refine lv_tableIn (tgt := 62) (off := 35) hx hb dX5_cell_27 (by rw [iI_toInt hir3, z3]; decide) (by rw [iI_toInt hir3, z3]; decide) (by rw [iI_toInt hir3, z3]; rfl) (by decide) ?_
        refine lv_aload_n hx hb dX5_cell_62 rfl (lv_at hl 0 rfl) ?_
        refine xg_X5 hx hb hts hown hK hP 0 rfl 0 (by decide) fk_X5_7 (v := .ref (a 1)) rfl dX5_cell_63 ?_
        refine lv_bipush (v := iI (31)) hx hb dX5_cell_66 (by decide) ?_
        refine lv_iload_n hx hb dX5_cell_68 rfl (lv_at hl 1 rfl) ?_
        refine xi_add hx hb dX5_cell_69 ?_
        refine xi_ald hx hb hK hP 1 (f := f1) rfl (i := 31 + ce) ⟨by omega, by omega⟩ rfl dX5_cell_70 ?_
        have hf : fCell ce w = 0 := by unfold fCell; (repeat (first | rw [if_pos (by omega)] | rw [if_neg (by omega)])); first | done | (exfalso; omega)
        have he5 : f6 = (fb (fCell ce w) f6) := by rw [hf]; rfl
        have hP := Eq.mp (congrArg (fun z9 => va_P g.1 vwCl (wM g a f1 f2 f3 f4 f5 z9 f7 f8 f9 f10 f11 f12 f13 f20 f21 f22 f23 f24 f25) s.heap) he5) hP
        have hD := Eq.mp (congrArg (fun z9 => va_D (va_A (wM g a f1 f2 f3 f4 f5 f6 f7 f8 f9 f10 f11 f12 f13 f20 f21 f22 f23 f24 f25) s.heap.size) (wM g a f1 f2 f3 f4 f5 z9 f7 f8 f9 f10 f11 f12 f13 f20 f21 f22 f23 f24 f25)) he5) hD
        have hP : va_P g.1 vwCl (wM g a f1 f2 f3 f4 f5 (fb (fCell ce w) f6) f7 f8 f9 f10 f11 f12 f13 f20 f21 f22 f23 f24 f25) s.heap := hP
        have hD : va_D (va_A (wM g a f1 f2 f3 f4 f5 f6 f7 f8 f9 f10 f11 f12 f13 f20 f21 f22 f23 f24 f25) s.heap.size) (wM g a f1 f2 f3 f4 f5 (fb (fCell ce w) f6) f7 f8 f9 f10 f11 f12 f13 f20 f21 f22 f23 f24 f25) := hD
        exact W.iret hx hb hr (fun t ht hW => ⟨⟨_, (), rfl, by rw [hf, ab_0]; exact congrArg iI (by unfold aCell; (repeat (first | rw [if_pos (by omega)] | rw [if_neg (by omega)])); first | done | (rw [bI_t (by assumption)]; done) | (rw [bI_f (by assumption)]; done)), by rw [ht]; exact hP, hD⟩, hS.F ht⟩) hS.2.2 dX5_cell_71
      · refine lv_tableIn (tgt := 72) (off := 45) hx hb dX5_cell_27 (by rw [iI_toInt hir3, z3]; decide) (by rw [iI_toInt hir3, z3]; decide) (by rw [iI_toInt hir3, z3]; rfl) (by decide) ?_
        refine lv_aload_n hx hb dX5_cell_72 rfl (lv_at hl 0 rfl) ?_
        refine lv_iload_n hx hb dX5_cell_73 rfl (lv_at hl 1 rfl) ?_
        refine xu_b (P := opn f1 ce) (rV (rest := []) hx hb hml hown hts hK hl (c_X5_isOpen l g a f1 f2 f3 f4 f5 f6 f7 f8 f9 f10 f11 f12 f13 f20 f21 f22 f23 f24 f25 ce (show Inv f1 from hI8) (show 0 ≤ ce ∧ ce < 24 from by omega)) lk_X5_84 hP (va_recv hK.1 hP (ci := 5) (q0 := 0) rfl rfl) rfl rfl rfl (Rm.of rfl) rfl rfl dX5_cell_74) (fun z6 => ?_) (fun z6 => ?_)
        · refine xi_zf_eq hx hb ⟨by decide, by decide⟩ (by decide) dX5_cell_77 ⟨84, by decide⟩ ?_
          refine lv_iconst (v := iI (1)) hx hb dX5_cell_80 (by decide) ?_
          refine lv_goto (tgt := 85) hx hb dX5_cell_81 (by decide) ?_
          have hf : fCell ce w = 0 := by unfold fCell; (repeat (first | rw [if_pos (by omega)] | rw [if_neg (by omega)])); first | done | (exfalso; omega)
          have he7 : f6 = (fb (fCell ce w) f6) := by rw [hf]; rfl
          have hP := Eq.mp (congrArg (fun z9 => va_P g.1 vwCl (wM g a f1 f2 f3 f4 f5 z9 f7 f8 f9 f10 f11 f12 f13 f20 f21 f22 f23 f24 f25) s.heap) he7) hP
          have hD := Eq.mp (congrArg (fun z9 => va_D (va_A (wM g a f1 f2 f3 f4 f5 f6 f7 f8 f9 f10 f11 f12 f13 f20 f21 f22 f23 f24 f25) s.heap.size) (wM g a f1 f2 f3 f4 f5 z9 f7 f8 f9 f10 f11 f12 f13 f20 f21 f22 f23 f24 f25)) he7) hD
          have hP : va_P g.1 vwCl (wM g a f1 f2 f3 f4 f5 (fb (fCell ce w) f6) f7 f8 f9 f10 f11 f12 f13 f20 f21 f22 f23 f24 f25) s.heap := hP
          have hD : va_D (va_A (wM g a f1 f2 f3 f4 f5 f6 f7 f8 f9 f10 f11 f12 f13 f20 f21 f22 f23 f24 f25) s.heap.size) (wM g a f1 f2 f3 f4 f5 (fb (fCell ce w) f6) f7 f8 f9 f10 f11 f12 f13 f20 f21 f22 f23 f24 f25) := hD
          exact W.iret hx hb hr (fun t ht hW => ⟨⟨_, (), rfl, by rw [hf, ab_0]; exact congrArg iI (by unfold aCell; (repeat (first | rw [if_pos (by omega)] | rw [if_neg (by omega)])); first | done | (rw [bI_t (by assumption)]; done) | (rw [bI_f (by assumption)]; done)), by rw [ht]; exact hP, hD⟩, hS.F ht⟩) hS.2.2 dX5_cell_85
        · refine xi_zt_eq (tgt := 84) hx hb ⟨by decide, by decide⟩ (by decide) dX5_cell_77 (by decide) ?_
          refine lv_iconst (v := iI (0)) hx hb dX5_cell_84 (by decide) ?_
          have hf : fCell ce w = 0 := by unfold fCell; (repeat (first | rw [if_pos (by omega)] | rw [if_neg (by omega)])); first | done | (exfalso; omega)
          have he8 : f6 = (fb (fCell ce w) f6) := by rw [hf]; rfl
          have hP := Eq.mp (congrArg (fun z9 => va_P g.1 vwCl (wM g a f1 f2 f3 f4 f5 z9 f7 f8 f9 f10 f11 f12 f13 f20 f21 f22 f23 f24 f25) s.heap) he8) hP
          have hD := Eq.mp (congrArg (fun z9 => va_D (va_A (wM g a f1 f2 f3 f4 f5 f6 f7 f8 f9 f10 f11 f12 f13 f20 f21 f22 f23 f24 f25) s.heap.size) (wM g a f1 f2 f3 f4 f5 z9 f7 f8 f9 f10 f11 f12 f13 f20 f21 f22 f23 f24 f25)) he8) hD
          have hP : va_P g.1 vwCl (wM g a f1 f2 f3 f4 f5 (fb (fCell ce w) f6) f7 f8 f9 f10 f11 f12 f13 f20 f21 f22 f23 f24 f25) s.heap := hP
          have hD : va_D (va_A (wM g a f1 f2 f3 f4 f5 f6 f7 f8 f9 f10 f11 f12 f13 f20 f21 f22 f23 f24 f25) s.heap.size) (wM g a f1 f2 f3 f4 f5 (fb (fCell ce w) f6) f7 f8 f9 f10 f11 f12 f13 f20 f21 f22 f23 f24 f25) := hD
          exact W.iret hx hb hr (fun t ht hW => ⟨⟨_, (), rfl, by rw [hf, ab_0]; exact congrArg iI (by unfold aCell; (repeat (first | rw [if_pos (by omega)] | rw [if_neg (by omega)])); first | done | (rw [bI_t (by assumption)]; done) | (rw [bI_f (by assumption)]; done)), by rw [ht]; exact hP, hD⟩, hS.F ht⟩) hS.2.2 dX5_cell_85
      · refine lv_tableOut (tgt := 86) hx hb dX5_cell_27 (by rw [iI_toInt hir3]; exact z3) (by decide) ?_
        refine lv_aload_n hx hb dX5_cell_86 rfl (lv_at hl 0 rfl) ?_
        refine lv_iload_n hx hb dX5_cell_87 rfl (lv_at hl 1 rfl) ?_
        refine xu_i (x := iI (who f1 ce)) (rV (rest := []) hx hb hml hown hts hK hl (c_X5_isIn l g a f1 f2 f3 f4 f5 f6 f7 f8 f9 f10 f11 f12 f13 f20 f21 f22 f23 f24 f25 ce (show Inv f1 from hI8) (show IR ce from ⟨by omega, by omega⟩)) lk_X5_87 hP (va_recv hK.1 hP (ci := 5) (q0 := 0) rfl rfl) rfl rfl rfl (Rm.of rfl) rfl rfl dX5_cell_88) ?_
        have hf : fCell ce w = 0 := by unfold fCell; (repeat (first | rw [if_pos (by omega)] | rw [if_neg (by omega)])); first | done | (exfalso; omega)
        have he10 : f6 = (fb (fCell ce w) f6) := by rw [hf]; rfl
        have hP := Eq.mp (congrArg (fun z9 => va_P g.1 vwCl (wM g a f1 f2 f3 f4 f5 z9 f7 f8 f9 f10 f11 f12 f13 f20 f21 f22 f23 f24 f25) s.heap) he10) hP
        have hD := Eq.mp (congrArg (fun z9 => va_D (va_A (wM g a f1 f2 f3 f4 f5 f6 f7 f8 f9 f10 f11 f12 f13 f20 f21 f22 f23 f24 f25) s.heap.size) (wM g a f1 f2 f3 f4 f5 z9 f7 f8 f9 f10 f11 f12 f13 f20 f21 f22 f23 f24 f25)) he10) hD
        have hP : va_P g.1 vwCl (wM g a f1 f2 f3 f4 f5 (fb (fCell ce w) f6) f7 f8 f9 f10 f11 f12 f13 f20 f21 f22 f23 f24 f25) s.heap := hP
        have hD : va_D (va_A (wM g a f1 f2 f3 f4 f5 f6 f7 f8 f9 f10 f11 f12 f13 f20 f21 f22 f23 f24 f25) s.heap.size) (wM g a f1 f2 f3 f4 f5 (fb (fCell ce w) f6) f7 f8 f9 f10 f11 f12 f13 f20 f21 f22 f23 f24 f25) := hD
        exact W.iret hx hb hr (fun t ht hW => ⟨⟨_, (), rfl, by rw [hf, ab_0]; exact congrArg iI (by unfold aCell; (repeat (first | rw [if_pos (by omega)] | rw [if_neg (by omega)])); first | done | (rw [bI_t (by assumption)]; done) | (rw [bI_f (by assumption)]; done)), by rw [ht]; exact hP, hD⟩, hS.F ht⟩) hS.2.2 dX5_cell_91
    · refine xi_zf_ne hx hb ⟨by decide, by decide⟩ (by decide) dX5_cell_16 ⟨26, by decide⟩ ?_
      refine lv_aload_n hx hb dX5_cell_19 rfl (lv_at hl 0 rfl) ?_
      refine xi_ldc hx hb hown hts kk_X5_50 dX5_cell_20 ?_
      refine xm_i (rV (rest := []) hx hb hml hown hts hK hl (c_X5_finds l g a f1 f2 f3 f4 f5 f6 f7 f8 f9 f10 f11 f12 f13 f20 f21 f22 f23 f24 f25 (-1000000001) (s.heap).size (show 0 ≤ -1000000001 - (-1000000001) ∧ -1000000001 - (-1000000001) < 7 from by omega)) lk_X5_74 ⟨rfl, hP, hD.weaken (fun _ _ _ _ => trivial)⟩ (va_recv hK.1 hP (ci := 5) (q0 := 0) rfl rfl) rfl rfl rfl (Rm.of rfl) rfl rfl dX5_cell_22) hD hS hA (fun x9 _ H locs hw hP hD hS => ?_)
      obtain rfl : x9 = iI (-1000000001) := hw
      have hP : va_P g.1 vwCl (wM g a f1 f2 f3 f4 f5 (fb (-1000000000 - (-1000000001)) f6) f7 f8 f9 f10 f11 f12 f13 f20 f21 f22 f23 f24 f25) H := hP
      have hD : va_D (va_A (wM g a f1 f2 f3 f4 f5 f6 f7 f8 f9 f10 f11 f12 f13 f20 f21 f22 f23 f24 f25) s.heap.size) (wM g a f1 f2 f3 f4 f5 (fb (-1000000000 - (-1000000001)) f6) f7 f8 f9 f10 f11 f12 f13 f20 f21 f22 f23 f24 f25) := hD
      have hf : fCell ce w = 1 := by unfold fCell; (repeat (first | rw [if_pos (by omega)] | rw [if_neg (by omega)])); first | done | (exfalso; omega)
      have he12 : (fb (-1000000000 - (-1000000001)) f6) = (fb (fCell ce w) f6) := by rw [hf]; rfl
      have hP := Eq.mp (congrArg (fun z9 => va_P g.1 vwCl (wM g a f1 f2 f3 f4 f5 z9 f7 f8 f9 f10 f11 f12 f13 f20 f21 f22 f23 f24 f25) H) he12) hP
      have hD := Eq.mp (congrArg (fun z9 => va_D (va_A (wM g a f1 f2 f3 f4 f5 f6 f7 f8 f9 f10 f11 f12 f13 f20 f21 f22 f23 f24 f25) s.heap.size) (wM g a f1 f2 f3 f4 f5 z9 f7 f8 f9 f10 f11 f12 f13 f20 f21 f22 f23 f24 f25)) he12) hD
      have hP : va_P g.1 vwCl (wM g a f1 f2 f3 f4 f5 (fb (fCell ce w) f6) f7 f8 f9 f10 f11 f12 f13 f20 f21 f22 f23 f24 f25) H := hP
      have hD : va_D (va_A (wM g a f1 f2 f3 f4 f5 f6 f7 f8 f9 f10 f11 f12 f13 f20 f21 f22 f23 f24 f25) s.heap.size) (wM g a f1 f2 f3 f4 f5 (fb (fCell ce w) f6) f7 f8 f9 f10 f11 f12 f13 f20 f21 f22 f23 f24 f25) := hD
      exact W.iret hx hb hr (fun t ht hW => ⟨⟨_, (), rfl, by rw [hf]; rfl, by rw [ht]; exact hP, hD⟩, hS.F ht⟩) hS.2.2 dX5_cell_25
  · refine xi_zt_eq (tgt := 19) hx hb ⟨by decide, by decide⟩ (by decide) dX5_cell_4 (by decide) ?_
    refine lv_aload_n hx hb dX5_cell_19 rfl (lv_at hl 0 rfl) ?_
    refine xi_ldc hx hb hown hts kk_X5_50 dX5_cell_20 ?_
    refine xm_i (rV (rest := []) hx hb hml hown hts hK hl (c_X5_finds l g a f1 f2 f3 f4 f5 f6 f7 f8 f9 f10 f11 f12 f13 f20 f21 f22 f23 f24 f25 (-1000000001) (s.heap).size (show 0 ≤ -1000000001 - (-1000000001) ∧ -1000000001 - (-1000000001) < 7 from by omega)) lk_X5_74 ⟨rfl, hP, hD.weaken (fun _ _ _ _ => trivial)⟩ (va_recv hK.1 hP (ci := 5) (q0 := 0) rfl rfl) rfl rfl rfl (Rm.of rfl) rfl rfl dX5_cell_22) hD hS hA (fun x9 _ H locs hw hP hD hS => ?_)
    obtain rfl : x9 = iI (-1000000001) := hw
    have hP : va_P g.1 vwCl (wM g a f1 f2 f3 f4 f5 (fb (-1000000000 - (-1000000001)) f6) f7 f8 f9 f10 f11 f12 f13 f20 f21 f22 f23 f24 f25) H := hP
    have hD : va_D (va_A (wM g a f1 f2 f3 f4 f5 f6 f7 f8 f9 f10 f11 f12 f13 f20 f21 f22 f23 f24 f25) s.heap.size) (wM g a f1 f2 f3 f4 f5 (fb (-1000000000 - (-1000000001)) f6) f7 f8 f9 f10 f11 f12 f13 f20 f21 f22 f23 f24 f25) := hD
    have hf : fCell ce w = 1 := by unfold fCell; (repeat (first | rw [if_pos (by omega)] | rw [if_neg (by omega)])); first | done | (exfalso; omega)
    have he14 : (fb (-1000000000 - (-1000000001)) f6) = (fb (fCell ce w) f6) := by rw [hf]; rfl
    have hP := Eq.mp (congrArg (fun z9 => va_P g.1 vwCl (wM g a f1 f2 f3 f4 f5 z9 f7 f8 f9 f10 f11 f12 f13 f20 f21 f22 f23 f24 f25) H) he14) hP
    have hD := Eq.mp (congrArg (fun z9 => va_D (va_A (wM g a f1 f2 f3 f4 f5 f6 f7 f8 f9 f10 f11 f12 f13 f20 f21 f22 f23 f24 f25) s.heap.size) (wM g a f1 f2 f3 f4 f5 z9 f7 f8 f9 f10 f11 f12 f13 f20 f21 f22 f23 f24 f25)) he14) hD
    have hP : va_P g.1 vwCl (wM g a f1 f2 f3 f4 f5 (fb (fCell ce w) f6) f7 f8 f9 f10 f11 f12 f13 f20 f21 f22 f23 f24 f25) H := hP
    have hD : va_D (va_A (wM g a f1 f2 f3 f4 f5 f6 f7 f8 f9 f10 f11 f12 f13 f20 f21 f22 f23 f24 f25) s.heap.size) (wM g a f1 f2 f3 f4 f5 (fb (fCell ce w) f6) f7 f8 f9 f10 f11 f12 f13 f20 f21 f22 f23 f24 f25) := hD
    exact W.iret hx hb hr (fun t ht hW => ⟨⟨_, (), rfl, by rw [hf]; rfl, by rw [ht]; exact hP, hD⟩, hS.F ht⟩) hS.2.2 dX5_cell_25
abbrev rm_X5_village : Room := { frames := 2, cells := 0, slots := 0, locals := 45 }
set_option maxRecDepth 100000 in
set_option maxHeartbeats 4000000 in
theorem c_X5_village (l : Launch) (g : Gd) (a : Nat → Nat) (f1 : Int → Int) (f2 : Int → Int) (f3 : Int → Int) (f4 : Int → Int) (f5 : Int → Int) (f6 : Int → Int) (f7 : Int → Int) (f8 : Int → Int) (f9 : Int → Int) (f10 : Int → Int) (f11 : Int → Int) (f12 : Int → Int) (f13 : Int → Int) (f20 : Int) (f21 : Int) (f22 : Int) (f23 : Int) (f24 : Int) (f25 : Int) (ce : Int) (sz : Nat) (h1 : InvK 0 f1) (h2 : f1 0 ≤ 9999) (h3 : IR ce) : Met l yX5_village (wsOf yX5_village cX5_village 2 (some .int)) rm_X5_village (PX g (wP g (wM g a f1 f2 f3 f4 f5 f6 f7 f8 f9 f10 f11 f12 f13 f20 f21 f22 f23 f24 f25) sz) [.ref (a 0), .int (iI ce)]) (QMi g (fun _ : Unit => wM g a (if fVil f1 ce = 0 then nVil f1 ce else f1) f2 f3 f4 f5 (fb (fVil f1 ce) f6) f7 f8 f9 f10 f11 f12 f13 f20 f21 f22 f23 f24 f25) (fun r9 _ => r9 = ab (fVil f1 ce) (iI (f1 2))) (va_A (wM g a f1 f2 f3 f4 f5 f6 f7 f8 f9 f10 f11 f12 f13 f20 f21 f22 f23 f24 f25) sz)) 0 0 (va_A (wM g a f1 f2 f3 f4 f5 f6 f7 f8 f9 f10 f11 f12 f13 f20 f21 f22 f23 f24 f25) sz) := by
  refine me (g := g) (by decide) rfl ?_
  intro pq eq s mq below meth cq C hnm hB ls hl
  obtain ⟨hx, hb, hr, hml, hown, hts, hlocks, hK⟩ := C
  have hown : s.vm.findClass RX5 = some mq.cls := hown
  have hl : lv_has ls 2 [(0, .ref (a 0)), (1, .int (iI ce))] := hl
  obtain ⟨hsz, hP, hD0⟩ := hB
  subst hsz
  have hD := hD0.self (sz := s.heap.size)
  have hA : ∀ q : Nat, s.heap.size ≤ q → va_A (wM g a f1 f2 f3 f4 f5 f6 f7 f8 f9 f10 f11 f12 f13 f20 f21 f22 f23 f24 f25) s.heap.size q := fun q h => Or.inr h
  have hS : va_S (va_A (wM g a f1 f2 f3 f4 f5 f6 f7 f8 f9 f10 f11 f12 f13 f20 f21 f22 f23 f24 f25) s.heap.size) s.heap s.heap [] := va_S.rf
  have hI := h1
  have hI8 : Inv f1 := h1.mono (by omega)
  have hn := hI.num
  have hs := hI.sea
  have hv := hI.vil
  have q1 := h3.1
  have q2 := h3.2
  refine lv_iload_n hx hb dX5_village_0 rfl (lv_at hl 1 rfl) ?_
  refine xu_b (P := 0 ≤ ce ∧ ce ≤ 23) (rS (rest := []) hx hb hml hown hts hK hl (c_X5_isCell l g ce (show IR ce from ⟨by omega, by omega⟩)) lk_X5_66 trivial rfl rfl rfl (Rm.of rfl) rfl rfl dX5_village_1) (fun z1 => ?_) (fun z1 => ?_)
  · refine xi_zt_ne (tgt := 14) hx hb ⟨by decide, by decide⟩ (by decide) dX5_village_4 (by decide) ?_
    refine lv_aload_n hx hb dX5_village_14 rfl (lv_at hl 0 rfl) ?_
    refine xg_X5 hx hb hts hown hK hP 0 rfl 0 (by decide) fk_X5_7 (v := .ref (a 1)) rfl dX5_village_15 ?_
    refine lv_iconst (v := iI (2)) hx hb dX5_village_18 (by decide) ?_
    refine xi_ald hx hb hK hP 1 (f := f1) rfl (i := 2) ⟨by omega, by omega⟩ rfl dX5_village_19 ?_
    refine lv_bipush (v := iI (6)) hx hb dX5_village_20 (by decide) ?_
    refine xi_c_ne (tgt := 32) hx hb ⟨by omega, by omega⟩ ⟨by decide, by decide⟩ dX5_village_22 (by decide) (fun z2 => ?_) (fun z2 => ?_)
    · refine lv_aload_n hx hb dX5_village_32 rfl (lv_at hl 0 rfl) ?_
      refine xg_X5 hx hb hts hown hK hP 0 rfl 0 (by decide) fk_X5_7 (v := .ref (a 1)) rfl dX5_village_33 ?_
      refine lv_bipush (v := iI (55)) hx hb dX5_village_36 (by decide) ?_
      refine lv_aload_n hx hb dX5_village_38 rfl (lv_at hl 0 rfl) ?_
      refine xg_X5 hx hb hts hown hK hP 0 rfl 0 (by decide) fk_X5_7 (v := .ref (a 1)) rfl dX5_village_39 ?_
      refine lv_iconst (v := iI (2)) hx hb dX5_village_42 (by decide) ?_
      refine xi_ald hx hb hK hP 1 (f := f1) rfl (i := 2) ⟨by omega, by omega⟩ rfl dX5_village_43 ?_
      refine xi_add hx hb dX5_village_44 ?_
      refine lv_iload_n hx hb dX5_village_45 rfl (lv_at hl 1 rfl) ?_
      refine xi_ast hx hb hK hP hD hS 1 (f := f1) rfl (i := 55 + (f1 2)) (v := ce) ⟨by omega, by omega⟩ rfl dX5_village_46 (fun H locs hP hD hS => ?_)
      have hP : va_P g.1 vwCl (wM g a (up f1 (55 + (f1 2)) ce) f2 f3 f4 f5 f6 f7 f8 f9 f10 f11 f12 f13 f20 f21 f22 f23 f24 f25) H := hP
      have hD : va_D (va_A (wM g a f1 f2 f3 f4 f5 f6 f7 f8 f9 f10 f11 f12 f13 f20 f21 f22 f23 f24 f25) s.heap.size) (wM g a (up f1 (55 + (f1 2)) ce) f2 f3 f4 f5 f6 f7 f8 f9 f10 f11 f12 f13 f20 f21 f22 f23 f24 f25) := hD
      refine lv_aload_n hx hb dX5_village_47 rfl (lv_at hl 0 rfl) ?_
      refine xg_X5 hx hb hts hown hK hP 0 rfl 0 (by decide) fk_X5_7 (v := .ref (a 1)) rfl dX5_village_48 ?_
      refine lv_iconst (v := iI (2)) hx hb dX5_village_51 (by decide) ?_
      refine lv_dup2_11 hx hb dX5_village_52 rfl rfl ?_
      refine xi_ald hx hb hK hP 1 (f := up f1 (55 + (f1 2)) ce) rfl (i := 2) ⟨by omega, by omega⟩ rfl dX5_village_53 ?_
      refine lv_iconst (v := iI (1)) hx hb dX5_village_54 (by decide) ?_
      refine xi_add hx hb dX5_village_55 ?_
      refine xi_ast hx hb hK hP hD hS 1 (f := up f1 (55 + (f1 2)) ce) rfl (i := 2) (v := (up f1 (55 + (f1 2)) ce) 2 + 1) ⟨by omega, by omega⟩ rfl dX5_village_56 (fun H locs hP hD hS => ?_)
      have hP : va_P g.1 vwCl (wM g a (up (up f1 (55 + (f1 2)) ce) 2 ((up f1 (55 + (f1 2)) ce) 2 + 1)) f2 f3 f4 f5 f6 f7 f8 f9 f10 f11 f12 f13 f20 f21 f22 f23 f24 f25) H := hP
      have hD : va_D (va_A (wM g a f1 f2 f3 f4 f5 f6 f7 f8 f9 f10 f11 f12 f13 f20 f21 f22 f23 f24 f25) s.heap.size) (wM g a (up (up f1 (55 + (f1 2)) ce) 2 ((up f1 (55 + (f1 2)) ce) 2 + 1)) f2 f3 f4 f5 f6 f7 f8 f9 f10 f11 f12 f13 f20 f21 f22 f23 f24 f25) := hD
      refine lv_aload_n hx hb dX5_village_57 rfl (lv_at hl 0 rfl) ?_
      refine xg_X5 hx hb hts hown hK hP 0 rfl 0 (by decide) fk_X5_7 (v := .ref (a 1)) rfl dX5_village_58 ?_
      refine lv_iconst (v := iI (2)) hx hb dX5_village_61 (by decide) ?_
      refine xi_ald hx hb hK hP 1 (f := up (up f1 (55 + (f1 2)) ce) 2 ((up f1 (55 + (f1 2)) ce) 2 + 1)) rfl (i := 2) ⟨by omega, by omega⟩ rfl dX5_village_62 ?_
      refine lv_iconst (v := iI (1)) hx hb dX5_village_63 (by decide) ?_
      refine xi_sub hx hb dX5_village_64 ?_
      have hf : fVil f1 ce = 0 := by unfold fVil; (repeat (first | rw [if_pos (by omega)] | rw [if_neg (by omega)])); first | done | (exfalso; omega)
      have he3 : (up (up f1 (55 + (f1 2)) ce) 2 ((up f1 (55 + (f1 2)) ce) 2 + 1)) = (if fVil f1 ce = 0 then nVil f1 ce else f1) := by rw [hf, if_pos rfl]; unfold nVil; rw [up_n (by omega)]
      have hP := Eq.mp (congrArg (fun z9 => va_P g.1 vwCl (wM g a z9 f2 f3 f4 f5 f6 f7 f8 f9 f10 f11 f12 f13 f20 f21 f22 f23 f24 f25) H) he3) hP
      have hD := Eq.mp (congrArg (fun z9 => va_D (va_A (wM g a f1 f2 f3 f4 f5 f6 f7 f8 f9 f10 f11 f12 f13 f20 f21 f22 f23 f24 f25) s.heap.size) (wM g a z9 f2 f3 f4 f5 f6 f7 f8 f9 f10 f11 f12 f13 f20 f21 f22 f23 f24 f25)) he3) hD
      have he4 : f6 = (fb (fVil f1 ce) f6) := by rw [hf]; rfl
      have hP := Eq.mp (congrArg (fun z9 => va_P g.1 vwCl (wM g a (if fVil f1 ce = 0 then nVil f1 ce else f1) f2 f3 f4 f5 z9 f7 f8 f9 f10 f11 f12 f13 f20 f21 f22 f23 f24 f25) H) he4) hP
      have hD := Eq.mp (congrArg (fun z9 => va_D (va_A (wM g a f1 f2 f3 f4 f5 f6 f7 f8 f9 f10 f11 f12 f13 f20 f21 f22 f23 f24 f25) s.heap.size) (wM g a (if fVil f1 ce = 0 then nVil f1 ce else f1) f2 f3 f4 f5 z9 f7 f8 f9 f10 f11 f12 f13 f20 f21 f22 f23 f24 f25)) he4) hD
      have hP : va_P g.1 vwCl (wM g a (if fVil f1 ce = 0 then nVil f1 ce else f1) f2 f3 f4 f5 (fb (fVil f1 ce) f6) f7 f8 f9 f10 f11 f12 f13 f20 f21 f22 f23 f24 f25) H := hP
      have hD : va_D (va_A (wM g a f1 f2 f3 f4 f5 f6 f7 f8 f9 f10 f11 f12 f13 f20 f21 f22 f23 f24 f25) s.heap.size) (wM g a (if fVil f1 ce = 0 then nVil f1 ce else f1) f2 f3 f4 f5 (fb (fVil f1 ce) f6) f7 f8 f9 f10 f11 f12 f13 f20 f21 f22 f23 f24 f25) := hD
      exact W.iret hx hb hr (fun t ht hW => ⟨⟨_, (), rfl, by rw [hf, ab_0]; exact congrArg iI (by rw [up_s, up_n (by omega)]; omega), by rw [ht]; exact hP, hD⟩, hS.F ht⟩) hS.2.2 dX5_village_65
    · refine lv_aload_n hx hb dX5_village_25 rfl (lv_at hl 0 rfl) ?_
      refine xi_ldc hx hb hown hts kk_X5_90 dX5_village_26 ?_
      refine xm_i (rV (rest := []) hx hb hml hown hts hK hl (c_X5_finds l g a f1 f2 f3 f4 f5 f6 f7 f8 f9 f10 f11 f12 f13 f20 f21 f22 f23 f24 f25 (-1000000002) (s.heap).size (show 0 ≤ -1000000001 - (-1000000002) ∧ -1000000001 - (-1000000002) < 7 from by omega)) lk_X5_74 ⟨rfl, hP, hD.weaken (fun _ _ _ _ => trivial)⟩ (va_recv hK.1 hP (ci := 5) (q0 := 0) rfl rfl) rfl rfl rfl (Rm.of rfl) rfl rfl dX5_village_28) hD hS hA (fun x9 _ H locs hw hP hD hS => ?_)
      obtain rfl : x9 = iI (-1000000002) := hw
      have hP : va_P g.1 vwCl (wM g a f1 f2 f3 f4 f5 (fb (-1000000000 - (-1000000002)) f6) f7 f8 f9 f10 f11 f12 f13 f20 f21 f22 f23 f24 f25) H := hP
      have hD : va_D (va_A (wM g a f1 f2 f3 f4 f5 f6 f7 f8 f9 f10 f11 f12 f13 f20 f21 f22 f23 f24 f25) s.heap.size) (wM g a f1 f2 f3 f4 f5 (fb (-1000000000 - (-1000000002)) f6) f7 f8 f9 f10 f11 f12 f13 f20 f21 f22 f23 f24 f25) := hD
      have hf : fVil f1 ce = 2 := by unfold fVil; (repeat (first | rw [if_pos (by omega)] | rw [if_neg (by omega)])); first | done | (exfalso; omega)
      have he6 : f1 = (if fVil f1 ce = 0 then nVil f1 ce else f1) := by rw [hf]; rfl
      have hP := Eq.mp (congrArg (fun z9 => va_P g.1 vwCl (wM g a z9 f2 f3 f4 f5 (fb (-1000000000 - (-1000000002)) f6) f7 f8 f9 f10 f11 f12 f13 f20 f21 f22 f23 f24 f25) H) he6) hP
      have hD := Eq.mp (congrArg (fun z9 => va_D (va_A (wM g a f1 f2 f3 f4 f5 f6 f7 f8 f9 f10 f11 f12 f13 f20 f21 f22 f23 f24 f25) s.heap.size) (wM g a z9 f2 f3 f4 f5 (fb (-1000000000 - (-1000000002)) f6) f7 f8 f9 f10 f11 f12 f13 f20 f21 f22 f23 f24 f25)) he6) hD
      have he7 : (fb (-1000000000 - (-1000000002)) f6) = (fb (fVil f1 ce) f6) := by rw [hf]; rfl
      have hP := Eq.mp (congrArg (fun z9 => va_P g.1 vwCl (wM g a (if fVil f1 ce = 0 then nVil f1 ce else f1) f2 f3 f4 f5 z9 f7 f8 f9 f10 f11 f12 f13 f20 f21 f22 f23 f24 f25) H) he7) hP
      have hD := Eq.mp (congrArg (fun z9 => va_D (va_A (wM g a f1 f2 f3 f4 f5 f6 f7 f8 f9 f10 f11 f12 f13 f20 f21 f22 f23 f24 f25) s.heap.size) (wM g a (if fVil f1 ce = 0 then nVil f1 ce else f1) f2 f3 f4 f5 z9 f7 f8 f9 f10 f11 f12 f13 f20 f21 f22 f23 f24 f25)) he7) hD
      have hP : va_P g.1 vwCl (wM g a (if fVil f1 ce = 0 then nVil f1 ce else f1) f2 f3 f4 f5 (fb (fVil f1 ce) f6) f7 f8 f9 f10 f11 f12 f13 f20 f21 f22 f23 f24 f25) H := hP
      have hD : va_D (va_A (wM g a f1 f2 f3 f4 f5 f6 f7 f8 f9 f10 f11 f12 f13 f20 f21 f22 f23 f24 f25) s.heap.size) (wM g a (if fVil f1 ce = 0 then nVil f1 ce else f1) f2 f3 f4 f5 (fb (fVil f1 ce) f6) f7 f8 f9 f10 f11 f12 f13 f20 f21 f22 f23 f24 f25) := hD
      exact W.iret hx hb hr (fun t ht hW => ⟨⟨_, (), rfl, by rw [hf]; rfl, by rw [ht]; exact hP, hD⟩, hS.F ht⟩) hS.2.2 dX5_village_31
  · refine xi_zf_ne hx hb ⟨by decide, by decide⟩ (by decide) dX5_village_4 ⟨14, by decide⟩ ?_
    refine lv_aload_n hx hb dX5_village_7 rfl (lv_at hl 0 rfl) ?_
    refine xi_ldc hx hb hown hts kk_X5_50 dX5_village_8 ?_
    refine xm_i (rV (rest := []) hx hb hml hown hts hK hl (c_X5_finds l g a f1 f2 f3 f4 f5 f6 f7 f8 f9 f10 f11 f12 f13 f20 f21 f22 f23 f24 f25 (-1000000001) (s.heap).size (show 0 ≤ -1000000001 - (-1000000001) ∧ -1000000001 - (-1000000001) < 7 from by omega)) lk_X5_74 ⟨rfl, hP, hD.weaken (fun _ _ _ _ => trivial)⟩ (va_recv hK.1 hP (ci := 5) (q0 := 0) rfl rfl) rfl rfl rfl (Rm.of rfl) rfl rfl dX5_village_10) hD hS hA (fun x9 _ H locs hw hP hD hS => ?_)
    obtain rfl : x9 = iI (-1000000001) := hw
    have hP : va_P g.1 vwCl (wM g a f1 f2 f3 f4 f5 (fb (-1000000000 - (-1000000001)) f6) f7 f8 f9 f10 f11 f12 f13 f20 f21 f22 f23 f24 f25) H := hP
    have hD : va_D (va_A (wM g a f1 f2 f3 f4 f5 f6 f7 f8 f9 f10 f11 f12 f13 f20 f21 f22 f23 f24 f25) s.heap.size) (wM g a f1 f2 f3 f4 f5 (fb (-1000000000 - (-1000000001)) f6) f7 f8 f9 f10 f11 f12 f13 f20 f21 f22 f23 f24 f25) := hD
    have hf : fVil f1 ce = 1 := by unfold fVil; (repeat (first | rw [if_pos (by omega)] | rw [if_neg (by omega)])); first | done | (exfalso; omega)
    have he9 : f1 = (if fVil f1 ce = 0 then nVil f1 ce else f1) := by rw [hf]; rfl
    have hP := Eq.mp (congrArg (fun z9 => va_P g.1 vwCl (wM g a z9 f2 f3 f4 f5 (fb (-1000000000 - (-1000000001)) f6) f7 f8 f9 f10 f11 f12 f13 f20 f21 f22 f23 f24 f25) H) he9) hP
    have hD := Eq.mp (congrArg (fun z9 => va_D (va_A (wM g a f1 f2 f3 f4 f5 f6 f7 f8 f9 f10 f11 f12 f13 f20 f21 f22 f23 f24 f25) s.heap.size) (wM g a z9 f2 f3 f4 f5 (fb (-1000000000 - (-1000000001)) f6) f7 f8 f9 f10 f11 f12 f13 f20 f21 f22 f23 f24 f25)) he9) hD
    have he10 : (fb (-1000000000 - (-1000000001)) f6) = (fb (fVil f1 ce) f6) := by rw [hf]; rfl
    have hP := Eq.mp (congrArg (fun z9 => va_P g.1 vwCl (wM g a (if fVil f1 ce = 0 then nVil f1 ce else f1) f2 f3 f4 f5 z9 f7 f8 f9 f10 f11 f12 f13 f20 f21 f22 f23 f24 f25) H) he10) hP
    have hD := Eq.mp (congrArg (fun z9 => va_D (va_A (wM g a f1 f2 f3 f4 f5 f6 f7 f8 f9 f10 f11 f12 f13 f20 f21 f22 f23 f24 f25) s.heap.size) (wM g a (if fVil f1 ce = 0 then nVil f1 ce else f1) f2 f3 f4 f5 z9 f7 f8 f9 f10 f11 f12 f13 f20 f21 f22 f23 f24 f25)) he10) hD
    have hP : va_P g.1 vwCl (wM g a (if fVil f1 ce = 0 then nVil f1 ce else f1) f2 f3 f4 f5 (fb (fVil f1 ce) f6) f7 f8 f9 f10 f11 f12 f13 f20 f21 f22 f23 f24 f25) H := hP
    have hD : va_D (va_A (wM g a f1 f2 f3 f4 f5 f6 f7 f8 f9 f10 f11 f12 f13 f20 f21 f22 f23 f24 f25) s.heap.size) (wM g a (if fVil f1 ce = 0 then nVil f1 ce else f1) f2 f3 f4 f5 (fb (fVil f1 ce) f6) f7 f8 f9 f10 f11 f12 f13 f20 f21 f22 f23 f24 f25) := hD
    exact W.iret hx hb hr (fun t ht hW => ⟨⟨_, (), rfl, by rw [hf]; rfl, by rw [ht]; exact hP, hD⟩, hS.F ht⟩) hS.2.2 dX5_village_13
abbrev rm_X5_villageOf : Room := { frames := 4, cells := 0, slots := 0, locals := 88 }
set_option maxRecDepth 100000 in
set_option maxHeartbeats 4000000 in
theorem c_X5_villageOf (l : Launch) (g : Gd) (a : Nat → Nat) (f1 : Int → Int) (f2 : Int → Int) (f3 : Int → Int) (f4 : Int → Int) (f5 : Int → Int) (f6 : Int → Int) (f7 : Int → Int) (f8 : Int → Int) (f9 : Int → Int) (f10 : Int → Int) (f11 : Int → Int) (f12 : Int → Int) (f13 : Int → Int) (f20 : Int) (f21 : Int) (f22 : Int) (f23 : Int) (f24 : Int) (f25 : Int) (v : Int) (w : Int) (sz : Nat) (h1 : InvK 0 f1) (h2 : f1 0 ≤ 9999) (h3 : IR v) (h4 : IR w) : Met l yX5_villageOf (wsOf yX5_villageOf cX5_villageOf 3 (some .int)) rm_X5_villageOf (PX g (wP g (wM g a f1 f2 f3 f4 f5 f6 f7 f8 f9 f10 f11 f12 f13 f20 f21 f22 f23 f24 f25) sz) [.ref (a 0), .int (iI v), .int (iI w)]) (QMi g (fun _ : Unit => wM g a f1 f2 f3 f4 f5 (fb (fVOf f1 v w) f6) f7 f8 f9 f10 f11 f12 f13 f20 f21 f22 f23 f24 f25) (fun r9 _ => r9 = ab (fVOf f1 v w) (iI (aVOf f1 v w))) (va_A (wM g a f1 f2 f3 f4 f5 f6 f7 f8 f9 f10 f11 f12 f13 f20 f21 f22 f23 f24 f25) sz)) 0 0 (va_A (wM g a f1 f2 f3 f4 f5 f6 f7 f8 f9 f10 f11 f12 f13 f20 f21 f22 f23 f24 f25) sz) := by
  refine me (g := g) (by decide) rfl ?_
  intro pq eq s mq below meth cq C hnm hB ls hl
  obtain ⟨hx, hb, hr, hml, hown, hts, hlocks, hK⟩ := C
  have hown : s.vm.findClass RX5 = some mq.cls := hown
  have hl : lv_has ls 3 [(0, .ref (a 0)), (1, .int (iI v)), (2, .int (iI w))] := hl
  obtain ⟨hsz, hP, hD0⟩ := hB
  subst hsz
  have hD := hD0.self (sz := s.heap.size)
  have hA : ∀ q : Nat, s.heap.size ≤ q → va_A (wM g a f1 f2 f3 f4 f5 f6 f7 f8 f9 f10 f11 f12 f13 f20 f21 f22 f23 f24 f25) s.heap.size q := fun q h => Or.inr h
  have hS : va_S (va_A (wM g a f1 f2 f3 f4 f5 f6 f7 f8 f9 f10 f11 f12 f13 f20 f21 f22 f23 f24 f25) s.heap.size) s.heap s.heap [] := va_S.rf
  have hI := h1
  have hI8 : Inv f1 := h1.mono (by omega)
  have hn := hI.num
  have hs := hI.sea
  have hv := hI.vil
  have q1 := h3.1
  have q3 := h4.1
  have q2 := h3.2
  have q4 := h4.2
  refine lv_aload_n hx hb dX5_villageOf_0 rfl (lv_at hl 0 rfl) ?_
  refine lv_iload_n hx hb dX5_villageOf_1 rfl (lv_at hl 1 rfl) ?_
  refine xu_b (P := 0 ≤ v ∧ v ≤ f1 2 - 1) (rV (rest := []) hx hb hml hown hts hK hl (c_X5_isVillage l g a f1 f2 f3 f4 f5 f6 f7 f8 f9 f10 f11 f12 f13 f20 f21 f22 f23 f24 f25 v (show IR v from ⟨by omega, by omega⟩) (show 0 ≤ f1 2 ∧ f1 2 ≤ 6 from by omega)) lk_X5_94 hP (va_recv hK.1 hP (ci := 5) (q0 := 0) rfl rfl) rfl rfl rfl (Rm.of rfl) rfl rfl dX5_villageOf_2) (fun z1 => ?_) (fun z1 => ?_)
  · refine xi_zf_eq hx hb ⟨by decide, by decide⟩ (by decide) dX5_villageOf_5 ⟨18, by decide⟩ ?_
    refine lv_iload_n hx hb dX5_villageOf_8 rfl (lv_at hl 2 rfl) ?_
    refine xi_i2l hx hb ⟨by omega, by omega⟩ dX5_villageOf_9 ?_
    refine lv_lconst (v := lI (0)) hx hb dX5_villageOf_10 (by decide) ?_
    refine lv_lconst (v := lI (1)) hx hb dX5_villageOf_11 (by decide) ?_
    refine xu_b (P := 0 ≤ w ∧ w ≤ 1) (rS (rest := []) hx hb hml hown hts hK hl (c_X5_in l g w 0 1 (show LR w from ⟨by omega, by omega⟩) (show LR 0 from ⟨by omega, by omega⟩) (show LR 1 from ⟨by omega, by omega⟩)) lk_X5_53 trivial rfl rfl rfl (Rm.of rfl) rfl rfl dX5_villageOf_12) (fun z2 => ?_) (fun z2 => ?_)
    · refine xi_zt_ne (tgt := 25) hx hb ⟨by decide, by decide⟩ (by decide) dX5_villageOf_15 (by decide) ?_
      refine lv_iload_n hx hb dX5_villageOf_25 rfl (lv_at hl 2 rfl) ?_
      refine xi_z_ne (tgt := 41) hx hb ⟨by omega, by omega⟩ dX5_villageOf_26 (by decide) (fun z3 => ?_) (fun z3 => ?_)
      · refine lv_aload_n hx hb dX5_villageOf_41 rfl (lv_at hl 0 rfl) ?_
        refine lv_iload_n hx hb dX5_villageOf_42 rfl (lv_at hl 1 rfl) ?_
        refine xu_b (P := litP f1 v) (rV (rest := []) hx hb hml hown hts hK hl (c_X5_isLit l g a f1 f2 f3 f4 f5 f6 f7 f8 f9 f10 f11 f12 f13 f20 f21 f22 f23 f24 f25 v (show Inv f1 from hI8) (show 0 ≤ v ∧ v < f1 2 from by omega)) lk_X5_97 hP (va_recv hK.1 hP (ci := 5) (q0 := 0) rfl rfl) rfl rfl rfl (Rm.of rfl) rfl rfl dX5_villageOf_43) (fun z4 => ?_) (fun z4 => ?_)
        · refine xi_zf_eq hx hb ⟨by decide, by decide⟩ (by decide) dX5_villageOf_46 ⟨53, by decide⟩ ?_
          refine lv_iconst (v := iI (1)) hx hb dX5_villageOf_49 (by decide) ?_
          refine lv_goto (tgt := 54) hx hb dX5_villageOf_50 (by decide) ?_
          have hf : fVOf f1 v w = 0 := by unfold fVOf; (repeat (first | rw [if_pos (by omega)] | rw [if_neg (by omega)])); first | done | (exfalso; omega)
          have he5 : f6 = (fb (fVOf f1 v w) f6) := by rw [hf]; rfl
          have hP := Eq.mp (congrArg (fun z9 => va_P g.1 vwCl (wM g a f1 f2 f3 f4 f5 z9 f7 f8 f9 f10 f11 f12 f13 f20 f21 f22 f23 f24 f25) s.heap) he5) hP
          have hD := Eq.mp (congrArg (fun z9 => va_D (va_A (wM g a f1 f2 f3 f4 f5 f6 f7 f8 f9 f10 f11 f12 f13 f20 f21 f22 f23 f24 f25) s.heap.size) (wM g a f1 f2 f3 f4 f5 z9 f7 f8 f9 f10 f11 f12 f13 f20 f21 f22 f23 f24 f25)) he5) hD
          have hP : va_P g.1 vwCl (wM g a f1 f2 f3 f4 f5 (fb (fVOf f1 v w) f6) f7 f8 f9 f10 f11 f12 f13 f20 f21 f22 f23 f24 f25) s.heap := hP
          have hD : va_D (va_A (wM g a f1 f2 f3 f4 f5 f6 f7 f8 f9 f10 f11 f12 f13 f20 f21 f22 f23 f24 f25) s.heap.size) (wM g a f1 f2 f3 f4 f5 (fb (fVOf f1 v w) f6) f7 f8 f9 f10 f11 f12 f13 f20 f21 f22 f23 f24 f25) := hD
          exact W.iret hx hb hr (fun t ht hW => ⟨⟨_, (), rfl, by rw [hf, ab_0]; exact congrArg iI (by unfold aVOf; (repeat (first | rw [if_pos (by omega)] | rw [if_neg (by omega)])); first | done | (rw [bI_t (by assumption)]; done) | (rw [bI_f (by assumption)]; done)), by rw [ht]; exact hP, hD⟩, hS.F ht⟩) hS.2.2 dX5_villageOf_54
        · refine xi_zt_eq (tgt := 53) hx hb ⟨by decide, by decide⟩ (by decide) dX5_villageOf_46 (by decide) ?_
          refine lv_iconst (v := iI (0)) hx hb dX5_villageOf_53 (by decide) ?_
          have hf : fVOf f1 v w = 0 := by unfold fVOf; (repeat (first | rw [if_pos (by omega)] | rw [if_neg (by omega)])); first | done | (exfalso; omega)
          have he6 : f6 = (fb (fVOf f1 v w) f6) := by rw [hf]; rfl
          have hP := Eq.mp (congrArg (fun z9 => va_P g.1 vwCl (wM g a f1 f2 f3 f4 f5 z9 f7 f8 f9 f10 f11 f12 f13 f20 f21 f22 f23 f24 f25) s.heap) he6) hP
          have hD := Eq.mp (congrArg (fun z9 => va_D (va_A (wM g a f1 f2 f3 f4 f5 f6 f7 f8 f9 f10 f11 f12 f13 f20 f21 f22 f23 f24 f25) s.heap.size) (wM g a f1 f2 f3 f4 f5 z9 f7 f8 f9 f10 f11 f12 f13 f20 f21 f22 f23 f24 f25)) he6) hD
          have hP : va_P g.1 vwCl (wM g a f1 f2 f3 f4 f5 (fb (fVOf f1 v w) f6) f7 f8 f9 f10 f11 f12 f13 f20 f21 f22 f23 f24 f25) s.heap := hP
          have hD : va_D (va_A (wM g a f1 f2 f3 f4 f5 f6 f7 f8 f9 f10 f11 f12 f13 f20 f21 f22 f23 f24 f25) s.heap.size) (wM g a f1 f2 f3 f4 f5 (fb (fVOf f1 v w) f6) f7 f8 f9 f10 f11 f12 f13 f20 f21 f22 f23 f24 f25) := hD
          exact W.iret hx hb hr (fun t ht hW => ⟨⟨_, (), rfl, by rw [hf, ab_0]; exact congrArg iI (by unfold aVOf; (repeat (first | rw [if_pos (by omega)] | rw [if_neg (by omega)])); first | done | (rw [bI_t (by assumption)]; done) | (rw [bI_f (by assumption)]; done)), by rw [ht]; exact hP, hD⟩, hS.F ht⟩) hS.2.2 dX5_villageOf_54
      · refine lv_aload_n hx hb dX5_villageOf_29 rfl (lv_at hl 0 rfl) ?_
        refine xg_X5 hx hb hts hown hK hP 0 rfl 0 (by decide) fk_X5_7 (v := .ref (a 1)) rfl dX5_villageOf_30 ?_
        refine lv_bipush (v := iI (55)) hx hb dX5_villageOf_33 (by decide) ?_
        refine lv_iload_n hx hb dX5_villageOf_35 rfl (lv_at hl 1 rfl) ?_
        refine xi_add hx hb dX5_villageOf_36 ?_
        refine xi_ald hx hb hK hP 1 (f := f1) rfl (i := 55 + v) ⟨by omega, by omega⟩ rfl dX5_villageOf_37 ?_
        refine lv_goto (tgt := 54) hx hb dX5_villageOf_38 (by decide) ?_
        have hf : fVOf f1 v w = 0 := by unfold fVOf; (repeat (first | rw [if_pos (by omega)] | rw [if_neg (by omega)])); first | done | (exfalso; omega)
        have he7 : f6 = (fb (fVOf f1 v w) f6) := by rw [hf]; rfl
        have hP := Eq.mp (congrArg (fun z9 => va_P g.1 vwCl (wM g a f1 f2 f3 f4 f5 z9 f7 f8 f9 f10 f11 f12 f13 f20 f21 f22 f23 f24 f25) s.heap) he7) hP
        have hD := Eq.mp (congrArg (fun z9 => va_D (va_A (wM g a f1 f2 f3 f4 f5 f6 f7 f8 f9 f10 f11 f12 f13 f20 f21 f22 f23 f24 f25) s.heap.size) (wM g a f1 f2 f3 f4 f5 z9 f7 f8 f9 f10 f11 f12 f13 f20 f21 f22 f23 f24 f25)) he7) hD
        have hP : va_P g.1 vwCl (wM g a f1 f2 f3 f4 f5 (fb (fVOf f1 v w) f6) f7 f8 f9 f10 f11 f12 f13 f20 f21 f22 f23 f24 f25) s.heap := hP
        have hD : va_D (va_A (wM g a f1 f2 f3 f4 f5 f6 f7 f8 f9 f10 f11 f12 f13 f20 f21 f22 f23 f24 f25) s.heap.size) (wM g a f1 f2 f3 f4 f5 (fb (fVOf f1 v w) f6) f7 f8 f9 f10 f11 f12 f13 f20 f21 f22 f23 f24 f25) := hD
        exact W.iret hx hb hr (fun t ht hW => ⟨⟨_, (), rfl, by rw [hf, ab_0]; exact congrArg iI (by unfold aVOf; (repeat (first | rw [if_pos (by omega)] | rw [if_neg (by omega)])); first | done | (rw [bI_t (by assumption)]; done) | (rw [bI_f (by assumption)]; done)), by rw [ht]; exact hP, hD⟩, hS.F ht⟩) hS.2.2 dX5_villageOf_54
    · refine xi_zf_ne hx hb ⟨by decide, by decide⟩ (by decide) dX5_villageOf_15 ⟨25, by decide⟩ ?_
      refine lv_aload_n hx hb dX5_villageOf_18 rfl (lv_at hl 0 rfl) ?_
      refine xi_ldc hx hb hown hts kk_X5_50 dX5_villageOf_19 ?_
      refine xm_i (rV (rest := []) hx hb hml hown hts hK hl (c_X5_finds l g a f1 f2 f3 f4 f5 f6 f7 f8 f9 f10 f11 f12 f13 f20 f21 f22 f23 f24 f25 (-1000000001) (s.heap).size (show 0 ≤ -1000000001 - (-1000000001) ∧ -1000000001 - (-1000000001) < 7 from by omega)) lk_X5_74 ⟨rfl, hP, hD.weaken (fun _ _ _ _ => trivial)⟩ (va_recv hK.1 hP (ci := 5) (q0 := 0) rfl rfl) rfl rfl rfl (Rm.of rfl) rfl rfl dX5_villageOf_21) hD hS hA (fun x9 _ H locs hw hP hD hS => ?_)
      obtain rfl : x9 = iI (-1000000001) := hw
      have hP : va_P g.1 vwCl (wM g a f1 f2 f3 f4 f5 (fb (-1000000000 - (-1000000001)) f6) f7 f8 f9 f10 f11 f12 f13 f20 f21 f22 f23 f24 f25) H := hP
      have hD : va_D (va_A (wM g a f1 f2 f3 f4 f5 f6 f7 f8 f9 f10 f11 f12 f13 f20 f21 f22 f23 f24 f25) s.heap.size) (wM g a f1 f2 f3 f4 f5 (fb (-1000000000 - (-1000000001)) f6) f7 f8 f9 f10 f11 f12 f13 f20 f21 f22 f23 f24 f25) := hD
      have hf : fVOf f1 v w = 1 := by unfold fVOf; (repeat (first | rw [if_pos (by omega)] | rw [if_neg (by omega)])); first | done | (exfalso; omega)
      have he9 : (fb (-1000000000 - (-1000000001)) f6) = (fb (fVOf f1 v w) f6) := by rw [hf]; rfl
      have hP := Eq.mp (congrArg (fun z9 => va_P g.1 vwCl (wM g a f1 f2 f3 f4 f5 z9 f7 f8 f9 f10 f11 f12 f13 f20 f21 f22 f23 f24 f25) H) he9) hP
      have hD := Eq.mp (congrArg (fun z9 => va_D (va_A (wM g a f1 f2 f3 f4 f5 f6 f7 f8 f9 f10 f11 f12 f13 f20 f21 f22 f23 f24 f25) s.heap.size) (wM g a f1 f2 f3 f4 f5 z9 f7 f8 f9 f10 f11 f12 f13 f20 f21 f22 f23 f24 f25)) he9) hD
      have hP : va_P g.1 vwCl (wM g a f1 f2 f3 f4 f5 (fb (fVOf f1 v w) f6) f7 f8 f9 f10 f11 f12 f13 f20 f21 f22 f23 f24 f25) H := hP
      have hD : va_D (va_A (wM g a f1 f2 f3 f4 f5 f6 f7 f8 f9 f10 f11 f12 f13 f20 f21 f22 f23 f24 f25) s.heap.size) (wM g a f1 f2 f3 f4 f5 (fb (fVOf f1 v w) f6) f7 f8 f9 f10 f11 f12 f13 f20 f21 f22 f23 f24 f25) := hD
      exact W.iret hx hb hr (fun t ht hW => ⟨⟨_, (), rfl, by rw [hf]; rfl, by rw [ht]; exact hP, hD⟩, hS.F ht⟩) hS.2.2 dX5_villageOf_24
  · refine xi_zt_eq (tgt := 18) hx hb ⟨by decide, by decide⟩ (by decide) dX5_villageOf_5 (by decide) ?_
    refine lv_aload_n hx hb dX5_villageOf_18 rfl (lv_at hl 0 rfl) ?_
    refine xi_ldc hx hb hown hts kk_X5_50 dX5_villageOf_19 ?_
    refine xm_i (rV (rest := []) hx hb hml hown hts hK hl (c_X5_finds l g a f1 f2 f3 f4 f5 f6 f7 f8 f9 f10 f11 f12 f13 f20 f21 f22 f23 f24 f25 (-1000000001) (s.heap).size (show 0 ≤ -1000000001 - (-1000000001) ∧ -1000000001 - (-1000000001) < 7 from by omega)) lk_X5_74 ⟨rfl, hP, hD.weaken (fun _ _ _ _ => trivial)⟩ (va_recv hK.1 hP (ci := 5) (q0 := 0) rfl rfl) rfl rfl rfl (Rm.of rfl) rfl rfl dX5_villageOf_21) hD hS hA (fun x9 _ H locs hw hP hD hS => ?_)
    obtain rfl : x9 = iI (-1000000001) := hw
    have hP : va_P g.1 vwCl (wM g a f1 f2 f3 f4 f5 (fb (-1000000000 - (-1000000001)) f6) f7 f8 f9 f10 f11 f12 f13 f20 f21 f22 f23 f24 f25) H := hP
    have hD : va_D (va_A (wM g a f1 f2 f3 f4 f5 f6 f7 f8 f9 f10 f11 f12 f13 f20 f21 f22 f23 f24 f25) s.heap.size) (wM g a f1 f2 f3 f4 f5 (fb (-1000000000 - (-1000000001)) f6) f7 f8 f9 f10 f11 f12 f13 f20 f21 f22 f23 f24 f25) := hD
    have hf : fVOf f1 v w = 1 := by unfold fVOf; (repeat (first | rw [if_pos (by omega)] | rw [if_neg (by omega)])); first | done | (exfalso; omega)
    have he11 : (fb (-1000000000 - (-1000000001)) f6) = (fb (fVOf f1 v w) f6) := by rw [hf]; rfl
    have hP := Eq.mp (congrArg (fun z9 => va_P g.1 vwCl (wM g a f1 f2 f3 f4 f5 z9 f7 f8 f9 f10 f11 f12 f13 f20 f21 f22 f23 f24 f25) H) he11) hP
    have hD := Eq.mp (congrArg (fun z9 => va_D (va_A (wM g a f1 f2 f3 f4 f5 f6 f7 f8 f9 f10 f11 f12 f13 f20 f21 f22 f23 f24 f25) s.heap.size) (wM g a f1 f2 f3 f4 f5 z9 f7 f8 f9 f10 f11 f12 f13 f20 f21 f22 f23 f24 f25)) he11) hD
    have hP : va_P g.1 vwCl (wM g a f1 f2 f3 f4 f5 (fb (fVOf f1 v w) f6) f7 f8 f9 f10 f11 f12 f13 f20 f21 f22 f23 f24 f25) H := hP
    have hD : va_D (va_A (wM g a f1 f2 f3 f4 f5 f6 f7 f8 f9 f10 f11 f12 f13 f20 f21 f22 f23 f24 f25) s.heap.size) (wM g a f1 f2 f3 f4 f5 (fb (fVOf f1 v w) f6) f7 f8 f9 f10 f11 f12 f13 f20 f21 f22 f23 f24 f25) := hD
    exact W.iret hx hb hr (fun t ht hW => ⟨⟨_, (), rfl, by rw [hf]; rfl, by rw [ht]; exact hP, hD⟩, hS.F ht⟩) hS.2.2 dX5_villageOf_24
abbrev rm_X5_order : Room := { frames := 1, cells := 0, slots := 0, locals := 25 }
set_option maxRecDepth 100000 in
set_option maxHeartbeats 4000000 in
theorem c_X5_order (l : Launch) (g : Gd) (a : Nat → Nat) (f1 : Int → Int) (f2 : Int → Int) (f3 : Int → Int) (f4 : Int → Int) (f5 : Int → Int) (f6 : Int → Int) (f7 : Int → Int) (f8 : Int → Int) (f9 : Int → Int) (f10 : Int → Int) (f11 : Int → Int) (f12 : Int → Int) (f13 : Int → Int) (f20 : Int) (f21 : Int) (f22 : Int) (f23 : Int) (f24 : Int) (f25 : Int) (w : Int) (v : Int) (sz : Nat) (h1 : InvK 0 f1) (h2 : f1 0 ≤ 9999) (h3 : IR w) (h4 : IR v) : Met l yX5_order (wsOf yX5_order cX5_order 3 (some .int)) rm_X5_order (PX g (wP g (wM g a f1 f2 f3 f4 f5 f6 f7 f8 f9 f10 f11 f12 f13 f20 f21 f22 f23 f24 f25) sz) [.ref (a 0), .int (iI w), .int (iI v)]) (QMi g (fun _ : Unit => wM g a (if fOrd w v = 0 then up f1 (3 + w) v else f1) f2 f3 f4 f5 (fb (fOrd w v) f6) f7 f8 f9 f10 f11 f12 f13 f20 f21 f22 f23 f24 f25) (fun r9 _ => r9 = ab (fOrd w v) (iI (f1 (3 + w)))) (va_A (wM g a f1 f2 f3 f4 f5 f6 f7 f8 f9 f10 f11 f12 f13 f20 f21 f22 f23 f24 f25) sz)) 0 0 (va_A (wM g a f1 f2 f3 f4 f5 f6 f7 f8 f9 f10 f11 f12 f13 f20 f21 f22 f23 f24 f25) sz) := by
  refine me (g := g) (by decide) rfl ?_
  intro pq eq s mq below meth cq C hnm hB ls hl
  obtain ⟨hx, hb, hr, hml, hown, hts, hlocks, hK⟩ := C
  have hown : s.vm.findClass RX5 = some mq.cls := hown
  have hl : lv_has ls 3 [(0, .ref (a 0)), (1, .int (iI w)), (2, .int (iI v))] := hl
  obtain ⟨hsz, hP, hD0⟩ := hB
  subst hsz
  have hD := hD0.self (sz := s.heap.size)
  have hA : ∀ q : Nat, s.heap.size ≤ q → va_A (wM g a f1 f2 f3 f4 f5 f6 f7 f8 f9 f10 f11 f12 f13 f20 f21 f22 f23 f24 f25) s.heap.size q := fun q h => Or.inr h
  have hS : va_S (va_A (wM g a f1 f2 f3 f4 f5 f6 f7 f8 f9 f10 f11 f12 f13 f20 f21 f22 f23 f24 f25) s.heap.size) s.heap s.heap [] := va_S.rf
  have hI := h1
  have hI8 : Inv f1 := h1.mono (by omega)
  have hn := hI.num
  have hs := hI.sea
  have hv := hI.vil
  have q1 := h3.1
  have q3 := h4.1
  have q2 := h3.2
  have q4 := h4.2
  refine lv_iload_n hx hb dX5_order_0 rfl (lv_at hl 1 rfl) ?_
  refine xi_i2l hx hb ⟨by omega, by omega⟩ dX5_order_1 ?_
  refine lv_lconst (v := lI (0)) hx hb dX5_order_2 (by decide) ?_
  refine xl_ldc hx hb hown hts kk_X5_82 dX5_order_3 ?_
  refine xu_b (P := 0 ≤ w ∧ w ≤ 3) (rS (rest := []) hx hb hml hown hts hK hl (c_X5_in l g w 0 3 (show LR w from ⟨by omega, by omega⟩) (show LR 0 from ⟨by omega, by omega⟩) (show LR 3 from ⟨by omega, by omega⟩)) lk_X5_53 trivial rfl rfl rfl (Rm.of rfl) rfl rfl dX5_order_6) (fun z1 => ?_) (fun z1 => ?_)
  · refine xi_zf_eq hx hb ⟨by decide, by decide⟩ (by decide) dX5_order_9 ⟨37, by decide⟩ ?_
    refine lv_iload_n hx hb dX5_order_12 rfl (lv_at hl 2 rfl) ?_
    refine xi_i2l hx hb ⟨by omega, by omega⟩ dX5_order_13 ?_
    refine xl_ldc hx hb hown hts kk_X5_100 dX5_order_14 ?_
    refine xl_ldc hx hb hown hts kk_X5_72 dX5_order_17 ?_
    refine xu_b (P := (-9) ≤ v ∧ v ≤ 9) (rS (rest := []) hx hb hml hown hts hK hl (c_X5_in l g v (-9) 9 (show LR v from ⟨by omega, by omega⟩) (show LR (-9) from ⟨by omega, by omega⟩) (show LR 9 from ⟨by omega, by omega⟩)) lk_X5_53 trivial rfl rfl rfl (Rm.of rfl) rfl rfl dX5_order_20) (fun z2 => ?_) (fun z2 => ?_)
    · refine xi_zf_eq hx hb ⟨by decide, by decide⟩ (by decide) dX5_order_23 ⟨37, by decide⟩ ?_
      refine lv_aload_n hx hb dX5_order_26 rfl (lv_at hl 0 rfl) ?_
      refine lv_iconst (v := iI (3)) hx hb dX5_order_27 (by decide) ?_
      refine lv_iload_n hx hb dX5_order_28 rfl (lv_at hl 1 rfl) ?_
      refine xi_add hx hb dX5_order_29 ?_
      refine lv_iload_n hx hb dX5_order_30 rfl (lv_at hl 2 rfl) ?_
      refine xm_i (rV (rest := []) hx hb hml hown hts hK hl (c_X5_becomes l g a f1 f2 f3 f4 f5 f6 f7 f8 f9 f10 f11 f12 f13 f20 f21 f22 f23 f24 f25 (3 + w) v (s.heap).size (show 0 ≤ (3 + w) ∧ (3 + w) < 101 from by omega)) lk_X5_102 ⟨rfl, hP, hD.weaken (fun _ _ _ _ => trivial)⟩ (va_recv hK.1 hP (ci := 5) (q0 := 0) rfl rfl) rfl rfl rfl (Rm.of rfl) rfl rfl dX5_order_31) hD hS hA (fun x9 _ H locs hw hP hD hS => ?_)
      obtain rfl : x9 = iI (f1 (3 + w)) := hw
      have hP : va_P g.1 vwCl (wM g a (up f1 (3 + w) v) f2 f3 f4 f5 f6 f7 f8 f9 f10 f11 f12 f13 f20 f21 f22 f23 f24 f25) H := hP
      have hD : va_D (va_A (wM g a f1 f2 f3 f4 f5 f6 f7 f8 f9 f10 f11 f12 f13 f20 f21 f22 f23 f24 f25) s.heap.size) (wM g a (up f1 (3 + w) v) f2 f3 f4 f5 f6 f7 f8 f9 f10 f11 f12 f13 f20 f21 f22 f23 f24 f25) := hD
      refine lv_goto (tgt := 43) hx hb dX5_order_34 (by decide) ?_
      have hf : fOrd w v = 0 := by unfold fOrd; (repeat (first | rw [if_pos (by omega)] | rw [if_neg (by omega)])); first | done | (exfalso; omega)
      have he4 : (up f1 (3 + w) v) = (if fOrd w v = 0 then up f1 (3 + w) v else f1) := by rw [hf]; rfl
      have hP := Eq.mp (congrArg (fun z9 => va_P g.1 vwCl (wM g a z9 f2 f3 f4 f5 f6 f7 f8 f9 f10 f11 f12 f13 f20 f21 f22 f23 f24 f25) H) he4) hP
      have hD := Eq.mp (congrArg (fun z9 => va_D (va_A (wM g a f1 f2 f3 f4 f5 f6 f7 f8 f9 f10 f11 f12 f13 f20 f21 f22 f23 f24 f25) s.heap.size) (wM g a z9 f2 f3 f4 f5 f6 f7 f8 f9 f10 f11 f12 f13 f20 f21 f22 f23 f24 f25)) he4) hD
      have he5 : f6 = (fb (fOrd w v) f6) := by rw [hf]; rfl
      have hP := Eq.mp (congrArg (fun z9 => va_P g.1 vwCl (wM g a (if fOrd w v = 0 then up f1 (3 + w) v else f1) f2 f3 f4 f5 z9 f7 f8 f9 f10 f11 f12 f13 f20 f21 f22 f23 f24 f25) H) he5) hP
      have hD := Eq.mp (congrArg (fun z9 => va_D (va_A (wM g a f1 f2 f3 f4 f5 f6 f7 f8 f9 f10 f11 f12 f13 f20 f21 f22 f23 f24 f25) s.heap.size) (wM g a (if fOrd w v = 0 then up f1 (3 + w) v else f1) f2 f3 f4 f5 z9 f7 f8 f9 f10 f11 f12 f13 f20 f21 f22 f23 f24 f25)) he5) hD
      have hP : va_P g.1 vwCl (wM g a (if fOrd w v = 0 then up f1 (3 + w) v else f1) f2 f3 f4 f5 (fb (fOrd w v) f6) f7 f8 f9 f10 f11 f12 f13 f20 f21 f22 f23 f24 f25) H := hP
      have hD : va_D (va_A (wM g a f1 f2 f3 f4 f5 f6 f7 f8 f9 f10 f11 f12 f13 f20 f21 f22 f23 f24 f25) s.heap.size) (wM g a (if fOrd w v = 0 then up f1 (3 + w) v else f1) f2 f3 f4 f5 (fb (fOrd w v) f6) f7 f8 f9 f10 f11 f12 f13 f20 f21 f22 f23 f24 f25) := hD
      exact W.iret hx hb hr (fun t ht hW => ⟨⟨_, (), rfl, by rw [hf, ab_0]; (try (repeat (first | rw [if_pos (by omega)] | rw [if_neg (by omega)]))); first | done | rfl | exact congrArg iI (by omega) | exact congrArg iI (by simp only [up]; (repeat (first | rw [if_pos (by omega)] | rw [if_neg (by omega)])); first | done | omega), by rw [ht]; exact hP, hD⟩, hS.F ht⟩) hS.2.2 dX5_order_43
    · refine xi_zt_eq (tgt := 37) hx hb ⟨by decide, by decide⟩ (by decide) dX5_order_23 (by decide) ?_
      refine lv_aload_n hx hb dX5_order_37 rfl (lv_at hl 0 rfl) ?_
      refine xi_ldc hx hb hown hts kk_X5_50 dX5_order_38 ?_
      refine xm_i (rV (rest := []) hx hb hml hown hts hK hl (c_X5_finds l g a f1 f2 f3 f4 f5 f6 f7 f8 f9 f10 f11 f12 f13 f20 f21 f22 f23 f24 f25 (-1000000001) (s.heap).size (show 0 ≤ -1000000001 - (-1000000001) ∧ -1000000001 - (-1000000001) < 7 from by omega)) lk_X5_74 ⟨rfl, hP, hD.weaken (fun _ _ _ _ => trivial)⟩ (va_recv hK.1 hP (ci := 5) (q0 := 0) rfl rfl) rfl rfl rfl (Rm.of rfl) rfl rfl dX5_order_40) hD hS hA (fun x9 _ H locs hw hP hD hS => ?_)
      obtain rfl : x9 = iI (-1000000001) := hw
      have hP : va_P g.1 vwCl (wM g a f1 f2 f3 f4 f5 (fb (-1000000000 - (-1000000001)) f6) f7 f8 f9 f10 f11 f12 f13 f20 f21 f22 f23 f24 f25) H := hP
      have hD : va_D (va_A (wM g a f1 f2 f3 f4 f5 f6 f7 f8 f9 f10 f11 f12 f13 f20 f21 f22 f23 f24 f25) s.heap.size) (wM g a f1 f2 f3 f4 f5 (fb (-1000000000 - (-1000000001)) f6) f7 f8 f9 f10 f11 f12 f13 f20 f21 f22 f23 f24 f25) := hD
      have hf : fOrd w v = 1 := by unfold fOrd; (repeat (first | rw [if_pos (by omega)] | rw [if_neg (by omega)])); first | done | (exfalso; omega)
      have he7 : f1 = (if fOrd w v = 0 then up f1 (3 + w) v else f1) := by rw [hf]; rfl
      have hP := Eq.mp (congrArg (fun z9 => va_P g.1 vwCl (wM g a z9 f2 f3 f4 f5 (fb (-1000000000 - (-1000000001)) f6) f7 f8 f9 f10 f11 f12 f13 f20 f21 f22 f23 f24 f25) H) he7) hP
      have hD := Eq.mp (congrArg (fun z9 => va_D (va_A (wM g a f1 f2 f3 f4 f5 f6 f7 f8 f9 f10 f11 f12 f13 f20 f21 f22 f23 f24 f25) s.heap.size) (wM g a z9 f2 f3 f4 f5 (fb (-1000000000 - (-1000000001)) f6) f7 f8 f9 f10 f11 f12 f13 f20 f21 f22 f23 f24 f25)) he7) hD
      have he8 : (fb (-1000000000 - (-1000000001)) f6) = (fb (fOrd w v) f6) := by rw [hf]; rfl
      have hP := Eq.mp (congrArg (fun z9 => va_P g.1 vwCl (wM g a (if fOrd w v = 0 then up f1 (3 + w) v else f1) f2 f3 f4 f5 z9 f7 f8 f9 f10 f11 f12 f13 f20 f21 f22 f23 f24 f25) H) he8) hP
      have hD := Eq.mp (congrArg (fun z9 => va_D (va_A (wM g a f1 f2 f3 f4 f5 f6 f7 f8 f9 f10 f11 f12 f13 f20 f21 f22 f23 f24 f25) s.heap.size) (wM g a (if fOrd w v = 0 then up f1 (3 + w) v else f1) f2 f3 f4 f5 z9 f7 f8 f9 f10 f11 f12 f13 f20 f21 f22 f23 f24 f25)) he8) hD
      have hP : va_P g.1 vwCl (wM g a (if fOrd w v = 0 then up f1 (3 + w) v else f1) f2 f3 f4 f5 (fb (fOrd w v) f6) f7 f8 f9 f10 f11 f12 f13 f20 f21 f22 f23 f24 f25) H := hP
      have hD : va_D (va_A (wM g a f1 f2 f3 f4 f5 f6 f7 f8 f9 f10 f11 f12 f13 f20 f21 f22 f23 f24 f25) s.heap.size) (wM g a (if fOrd w v = 0 then up f1 (3 + w) v else f1) f2 f3 f4 f5 (fb (fOrd w v) f6) f7 f8 f9 f10 f11 f12 f13 f20 f21 f22 f23 f24 f25) := hD
      exact W.iret hx hb hr (fun t ht hW => ⟨⟨_, (), rfl, by rw [hf]; rfl, by rw [ht]; exact hP, hD⟩, hS.F ht⟩) hS.2.2 dX5_order_43
  · refine xi_zt_eq (tgt := 37) hx hb ⟨by decide, by decide⟩ (by decide) dX5_order_9 (by decide) ?_
    refine lv_aload_n hx hb dX5_order_37 rfl (lv_at hl 0 rfl) ?_
    refine xi_ldc hx hb hown hts kk_X5_50 dX5_order_38 ?_
    refine xm_i (rV (rest := []) hx hb hml hown hts hK hl (c_X5_finds l g a f1 f2 f3 f4 f5 f6 f7 f8 f9 f10 f11 f12 f13 f20 f21 f22 f23 f24 f25 (-1000000001) (s.heap).size (show 0 ≤ -1000000001 - (-1000000001) ∧ -1000000001 - (-1000000001) < 7 from by omega)) lk_X5_74 ⟨rfl, hP, hD.weaken (fun _ _ _ _ => trivial)⟩ (va_recv hK.1 hP (ci := 5) (q0 := 0) rfl rfl) rfl rfl rfl (Rm.of rfl) rfl rfl dX5_order_40) hD hS hA (fun x9 _ H locs hw hP hD hS => ?_)
    obtain rfl : x9 = iI (-1000000001) := hw
    have hP : va_P g.1 vwCl (wM g a f1 f2 f3 f4 f5 (fb (-1000000000 - (-1000000001)) f6) f7 f8 f9 f10 f11 f12 f13 f20 f21 f22 f23 f24 f25) H := hP
    have hD : va_D (va_A (wM g a f1 f2 f3 f4 f5 f6 f7 f8 f9 f10 f11 f12 f13 f20 f21 f22 f23 f24 f25) s.heap.size) (wM g a f1 f2 f3 f4 f5 (fb (-1000000000 - (-1000000001)) f6) f7 f8 f9 f10 f11 f12 f13 f20 f21 f22 f23 f24 f25) := hD
    have hf : fOrd w v = 1 := by unfold fOrd; (repeat (first | rw [if_pos (by omega)] | rw [if_neg (by omega)])); first | done | (exfalso; omega)
    have he10 : f1 = (if fOrd w v = 0 then up f1 (3 + w) v else f1) := by rw [hf]; rfl
    have hP := Eq.mp (congrArg (fun z9 => va_P g.1 vwCl (wM g a z9 f2 f3 f4 f5 (fb (-1000000000 - (-1000000001)) f6) f7 f8 f9 f10 f11 f12 f13 f20 f21 f22 f23 f24 f25) H) he10) hP
    have hD := Eq.mp (congrArg (fun z9 => va_D (va_A (wM g a f1 f2 f3 f4 f5 f6 f7 f8 f9 f10 f11 f12 f13 f20 f21 f22 f23 f24 f25) s.heap.size) (wM g a z9 f2 f3 f4 f5 (fb (-1000000000 - (-1000000001)) f6) f7 f8 f9 f10 f11 f12 f13 f20 f21 f22 f23 f24 f25)) he10) hD
    have he11 : (fb (-1000000000 - (-1000000001)) f6) = (fb (fOrd w v) f6) := by rw [hf]; rfl
    have hP := Eq.mp (congrArg (fun z9 => va_P g.1 vwCl (wM g a (if fOrd w v = 0 then up f1 (3 + w) v else f1) f2 f3 f4 f5 z9 f7 f8 f9 f10 f11 f12 f13 f20 f21 f22 f23 f24 f25) H) he11) hP
    have hD := Eq.mp (congrArg (fun z9 => va_D (va_A (wM g a f1 f2 f3 f4 f5 f6 f7 f8 f9 f10 f11 f12 f13 f20 f21 f22 f23 f24 f25) s.heap.size) (wM g a (if fOrd w v = 0 then up f1 (3 + w) v else f1) f2 f3 f4 f5 z9 f7 f8 f9 f10 f11 f12 f13 f20 f21 f22 f23 f24 f25)) he11) hD
    have hP : va_P g.1 vwCl (wM g a (if fOrd w v = 0 then up f1 (3 + w) v else f1) f2 f3 f4 f5 (fb (fOrd w v) f6) f7 f8 f9 f10 f11 f12 f13 f20 f21 f22 f23 f24 f25) H := hP
    have hD : va_D (va_A (wM g a f1 f2 f3 f4 f5 f6 f7 f8 f9 f10 f11 f12 f13 f20 f21 f22 f23 f24 f25) s.heap.size) (wM g a (if fOrd w v = 0 then up f1 (3 + w) v else f1) f2 f3 f4 f5 (fb (fOrd w v) f6) f7 f8 f9 f10 f11 f12 f13 f20 f21 f22 f23 f24 f25) := hD
    exact W.iret hx hb hr (fun t ht hW => ⟨⟨_, (), rfl, by rw [hf]; rfl, by rw [ht]; exact hP, hD⟩, hS.F ht⟩) hS.2.2 dX5_order_43
abbrev rm_X5_range : Room := { frames := 3, cells := 0, slots := 0, locals := 66 }
set_option maxRecDepth 100000 in
set_option maxHeartbeats 4000000 in
theorem c_X5_range (l : Launch) (g : Gd) (a : Nat → Nat) (f1 : Int → Int) (f2 : Int → Int) (f3 : Int → Int) (f4 : Int → Int) (f5 : Int → Int) (f6 : Int → Int) (f7 : Int → Int) (f8 : Int → Int) (f9 : Int → Int) (f10 : Int → Int) (f11 : Int → Int) (f12 : Int → Int) (f13 : Int → Int) (f20 : Int) (f21 : Int) (f22 : Int) (f23 : Int) (f24 : Int) (f25 : Int) (k : Int) (ce : Int) (sz : Nat) (h1 : InvK 0 f1) (h2 : f1 0 ≤ 9999) (h3 : IR k) (h4 : IR ce) : Met l yX5_range (wsOf yX5_range cX5_range 3 (some .int)) rm_X5_range (PX g (wP g (wM g a f1 f2 f3 f4 f5 f6 f7 f8 f9 f10 f11 f12 f13 f20 f21 f22 f23 f24 f25) sz) [.ref (a 0), .int (iI k), .int (iI ce)]) (QMi g (fun _ : Unit => wM g a (if fRan f1 k ce = 0 then addR f1 k ce 0 else f1) f2 f3 f4 f5 (fb (fRan f1 k ce) f6) f7 f8 f9 f10 f11 f12 f13 f20 f21 f22 f23 f24 f25) (fun r9 _ => r9 = ab (fRan f1 k ce) (iI (f1 1))) (va_A (wM g a f1 f2 f3 f4 f5 f6 f7 f8 f9 f10 f11 f12 f13 f20 f21 f22 f23 f24 f25) sz)) 0 0 (va_A (wM g a f1 f2 f3 f4 f5 f6 f7 f8 f9 f10 f11 f12 f13 f20 f21 f22 f23 f24 f25) sz) := by
  refine me (g := g) (by decide) rfl ?_
  intro pq eq s mq below meth cq C hnm hB ls hl
  obtain ⟨hx, hb, hr, hml, hown, hts, hlocks, hK⟩ := C
  have hown : s.vm.findClass RX5 = some mq.cls := hown
  have hl : lv_has ls 3 [(0, .ref (a 0)), (1, .int (iI k)), (2, .int (iI ce))] := hl
  obtain ⟨hsz, hP, hD0⟩ := hB
  subst hsz
  have hD := hD0.self (sz := s.heap.size)
  have hA : ∀ q : Nat, s.heap.size ≤ q → va_A (wM g a f1 f2 f3 f4 f5 f6 f7 f8 f9 f10 f11 f12 f13 f20 f21 f22 f23 f24 f25) s.heap.size q := fun q h => Or.inr h
  have hS : va_S (va_A (wM g a f1 f2 f3 f4 f5 f6 f7 f8 f9 f10 f11 f12 f13 f20 f21 f22 f23 f24 f25) s.heap.size) s.heap s.heap [] := va_S.rf
  have hI := h1
  have hI8 : Inv f1 := h1.mono (by omega)
  have hn := hI.num
  have hs := hI.sea
  have hv := hI.vil
  have q1 := h3.1
  have q3 := h4.1
  have q2 := h3.2
  have q4 := h4.2
  have hw := who_b (s := f1) ce hn
  refine lv_iload_n hx hb dX5_range_0 rfl (lv_at hl 1 rfl) ?_
  refine xu_b (P := 0 ≤ k ∧ k ≤ 5) (rS (rest := []) hx hb hml hown hts hK hl (c_X5_isKind l g k (show IR k from ⟨by omega, by omega⟩)) lk_X5_120 trivial rfl rfl rfl (Rm.of rfl) rfl rfl dX5_range_1) (fun z1 => ?_) (fun z1 => ?_)
  · refine xi_zf_eq hx hb ⟨by decide, by decide⟩ (by decide) dX5_range_4 ⟨14, by decide⟩ ?_
    refine lv_iload_n hx hb dX5_range_7 rfl (lv_at hl 2 rfl) ?_
    refine xu_b (P := 0 ≤ ce ∧ ce ≤ 23) (rS (rest := []) hx hb hml hown hts hK hl (c_X5_isCell l g ce (show IR ce from ⟨by omega, by omega⟩)) lk_X5_66 trivial rfl rfl rfl (Rm.of rfl) rfl rfl dX5_range_8) (fun z2 => ?_) (fun z2 => ?_)
    · refine xi_zt_ne (tgt := 21) hx hb ⟨by decide, by decide⟩ (by decide) dX5_range_11 (by decide) ?_
      refine lv_aload_n hx hb dX5_range_21 rfl (lv_at hl 0 rfl) ?_
      refine lv_iload_n hx hb dX5_range_22 rfl (lv_at hl 2 rfl) ?_
      refine xu_i (x := iI (who f1 ce)) (rV (rest := []) hx hb hml hown hts hK hl (c_X5_isIn l g a f1 f2 f3 f4 f5 f6 f7 f8 f9 f10 f11 f12 f13 f20 f21 f22 f23 f24 f25 ce (show Inv f1 from hI8) (show IR ce from ⟨by omega, by omega⟩)) lk_X5_87 hP (va_recv hK.1 hP (ci := 5) (q0 := 0) rfl rfl) rfl rfl rfl (Rm.of rfl) rfl rfl dX5_range_23) ?_
      refine xi_z_lt (tgt := 36) hx hb ⟨by omega, by omega⟩ dX5_range_26 (by decide) (fun z4 => ?_) (fun z4 => ?_)
      · refine lv_aload_n hx hb dX5_range_36 rfl (lv_at hl 0 rfl) ?_
        refine xg_X5 hx hb hts hown hK hP 0 rfl 0 (by decide) fk_X5_7 (v := .ref (a 1)) rfl dX5_range_37 ?_
        refine lv_iconst (v := iI (1)) hx hb dX5_range_40 (by decide) ?_
        refine xi_ald hx hb hK hP 1 (f := f1) rfl (i := 1) ⟨by omega, by omega⟩ rfl dX5_range_41 ?_
        refine lv_bipush (v := iI (8)) hx hb dX5_range_42 (by decide) ?_
        refine xi_c_ne (tgt := 56) hx hb ⟨by omega, by omega⟩ ⟨by decide, by decide⟩ dX5_range_44 (by decide) (fun z5 => ?_) (fun z5 => ?_)
        · refine lv_aload_n hx hb dX5_range_56 rfl (lv_at hl 0 rfl) ?_
          refine lv_iload_n hx hb dX5_range_57 rfl (lv_at hl 1 rfl) ?_
          refine lv_iload_n hx hb dX5_range_58 rfl (lv_at hl 2 rfl) ?_
          refine xm_i (rV (rest := []) hx hb hml hown hts hK hl (c_X5_adds l g a f1 f2 f3 f4 f5 f6 f7 f8 f9 f10 f11 f12 f13 f20 f21 f22 f23 f24 f25 k ce (s.heap).size (show 0 ≤ f1 1 ∧ f1 1 < 8 from by omega)) lk_X5_124 ⟨rfl, hP, hD.weaken (fun _ _ _ _ => trivial)⟩ (va_recv hK.1 hP (ci := 5) (q0 := 0) rfl rfl) rfl rfl rfl (Rm.of rfl) rfl rfl dX5_range_59) hD hS hA (fun x9 _ H locs hw hP hD hS => ?_)
          obtain rfl : x9 = iI (f1 1) := hw
          have hP : va_P g.1 vwCl (wM g a (addR f1 k ce 0) f2 f3 f4 f5 f6 f7 f8 f9 f10 f11 f12 f13 f20 f21 f22 f23 f24 f25) H := hP
          have hD : va_D (va_A (wM g a f1 f2 f3 f4 f5 f6 f7 f8 f9 f10 f11 f12 f13 f20 f21 f22 f23 f24 f25) s.heap.size) (wM g a (addR f1 k ce 0) f2 f3 f4 f5 f6 f7 f8 f9 f10 f11 f12 f13 f20 f21 f22 f23 f24 f25) := hD
          have hf : fRan f1 k ce = 0 := by unfold fRan; (repeat (first | rw [if_pos (by omega)] | rw [if_neg (by omega)])); first | done | (exfalso; omega)
          have he7 : (addR f1 k ce 0) = (if fRan f1 k ce = 0 then addR f1 k ce 0 else f1) := by rw [hf]; rfl
          have hP := Eq.mp (congrArg (fun z9 => va_P g.1 vwCl (wM g a z9 f2 f3 f4 f5 f6 f7 f8 f9 f10 f11 f12 f13 f20 f21 f22 f23 f24 f25) H) he7) hP
          have hD := Eq.mp (congrArg (fun z9 => va_D (va_A (wM g a f1 f2 f3 f4 f5 f6 f7 f8 f9 f10 f11 f12 f13 f20 f21 f22 f23 f24 f25) s.heap.size) (wM g a z9 f2 f3 f4 f5 f6 f7 f8 f9 f10 f11 f12 f13 f20 f21 f22 f23 f24 f25)) he7) hD
          have he8 : f6 = (fb (fRan f1 k ce) f6) := by rw [hf]; rfl
          have hP := Eq.mp (congrArg (fun z9 => va_P g.1 vwCl (wM g a (if fRan f1 k ce = 0 then addR f1 k ce 0 else f1) f2 f3 f4 f5 z9 f7 f8 f9 f10 f11 f12 f13 f20 f21 f22 f23 f24 f25) H) he8) hP
          have hD := Eq.mp (congrArg (fun z9 => va_D (va_A (wM g a f1 f2 f3 f4 f5 f6 f7 f8 f9 f10 f11 f12 f13 f20 f21 f22 f23 f24 f25) s.heap.size) (wM g a (if fRan f1 k ce = 0 then addR f1 k ce 0 else f1) f2 f3 f4 f5 z9 f7 f8 f9 f10 f11 f12 f13 f20 f21 f22 f23 f24 f25)) he8) hD
          have hP : va_P g.1 vwCl (wM g a (if fRan f1 k ce = 0 then addR f1 k ce 0 else f1) f2 f3 f4 f5 (fb (fRan f1 k ce) f6) f7 f8 f9 f10 f11 f12 f13 f20 f21 f22 f23 f24 f25) H := hP
          have hD : va_D (va_A (wM g a f1 f2 f3 f4 f5 f6 f7 f8 f9 f10 f11 f12 f13 f20 f21 f22 f23 f24 f25) s.heap.size) (wM g a (if fRan f1 k ce = 0 then addR f1 k ce 0 else f1) f2 f3 f4 f5 (fb (fRan f1 k ce) f6) f7 f8 f9 f10 f11 f12 f13 f20 f21 f22 f23 f24 f25) := hD
          exact W.iret hx hb hr (fun t ht hW => ⟨⟨_, (), rfl, by rw [hf, ab_0]; (try (repeat (first | rw [if_pos (by omega)] | rw [if_neg (by omega)]))); first | done | rfl | exact congrArg iI (by omega) | exact congrArg iI (by simp only [up]; (repeat (first | rw [if_pos (by omega)] | rw [if_neg (by omega)])); first | done | omega), by rw [ht]; exact hP, hD⟩, hS.F ht⟩) hS.2.2 dX5_range_62
        · refine lv_aload_n hx hb dX5_range_47 rfl (lv_at hl 0 rfl) ?_
          refine xi_ldc hx hb hown hts kk_X5_90 dX5_range_48 ?_
          refine xm_i (rV (rest := []) hx hb hml hown hts hK hl (c_X5_finds l g a f1 f2 f3 f4 f5 f6 f7 f8 f9 f10 f11 f12 f13 f20 f21 f22 f23 f24 f25 (-1000000002) (s.heap).size (show 0 ≤ -1000000001 - (-1000000002) ∧ -1000000001 - (-1000000002) < 7 from by omega)) lk_X5_74 ⟨rfl, hP, hD.weaken (fun _ _ _ _ => trivial)⟩ (va_recv hK.1 hP (ci := 5) (q0 := 0) rfl rfl) rfl rfl rfl (Rm.of rfl) rfl rfl dX5_range_50) hD hS hA (fun x9 _ H locs hw hP hD hS => ?_)
          obtain rfl : x9 = iI (-1000000002) := hw
          have hP : va_P g.1 vwCl (wM g a f1 f2 f3 f4 f5 (fb (-1000000000 - (-1000000002)) f6) f7 f8 f9 f10 f11 f12 f13 f20 f21 f22 f23 f24 f25) H := hP
          have hD : va_D (va_A (wM g a f1 f2 f3 f4 f5 f6 f7 f8 f9 f10 f11 f12 f13 f20 f21 f22 f23 f24 f25) s.heap.size) (wM g a f1 f2 f3 f4 f5 (fb (-1000000000 - (-1000000002)) f6) f7 f8 f9 f10 f11 f12 f13 f20 f21 f22 f23 f24 f25) := hD
          refine lv_goto (tgt := 62) hx hb dX5_range_53 (by decide) ?_
          have hf : fRan f1 k ce = 2 := by unfold fRan; (repeat (first | rw [if_pos (by omega)] | rw [if_neg (by omega)])); first | done | (exfalso; omega)
          have he10 : f1 = (if fRan f1 k ce = 0 then addR f1 k ce 0 else f1) := by rw [hf]; rfl
          have hP := Eq.mp (congrArg (fun z9 => va_P g.1 vwCl (wM g a z9 f2 f3 f4 f5 (fb (-1000000000 - (-1000000002)) f6) f7 f8 f9 f10 f11 f12 f13 f20 f21 f22 f23 f24 f25) H) he10) hP
          have hD := Eq.mp (congrArg (fun z9 => va_D (va_A (wM g a f1 f2 f3 f4 f5 f6 f7 f8 f9 f10 f11 f12 f13 f20 f21 f22 f23 f24 f25) s.heap.size) (wM g a z9 f2 f3 f4 f5 (fb (-1000000000 - (-1000000002)) f6) f7 f8 f9 f10 f11 f12 f13 f20 f21 f22 f23 f24 f25)) he10) hD
          have he11 : (fb (-1000000000 - (-1000000002)) f6) = (fb (fRan f1 k ce) f6) := by rw [hf]; rfl
          have hP := Eq.mp (congrArg (fun z9 => va_P g.1 vwCl (wM g a (if fRan f1 k ce = 0 then addR f1 k ce 0 else f1) f2 f3 f4 f5 z9 f7 f8 f9 f10 f11 f12 f13 f20 f21 f22 f23 f24 f25) H) he11) hP
          have hD := Eq.mp (congrArg (fun z9 => va_D (va_A (wM g a f1 f2 f3 f4 f5 f6 f7 f8 f9 f10 f11 f12 f13 f20 f21 f22 f23 f24 f25) s.heap.size) (wM g a (if fRan f1 k ce = 0 then addR f1 k ce 0 else f1) f2 f3 f4 f5 z9 f7 f8 f9 f10 f11 f12 f13 f20 f21 f22 f23 f24 f25)) he11) hD
          have hP : va_P g.1 vwCl (wM g a (if fRan f1 k ce = 0 then addR f1 k ce 0 else f1) f2 f3 f4 f5 (fb (fRan f1 k ce) f6) f7 f8 f9 f10 f11 f12 f13 f20 f21 f22 f23 f24 f25) H := hP
          have hD : va_D (va_A (wM g a f1 f2 f3 f4 f5 f6 f7 f8 f9 f10 f11 f12 f13 f20 f21 f22 f23 f24 f25) s.heap.size) (wM g a (if fRan f1 k ce = 0 then addR f1 k ce 0 else f1) f2 f3 f4 f5 (fb (fRan f1 k ce) f6) f7 f8 f9 f10 f11 f12 f13 f20 f21 f22 f23 f24 f25) := hD
          exact W.iret hx hb hr (fun t ht hW => ⟨⟨_, (), rfl, by rw [hf]; rfl, by rw [ht]; exact hP, hD⟩, hS.F ht⟩) hS.2.2 dX5_range_62
      · refine lv_aload_n hx hb dX5_range_29 rfl (lv_at hl 0 rfl) ?_
        refine xi_ldc hx hb hown hts kk_X5_123 dX5_range_30 ?_
        refine xm_i (rV (rest := []) hx hb hml hown hts hK hl (c_X5_finds l g a f1 f2 f3 f4 f5 f6 f7 f8 f9 f10 f11 f12 f13 f20 f21 f22 f23 f24 f25 (-1000000005) (s.heap).size (show 0 ≤ -1000000001 - (-1000000005) ∧ -1000000001 - (-1000000005) < 7 from by omega)) lk_X5_74 ⟨rfl, hP, hD.weaken (fun _ _ _ _ => trivial)⟩ (va_recv hK.1 hP (ci := 5) (q0 := 0) rfl rfl) rfl rfl rfl (Rm.of rfl) rfl rfl dX5_range_32) hD hS hA (fun x9 _ H locs hw hP hD hS => ?_)
        obtain rfl : x9 = iI (-1000000005) := hw
        have hP : va_P g.1 vwCl (wM g a f1 f2 f3 f4 f5 (fb (-1000000000 - (-1000000005)) f6) f7 f8 f9 f10 f11 f12 f13 f20 f21 f22 f23 f24 f25) H := hP
        have hD : va_D (va_A (wM g a f1 f2 f3 f4 f5 f6 f7 f8 f9 f10 f11 f12 f13 f20 f21 f22 f23 f24 f25) s.heap.size) (wM g a f1 f2 f3 f4 f5 (fb (-1000000000 - (-1000000005)) f6) f7 f8 f9 f10 f11 f12 f13 f20 f21 f22 f23 f24 f25) := hD
        have hf : fRan f1 k ce = 5 := by unfold fRan; (repeat (first | rw [if_pos (by omega)] | rw [if_neg (by omega)])); first | done | (exfalso; omega)
        have he13 : f1 = (if fRan f1 k ce = 0 then addR f1 k ce 0 else f1) := by rw [hf]; rfl
        have hP := Eq.mp (congrArg (fun z9 => va_P g.1 vwCl (wM g a z9 f2 f3 f4 f5 (fb (-1000000000 - (-1000000005)) f6) f7 f8 f9 f10 f11 f12 f13 f20 f21 f22 f23 f24 f25) H) he13) hP
        have hD := Eq.mp (congrArg (fun z9 => va_D (va_A (wM g a f1 f2 f3 f4 f5 f6 f7 f8 f9 f10 f11 f12 f13 f20 f21 f22 f23 f24 f25) s.heap.size) (wM g a z9 f2 f3 f4 f5 (fb (-1000000000 - (-1000000005)) f6) f7 f8 f9 f10 f11 f12 f13 f20 f21 f22 f23 f24 f25)) he13) hD
        have he14 : (fb (-1000000000 - (-1000000005)) f6) = (fb (fRan f1 k ce) f6) := by rw [hf]; rfl
        have hP := Eq.mp (congrArg (fun z9 => va_P g.1 vwCl (wM g a (if fRan f1 k ce = 0 then addR f1 k ce 0 else f1) f2 f3 f4 f5 z9 f7 f8 f9 f10 f11 f12 f13 f20 f21 f22 f23 f24 f25) H) he14) hP
        have hD := Eq.mp (congrArg (fun z9 => va_D (va_A (wM g a f1 f2 f3 f4 f5 f6 f7 f8 f9 f10 f11 f12 f13 f20 f21 f22 f23 f24 f25) s.heap.size) (wM g a (if fRan f1 k ce = 0 then addR f1 k ce 0 else f1) f2 f3 f4 f5 z9 f7 f8 f9 f10 f11 f12 f13 f20 f21 f22 f23 f24 f25)) he14) hD
        have hP : va_P g.1 vwCl (wM g a (if fRan f1 k ce = 0 then addR f1 k ce 0 else f1) f2 f3 f4 f5 (fb (fRan f1 k ce) f6) f7 f8 f9 f10 f11 f12 f13 f20 f21 f22 f23 f24 f25) H := hP
        have hD : va_D (va_A (wM g a f1 f2 f3 f4 f5 f6 f7 f8 f9 f10 f11 f12 f13 f20 f21 f22 f23 f24 f25) s.heap.size) (wM g a (if fRan f1 k ce = 0 then addR f1 k ce 0 else f1) f2 f3 f4 f5 (fb (fRan f1 k ce) f6) f7 f8 f9 f10 f11 f12 f13 f20 f21 f22 f23 f24 f25) := hD
        exact W.iret hx hb hr (fun t ht hW => ⟨⟨_, (), rfl, by rw [hf]; rfl, by rw [ht]; exact hP, hD⟩, hS.F ht⟩) hS.2.2 dX5_range_35
    · refine xi_zf_ne hx hb ⟨by decide, by decide⟩ (by decide) dX5_range_11 ⟨21, by decide⟩ ?_
      refine lv_aload_n hx hb dX5_range_14 rfl (lv_at hl 0 rfl) ?_
      refine xi_ldc hx hb hown hts kk_X5_50 dX5_range_15 ?_
      refine xm_i (rV (rest := []) hx hb hml hown hts hK hl (c_X5_finds l g a f1 f2 f3 f4 f5 f6 f7 f8 f9 f10 f11 f12 f13 f20 f21 f22 f23 f24 f25 (-1000000001) (s.heap).size (show 0 ≤ -1000000001 - (-1000000001) ∧ -1000000001 - (-1000000001) < 7 from by omega)) lk_X5_74 ⟨rfl, hP, hD.weaken (fun _ _ _ _ => trivial)⟩ (va_recv hK.1 hP (ci := 5) (q0 := 0) rfl rfl) rfl rfl rfl (Rm.of rfl) rfl rfl dX5_range_17) hD hS hA (fun x9 _ H locs hw hP hD hS => ?_)
      obtain rfl : x9 = iI (-1000000001) := hw
      have hP : va_P g.1 vwCl (wM g a f1 f2 f3 f4 f5 (fb (-1000000000 - (-1000000001)) f6) f7 f8 f9 f10 f11 f12 f13 f20 f21 f22 f23 f24 f25) H := hP
      have hD : va_D (va_A (wM g a f1 f2 f3 f4 f5 f6 f7 f8 f9 f10 f11 f12 f13 f20 f21 f22 f23 f24 f25) s.heap.size) (wM g a f1 f2 f3 f4 f5 (fb (-1000000000 - (-1000000001)) f6) f7 f8 f9 f10 f11 f12 f13 f20 f21 f22 f23 f24 f25) := hD
      have hf : fRan f1 k ce = 1 := by unfold fRan; (repeat (first | rw [if_pos (by omega)] | rw [if_neg (by omega)])); first | done | (exfalso; omega)
      have he16 : f1 = (if fRan f1 k ce = 0 then addR f1 k ce 0 else f1) := by rw [hf]; rfl
      have hP := Eq.mp (congrArg (fun z9 => va_P g.1 vwCl (wM g a z9 f2 f3 f4 f5 (fb (-1000000000 - (-1000000001)) f6) f7 f8 f9 f10 f11 f12 f13 f20 f21 f22 f23 f24 f25) H) he16) hP
      have hD := Eq.mp (congrArg (fun z9 => va_D (va_A (wM g a f1 f2 f3 f4 f5 f6 f7 f8 f9 f10 f11 f12 f13 f20 f21 f22 f23 f24 f25) s.heap.size) (wM g a z9 f2 f3 f4 f5 (fb (-1000000000 - (-1000000001)) f6) f7 f8 f9 f10 f11 f12 f13 f20 f21 f22 f23 f24 f25)) he16) hD
      have he17 : (fb (-1000000000 - (-1000000001)) f6) = (fb (fRan f1 k ce) f6) := by rw [hf]; rfl
      have hP := Eq.mp (congrArg (fun z9 => va_P g.1 vwCl (wM g a (if fRan f1 k ce = 0 then addR f1 k ce 0 else f1) f2 f3 f4 f5 z9 f7 f8 f9 f10 f11 f12 f13 f20 f21 f22 f23 f24 f25) H) he17) hP
      have hD := Eq.mp (congrArg (fun z9 => va_D (va_A (wM g a f1 f2 f3 f4 f5 f6 f7 f8 f9 f10 f11 f12 f13 f20 f21 f22 f23 f24 f25) s.heap.size) (wM g a (if fRan f1 k ce = 0 then addR f1 k ce 0 else f1) f2 f3 f4 f5 z9 f7 f8 f9 f10 f11 f12 f13 f20 f21 f22 f23 f24 f25)) he17) hD
      have hP : va_P g.1 vwCl (wM g a (if fRan f1 k ce = 0 then addR f1 k ce 0 else f1) f2 f3 f4 f5 (fb (fRan f1 k ce) f6) f7 f8 f9 f10 f11 f12 f13 f20 f21 f22 f23 f24 f25) H := hP
      have hD : va_D (va_A (wM g a f1 f2 f3 f4 f5 f6 f7 f8 f9 f10 f11 f12 f13 f20 f21 f22 f23 f24 f25) s.heap.size) (wM g a (if fRan f1 k ce = 0 then addR f1 k ce 0 else f1) f2 f3 f4 f5 (fb (fRan f1 k ce) f6) f7 f8 f9 f10 f11 f12 f13 f20 f21 f22 f23 f24 f25) := hD
      exact W.iret hx hb hr (fun t ht hW => ⟨⟨_, (), rfl, by rw [hf]; rfl, by rw [ht]; exact hP, hD⟩, hS.F ht⟩) hS.2.2 dX5_range_20
  · refine xi_zt_eq (tgt := 14) hx hb ⟨by decide, by decide⟩ (by decide) dX5_range_4 (by decide) ?_
    refine lv_aload_n hx hb dX5_range_14 rfl (lv_at hl 0 rfl) ?_
    refine xi_ldc hx hb hown hts kk_X5_50 dX5_range_15 ?_
    refine xm_i (rV (rest := []) hx hb hml hown hts hK hl (c_X5_finds l g a f1 f2 f3 f4 f5 f6 f7 f8 f9 f10 f11 f12 f13 f20 f21 f22 f23 f24 f25 (-1000000001) (s.heap).size (show 0 ≤ -1000000001 - (-1000000001) ∧ -1000000001 - (-1000000001) < 7 from by omega)) lk_X5_74 ⟨rfl, hP, hD.weaken (fun _ _ _ _ => trivial)⟩ (va_recv hK.1 hP (ci := 5) (q0 := 0) rfl rfl) rfl rfl rfl (Rm.of rfl) rfl rfl dX5_range_17) hD hS hA (fun x9 _ H locs hw hP hD hS => ?_)
    obtain rfl : x9 = iI (-1000000001) := hw
    have hP : va_P g.1 vwCl (wM g a f1 f2 f3 f4 f5 (fb (-1000000000 - (-1000000001)) f6) f7 f8 f9 f10 f11 f12 f13 f20 f21 f22 f23 f24 f25) H := hP
    have hD : va_D (va_A (wM g a f1 f2 f3 f4 f5 f6 f7 f8 f9 f10 f11 f12 f13 f20 f21 f22 f23 f24 f25) s.heap.size) (wM g a f1 f2 f3 f4 f5 (fb (-1000000000 - (-1000000001)) f6) f7 f8 f9 f10 f11 f12 f13 f20 f21 f22 f23 f24 f25) := hD
    have hf : fRan f1 k ce = 1 := by unfold fRan; (repeat (first | rw [if_pos (by omega)] | rw [if_neg (by omega)])); first | done | (exfalso; omega)
    have he19 : f1 = (if fRan f1 k ce = 0 then addR f1 k ce 0 else f1) := by rw [hf]; rfl
    have hP := Eq.mp (congrArg (fun z9 => va_P g.1 vwCl (wM g a z9 f2 f3 f4 f5 (fb (-1000000000 - (-1000000001)) f6) f7 f8 f9 f10 f11 f12 f13 f20 f21 f22 f23 f24 f25) H) he19) hP
    have hD := Eq.mp (congrArg (fun z9 => va_D (va_A (wM g a f1 f2 f3 f4 f5 f6 f7 f8 f9 f10 f11 f12 f13 f20 f21 f22 f23 f24 f25) s.heap.size) (wM g a z9 f2 f3 f4 f5 (fb (-1000000000 - (-1000000001)) f6) f7 f8 f9 f10 f11 f12 f13 f20 f21 f22 f23 f24 f25)) he19) hD
    have he20 : (fb (-1000000000 - (-1000000001)) f6) = (fb (fRan f1 k ce) f6) := by rw [hf]; rfl
    have hP := Eq.mp (congrArg (fun z9 => va_P g.1 vwCl (wM g a (if fRan f1 k ce = 0 then addR f1 k ce 0 else f1) f2 f3 f4 f5 z9 f7 f8 f9 f10 f11 f12 f13 f20 f21 f22 f23 f24 f25) H) he20) hP
    have hD := Eq.mp (congrArg (fun z9 => va_D (va_A (wM g a f1 f2 f3 f4 f5 f6 f7 f8 f9 f10 f11 f12 f13 f20 f21 f22 f23 f24 f25) s.heap.size) (wM g a (if fRan f1 k ce = 0 then addR f1 k ce 0 else f1) f2 f3 f4 f5 z9 f7 f8 f9 f10 f11 f12 f13 f20 f21 f22 f23 f24 f25)) he20) hD
    have hP : va_P g.1 vwCl (wM g a (if fRan f1 k ce = 0 then addR f1 k ce 0 else f1) f2 f3 f4 f5 (fb (fRan f1 k ce) f6) f7 f8 f9 f10 f11 f12 f13 f20 f21 f22 f23 f24 f25) H := hP
    have hD : va_D (va_A (wM g a f1 f2 f3 f4 f5 f6 f7 f8 f9 f10 f11 f12 f13 f20 f21 f22 f23 f24 f25) s.heap.size) (wM g a (if fRan f1 k ce = 0 then addR f1 k ce 0 else f1) f2 f3 f4 f5 (fb (fRan f1 k ce) f6) f7 f8 f9 f10 f11 f12 f13 f20 f21 f22 f23 f24 f25) := hD
    exact W.iret hx hb hr (fun t ht hW => ⟨⟨_, (), rfl, by rw [hf]; rfl, by rw [ht]; exact hP, hD⟩, hS.F ht⟩) hS.2.2 dX5_range_20
abbrev rm_X5_of : Room := { frames := 5, cells := 0, slots := 0, locals := 109 }
set_option maxRecDepth 100000 in
set_option maxHeartbeats 4000000 in
theorem c_X5_of (l : Launch) (g : Gd) (a : Nat → Nat) (f1 : Int → Int) (f2 : Int → Int) (f3 : Int → Int) (f4 : Int → Int) (f5 : Int → Int) (f6 : Int → Int) (f7 : Int → Int) (f8 : Int → Int) (f9 : Int → Int) (f10 : Int → Int) (f11 : Int → Int) (f12 : Int → Int) (f13 : Int → Int) (f20 : Int) (f21 : Int) (f22 : Int) (f23 : Int) (f24 : Int) (f25 : Int) (r : Int) (w : Int) (sz : Nat) (h1 : InvK 0 f1) (h2 : f1 0 ≤ 9999) (h3 : IR r) (h4 : IR w) : Met l yX5_of (wsOf yX5_of cX5_of 3 (some .int)) rm_X5_of (PX g (wP g (wM g a f1 f2 f3 f4 f5 f6 f7 f8 f9 f10 f11 f12 f13 f20 f21 f22 f23 f24 f25) sz) [.ref (a 0), .int (iI r), .int (iI w)]) (QMi g (fun _ : Unit => wM g a f1 f2 f3 f4 f5 (fb (fOf f1 r w) f6) f7 f8 f9 f10 f11 f12 f13 f20 f21 f22 f23 f24 f25) (fun r9 _ => r9 = ab (fOf f1 r w) (iI (aOf f1 r w))) (va_A (wM g a f1 f2 f3 f4 f5 f6 f7 f8 f9 f10 f11 f12 f13 f20 f21 f22 f23 f24 f25) sz)) 0 0 (va_A (wM g a f1 f2 f3 f4 f5 f6 f7 f8 f9 f10 f11 f12 f13 f20 f21 f22 f23 f24 f25) sz) := by
  refine me (g := g) (by decide) rfl ?_
  intro pq eq s mq below meth cq C hnm hB ls hl
  obtain ⟨hx, hb, hr, hml, hown, hts, hlocks, hK⟩ := C
  have hown : s.vm.findClass RX5 = some mq.cls := hown
  have hl : lv_has ls 3 [(0, .ref (a 0)), (1, .int (iI r)), (2, .int (iI w))] := hl
  obtain ⟨hsz, hP, hD0⟩ := hB
  subst hsz
  have hD := hD0.self (sz := s.heap.size)
  have hA : ∀ q : Nat, s.heap.size ≤ q → va_A (wM g a f1 f2 f3 f4 f5 f6 f7 f8 f9 f10 f11 f12 f13 f20 f21 f22 f23 f24 f25) s.heap.size q := fun q h => Or.inr h
  have hS : va_S (va_A (wM g a f1 f2 f3 f4 f5 f6 f7 f8 f9 f10 f11 f12 f13 f20 f21 f22 f23 f24 f25) s.heap.size) s.heap s.heap [] := va_S.rf
  have hI := h1
  have hI8 : Inv f1 := h1.mono (by omega)
  have hn := hI.num
  have hs := hI.sea
  have hv := hI.vil
  have q1 := h3.1
  have q3 := h4.1
  have q2 := h3.2
  have q4 := h4.2
  refine lv_aload_n hx hb dX5_of_0 rfl (lv_at hl 0 rfl) ?_
  refine lv_iload_n hx hb dX5_of_1 rfl (lv_at hl 1 rfl) ?_
  refine xu_b (P := 0 ≤ r ∧ r ≤ f1 1 - 1) (rV (rest := []) hx hb hml hown hts hK hl (c_X5_isRange l g a f1 f2 f3 f4 f5 f6 f7 f8 f9 f10 f11 f12 f13 f20 f21 f22 f23 f24 f25 r (show IR r from ⟨by omega, by omega⟩) (show 0 ≤ f1 1 ∧ f1 1 ≤ 8 from by omega)) lk_X5_127 hP (va_recv hK.1 hP (ci := 5) (q0 := 0) rfl rfl) rfl rfl rfl (Rm.of rfl) rfl rfl dX5_of_2) (fun z1 => ?_) (fun z1 => ?_)
  · refine xi_zf_eq hx hb ⟨by decide, by decide⟩ (by decide) dX5_of_5 ⟨20, by decide⟩ ?_
    refine lv_iload_n hx hb dX5_of_8 rfl (lv_at hl 2 rfl) ?_
    refine xi_i2l hx hb ⟨by omega, by omega⟩ dX5_of_9 ?_
    refine lv_lconst (v := lI (0)) hx hb dX5_of_10 (by decide) ?_
    refine xl_ldc hx hb hown hts kk_X5_130 dX5_of_11 ?_
    refine xu_b (P := 0 ≤ w ∧ w ≤ 7) (rS (rest := []) hx hb hml hown hts hK hl (c_X5_in l g w 0 7 (show LR w from ⟨by omega, by omega⟩) (show LR 0 from ⟨by omega, by omega⟩) (show LR 7 from ⟨by omega, by omega⟩)) lk_X5_53 trivial rfl rfl rfl (Rm.of rfl) rfl rfl dX5_of_14) (fun z2 => ?_) (fun z2 => ?_)
    · refine xi_zt_ne (tgt := 27) hx hb ⟨by decide, by decide⟩ (by decide) dX5_of_17 (by decide) ?_
      refine lv_iload_n hx hb dX5_of_27 rfl (lv_at hl 2 rfl) ?_
      refine lv_iconst (v := iI (5)) hx hb dX5_of_28 (by decide) ?_
      refine xi_c_ge (tgt := 41) hx hb ⟨by omega, by omega⟩ ⟨by decide, by decide⟩ dX5_of_29 (by decide) (fun z3 => ?_) (fun z3 => ?_)
      · refine lv_iload_n hx hb dX5_of_41 rfl (lv_at hl 2 rfl) ?_
        refine lv_iconst (v := iI (5)) hx hb dX5_of_42 (by decide) ?_
        refine xi_c_ne (tgt := 54) hx hb ⟨by omega, by omega⟩ ⟨by decide, by decide⟩ dX5_of_43 (by decide) (fun z4 => ?_) (fun z4 => ?_)
        · refine lv_iload_n hx hb dX5_of_54 rfl (lv_at hl 2 rfl) ?_
          refine lv_bipush (v := iI (6)) hx hb dX5_of_55 (by decide) ?_
          refine xi_c_ne (tgt := 68) hx hb ⟨by omega, by omega⟩ ⟨by decide, by decide⟩ dX5_of_57 (by decide) (fun z5 => ?_) (fun z5 => ?_)
          · refine lv_aload_n hx hb dX5_of_68 rfl (lv_at hl 0 rfl) ?_
            refine lv_iload_n hx hb dX5_of_69 rfl (lv_at hl 1 rfl) ?_
            refine xu_i (x := iI (raT f1 r (f1 1).toNat)) (rV (rest := []) hx hb hml hown hts hK hl (c_X5_rightAhead l g a f1 f2 f3 f4 f5 f6 f7 f8 f9 f10 f11 f12 f13 f20 f21 f22 f23 f24 f25 r (show Inv f1 from hI8) (show 0 ≤ r ∧ r < f1 1 from by omega)) lk_X5_135 hP (va_recv hK.1 hP (ci := 5) (q0 := 0) rfl rfl) rfl rfl rfl (Rm.of rfl) rfl rfl dX5_of_70) ?_
            have hf : fOf f1 r w = 0 := by unfold fOf; (repeat (first | rw [if_pos (by omega)] | rw [if_neg (by omega)])); first | done | (exfalso; omega)
            have he7 : f6 = (fb (fOf f1 r w) f6) := by rw [hf]; rfl
            have hP := Eq.mp (congrArg (fun z9 => va_P g.1 vwCl (wM g a f1 f2 f3 f4 f5 z9 f7 f8 f9 f10 f11 f12 f13 f20 f21 f22 f23 f24 f25) s.heap) he7) hP
            have hD := Eq.mp (congrArg (fun z9 => va_D (va_A (wM g a f1 f2 f3 f4 f5 f6 f7 f8 f9 f10 f11 f12 f13 f20 f21 f22 f23 f24 f25) s.heap.size) (wM g a f1 f2 f3 f4 f5 z9 f7 f8 f9 f10 f11 f12 f13 f20 f21 f22 f23 f24 f25)) he7) hD
            have hP : va_P g.1 vwCl (wM g a f1 f2 f3 f4 f5 (fb (fOf f1 r w) f6) f7 f8 f9 f10 f11 f12 f13 f20 f21 f22 f23 f24 f25) s.heap := hP
            have hD : va_D (va_A (wM g a f1 f2 f3 f4 f5 f6 f7 f8 f9 f10 f11 f12 f13 f20 f21 f22 f23 f24 f25) s.heap.size) (wM g a f1 f2 f3 f4 f5 (fb (fOf f1 r w) f6) f7 f8 f9 f10 f11 f12 f13 f20 f21 f22 f23 f24 f25) := hD
            exact W.iret hx hb hr (fun t ht hW => ⟨⟨_, (), rfl, by rw [hf, ab_0]; exact congrArg iI (by unfold aOf; (repeat (first | rw [if_pos (by omega)] | rw [if_neg (by omega)]))), by rw [ht]; exact hP, hD⟩, hS.F ht⟩) hS.2.2 dX5_of_73
          · refine lv_aload_n hx hb dX5_of_60 rfl (lv_at hl 0 rfl) ?_
            refine lv_iload_n hx hb dX5_of_61 rfl (lv_at hl 1 rfl) ?_
            refine xu_i (x := iI (val f1 r)) (rV (rest := []) hx hb hml hown hts hK hl (c_X5_valueOf l g a f1 f2 f3 f4 f5 f6 f7 f8 f9 f10 f11 f12 f13 f20 f21 f22 f23 f24 f25 r (show 0 ≤ r ∧ r < 8 from by omega)) lk_X5_113 hP (va_recv hK.1 hP (ci := 5) (q0 := 0) rfl rfl) rfl rfl rfl (Rm.of rfl) rfl rfl dX5_of_62) ?_
            refine lv_goto (tgt := 73) hx hb dX5_of_65 (by decide) ?_
            have hf : fOf f1 r w = 0 := by unfold fOf; (repeat (first | rw [if_pos (by omega)] | rw [if_neg (by omega)])); first | done | (exfalso; omega)
            have he9 : f6 = (fb (fOf f1 r w) f6) := by rw [hf]; rfl
            have hP := Eq.mp (congrArg (fun z9 => va_P g.1 vwCl (wM g a f1 f2 f3 f4 f5 z9 f7 f8 f9 f10 f11 f12 f13 f20 f21 f22 f23 f24 f25) s.heap) he9) hP
            have hD := Eq.mp (congrArg (fun z9 => va_D (va_A (wM g a f1 f2 f3 f4 f5 f6 f7 f8 f9 f10 f11 f12 f13 f20 f21 f22 f23 f24 f25) s.heap.size) (wM g a f1 f2 f3 f4 f5 z9 f7 f8 f9 f10 f11 f12 f13 f20 f21 f22 f23 f24 f25)) he9) hD
            have hP : va_P g.1 vwCl (wM g a f1 f2 f3 f4 f5 (fb (fOf f1 r w) f6) f7 f8 f9 f10 f11 f12 f13 f20 f21 f22 f23 f24 f25) s.heap := hP
            have hD : va_D (va_A (wM g a f1 f2 f3 f4 f5 f6 f7 f8 f9 f10 f11 f12 f13 f20 f21 f22 f23 f24 f25) s.heap.size) (wM g a f1 f2 f3 f4 f5 (fb (fOf f1 r w) f6) f7 f8 f9 f10 f11 f12 f13 f20 f21 f22 f23 f24 f25) := hD
            exact W.iret hx hb hr (fun t ht hW => ⟨⟨_, (), rfl, by rw [hf, ab_0]; exact congrArg iI (by unfold aOf; (repeat (first | rw [if_pos (by omega)] | rw [if_neg (by omega)]))), by rw [ht]; exact hP, hD⟩, hS.F ht⟩) hS.2.2 dX5_of_73
        · refine lv_aload_n hx hb dX5_of_46 rfl (lv_at hl 0 rfl) ?_
          refine lv_iload_n hx hb dX5_of_47 rfl (lv_at hl 1 rfl) ?_
          refine xu_i (x := iI (stride f1 r)) (rV (rest := []) hx hb hml hown hts hK hl (c_X5_strideOf l g a f1 f2 f3 f4 f5 f6 f7 f8 f9 f10 f11 f12 f13 f20 f21 f22 f23 f24 f25 r (show Inv f1 from hI8) (show 0 ≤ r ∧ r < f1 1 from by omega)) lk_X5_132 hP (va_recv hK.1 hP (ci := 5) (q0 := 0) rfl rfl) rfl rfl rfl (Rm.of rfl) rfl rfl dX5_of_48) ?_
          refine lv_goto (tgt := 73) hx hb dX5_of_51 (by decide) ?_
          have hf : fOf f1 r w = 0 := by unfold fOf; (repeat (first | rw [if_pos (by omega)] | rw [if_neg (by omega)])); first | done | (exfalso; omega)
          have he11 : f6 = (fb (fOf f1 r w) f6) := by rw [hf]; rfl
          have hP := Eq.mp (congrArg (fun z9 => va_P g.1 vwCl (wM g a f1 f2 f3 f4 f5 z9 f7 f8 f9 f10 f11 f12 f13 f20 f21 f22 f23 f24 f25) s.heap) he11) hP
          have hD := Eq.mp (congrArg (fun z9 => va_D (va_A (wM g a f1 f2 f3 f4 f5 f6 f7 f8 f9 f10 f11 f12 f13 f20 f21 f22 f23 f24 f25) s.heap.size) (wM g a f1 f2 f3 f4 f5 z9 f7 f8 f9 f10 f11 f12 f13 f20 f21 f22 f23 f24 f25)) he11) hD
          have hP : va_P g.1 vwCl (wM g a f1 f2 f3 f4 f5 (fb (fOf f1 r w) f6) f7 f8 f9 f10 f11 f12 f13 f20 f21 f22 f23 f24 f25) s.heap := hP
          have hD : va_D (va_A (wM g a f1 f2 f3 f4 f5 f6 f7 f8 f9 f10 f11 f12 f13 f20 f21 f22 f23 f24 f25) s.heap.size) (wM g a f1 f2 f3 f4 f5 (fb (fOf f1 r w) f6) f7 f8 f9 f10 f11 f12 f13 f20 f21 f22 f23 f24 f25) := hD
          exact W.iret hx hb hr (fun t ht hW => ⟨⟨_, (), rfl, by rw [hf, ab_0]; exact congrArg iI (by unfold aOf; (repeat (first | rw [if_pos (by omega)] | rw [if_neg (by omega)]))), by rw [ht]; exact hP, hD⟩, hS.F ht⟩) hS.2.2 dX5_of_73
      · refine lv_aload_n hx hb dX5_of_32 rfl (lv_at hl 0 rfl) ?_
        refine lv_iload_n hx hb dX5_of_33 rfl (lv_at hl 1 rfl) ?_
        refine lv_iload_n hx hb dX5_of_34 rfl (lv_at hl 2 rfl) ?_
        refine xu_i (x := iI (f1 (61 + 5 * r + w))) (rV (rest := []) hx hb hml hown hts hK hl (c_X5_its l g a f1 f2 f3 f4 f5 f6 f7 f8 f9 f10 f11 f12 f13 f20 f21 f22 f23 f24 f25 r w (show 0 ≤ 61 + 5 * r + w ∧ 61 + 5 * r + w < 101 from by omega)) lk_X5_63 hP (va_recv hK.1 hP (ci := 5) (q0 := 0) rfl rfl) rfl rfl rfl (Rm.of rfl) rfl rfl dX5_of_35) ?_
        refine lv_goto (tgt := 73) hx hb dX5_of_38 (by decide) ?_
        have hf : fOf f1 r w = 0 := by unfold fOf; (repeat (first | rw [if_pos (by omega)] | rw [if_neg (by omega)])); first | done | (exfalso; omega)
        have he13 : f6 = (fb (fOf f1 r w) f6) := by rw [hf]; rfl
        have hP := Eq.mp (congrArg (fun z9 => va_P g.1 vwCl (wM g a f1 f2 f3 f4 f5 z9 f7 f8 f9 f10 f11 f12 f13 f20 f21 f22 f23 f24 f25) s.heap) he13) hP
        have hD := Eq.mp (congrArg (fun z9 => va_D (va_A (wM g a f1 f2 f3 f4 f5 f6 f7 f8 f9 f10 f11 f12 f13 f20 f21 f22 f23 f24 f25) s.heap.size) (wM g a f1 f2 f3 f4 f5 z9 f7 f8 f9 f10 f11 f12 f13 f20 f21 f22 f23 f24 f25)) he13) hD
        have hP : va_P g.1 vwCl (wM g a f1 f2 f3 f4 f5 (fb (fOf f1 r w) f6) f7 f8 f9 f10 f11 f12 f13 f20 f21 f22 f23 f24 f25) s.heap := hP
        have hD : va_D (va_A (wM g a f1 f2 f3 f4 f5 f6 f7 f8 f9 f10 f11 f12 f13 f20 f21 f22 f23 f24 f25) s.heap.size) (wM g a f1 f2 f3 f4 f5 (fb (fOf f1 r w) f6) f7 f8 f9 f10 f11 f12 f13 f20 f21 f22 f23 f24 f25) := hD
        exact W.iret hx hb hr (fun t ht hW => ⟨⟨_, (), rfl, by rw [hf, ab_0]; exact congrArg iI (by unfold aOf; (repeat (first | rw [if_pos (by omega)] | rw [if_neg (by omega)]))), by rw [ht]; exact hP, hD⟩, hS.F ht⟩) hS.2.2 dX5_of_73
    · refine xi_zf_ne hx hb ⟨by decide, by decide⟩ (by decide) dX5_of_17 ⟨27, by decide⟩ ?_
      refine lv_aload_n hx hb dX5_of_20 rfl (lv_at hl 0 rfl) ?_
      refine xi_ldc hx hb hown hts kk_X5_50 dX5_of_21 ?_
      refine xm_i (rV (rest := []) hx hb hml hown hts hK hl (c_X5_finds l g a f1 f2 f3 f4 f5 f6 f7 f8 f9 f10 f11 f12 f13 f20 f21 f22 f23 f24 f25 (-1000000001) (s.heap).size (show 0 ≤ -1000000001 - (-1000000001) ∧ -1000000001 - (-1000000001) < 7 from by omega)) lk_X5_74 ⟨rfl, hP, hD.weaken (fun _ _ _ _ => trivial)⟩ (va_recv hK.1 hP (ci := 5) (q0 := 0) rfl rfl) rfl rfl rfl (Rm.of rfl) rfl rfl dX5_of_23) hD hS hA (fun x9 _ H locs hw hP hD hS => ?_)
      obtain rfl : x9 = iI (-1000000001) := hw
      have hP : va_P g.1 vwCl (wM g a f1 f2 f3 f4 f5 (fb (-1000000000 - (-1000000001)) f6) f7 f8 f9 f10 f11 f12 f13 f20 f21 f22 f23 f24 f25) H := hP
      have hD : va_D (va_A (wM g a f1 f2 f3 f4 f5 f6 f7 f8 f9 f10 f11 f12 f13 f20 f21 f22 f23 f24 f25) s.heap.size) (wM g a f1 f2 f3 f4 f5 (fb (-1000000000 - (-1000000001)) f6) f7 f8 f9 f10 f11 f12 f13 f20 f21 f22 f23 f24 f25) := hD
      have hf : fOf f1 r w = 1 := by unfold fOf; (repeat (first | rw [if_pos (by omega)] | rw [if_neg (by omega)])); first | done | (exfalso; omega)
      have he15 : (fb (-1000000000 - (-1000000001)) f6) = (fb (fOf f1 r w) f6) := by rw [hf]; rfl
      have hP := Eq.mp (congrArg (fun z9 => va_P g.1 vwCl (wM g a f1 f2 f3 f4 f5 z9 f7 f8 f9 f10 f11 f12 f13 f20 f21 f22 f23 f24 f25) H) he15) hP
      have hD := Eq.mp (congrArg (fun z9 => va_D (va_A (wM g a f1 f2 f3 f4 f5 f6 f7 f8 f9 f10 f11 f12 f13 f20 f21 f22 f23 f24 f25) s.heap.size) (wM g a f1 f2 f3 f4 f5 z9 f7 f8 f9 f10 f11 f12 f13 f20 f21 f22 f23 f24 f25)) he15) hD
      have hP : va_P g.1 vwCl (wM g a f1 f2 f3 f4 f5 (fb (fOf f1 r w) f6) f7 f8 f9 f10 f11 f12 f13 f20 f21 f22 f23 f24 f25) H := hP
      have hD : va_D (va_A (wM g a f1 f2 f3 f4 f5 f6 f7 f8 f9 f10 f11 f12 f13 f20 f21 f22 f23 f24 f25) s.heap.size) (wM g a f1 f2 f3 f4 f5 (fb (fOf f1 r w) f6) f7 f8 f9 f10 f11 f12 f13 f20 f21 f22 f23 f24 f25) := hD
      exact W.iret hx hb hr (fun t ht hW => ⟨⟨_, (), rfl, by rw [hf]; rfl, by rw [ht]; exact hP, hD⟩, hS.F ht⟩) hS.2.2 dX5_of_26
  · refine xi_zt_eq (tgt := 20) hx hb ⟨by decide, by decide⟩ (by decide) dX5_of_5 (by decide) ?_
    refine lv_aload_n hx hb dX5_of_20 rfl (lv_at hl 0 rfl) ?_
    refine xi_ldc hx hb hown hts kk_X5_50 dX5_of_21 ?_
    refine xm_i (rV (rest := []) hx hb hml hown hts hK hl (c_X5_finds l g a f1 f2 f3 f4 f5 f6 f7 f8 f9 f10 f11 f12 f13 f20 f21 f22 f23 f24 f25 (-1000000001) (s.heap).size (show 0 ≤ -1000000001 - (-1000000001) ∧ -1000000001 - (-1000000001) < 7 from by omega)) lk_X5_74 ⟨rfl, hP, hD.weaken (fun _ _ _ _ => trivial)⟩ (va_recv hK.1 hP (ci := 5) (q0 := 0) rfl rfl) rfl rfl rfl (Rm.of rfl) rfl rfl dX5_of_23) hD hS hA (fun x9 _ H locs hw hP hD hS => ?_)
    obtain rfl : x9 = iI (-1000000001) := hw
    have hP : va_P g.1 vwCl (wM g a f1 f2 f3 f4 f5 (fb (-1000000000 - (-1000000001)) f6) f7 f8 f9 f10 f11 f12 f13 f20 f21 f22 f23 f24 f25) H := hP
    have hD : va_D (va_A (wM g a f1 f2 f3 f4 f5 f6 f7 f8 f9 f10 f11 f12 f13 f20 f21 f22 f23 f24 f25) s.heap.size) (wM g a f1 f2 f3 f4 f5 (fb (-1000000000 - (-1000000001)) f6) f7 f8 f9 f10 f11 f12 f13 f20 f21 f22 f23 f24 f25) := hD
    have hf : fOf f1 r w = 1 := by unfold fOf; (repeat (first | rw [if_pos (by omega)] | rw [if_neg (by omega)])); first | done | (exfalso; omega)
    have he17 : (fb (-1000000000 - (-1000000001)) f6) = (fb (fOf f1 r w) f6) := by rw [hf]; rfl
    have hP := Eq.mp (congrArg (fun z9 => va_P g.1 vwCl (wM g a f1 f2 f3 f4 f5 z9 f7 f8 f9 f10 f11 f12 f13 f20 f21 f22 f23 f24 f25) H) he17) hP
    have hD := Eq.mp (congrArg (fun z9 => va_D (va_A (wM g a f1 f2 f3 f4 f5 f6 f7 f8 f9 f10 f11 f12 f13 f20 f21 f22 f23 f24 f25) s.heap.size) (wM g a f1 f2 f3 f4 f5 z9 f7 f8 f9 f10 f11 f12 f13 f20 f21 f22 f23 f24 f25)) he17) hD
    have hP : va_P g.1 vwCl (wM g a f1 f2 f3 f4 f5 (fb (fOf f1 r w) f6) f7 f8 f9 f10 f11 f12 f13 f20 f21 f22 f23 f24 f25) H := hP
    have hD : va_D (va_A (wM g a f1 f2 f3 f4 f5 f6 f7 f8 f9 f10 f11 f12 f13 f20 f21 f22 f23 f24 f25) s.heap.size) (wM g a f1 f2 f3 f4 f5 (fb (fOf f1 r w) f6) f7 f8 f9 f10 f11 f12 f13 f20 f21 f22 f23 f24 f25) := hD
    exact W.iret hx hb hr (fun t ht hW => ⟨⟨_, (), rfl, by rw [hf]; rfl, by rw [ht]; exact hP, hD⟩, hS.F ht⟩) hS.2.2 dX5_of_26
abbrev rm_X5_set : Room := { frames := 3, cells := 0, slots := 0, locals := 66 }
set_option maxRecDepth 100000 in
set_option maxHeartbeats 4000000 in
theorem c_X5_set (l : Launch) (g : Gd) (a : Nat → Nat) (f1 : Int → Int) (f2 : Int → Int) (f3 : Int → Int) (f4 : Int → Int) (f5 : Int → Int) (f6 : Int → Int) (f7 : Int → Int) (f8 : Int → Int) (f9 : Int → Int) (f10 : Int → Int) (f11 : Int → Int) (f12 : Int → Int) (f13 : Int → Int) (f20 : Int) (f21 : Int) (f22 : Int) (f23 : Int) (f24 : Int) (f25 : Int) (r : Int) (w : Int) (v : Int) (sz : Nat) (h1 : InvK 0 f1) (h2 : f1 0 ≤ 9999) (h3 : IR r) (h4 : IR w) (h5 : IR v) : Met l yX5_set (wsOf yX5_set cX5_set 4 (some .int)) rm_X5_set (PX g (wP g (wM g a f1 f2 f3 f4 f5 f6 f7 f8 f9 f10 f11 f12 f13 f20 f21 f22 f23 f24 f25) sz) [.ref (a 0), .int (iI r), .int (iI w), .int (iI v)]) (QMi g (fun _ : Unit => wM g a (if fSet f1 r w v = 0 then up f1 (61 + 5 * r + w) v else f1) f2 f3 f4 f5 (fb (fSet f1 r w v) f6) f7 f8 f9 f10 f11 f12 f13 f20 f21 f22 f23 f24 f25) (fun r9 _ => r9 = ab (fSet f1 r w v) (iI (f1 (61 + 5 * r + w)))) (va_A (wM g a f1 f2 f3 f4 f5 f6 f7 f8 f9 f10 f11 f12 f13 f20 f21 f22 f23 f24 f25) sz)) 0 0 (va_A (wM g a f1 f2 f3 f4 f5 f6 f7 f8 f9 f10 f11 f12 f13 f20 f21 f22 f23 f24 f25) sz) := by
  refine me (g := g) (by decide) rfl ?_
  intro pq eq s mq below meth cq C hnm hB ls hl
  obtain ⟨hx, hb, hr, hml, hown, hts, hlocks, hK⟩ := C
  have hown : s.vm.findClass RX5 = some mq.cls := hown
  have hl : lv_has ls 4 [(0, .ref (a 0)), (1, .int (iI r)), (2, .int (iI w)), (3, .int (iI v))] := hl
  obtain ⟨hsz, hP, hD0⟩ := hB
  subst hsz
  have hD := hD0.self (sz := s.heap.size)
  have hA : ∀ q : Nat, s.heap.size ≤ q → va_A (wM g a f1 f2 f3 f4 f5 f6 f7 f8 f9 f10 f11 f12 f13 f20 f21 f22 f23 f24 f25) s.heap.size q := fun q h => Or.inr h
  have hS : va_S (va_A (wM g a f1 f2 f3 f4 f5 f6 f7 f8 f9 f10 f11 f12 f13 f20 f21 f22 f23 f24 f25) s.heap.size) s.heap s.heap [] := va_S.rf
  have hI := h1
  have hI8 : Inv f1 := h1.mono (by omega)
  have hn := hI.num
  have hs := hI.sea
  have hv := hI.vil
  have q1 := h3.1
  have q3 := h4.1
  have q5 := h5.1
  have q2 := h3.2
  have q4 := h4.2
  have q6 := h5.2
  have hw := who_b (s := f1) v hn
  refine lv_aload_n hx hb dX5_set_0 rfl (lv_at hl 0 rfl) ?_
  refine lv_iload_n hx hb dX5_set_1 rfl (lv_at hl 1 rfl) ?_
  refine xu_b (P := 0 ≤ r ∧ r ≤ f1 1 - 1) (rV (rest := []) hx hb hml hown hts hK hl (c_X5_isRange l g a f1 f2 f3 f4 f5 f6 f7 f8 f9 f10 f11 f12 f13 f20 f21 f22 f23 f24 f25 r (show IR r from ⟨by omega, by omega⟩) (show 0 ≤ f1 1 ∧ f1 1 ≤ 8 from by omega)) lk_X5_127 hP (va_recv hK.1 hP (ci := 5) (q0 := 0) rfl rfl) rfl rfl rfl (Rm.of rfl) rfl rfl dX5_set_2) (fun z1 => ?_) (fun z1 => ?_)
  · refine xi_zf_eq hx hb ⟨by decide, by decide⟩ (by decide) dX5_set_5 ⟨43, by decide⟩ ?_
    refine lv_iload_n hx hb dX5_set_8 rfl (lv_at hl 2 rfl) ?_
    refine xi_i2l hx hb ⟨by omega, by omega⟩ dX5_set_9 ?_
    refine lv_lconst (v := lI (1)) hx hb dX5_set_10 (by decide) ?_
    refine xl_ldc hx hb hown hts kk_X5_70 dX5_set_11 ?_
    refine xu_b (P := 1 ≤ w ∧ w ≤ 2) (rS (rest := []) hx hb hml hown hts hK hl (c_X5_in l g w 1 2 (show LR w from ⟨by omega, by omega⟩) (show LR 1 from ⟨by omega, by omega⟩) (show LR 2 from ⟨by omega, by omega⟩)) lk_X5_53 trivial rfl rfl rfl (Rm.of rfl) rfl rfl dX5_set_14) (fun z2 => ?_) (fun z2 => ?_)
    · refine xi_zf_eq hx hb ⟨by decide, by decide⟩ (by decide) dX5_set_17 ⟨43, by decide⟩ ?_
      refine lv_iload_n hx hb dX5_set_20 rfl (lv_at hl 3 rfl) ?_
      refine xi_i2l hx hb ⟨by omega, by omega⟩ dX5_set_21 ?_
      refine lv_lconst (v := lI (0)) hx hb dX5_set_22 (by decide) ?_
      refine lv_iload_n hx hb dX5_set_23 rfl (lv_at hl 2 rfl) ?_
      refine lv_iconst (v := iI (1)) hx hb dX5_set_24 (by decide) ?_
      refine xi_c_ne (tgt := 34) hx hb ⟨by omega, by omega⟩ ⟨by decide, by decide⟩ dX5_set_25 (by decide) (fun z3 => ?_) (fun z3 => ?_)
      · refine xl_ldc hx hb hown hts kk_X5_72 dX5_set_34 ?_
        refine xu_b (P := 0 ≤ v ∧ v ≤ 9) (rS (rest := []) hx hb hml hown hts hK hl (c_X5_in l g v 0 9 (show LR v from ⟨by omega, by omega⟩) (show LR 0 from ⟨by omega, by omega⟩) (show LR 9 from ⟨by omega, by omega⟩)) lk_X5_53 trivial rfl rfl rfl (Rm.of rfl) rfl rfl dX5_set_37) (fun z4 => ?_) (fun z4 => ?_)
        · refine xi_zt_ne (tgt := 50) hx hb ⟨by decide, by decide⟩ (by decide) dX5_set_40 (by decide) ?_
          refine lv_iload_n hx hb dX5_set_50 rfl (lv_at hl 2 rfl) ?_
          refine lv_iconst (v := iI (1)) hx hb dX5_set_51 (by decide) ?_
          refine xi_c_ne (tgt := 79) hx hb ⟨by omega, by omega⟩ ⟨by decide, by decide⟩ dX5_set_52 (by decide) (fun z5 => ?_) (fun z5 => ?_)
          · refine lv_aload_n hx hb dX5_set_79 rfl (lv_at hl 0 rfl) ?_
            refine lv_iload_n hx hb dX5_set_80 rfl (lv_at hl 1 rfl) ?_
            refine lv_iload_n hx hb dX5_set_81 rfl (lv_at hl 2 rfl) ?_
            refine xu_i (x := iI (61 + 5 * r + w)) (rS (rest := [.ref (a 0)]) hx hb hml hown hts hK hl (c_X5_spot l g r w ) lk_X5_59 trivial rfl rfl rfl (Rm.of rfl) rfl rfl dX5_set_82) ?_
            refine lv_iload_n hx hb dX5_set_85 rfl (lv_at hl 3 rfl) ?_
            refine xm_i (rV (rest := []) hx hb hml hown hts hK hl (c_X5_becomes l g a f1 f2 f3 f4 f5 f6 f7 f8 f9 f10 f11 f12 f13 f20 f21 f22 f23 f24 f25 (61 + 5 * r + w) v (s.heap).size (show 0 ≤ (61 + 5 * r + w) ∧ (61 + 5 * r + w) < 101 from by omega)) lk_X5_102 ⟨rfl, hP, hD.weaken (fun _ _ _ _ => trivial)⟩ (va_recv hK.1 hP (ci := 5) (q0 := 0) rfl rfl) rfl rfl rfl (Rm.of rfl) rfl rfl dX5_set_86) hD hS hA (fun x9 _ H locs hw hP hD hS => ?_)
            obtain rfl : x9 = iI (f1 (61 + 5 * r + w)) := hw
            have hP : va_P g.1 vwCl (wM g a (up f1 (61 + 5 * r + w) v) f2 f3 f4 f5 f6 f7 f8 f9 f10 f11 f12 f13 f20 f21 f22 f23 f24 f25) H := hP
            have hD : va_D (va_A (wM g a f1 f2 f3 f4 f5 f6 f7 f8 f9 f10 f11 f12 f13 f20 f21 f22 f23 f24 f25) s.heap.size) (wM g a (up f1 (61 + 5 * r + w) v) f2 f3 f4 f5 f6 f7 f8 f9 f10 f11 f12 f13 f20 f21 f22 f23 f24 f25) := hD
            have hf : fSet f1 r w v = 0 := by unfold fSet; (repeat (first | rw [if_pos (by omega)] | rw [if_neg (by omega)])); first | done | (exfalso; omega)
            have he8 : (up f1 (61 + 5 * r + w) v) = (if fSet f1 r w v = 0 then up f1 (61 + 5 * r + w) v else f1) := by rw [hf]; rfl
            have hP := Eq.mp (congrArg (fun z9 => va_P g.1 vwCl (wM g a z9 f2 f3 f4 f5 f6 f7 f8 f9 f10 f11 f12 f13 f20 f21 f22 f23 f24 f25) H) he8) hP
            have hD := Eq.mp (congrArg (fun z9 => va_D (va_A (wM g a f1 f2 f3 f4 f5 f6 f7 f8 f9 f10 f11 f12 f13 f20 f21 f22 f23 f24 f25) s.heap.size) (wM g a z9 f2 f3 f4 f5 f6 f7 f8 f9 f10 f11 f12 f13 f20 f21 f22 f23 f24 f25)) he8) hD
            have he9 : f6 = (fb (fSet f1 r w v) f6) := by rw [hf]; rfl
            have hP := Eq.mp (congrArg (fun z9 => va_P g.1 vwCl (wM g a (if fSet f1 r w v = 0 then up f1 (61 + 5 * r + w) v else f1) f2 f3 f4 f5 z9 f7 f8 f9 f10 f11 f12 f13 f20 f21 f22 f23 f24 f25) H) he9) hP
            have hD := Eq.mp (congrArg (fun z9 => va_D (va_A (wM g a f1 f2 f3 f4 f5 f6 f7 f8 f9 f10 f11 f12 f13 f20 f21 f22 f23 f24 f25) s.heap.size) (wM g a (if fSet f1 r w v = 0 then up f1 (61 + 5 * r + w) v else f1) f2 f3 f4 f5 z9 f7 f8 f9 f10 f11 f12 f13 f20 f21 f22 f23 f24 f25)) he9) hD
            have hP : va_P g.1 vwCl (wM g a (if fSet f1 r w v = 0 then up f1 (61 + 5 * r + w) v else f1) f2 f3 f4 f5 (fb (fSet f1 r w v) f6) f7 f8 f9 f10 f11 f12 f13 f20 f21 f22 f23 f24 f25) H := hP
            have hD : va_D (va_A (wM g a f1 f2 f3 f4 f5 f6 f7 f8 f9 f10 f11 f12 f13 f20 f21 f22 f23 f24 f25) s.heap.size) (wM g a (if fSet f1 r w v = 0 then up f1 (61 + 5 * r + w) v else f1) f2 f3 f4 f5 (fb (fSet f1 r w v) f6) f7 f8 f9 f10 f11 f12 f13 f20 f21 f22 f23 f24 f25) := hD
            exact W.iret hx hb hr (fun t ht hW => ⟨⟨_, (), rfl, by rw [hf, ab_0]; (try (repeat (first | rw [if_pos (by omega)] | rw [if_neg (by omega)]))); first | done | rfl | exact congrArg iI (by omega) | exact congrArg iI (by simp only [up]; (repeat (first | rw [if_pos (by omega)] | rw [if_neg (by omega)])); first | done | omega), by rw [ht]; exact hP, hD⟩, hS.F ht⟩) hS.2.2 dX5_set_89
          · refine lv_aload_n hx hb dX5_set_55 rfl (lv_at hl 0 rfl) ?_
            refine lv_iload_n hx hb dX5_set_56 rfl (lv_at hl 3 rfl) ?_
            refine xu_i (x := iI (who f1 v)) (rV (rest := []) hx hb hml hown hts hK hl (c_X5_isIn l g a f1 f2 f3 f4 f5 f6 f7 f8 f9 f10 f11 f12 f13 f20 f21 f22 f23 f24 f25 v (show Inv f1 from hI8) (show IR v from ⟨by omega, by omega⟩)) lk_X5_87 hP (va_recv hK.1 hP (ci := 5) (q0 := 0) rfl rfl) rfl rfl rfl (Rm.of rfl) rfl rfl dX5_set_57) ?_
            refine xi_z_lt (tgt := 79) hx hb ⟨by omega, by omega⟩ dX5_set_60 (by decide) (fun z11 => ?_) (fun z11 => ?_)
            · refine lv_aload_n hx hb dX5_set_79 rfl (lv_at hl 0 rfl) ?_
              refine lv_iload_n hx hb dX5_set_80 rfl (lv_at hl 1 rfl) ?_
              refine lv_iload_n hx hb dX5_set_81 rfl (lv_at hl 2 rfl) ?_
              refine xu_i (x := iI (61 + 5 * r + w)) (rS (rest := [.ref (a 0)]) hx hb hml hown hts hK hl (c_X5_spot l g r w ) lk_X5_59 trivial rfl rfl rfl (Rm.of rfl) rfl rfl dX5_set_82) ?_
              refine lv_iload_n hx hb dX5_set_85 rfl (lv_at hl 3 rfl) ?_
              refine xm_i (rV (rest := []) hx hb hml hown hts hK hl (c_X5_becomes l g a f1 f2 f3 f4 f5 f6 f7 f8 f9 f10 f11 f12 f13 f20 f21 f22 f23 f24 f25 (61 + 5 * r + w) v (s.heap).size (show 0 ≤ (61 + 5 * r + w) ∧ (61 + 5 * r + w) < 101 from by omega)) lk_X5_102 ⟨rfl, hP, hD.weaken (fun _ _ _ _ => trivial)⟩ (va_recv hK.1 hP (ci := 5) (q0 := 0) rfl rfl) rfl rfl rfl (Rm.of rfl) rfl rfl dX5_set_86) hD hS hA (fun x9 _ H locs hw hP hD hS => ?_)
              obtain rfl : x9 = iI (f1 (61 + 5 * r + w)) := hw
              have hP : va_P g.1 vwCl (wM g a (up f1 (61 + 5 * r + w) v) f2 f3 f4 f5 f6 f7 f8 f9 f10 f11 f12 f13 f20 f21 f22 f23 f24 f25) H := hP
              have hD : va_D (va_A (wM g a f1 f2 f3 f4 f5 f6 f7 f8 f9 f10 f11 f12 f13 f20 f21 f22 f23 f24 f25) s.heap.size) (wM g a (up f1 (61 + 5 * r + w) v) f2 f3 f4 f5 f6 f7 f8 f9 f10 f11 f12 f13 f20 f21 f22 f23 f24 f25) := hD
              have hf : fSet f1 r w v = 0 := by unfold fSet; (repeat (first | rw [if_pos (by omega)] | rw [if_neg (by omega)])); first | done | (exfalso; omega)
              have he14 : (up f1 (61 + 5 * r + w) v) = (if fSet f1 r w v = 0 then up f1 (61 + 5 * r + w) v else f1) := by rw [hf]; rfl
              have hP := Eq.mp (congrArg (fun z9 => va_P g.1 vwCl (wM g a z9 f2 f3 f4 f5 f6 f7 f8 f9 f10 f11 f12 f13 f20 f21 f22 f23 f24 f25) H) he14) hP
              have hD := Eq.mp (congrArg (fun z9 => va_D (va_A (wM g a f1 f2 f3 f4 f5 f6 f7 f8 f9 f10 f11 f12 f13 f20 f21 f22 f23 f24 f25) s.heap.size) (wM g a z9 f2 f3 f4 f5 f6 f7 f8 f9 f10 f11 f12 f13 f20 f21 f22 f23 f24 f25)) he14) hD
              have he15 : f6 = (fb (fSet f1 r w v) f6) := by rw [hf]; rfl
              have hP := Eq.mp (congrArg (fun z9 => va_P g.1 vwCl (wM g a (if fSet f1 r w v = 0 then up f1 (61 + 5 * r + w) v else f1) f2 f3 f4 f5 z9 f7 f8 f9 f10 f11 f12 f13 f20 f21 f22 f23 f24 f25) H) he15) hP
              have hD := Eq.mp (congrArg (fun z9 => va_D (va_A (wM g a f1 f2 f3 f4 f5 f6 f7 f8 f9 f10 f11 f12 f13 f20 f21 f22 f23 f24 f25) s.heap.size) (wM g a (if fSet f1 r w v = 0 then up f1 (61 + 5 * r + w) v else f1) f2 f3 f4 f5 z9 f7 f8 f9 f10 f11 f12 f13 f20 f21 f22 f23 f24 f25)) he15) hD
              have hP : va_P g.1 vwCl (wM g a (if fSet f1 r w v = 0 then up f1 (61 + 5 * r + w) v else f1) f2 f3 f4 f5 (fb (fSet f1 r w v) f6) f7 f8 f9 f10 f11 f12 f13 f20 f21 f22 f23 f24 f25) H := hP
              have hD : va_D (va_A (wM g a f1 f2 f3 f4 f5 f6 f7 f8 f9 f10 f11 f12 f13 f20 f21 f22 f23 f24 f25) s.heap.size) (wM g a (if fSet f1 r w v = 0 then up f1 (61 + 5 * r + w) v else f1) f2 f3 f4 f5 (fb (fSet f1 r w v) f6) f7 f8 f9 f10 f11 f12 f13 f20 f21 f22 f23 f24 f25) := hD
              exact W.iret hx hb hr (fun t ht hW => ⟨⟨_, (), rfl, by rw [hf, ab_0]; (try (repeat (first | rw [if_pos (by omega)] | rw [if_neg (by omega)]))); first | done | rfl | exact congrArg iI (by omega) | exact congrArg iI (by simp only [up]; (repeat (first | rw [if_pos (by omega)] | rw [if_neg (by omega)])); first | done | omega), by rw [ht]; exact hP, hD⟩, hS.F ht⟩) hS.2.2 dX5_set_89
            · refine lv_aload_n hx hb dX5_set_63 rfl (lv_at hl 0 rfl) ?_
              refine lv_iload_n hx hb dX5_set_64 rfl (lv_at hl 3 rfl) ?_
              refine xu_i (x := iI (who f1 v)) (rV (rest := []) hx hb hml hown hts hK hl (c_X5_isIn l g a f1 f2 f3 f4 f5 f6 f7 f8 f9 f10 f11 f12 f13 f20 f21 f22 f23 f24 f25 v (show Inv f1 from hI8) (show IR v from ⟨by omega, by omega⟩)) lk_X5_87 hP (va_recv hK.1 hP (ci := 5) (q0 := 0) rfl rfl) rfl rfl rfl (Rm.of rfl) rfl rfl dX5_set_65) ?_
              refine lv_iload_n hx hb dX5_set_68 rfl (lv_at hl 1 rfl) ?_
              refine xi_c_eq (tgt := 79) hx hb ⟨by omega, by omega⟩ ⟨by omega, by omega⟩ dX5_set_69 (by decide) (fun z17 => ?_) (fun z17 => ?_)
              · refine lv_aload_n hx hb dX5_set_79 rfl (lv_at hl 0 rfl) ?_
                refine lv_iload_n hx hb dX5_set_80 rfl (lv_at hl 1 rfl) ?_
                refine lv_iload_n hx hb dX5_set_81 rfl (lv_at hl 2 rfl) ?_
                refine xu_i (x := iI (61 + 5 * r + w)) (rS (rest := [.ref (a 0)]) hx hb hml hown hts hK hl (c_X5_spot l g r w ) lk_X5_59 trivial rfl rfl rfl (Rm.of rfl) rfl rfl dX5_set_82) ?_
                refine lv_iload_n hx hb dX5_set_85 rfl (lv_at hl 3 rfl) ?_
                refine xm_i (rV (rest := []) hx hb hml hown hts hK hl (c_X5_becomes l g a f1 f2 f3 f4 f5 f6 f7 f8 f9 f10 f11 f12 f13 f20 f21 f22 f23 f24 f25 (61 + 5 * r + w) v (s.heap).size (show 0 ≤ (61 + 5 * r + w) ∧ (61 + 5 * r + w) < 101 from by omega)) lk_X5_102 ⟨rfl, hP, hD.weaken (fun _ _ _ _ => trivial)⟩ (va_recv hK.1 hP (ci := 5) (q0 := 0) rfl rfl) rfl rfl rfl (Rm.of rfl) rfl rfl dX5_set_86) hD hS hA (fun x9 _ H locs hw hP hD hS => ?_)
                obtain rfl : x9 = iI (f1 (61 + 5 * r + w)) := hw
                have hP : va_P g.1 vwCl (wM g a (up f1 (61 + 5 * r + w) v) f2 f3 f4 f5 f6 f7 f8 f9 f10 f11 f12 f13 f20 f21 f22 f23 f24 f25) H := hP
                have hD : va_D (va_A (wM g a f1 f2 f3 f4 f5 f6 f7 f8 f9 f10 f11 f12 f13 f20 f21 f22 f23 f24 f25) s.heap.size) (wM g a (up f1 (61 + 5 * r + w) v) f2 f3 f4 f5 f6 f7 f8 f9 f10 f11 f12 f13 f20 f21 f22 f23 f24 f25) := hD
                have hf : fSet f1 r w v = 0 := by unfold fSet; (repeat (first | rw [if_pos (by omega)] | rw [if_neg (by omega)])); first | done | (exfalso; omega)
                have he20 : (up f1 (61 + 5 * r + w) v) = (if fSet f1 r w v = 0 then up f1 (61 + 5 * r + w) v else f1) := by rw [hf]; rfl
                have hP := Eq.mp (congrArg (fun z9 => va_P g.1 vwCl (wM g a z9 f2 f3 f4 f5 f6 f7 f8 f9 f10 f11 f12 f13 f20 f21 f22 f23 f24 f25) H) he20) hP
                have hD := Eq.mp (congrArg (fun z9 => va_D (va_A (wM g a f1 f2 f3 f4 f5 f6 f7 f8 f9 f10 f11 f12 f13 f20 f21 f22 f23 f24 f25) s.heap.size) (wM g a z9 f2 f3 f4 f5 f6 f7 f8 f9 f10 f11 f12 f13 f20 f21 f22 f23 f24 f25)) he20) hD
                have he21 : f6 = (fb (fSet f1 r w v) f6) := by rw [hf]; rfl
                have hP := Eq.mp (congrArg (fun z9 => va_P g.1 vwCl (wM g a (if fSet f1 r w v = 0 then up f1 (61 + 5 * r + w) v else f1) f2 f3 f4 f5 z9 f7 f8 f9 f10 f11 f12 f13 f20 f21 f22 f23 f24 f25) H) he21) hP
                have hD := Eq.mp (congrArg (fun z9 => va_D (va_A (wM g a f1 f2 f3 f4 f5 f6 f7 f8 f9 f10 f11 f12 f13 f20 f21 f22 f23 f24 f25) s.heap.size) (wM g a (if fSet f1 r w v = 0 then up f1 (61 + 5 * r + w) v else f1) f2 f3 f4 f5 z9 f7 f8 f9 f10 f11 f12 f13 f20 f21 f22 f23 f24 f25)) he21) hD
                have hP : va_P g.1 vwCl (wM g a (if fSet f1 r w v = 0 then up f1 (61 + 5 * r + w) v else f1) f2 f3 f4 f5 (fb (fSet f1 r w v) f6) f7 f8 f9 f10 f11 f12 f13 f20 f21 f22 f23 f24 f25) H := hP
                have hD : va_D (va_A (wM g a f1 f2 f3 f4 f5 f6 f7 f8 f9 f10 f11 f12 f13 f20 f21 f22 f23 f24 f25) s.heap.size) (wM g a (if fSet f1 r w v = 0 then up f1 (61 + 5 * r + w) v else f1) f2 f3 f4 f5 (fb (fSet f1 r w v) f6) f7 f8 f9 f10 f11 f12 f13 f20 f21 f22 f23 f24 f25) := hD
                exact W.iret hx hb hr (fun t ht hW => ⟨⟨_, (), rfl, by rw [hf, ab_0]; (try (repeat (first | rw [if_pos (by omega)] | rw [if_neg (by omega)]))); first | done | rfl | exact congrArg iI (by omega) | exact congrArg iI (by simp only [up]; (repeat (first | rw [if_pos (by omega)] | rw [if_neg (by omega)])); first | done | omega), by rw [ht]; exact hP, hD⟩, hS.F ht⟩) hS.2.2 dX5_set_89
              · refine lv_aload_n hx hb dX5_set_72 rfl (lv_at hl 0 rfl) ?_
                refine xi_ldc hx hb hown hts kk_X5_123 dX5_set_73 ?_
                refine xm_i (rV (rest := []) hx hb hml hown hts hK hl (c_X5_finds l g a f1 f2 f3 f4 f5 f6 f7 f8 f9 f10 f11 f12 f13 f20 f21 f22 f23 f24 f25 (-1000000005) (s.heap).size (show 0 ≤ -1000000001 - (-1000000005) ∧ -1000000001 - (-1000000005) < 7 from by omega)) lk_X5_74 ⟨rfl, hP, hD.weaken (fun _ _ _ _ => trivial)⟩ (va_recv hK.1 hP (ci := 5) (q0 := 0) rfl rfl) rfl rfl rfl (Rm.of rfl) rfl rfl dX5_set_75) hD hS hA (fun x9 _ H locs hw hP hD hS => ?_)
                obtain rfl : x9 = iI (-1000000005) := hw
                have hP : va_P g.1 vwCl (wM g a f1 f2 f3 f4 f5 (fb (-1000000000 - (-1000000005)) f6) f7 f8 f9 f10 f11 f12 f13 f20 f21 f22 f23 f24 f25) H := hP
                have hD : va_D (va_A (wM g a f1 f2 f3 f4 f5 f6 f7 f8 f9 f10 f11 f12 f13 f20 f21 f22 f23 f24 f25) s.heap.size) (wM g a f1 f2 f3 f4 f5 (fb (-1000000000 - (-1000000005)) f6) f7 f8 f9 f10 f11 f12 f13 f20 f21 f22 f23 f24 f25) := hD
                have hf : fSet f1 r w v = 5 := by unfold fSet; (repeat (first | rw [if_pos (by omega)] | rw [if_neg (by omega)])); first | done | (exfalso; omega)
                have he23 : f1 = (if fSet f1 r w v = 0 then up f1 (61 + 5 * r + w) v else f1) := by rw [hf]; rfl
                have hP := Eq.mp (congrArg (fun z9 => va_P g.1 vwCl (wM g a z9 f2 f3 f4 f5 (fb (-1000000000 - (-1000000005)) f6) f7 f8 f9 f10 f11 f12 f13 f20 f21 f22 f23 f24 f25) H) he23) hP
                have hD := Eq.mp (congrArg (fun z9 => va_D (va_A (wM g a f1 f2 f3 f4 f5 f6 f7 f8 f9 f10 f11 f12 f13 f20 f21 f22 f23 f24 f25) s.heap.size) (wM g a z9 f2 f3 f4 f5 (fb (-1000000000 - (-1000000005)) f6) f7 f8 f9 f10 f11 f12 f13 f20 f21 f22 f23 f24 f25)) he23) hD
                have he24 : (fb (-1000000000 - (-1000000005)) f6) = (fb (fSet f1 r w v) f6) := by rw [hf]; rfl
                have hP := Eq.mp (congrArg (fun z9 => va_P g.1 vwCl (wM g a (if fSet f1 r w v = 0 then up f1 (61 + 5 * r + w) v else f1) f2 f3 f4 f5 z9 f7 f8 f9 f10 f11 f12 f13 f20 f21 f22 f23 f24 f25) H) he24) hP
                have hD := Eq.mp (congrArg (fun z9 => va_D (va_A (wM g a f1 f2 f3 f4 f5 f6 f7 f8 f9 f10 f11 f12 f13 f20 f21 f22 f23 f24 f25) s.heap.size) (wM g a (if fSet f1 r w v = 0 then up f1 (61 + 5 * r + w) v else f1) f2 f3 f4 f5 z9 f7 f8 f9 f10 f11 f12 f13 f20 f21 f22 f23 f24 f25)) he24) hD
                have hP : va_P g.1 vwCl (wM g a (if fSet f1 r w v = 0 then up f1 (61 + 5 * r + w) v else f1) f2 f3 f4 f5 (fb (fSet f1 r w v) f6) f7 f8 f9 f10 f11 f12 f13 f20 f21 f22 f23 f24 f25) H := hP
                have hD : va_D (va_A (wM g a f1 f2 f3 f4 f5 f6 f7 f8 f9 f10 f11 f12 f13 f20 f21 f22 f23 f24 f25) s.heap.size) (wM g a (if fSet f1 r w v = 0 then up f1 (61 + 5 * r + w) v else f1) f2 f3 f4 f5 (fb (fSet f1 r w v) f6) f7 f8 f9 f10 f11 f12 f13 f20 f21 f22 f23 f24 f25) := hD
                exact W.iret hx hb hr (fun t ht hW => ⟨⟨_, (), rfl, by rw [hf]; rfl, by rw [ht]; exact hP, hD⟩, hS.F ht⟩) hS.2.2 dX5_set_78
        · refine xi_zf_ne hx hb ⟨by decide, by decide⟩ (by decide) dX5_set_40 ⟨50, by decide⟩ ?_
          refine lv_aload_n hx hb dX5_set_43 rfl (lv_at hl 0 rfl) ?_
          refine xi_ldc hx hb hown hts kk_X5_50 dX5_set_44 ?_
          refine xm_i (rV (rest := []) hx hb hml hown hts hK hl (c_X5_finds l g a f1 f2 f3 f4 f5 f6 f7 f8 f9 f10 f11 f12 f13 f20 f21 f22 f23 f24 f25 (-1000000001) (s.heap).size (show 0 ≤ -1000000001 - (-1000000001) ∧ -1000000001 - (-1000000001) < 7 from by omega)) lk_X5_74 ⟨rfl, hP, hD.weaken (fun _ _ _ _ => trivial)⟩ (va_recv hK.1 hP (ci := 5) (q0 := 0) rfl rfl) rfl rfl rfl (Rm.of rfl) rfl rfl dX5_set_46) hD hS hA (fun x9 _ H locs hw hP hD hS => ?_)
          obtain rfl : x9 = iI (-1000000001) := hw
          have hP : va_P g.1 vwCl (wM g a f1 f2 f3 f4 f5 (fb (-1000000000 - (-1000000001)) f6) f7 f8 f9 f10 f11 f12 f13 f20 f21 f22 f23 f24 f25) H := hP
          have hD : va_D (va_A (wM g a f1 f2 f3 f4 f5 f6 f7 f8 f9 f10 f11 f12 f13 f20 f21 f22 f23 f24 f25) s.heap.size) (wM g a f1 f2 f3 f4 f5 (fb (-1000000000 - (-1000000001)) f6) f7 f8 f9 f10 f11 f12 f13 f20 f21 f22 f23 f24 f25) := hD
          have hf : fSet f1 r w v = 1 := by unfold fSet; (repeat (first | rw [if_pos (by omega)] | rw [if_neg (by omega)])); first | done | (exfalso; omega)
          have he26 : f1 = (if fSet f1 r w v = 0 then up f1 (61 + 5 * r + w) v else f1) := by rw [hf]; rfl
          have hP := Eq.mp (congrArg (fun z9 => va_P g.1 vwCl (wM g a z9 f2 f3 f4 f5 (fb (-1000000000 - (-1000000001)) f6) f7 f8 f9 f10 f11 f12 f13 f20 f21 f22 f23 f24 f25) H) he26) hP
          have hD := Eq.mp (congrArg (fun z9 => va_D (va_A (wM g a f1 f2 f3 f4 f5 f6 f7 f8 f9 f10 f11 f12 f13 f20 f21 f22 f23 f24 f25) s.heap.size) (wM g a z9 f2 f3 f4 f5 (fb (-1000000000 - (-1000000001)) f6) f7 f8 f9 f10 f11 f12 f13 f20 f21 f22 f23 f24 f25)) he26) hD
          have he27 : (fb (-1000000000 - (-1000000001)) f6) = (fb (fSet f1 r w v) f6) := by rw [hf]; rfl
          have hP := Eq.mp (congrArg (fun z9 => va_P g.1 vwCl (wM g a (if fSet f1 r w v = 0 then up f1 (61 + 5 * r + w) v else f1) f2 f3 f4 f5 z9 f7 f8 f9 f10 f11 f12 f13 f20 f21 f22 f23 f24 f25) H) he27) hP
          have hD := Eq.mp (congrArg (fun z9 => va_D (va_A (wM g a f1 f2 f3 f4 f5 f6 f7 f8 f9 f10 f11 f12 f13 f20 f21 f22 f23 f24 f25) s.heap.size) (wM g a (if fSet f1 r w v = 0 then up f1 (61 + 5 * r + w) v else f1) f2 f3 f4 f5 z9 f7 f8 f9 f10 f11 f12 f13 f20 f21 f22 f23 f24 f25)) he27) hD
          have hP : va_P g.1 vwCl (wM g a (if fSet f1 r w v = 0 then up f1 (61 + 5 * r + w) v else f1) f2 f3 f4 f5 (fb (fSet f1 r w v) f6) f7 f8 f9 f10 f11 f12 f13 f20 f21 f22 f23 f24 f25) H := hP
          have hD : va_D (va_A (wM g a f1 f2 f3 f4 f5 f6 f7 f8 f9 f10 f11 f12 f13 f20 f21 f22 f23 f24 f25) s.heap.size) (wM g a (if fSet f1 r w v = 0 then up f1 (61 + 5 * r + w) v else f1) f2 f3 f4 f5 (fb (fSet f1 r w v) f6) f7 f8 f9 f10 f11 f12 f13 f20 f21 f22 f23 f24 f25) := hD
          exact W.iret hx hb hr (fun t ht hW => ⟨⟨_, (), rfl, by rw [hf]; rfl, by rw [ht]; exact hP, hD⟩, hS.F ht⟩) hS.2.2 dX5_set_49
      · refine xl_ldc hx hb hown hts kk_X5_51 dX5_set_28 ?_
        refine lv_goto (tgt := 37) hx hb dX5_set_31 (by decide) ?_
        refine xu_b (P := 0 ≤ v ∧ v ≤ 23) (rS (rest := []) hx hb hml hown hts hK hl (c_X5_in l g v 0 23 (show LR v from ⟨by omega, by omega⟩) (show LR 0 from ⟨by omega, by omega⟩) (show LR 23 from ⟨by omega, by omega⟩)) lk_X5_53 trivial rfl rfl rfl (Rm.of rfl) rfl rfl dX5_set_37) (fun z28 => ?_) (fun z28 => ?_)
        · refine xi_zt_ne (tgt := 50) hx hb ⟨by decide, by decide⟩ (by decide) dX5_set_40 (by decide) ?_
          refine lv_iload_n hx hb dX5_set_50 rfl (lv_at hl 2 rfl) ?_
          refine lv_iconst (v := iI (1)) hx hb dX5_set_51 (by decide) ?_
          refine xi_c_ne (tgt := 79) hx hb ⟨by omega, by omega⟩ ⟨by decide, by decide⟩ dX5_set_52 (by decide) (fun z29 => ?_) (fun z29 => ?_)
          · refine lv_aload_n hx hb dX5_set_79 rfl (lv_at hl 0 rfl) ?_
            refine lv_iload_n hx hb dX5_set_80 rfl (lv_at hl 1 rfl) ?_
            refine lv_iload_n hx hb dX5_set_81 rfl (lv_at hl 2 rfl) ?_
            refine xu_i (x := iI (61 + 5 * r + w)) (rS (rest := [.ref (a 0)]) hx hb hml hown hts hK hl (c_X5_spot l g r w ) lk_X5_59 trivial rfl rfl rfl (Rm.of rfl) rfl rfl dX5_set_82) ?_
            refine lv_iload_n hx hb dX5_set_85 rfl (lv_at hl 3 rfl) ?_
            refine xm_i (rV (rest := []) hx hb hml hown hts hK hl (c_X5_becomes l g a f1 f2 f3 f4 f5 f6 f7 f8 f9 f10 f11 f12 f13 f20 f21 f22 f23 f24 f25 (61 + 5 * r + w) v (s.heap).size (show 0 ≤ (61 + 5 * r + w) ∧ (61 + 5 * r + w) < 101 from by omega)) lk_X5_102 ⟨rfl, hP, hD.weaken (fun _ _ _ _ => trivial)⟩ (va_recv hK.1 hP (ci := 5) (q0 := 0) rfl rfl) rfl rfl rfl (Rm.of rfl) rfl rfl dX5_set_86) hD hS hA (fun x9 _ H locs hw hP hD hS => ?_)
            obtain rfl : x9 = iI (f1 (61 + 5 * r + w)) := hw
            have hP : va_P g.1 vwCl (wM g a (up f1 (61 + 5 * r + w) v) f2 f3 f4 f5 f6 f7 f8 f9 f10 f11 f12 f13 f20 f21 f22 f23 f24 f25) H := hP
            have hD : va_D (va_A (wM g a f1 f2 f3 f4 f5 f6 f7 f8 f9 f10 f11 f12 f13 f20 f21 f22 f23 f24 f25) s.heap.size) (wM g a (up f1 (61 + 5 * r + w) v) f2 f3 f4 f5 f6 f7 f8 f9 f10 f11 f12 f13 f20 f21 f22 f23 f24 f25) := hD
            have hf : fSet f1 r w v = 0 := by unfold fSet; (repeat (first | rw [if_pos (by omega)] | rw [if_neg (by omega)])); first | done | (exfalso; omega)
            have he32 : (up f1 (61 + 5 * r + w) v) = (if fSet f1 r w v = 0 then up f1 (61 + 5 * r + w) v else f1) := by rw [hf]; rfl
            have hP := Eq.mp (congrArg (fun z9 => va_P g.1 vwCl (wM g a z9 f2 f3 f4 f5 f6 f7 f8 f9 f10 f11 f12 f13 f20 f21 f22 f23 f24 f25) H) he32) hP
            have hD := Eq.mp (congrArg (fun z9 => va_D (va_A (wM g a f1 f2 f3 f4 f5 f6 f7 f8 f9 f10 f11 f12 f13 f20 f21 f22 f23 f24 f25) s.heap.size) (wM g a z9 f2 f3 f4 f5 f6 f7 f8 f9 f10 f11 f12 f13 f20 f21 f22 f23 f24 f25)) he32) hD
            have he33 : f6 = (fb (fSet f1 r w v) f6) := by rw [hf]; rfl
            have hP := Eq.mp (congrArg (fun z9 => va_P g.1 vwCl (wM g a (if fSet f1 r w v = 0 then up f1 (61 + 5 * r + w) v else f1) f2 f3 f4 f5 z9 f7 f8 f9 f10 f11 f12 f13 f20 f21 f22 f23 f24 f25) H) he33) hP
            have hD := Eq.mp (congrArg (fun z9 => va_D (va_A (wM g a f1 f2 f3 f4 f5 f6 f7 f8 f9 f10 f11 f12 f13 f20 f21 f22 f23 f24 f25) s.heap.size) (wM g a (if fSet f1 r w v = 0 then up f1 (61 + 5 * r + w) v else f1) f2 f3 f4 f5 z9 f7 f8 f9 f10 f11 f12 f13 f20 f21 f22 f23 f24 f25)) he33) hD
            have hP : va_P g.1 vwCl (wM g a (if fSet f1 r w v = 0 then up f1 (61 + 5 * r + w) v else f1) f2 f3 f4 f5 (fb (fSet f1 r w v) f6) f7 f8 f9 f10 f11 f12 f13 f20 f21 f22 f23 f24 f25) H := hP
            have hD : va_D (va_A (wM g a f1 f2 f3 f4 f5 f6 f7 f8 f9 f10 f11 f12 f13 f20 f21 f22 f23 f24 f25) s.heap.size) (wM g a (if fSet f1 r w v = 0 then up f1 (61 + 5 * r + w) v else f1) f2 f3 f4 f5 (fb (fSet f1 r w v) f6) f7 f8 f9 f10 f11 f12 f13 f20 f21 f22 f23 f24 f25) := hD
            exact W.iret hx hb hr (fun t ht hW => ⟨⟨_, (), rfl, by rw [hf, ab_0]; (try (repeat (first | rw [if_pos (by omega)] | rw [if_neg (by omega)]))); first | done | rfl | exact congrArg iI (by omega) | exact congrArg iI (by simp only [up]; (repeat (first | rw [if_pos (by omega)] | rw [if_neg (by omega)])); first | done | omega), by rw [ht]; exact hP, hD⟩, hS.F ht⟩) hS.2.2 dX5_set_89
          · refine lv_aload_n hx hb dX5_set_55 rfl (lv_at hl 0 rfl) ?_
            refine lv_iload_n hx hb dX5_set_56 rfl (lv_at hl 3 rfl) ?_
            refine xu_i (x := iI (who f1 v)) (rV (rest := []) hx hb hml hown hts hK hl (c_X5_isIn l g a f1 f2 f3 f4 f5 f6 f7 f8 f9 f10 f11 f12 f13 f20 f21 f22 f23 f24 f25 v (show Inv f1 from hI8) (show IR v from ⟨by omega, by omega⟩)) lk_X5_87 hP (va_recv hK.1 hP (ci := 5) (q0 := 0) rfl rfl) rfl rfl rfl (Rm.of rfl) rfl rfl dX5_set_57) ?_
            refine xi_z_lt (tgt := 79) hx hb ⟨by omega, by omega⟩ dX5_set_60 (by decide) (fun z35 => ?_) (fun z35 => ?_)
            · refine lv_aload_n hx hb dX5_set_79 rfl (lv_at hl 0 rfl) ?_
              refine lv_iload_n hx hb dX5_set_80 rfl (lv_at hl 1 rfl) ?_
              refine lv_iload_n hx hb dX5_set_81 rfl (lv_at hl 2 rfl) ?_
              refine xu_i (x := iI (61 + 5 * r + w)) (rS (rest := [.ref (a 0)]) hx hb hml hown hts hK hl (c_X5_spot l g r w ) lk_X5_59 trivial rfl rfl rfl (Rm.of rfl) rfl rfl dX5_set_82) ?_
              refine lv_iload_n hx hb dX5_set_85 rfl (lv_at hl 3 rfl) ?_
              refine xm_i (rV (rest := []) hx hb hml hown hts hK hl (c_X5_becomes l g a f1 f2 f3 f4 f5 f6 f7 f8 f9 f10 f11 f12 f13 f20 f21 f22 f23 f24 f25 (61 + 5 * r + w) v (s.heap).size (show 0 ≤ (61 + 5 * r + w) ∧ (61 + 5 * r + w) < 101 from by omega)) lk_X5_102 ⟨rfl, hP, hD.weaken (fun _ _ _ _ => trivial)⟩ (va_recv hK.1 hP (ci := 5) (q0 := 0) rfl rfl) rfl rfl rfl (Rm.of rfl) rfl rfl dX5_set_86) hD hS hA (fun x9 _ H locs hw hP hD hS => ?_)
              obtain rfl : x9 = iI (f1 (61 + 5 * r + w)) := hw
              have hP : va_P g.1 vwCl (wM g a (up f1 (61 + 5 * r + w) v) f2 f3 f4 f5 f6 f7 f8 f9 f10 f11 f12 f13 f20 f21 f22 f23 f24 f25) H := hP
              have hD : va_D (va_A (wM g a f1 f2 f3 f4 f5 f6 f7 f8 f9 f10 f11 f12 f13 f20 f21 f22 f23 f24 f25) s.heap.size) (wM g a (up f1 (61 + 5 * r + w) v) f2 f3 f4 f5 f6 f7 f8 f9 f10 f11 f12 f13 f20 f21 f22 f23 f24 f25) := hD
              have hf : fSet f1 r w v = 0 := by unfold fSet; (repeat (first | rw [if_pos (by omega)] | rw [if_neg (by omega)])); first | done | (exfalso; omega)
              have he38 : (up f1 (61 + 5 * r + w) v) = (if fSet f1 r w v = 0 then up f1 (61 + 5 * r + w) v else f1) := by rw [hf]; rfl
              have hP := Eq.mp (congrArg (fun z9 => va_P g.1 vwCl (wM g a z9 f2 f3 f4 f5 f6 f7 f8 f9 f10 f11 f12 f13 f20 f21 f22 f23 f24 f25) H) he38) hP
              have hD := Eq.mp (congrArg (fun z9 => va_D (va_A (wM g a f1 f2 f3 f4 f5 f6 f7 f8 f9 f10 f11 f12 f13 f20 f21 f22 f23 f24 f25) s.heap.size) (wM g a z9 f2 f3 f4 f5 f6 f7 f8 f9 f10 f11 f12 f13 f20 f21 f22 f23 f24 f25)) he38) hD
              have he39 : f6 = (fb (fSet f1 r w v) f6) := by rw [hf]; rfl
              have hP := Eq.mp (congrArg (fun z9 => va_P g.1 vwCl (wM g a (if fSet f1 r w v = 0 then up f1 (61 + 5 * r + w) v else f1) f2 f3 f4 f5 z9 f7 f8 f9 f10 f11 f12 f13 f20 f21 f22 f23 f24 f25) H) he39) hP
              have hD := Eq.mp (congrArg (fun z9 => va_D (va_A (wM g a f1 f2 f3 f4 f5 f6 f7 f8 f9 f10 f11 f12 f13 f20 f21 f22 f23 f24 f25) s.heap.size) (wM g a (if fSet f1 r w v = 0 then up f1 (61 + 5 * r + w) v else f1) f2 f3 f4 f5 z9 f7 f8 f9 f10 f11 f12 f13 f20 f21 f22 f23 f24 f25)) he39) hD
              have hP : va_P g.1 vwCl (wM g a (if fSet f1 r w v = 0 then up f1 (61 + 5 * r + w) v else f1) f2 f3 f4 f5 (fb (fSet f1 r w v) f6) f7 f8 f9 f10 f11 f12 f13 f20 f21 f22 f23 f24 f25) H := hP
              have hD : va_D (va_A (wM g a f1 f2 f3 f4 f5 f6 f7 f8 f9 f10 f11 f12 f13 f20 f21 f22 f23 f24 f25) s.heap.size) (wM g a (if fSet f1 r w v = 0 then up f1 (61 + 5 * r + w) v else f1) f2 f3 f4 f5 (fb (fSet f1 r w v) f6) f7 f8 f9 f10 f11 f12 f13 f20 f21 f22 f23 f24 f25) := hD
              exact W.iret hx hb hr (fun t ht hW => ⟨⟨_, (), rfl, by rw [hf, ab_0]; (try (repeat (first | rw [if_pos (by omega)] | rw [if_neg (by omega)]))); first | done | rfl | exact congrArg iI (by omega) | exact congrArg iI (by simp only [up]; (repeat (first | rw [if_pos (by omega)] | rw [if_neg (by omega)])); first | done | omega), by rw [ht]; exact hP, hD⟩, hS.F ht⟩) hS.2.2 dX5_set_89
            · refine lv_aload_n hx hb dX5_set_63 rfl (lv_at hl 0 rfl) ?_
              refine lv_iload_n hx hb dX5_set_64 rfl (lv_at hl 3 rfl) ?_
              refine xu_i (x := iI (who f1 v)) (rV (rest := []) hx hb hml hown hts hK hl (c_X5_isIn l g a f1 f2 f3 f4 f5 f6 f7 f8 f9 f10 f11 f12 f13 f20 f21 f22 f23 f24 f25 v (show Inv f1 from hI8) (show IR v from ⟨by omega, by omega⟩)) lk_X5_87 hP (va_recv hK.1 hP (ci := 5) (q0 := 0) rfl rfl) rfl rfl rfl (Rm.of rfl) rfl rfl dX5_set_65) ?_
              refine lv_iload_n hx hb dX5_set_68 rfl (lv_at hl 1 rfl) ?_
              refine xi_c_eq (tgt := 79) hx hb ⟨by omega, by omega⟩ ⟨by omega, by omega⟩ dX5_set_69 (by decide) (fun z41 => ?_) (fun z41 => ?_)
              · refine lv_aload_n hx hb dX5_set_79 rfl (lv_at hl 0 rfl) ?_
                refine lv_iload_n hx hb dX5_set_80 rfl (lv_at hl 1 rfl) ?_
                refine lv_iload_n hx hb dX5_set_81 rfl (lv_at hl 2 rfl) ?_
                refine xu_i (x := iI (61 + 5 * r + w)) (rS (rest := [.ref (a 0)]) hx hb hml hown hts hK hl (c_X5_spot l g r w ) lk_X5_59 trivial rfl rfl rfl (Rm.of rfl) rfl rfl dX5_set_82) ?_
                refine lv_iload_n hx hb dX5_set_85 rfl (lv_at hl 3 rfl) ?_
                refine xm_i (rV (rest := []) hx hb hml hown hts hK hl (c_X5_becomes l g a f1 f2 f3 f4 f5 f6 f7 f8 f9 f10 f11 f12 f13 f20 f21 f22 f23 f24 f25 (61 + 5 * r + w) v (s.heap).size (show 0 ≤ (61 + 5 * r + w) ∧ (61 + 5 * r + w) < 101 from by omega)) lk_X5_102 ⟨rfl, hP, hD.weaken (fun _ _ _ _ => trivial)⟩ (va_recv hK.1 hP (ci := 5) (q0 := 0) rfl rfl) rfl rfl rfl (Rm.of rfl) rfl rfl dX5_set_86) hD hS hA (fun x9 _ H locs hw hP hD hS => ?_)
                obtain rfl : x9 = iI (f1 (61 + 5 * r + w)) := hw
                have hP : va_P g.1 vwCl (wM g a (up f1 (61 + 5 * r + w) v) f2 f3 f4 f5 f6 f7 f8 f9 f10 f11 f12 f13 f20 f21 f22 f23 f24 f25) H := hP
                have hD : va_D (va_A (wM g a f1 f2 f3 f4 f5 f6 f7 f8 f9 f10 f11 f12 f13 f20 f21 f22 f23 f24 f25) s.heap.size) (wM g a (up f1 (61 + 5 * r + w) v) f2 f3 f4 f5 f6 f7 f8 f9 f10 f11 f12 f13 f20 f21 f22 f23 f24 f25) := hD
                have hf : fSet f1 r w v = 0 := by unfold fSet; (repeat (first | rw [if_pos (by omega)] | rw [if_neg (by omega)])); first | done | (exfalso; omega)
                have he44 : (up f1 (61 + 5 * r + w) v) = (if fSet f1 r w v = 0 then up f1 (61 + 5 * r + w) v else f1) := by rw [hf]; rfl
                have hP := Eq.mp (congrArg (fun z9 => va_P g.1 vwCl (wM g a z9 f2 f3 f4 f5 f6 f7 f8 f9 f10 f11 f12 f13 f20 f21 f22 f23 f24 f25) H) he44) hP
                have hD := Eq.mp (congrArg (fun z9 => va_D (va_A (wM g a f1 f2 f3 f4 f5 f6 f7 f8 f9 f10 f11 f12 f13 f20 f21 f22 f23 f24 f25) s.heap.size) (wM g a z9 f2 f3 f4 f5 f6 f7 f8 f9 f10 f11 f12 f13 f20 f21 f22 f23 f24 f25)) he44) hD
                have he45 : f6 = (fb (fSet f1 r w v) f6) := by rw [hf]; rfl
                have hP := Eq.mp (congrArg (fun z9 => va_P g.1 vwCl (wM g a (if fSet f1 r w v = 0 then up f1 (61 + 5 * r + w) v else f1) f2 f3 f4 f5 z9 f7 f8 f9 f10 f11 f12 f13 f20 f21 f22 f23 f24 f25) H) he45) hP
                have hD := Eq.mp (congrArg (fun z9 => va_D (va_A (wM g a f1 f2 f3 f4 f5 f6 f7 f8 f9 f10 f11 f12 f13 f20 f21 f22 f23 f24 f25) s.heap.size) (wM g a (if fSet f1 r w v = 0 then up f1 (61 + 5 * r + w) v else f1) f2 f3 f4 f5 z9 f7 f8 f9 f10 f11 f12 f13 f20 f21 f22 f23 f24 f25)) he45) hD
                have hP : va_P g.1 vwCl (wM g a (if fSet f1 r w v = 0 then up f1 (61 + 5 * r + w) v else f1) f2 f3 f4 f5 (fb (fSet f1 r w v) f6) f7 f8 f9 f10 f11 f12 f13 f20 f21 f22 f23 f24 f25) H := hP
                have hD : va_D (va_A (wM g a f1 f2 f3 f4 f5 f6 f7 f8 f9 f10 f11 f12 f13 f20 f21 f22 f23 f24 f25) s.heap.size) (wM g a (if fSet f1 r w v = 0 then up f1 (61 + 5 * r + w) v else f1) f2 f3 f4 f5 (fb (fSet f1 r w v) f6) f7 f8 f9 f10 f11 f12 f13 f20 f21 f22 f23 f24 f25) := hD
                exact W.iret hx hb hr (fun t ht hW => ⟨⟨_, (), rfl, by rw [hf, ab_0]; (try (repeat (first | rw [if_pos (by omega)] | rw [if_neg (by omega)]))); first | done | rfl | exact congrArg iI (by omega) | exact congrArg iI (by simp only [up]; (repeat (first | rw [if_pos (by omega)] | rw [if_neg (by omega)])); first | done | omega), by rw [ht]; exact hP, hD⟩, hS.F ht⟩) hS.2.2 dX5_set_89
              · refine lv_aload_n hx hb dX5_set_72 rfl (lv_at hl 0 rfl) ?_
                refine xi_ldc hx hb hown hts kk_X5_123 dX5_set_73 ?_
                refine xm_i (rV (rest := []) hx hb hml hown hts hK hl (c_X5_finds l g a f1 f2 f3 f4 f5 f6 f7 f8 f9 f10 f11 f12 f13 f20 f21 f22 f23 f24 f25 (-1000000005) (s.heap).size (show 0 ≤ -1000000001 - (-1000000005) ∧ -1000000001 - (-1000000005) < 7 from by omega)) lk_X5_74 ⟨rfl, hP, hD.weaken (fun _ _ _ _ => trivial)⟩ (va_recv hK.1 hP (ci := 5) (q0 := 0) rfl rfl) rfl rfl rfl (Rm.of rfl) rfl rfl dX5_set_75) hD hS hA (fun x9 _ H locs hw hP hD hS => ?_)
                obtain rfl : x9 = iI (-1000000005) := hw
                have hP : va_P g.1 vwCl (wM g a f1 f2 f3 f4 f5 (fb (-1000000000 - (-1000000005)) f6) f7 f8 f9 f10 f11 f12 f13 f20 f21 f22 f23 f24 f25) H := hP
                have hD : va_D (va_A (wM g a f1 f2 f3 f4 f5 f6 f7 f8 f9 f10 f11 f12 f13 f20 f21 f22 f23 f24 f25) s.heap.size) (wM g a f1 f2 f3 f4 f5 (fb (-1000000000 - (-1000000005)) f6) f7 f8 f9 f10 f11 f12 f13 f20 f21 f22 f23 f24 f25) := hD
                have hf : fSet f1 r w v = 5 := by unfold fSet; (repeat (first | rw [if_pos (by omega)] | rw [if_neg (by omega)])); first | done | (exfalso; omega)
                have he47 : f1 = (if fSet f1 r w v = 0 then up f1 (61 + 5 * r + w) v else f1) := by rw [hf]; rfl
                have hP := Eq.mp (congrArg (fun z9 => va_P g.1 vwCl (wM g a z9 f2 f3 f4 f5 (fb (-1000000000 - (-1000000005)) f6) f7 f8 f9 f10 f11 f12 f13 f20 f21 f22 f23 f24 f25) H) he47) hP
                have hD := Eq.mp (congrArg (fun z9 => va_D (va_A (wM g a f1 f2 f3 f4 f5 f6 f7 f8 f9 f10 f11 f12 f13 f20 f21 f22 f23 f24 f25) s.heap.size) (wM g a z9 f2 f3 f4 f5 (fb (-1000000000 - (-1000000005)) f6) f7 f8 f9 f10 f11 f12 f13 f20 f21 f22 f23 f24 f25)) he47) hD
                have he48 : (fb (-1000000000 - (-1000000005)) f6) = (fb (fSet f1 r w v) f6) := by rw [hf]; rfl
                have hP := Eq.mp (congrArg (fun z9 => va_P g.1 vwCl (wM g a (if fSet f1 r w v = 0 then up f1 (61 + 5 * r + w) v else f1) f2 f3 f4 f5 z9 f7 f8 f9 f10 f11 f12 f13 f20 f21 f22 f23 f24 f25) H) he48) hP
                have hD := Eq.mp (congrArg (fun z9 => va_D (va_A (wM g a f1 f2 f3 f4 f5 f6 f7 f8 f9 f10 f11 f12 f13 f20 f21 f22 f23 f24 f25) s.heap.size) (wM g a (if fSet f1 r w v = 0 then up f1 (61 + 5 * r + w) v else f1) f2 f3 f4 f5 z9 f7 f8 f9 f10 f11 f12 f13 f20 f21 f22 f23 f24 f25)) he48) hD
                have hP : va_P g.1 vwCl (wM g a (if fSet f1 r w v = 0 then up f1 (61 + 5 * r + w) v else f1) f2 f3 f4 f5 (fb (fSet f1 r w v) f6) f7 f8 f9 f10 f11 f12 f13 f20 f21 f22 f23 f24 f25) H := hP
                have hD : va_D (va_A (wM g a f1 f2 f3 f4 f5 f6 f7 f8 f9 f10 f11 f12 f13 f20 f21 f22 f23 f24 f25) s.heap.size) (wM g a (if fSet f1 r w v = 0 then up f1 (61 + 5 * r + w) v else f1) f2 f3 f4 f5 (fb (fSet f1 r w v) f6) f7 f8 f9 f10 f11 f12 f13 f20 f21 f22 f23 f24 f25) := hD
                exact W.iret hx hb hr (fun t ht hW => ⟨⟨_, (), rfl, by rw [hf]; rfl, by rw [ht]; exact hP, hD⟩, hS.F ht⟩) hS.2.2 dX5_set_78
        · refine xi_zf_ne hx hb ⟨by decide, by decide⟩ (by decide) dX5_set_40 ⟨50, by decide⟩ ?_
          refine lv_aload_n hx hb dX5_set_43 rfl (lv_at hl 0 rfl) ?_
          refine xi_ldc hx hb hown hts kk_X5_50 dX5_set_44 ?_
          refine xm_i (rV (rest := []) hx hb hml hown hts hK hl (c_X5_finds l g a f1 f2 f3 f4 f5 f6 f7 f8 f9 f10 f11 f12 f13 f20 f21 f22 f23 f24 f25 (-1000000001) (s.heap).size (show 0 ≤ -1000000001 - (-1000000001) ∧ -1000000001 - (-1000000001) < 7 from by omega)) lk_X5_74 ⟨rfl, hP, hD.weaken (fun _ _ _ _ => trivial)⟩ (va_recv hK.1 hP (ci := 5) (q0 := 0) rfl rfl) rfl rfl rfl (Rm.of rfl) rfl rfl dX5_set_46) hD hS hA (fun x9 _ H locs hw hP hD hS => ?_)
          obtain rfl : x9 = iI (-1000000001) := hw
          have hP : va_P g.1 vwCl (wM g a f1 f2 f3 f4 f5 (fb (-1000000000 - (-1000000001)) f6) f7 f8 f9 f10 f11 f12 f13 f20 f21 f22 f23 f24 f25) H := hP
          have hD : va_D (va_A (wM g a f1 f2 f3 f4 f5 f6 f7 f8 f9 f10 f11 f12 f13 f20 f21 f22 f23 f24 f25) s.heap.size) (wM g a f1 f2 f3 f4 f5 (fb (-1000000000 - (-1000000001)) f6) f7 f8 f9 f10 f11 f12 f13 f20 f21 f22 f23 f24 f25) := hD
          have hf : fSet f1 r w v = 1 := by unfold fSet; (repeat (first | rw [if_pos (by omega)] | rw [if_neg (by omega)])); first | done | (exfalso; omega)
          have he50 : f1 = (if fSet f1 r w v = 0 then up f1 (61 + 5 * r + w) v else f1) := by rw [hf]; rfl
          have hP := Eq.mp (congrArg (fun z9 => va_P g.1 vwCl (wM g a z9 f2 f3 f4 f5 (fb (-1000000000 - (-1000000001)) f6) f7 f8 f9 f10 f11 f12 f13 f20 f21 f22 f23 f24 f25) H) he50) hP
          have hD := Eq.mp (congrArg (fun z9 => va_D (va_A (wM g a f1 f2 f3 f4 f5 f6 f7 f8 f9 f10 f11 f12 f13 f20 f21 f22 f23 f24 f25) s.heap.size) (wM g a z9 f2 f3 f4 f5 (fb (-1000000000 - (-1000000001)) f6) f7 f8 f9 f10 f11 f12 f13 f20 f21 f22 f23 f24 f25)) he50) hD
          have he51 : (fb (-1000000000 - (-1000000001)) f6) = (fb (fSet f1 r w v) f6) := by rw [hf]; rfl
          have hP := Eq.mp (congrArg (fun z9 => va_P g.1 vwCl (wM g a (if fSet f1 r w v = 0 then up f1 (61 + 5 * r + w) v else f1) f2 f3 f4 f5 z9 f7 f8 f9 f10 f11 f12 f13 f20 f21 f22 f23 f24 f25) H) he51) hP
          have hD := Eq.mp (congrArg (fun z9 => va_D (va_A (wM g a f1 f2 f3 f4 f5 f6 f7 f8 f9 f10 f11 f12 f13 f20 f21 f22 f23 f24 f25) s.heap.size) (wM g a (if fSet f1 r w v = 0 then up f1 (61 + 5 * r + w) v else f1) f2 f3 f4 f5 z9 f7 f8 f9 f10 f11 f12 f13 f20 f21 f22 f23 f24 f25)) he51) hD
          have hP : va_P g.1 vwCl (wM g a (if fSet f1 r w v = 0 then up f1 (61 + 5 * r + w) v else f1) f2 f3 f4 f5 (fb (fSet f1 r w v) f6) f7 f8 f9 f10 f11 f12 f13 f20 f21 f22 f23 f24 f25) H := hP
          have hD : va_D (va_A (wM g a f1 f2 f3 f4 f5 f6 f7 f8 f9 f10 f11 f12 f13 f20 f21 f22 f23 f24 f25) s.heap.size) (wM g a (if fSet f1 r w v = 0 then up f1 (61 + 5 * r + w) v else f1) f2 f3 f4 f5 (fb (fSet f1 r w v) f6) f7 f8 f9 f10 f11 f12 f13 f20 f21 f22 f23 f24 f25) := hD
          exact W.iret hx hb hr (fun t ht hW => ⟨⟨_, (), rfl, by rw [hf]; rfl, by rw [ht]; exact hP, hD⟩, hS.F ht⟩) hS.2.2 dX5_set_49
    · refine xi_zt_eq (tgt := 43) hx hb ⟨by decide, by decide⟩ (by decide) dX5_set_17 (by decide) ?_
      refine lv_aload_n hx hb dX5_set_43 rfl (lv_at hl 0 rfl) ?_
      refine xi_ldc hx hb hown hts kk_X5_50 dX5_set_44 ?_
      refine xm_i (rV (rest := []) hx hb hml hown hts hK hl (c_X5_finds l g a f1 f2 f3 f4 f5 f6 f7 f8 f9 f10 f11 f12 f13 f20 f21 f22 f23 f24 f25 (-1000000001) (s.heap).size (show 0 ≤ -1000000001 - (-1000000001) ∧ -1000000001 - (-1000000001) < 7 from by omega)) lk_X5_74 ⟨rfl, hP, hD.weaken (fun _ _ _ _ => trivial)⟩ (va_recv hK.1 hP (ci := 5) (q0 := 0) rfl rfl) rfl rfl rfl (Rm.of rfl) rfl rfl dX5_set_46) hD hS hA (fun x9 _ H locs hw hP hD hS => ?_)
      obtain rfl : x9 = iI (-1000000001) := hw
      have hP : va_P g.1 vwCl (wM g a f1 f2 f3 f4 f5 (fb (-1000000000 - (-1000000001)) f6) f7 f8 f9 f10 f11 f12 f13 f20 f21 f22 f23 f24 f25) H := hP
      have hD : va_D (va_A (wM g a f1 f2 f3 f4 f5 f6 f7 f8 f9 f10 f11 f12 f13 f20 f21 f22 f23 f24 f25) s.heap.size) (wM g a f1 f2 f3 f4 f5 (fb (-1000000000 - (-1000000001)) f6) f7 f8 f9 f10 f11 f12 f13 f20 f21 f22 f23 f24 f25) := hD
      have hf : fSet f1 r w v = 1 := by unfold fSet; (repeat (first | rw [if_pos (by omega)] | rw [if_neg (by omega)])); first | done | (exfalso; omega)
      have he53 : f1 = (if fSet f1 r w v = 0 then up f1 (61 + 5 * r + w) v else f1) := by rw [hf]; rfl
      have hP := Eq.mp (congrArg (fun z9 => va_P g.1 vwCl (wM g a z9 f2 f3 f4 f5 (fb (-1000000000 - (-1000000001)) f6) f7 f8 f9 f10 f11 f12 f13 f20 f21 f22 f23 f24 f25) H) he53) hP
      have hD := Eq.mp (congrArg (fun z9 => va_D (va_A (wM g a f1 f2 f3 f4 f5 f6 f7 f8 f9 f10 f11 f12 f13 f20 f21 f22 f23 f24 f25) s.heap.size) (wM g a z9 f2 f3 f4 f5 (fb (-1000000000 - (-1000000001)) f6) f7 f8 f9 f10 f11 f12 f13 f20 f21 f22 f23 f24 f25)) he53) hD
      have he54 : (fb (-1000000000 - (-1000000001)) f6) = (fb (fSet f1 r w v) f6) := by rw [hf]; rfl
      have hP := Eq.mp (congrArg (fun z9 => va_P g.1 vwCl (wM g a (if fSet f1 r w v = 0 then up f1 (61 + 5 * r + w) v else f1) f2 f3 f4 f5 z9 f7 f8 f9 f10 f11 f12 f13 f20 f21 f22 f23 f24 f25) H) he54) hP
      have hD := Eq.mp (congrArg (fun z9 => va_D (va_A (wM g a f1 f2 f3 f4 f5 f6 f7 f8 f9 f10 f11 f12 f13 f20 f21 f22 f23 f24 f25) s.heap.size) (wM g a (if fSet f1 r w v = 0 then up f1 (61 + 5 * r + w) v else f1) f2 f3 f4 f5 z9 f7 f8 f9 f10 f11 f12 f13 f20 f21 f22 f23 f24 f25)) he54) hD
      have hP : va_P g.1 vwCl (wM g a (if fSet f1 r w v = 0 then up f1 (61 + 5 * r + w) v else f1) f2 f3 f4 f5 (fb (fSet f1 r w v) f6) f7 f8 f9 f10 f11 f12 f13 f20 f21 f22 f23 f24 f25) H := hP
      have hD : va_D (va_A (wM g a f1 f2 f3 f4 f5 f6 f7 f8 f9 f10 f11 f12 f13 f20 f21 f22 f23 f24 f25) s.heap.size) (wM g a (if fSet f1 r w v = 0 then up f1 (61 + 5 * r + w) v else f1) f2 f3 f4 f5 (fb (fSet f1 r w v) f6) f7 f8 f9 f10 f11 f12 f13 f20 f21 f22 f23 f24 f25) := hD
      exact W.iret hx hb hr (fun t ht hW => ⟨⟨_, (), rfl, by rw [hf]; rfl, by rw [ht]; exact hP, hD⟩, hS.F ht⟩) hS.2.2 dX5_set_49
  · refine xi_zt_eq (tgt := 43) hx hb ⟨by decide, by decide⟩ (by decide) dX5_set_5 (by decide) ?_
    refine lv_aload_n hx hb dX5_set_43 rfl (lv_at hl 0 rfl) ?_
    refine xi_ldc hx hb hown hts kk_X5_50 dX5_set_44 ?_
    refine xm_i (rV (rest := []) hx hb hml hown hts hK hl (c_X5_finds l g a f1 f2 f3 f4 f5 f6 f7 f8 f9 f10 f11 f12 f13 f20 f21 f22 f23 f24 f25 (-1000000001) (s.heap).size (show 0 ≤ -1000000001 - (-1000000001) ∧ -1000000001 - (-1000000001) < 7 from by omega)) lk_X5_74 ⟨rfl, hP, hD.weaken (fun _ _ _ _ => trivial)⟩ (va_recv hK.1 hP (ci := 5) (q0 := 0) rfl rfl) rfl rfl rfl (Rm.of rfl) rfl rfl dX5_set_46) hD hS hA (fun x9 _ H locs hw hP hD hS => ?_)
    obtain rfl : x9 = iI (-1000000001) := hw
    have hP : va_P g.1 vwCl (wM g a f1 f2 f3 f4 f5 (fb (-1000000000 - (-1000000001)) f6) f7 f8 f9 f10 f11 f12 f13 f20 f21 f22 f23 f24 f25) H := hP
    have hD : va_D (va_A (wM g a f1 f2 f3 f4 f5 f6 f7 f8 f9 f10 f11 f12 f13 f20 f21 f22 f23 f24 f25) s.heap.size) (wM g a f1 f2 f3 f4 f5 (fb (-1000000000 - (-1000000001)) f6) f7 f8 f9 f10 f11 f12 f13 f20 f21 f22 f23 f24 f25) := hD
    have hf : fSet f1 r w v = 1 := by unfold fSet; (repeat (first | rw [if_pos (by omega)] | rw [if_neg (by omega)])); first | done | (exfalso; omega)
    have he56 : f1 = (if fSet f1 r w v = 0 then up f1 (61 + 5 * r + w) v else f1) := by rw [hf]; rfl
    have hP := Eq.mp (congrArg (fun z9 => va_P g.1 vwCl (wM g a z9 f2 f3 f4 f5 (fb (-1000000000 - (-1000000001)) f6) f7 f8 f9 f10 f11 f12 f13 f20 f21 f22 f23 f24 f25) H) he56) hP
    have hD := Eq.mp (congrArg (fun z9 => va_D (va_A (wM g a f1 f2 f3 f4 f5 f6 f7 f8 f9 f10 f11 f12 f13 f20 f21 f22 f23 f24 f25) s.heap.size) (wM g a z9 f2 f3 f4 f5 (fb (-1000000000 - (-1000000001)) f6) f7 f8 f9 f10 f11 f12 f13 f20 f21 f22 f23 f24 f25)) he56) hD
    have he57 : (fb (-1000000000 - (-1000000001)) f6) = (fb (fSet f1 r w v) f6) := by rw [hf]; rfl
    have hP := Eq.mp (congrArg (fun z9 => va_P g.1 vwCl (wM g a (if fSet f1 r w v = 0 then up f1 (61 + 5 * r + w) v else f1) f2 f3 f4 f5 z9 f7 f8 f9 f10 f11 f12 f13 f20 f21 f22 f23 f24 f25) H) he57) hP
    have hD := Eq.mp (congrArg (fun z9 => va_D (va_A (wM g a f1 f2 f3 f4 f5 f6 f7 f8 f9 f10 f11 f12 f13 f20 f21 f22 f23 f24 f25) s.heap.size) (wM g a (if fSet f1 r w v = 0 then up f1 (61 + 5 * r + w) v else f1) f2 f3 f4 f5 z9 f7 f8 f9 f10 f11 f12 f13 f20 f21 f22 f23 f24 f25)) he57) hD
    have hP : va_P g.1 vwCl (wM g a (if fSet f1 r w v = 0 then up f1 (61 + 5 * r + w) v else f1) f2 f3 f4 f5 (fb (fSet f1 r w v) f6) f7 f8 f9 f10 f11 f12 f13 f20 f21 f22 f23 f24 f25) H := hP
    have hD : va_D (va_A (wM g a f1 f2 f3 f4 f5 f6 f7 f8 f9 f10 f11 f12 f13 f20 f21 f22 f23 f24 f25) s.heap.size) (wM g a (if fSet f1 r w v = 0 then up f1 (61 + 5 * r + w) v else f1) f2 f3 f4 f5 (fb (fSet f1 r w v) f6) f7 f8 f9 f10 f11 f12 f13 f20 f21 f22 f23 f24 f25) := hD
    exact W.iret hx hb hr (fun t ht hW => ⟨⟨_, (), rfl, by rw [hf]; rfl, by rw [ht]; exact hP, hD⟩, hS.F ht⟩) hS.2.2 dX5_set_49
abbrev rm_X5_turn : Room := { frames := 2, cells := 0, slots := 0, locals := 46 }
set_option maxRecDepth 100000 in
set_option maxHeartbeats 4000000 in
theorem c_X5_turn (l : Launch) (g : Gd) (a : Nat → Nat) (f1 : Int → Int) (f2 : Int → Int) (f3 : Int → Int) (f4 : Int → Int) (f5 : Int → Int) (f6 : Int → Int) (f7 : Int → Int) (f8 : Int → Int) (f9 : Int → Int) (f10 : Int → Int) (f11 : Int → Int) (f12 : Int → Int) (f13 : Int → Int) (f20 : Int) (f21 : Int) (f22 : Int) (f23 : Int) (f24 : Int) (f25 : Int) (r : Int) (k : Int) (sz : Nat) (h1 : InvK 0 f1) (h2 : f1 0 ≤ 9999) (h3 : IR r) (h4 : IR k) : Met l yX5_turn (wsOf yX5_turn cX5_turn 3 (some .int)) rm_X5_turn (PX g (wP g (wM g a f1 f2 f3 f4 f5 f6 f7 f8 f9 f10 f11 f12 f13 f20 f21 f22 f23 f24 f25) sz) [.ref (a 0), .int (iI r), .int (iI k)]) (QMi g (fun _ : Unit => wM g a (if fTurn f1 r k = 0 then up f1 (61 + 5 * r + 0) k else f1) f2 f3 f4 f5 (fb (fTurn f1 r k) f6) f7 f8 f9 f10 f11 f12 f13 f20 f21 f22 f23 f24 f25) (fun r9 _ => r9 = ab (fTurn f1 r k) (iI (f1 (61 + 5 * r + 0)))) (va_A (wM g a f1 f2 f3 f4 f5 f6 f7 f8 f9 f10 f11 f12 f13 f20 f21 f22 f23 f24 f25) sz)) 0 0 (va_A (wM g a f1 f2 f3 f4 f5 f6 f7 f8 f9 f10 f11 f12 f13 f20 f21 f22 f23 f24 f25) sz) := by
  refine me (g := g) (by decide) rfl ?_
  intro pq eq s mq below meth cq C hnm hB ls hl
  obtain ⟨hx, hb, hr, hml, hown, hts, hlocks, hK⟩ := C
  have hown : s.vm.findClass RX5 = some mq.cls := hown
  have hl : lv_has ls 3 [(0, .ref (a 0)), (1, .int (iI r)), (2, .int (iI k))] := hl
  obtain ⟨hsz, hP, hD0⟩ := hB
  subst hsz
  have hD := hD0.self (sz := s.heap.size)
  have hA : ∀ q : Nat, s.heap.size ≤ q → va_A (wM g a f1 f2 f3 f4 f5 f6 f7 f8 f9 f10 f11 f12 f13 f20 f21 f22 f23 f24 f25) s.heap.size q := fun q h => Or.inr h
  have hS : va_S (va_A (wM g a f1 f2 f3 f4 f5 f6 f7 f8 f9 f10 f11 f12 f13 f20 f21 f22 f23 f24 f25) s.heap.size) s.heap s.heap [] := va_S.rf
  have hI := h1
  have hI8 : Inv f1 := h1.mono (by omega)
  have hn := hI.num
  have hs := hI.sea
  have hv := hI.vil
  have q1 := h3.1
  have q3 := h4.1
  have q2 := h3.2
  have q4 := h4.2
  refine lv_aload_n hx hb dX5_turn_0 rfl (lv_at hl 0 rfl) ?_
  refine lv_iload_n hx hb dX5_turn_1 rfl (lv_at hl 1 rfl) ?_
  refine xu_b (P := 0 ≤ r ∧ r ≤ f1 1 - 1) (rV (rest := []) hx hb hml hown hts hK hl (c_X5_isRange l g a f1 f2 f3 f4 f5 f6 f7 f8 f9 f10 f11 f12 f13 f20 f21 f22 f23 f24 f25 r (show IR r from ⟨by omega, by omega⟩) (show 0 ≤ f1 1 ∧ f1 1 ≤ 8 from by omega)) lk_X5_127 hP (va_recv hK.1 hP (ci := 5) (q0 := 0) rfl rfl) rfl rfl rfl (Rm.of rfl) rfl rfl dX5_turn_2) (fun z1 => ?_) (fun z1 => ?_)
  · refine xi_zf_eq hx hb ⟨by decide, by decide⟩ (by decide) dX5_turn_5 ⟨28, by decide⟩ ?_
    refine lv_iload_n hx hb dX5_turn_8 rfl (lv_at hl 2 rfl) ?_
    refine xu_b (P := 0 ≤ k ∧ k ≤ 5) (rS (rest := []) hx hb hml hown hts hK hl (c_X5_isKind l g k (show IR k from ⟨by omega, by omega⟩)) lk_X5_120 trivial rfl rfl rfl (Rm.of rfl) rfl rfl dX5_turn_9) (fun z2 => ?_) (fun z2 => ?_)
    · refine xi_zf_eq hx hb ⟨by decide, by decide⟩ (by decide) dX5_turn_12 ⟨28, by decide⟩ ?_
      refine lv_aload_n hx hb dX5_turn_15 rfl (lv_at hl 0 rfl) ?_
      refine lv_iload_n hx hb dX5_turn_16 rfl (lv_at hl 1 rfl) ?_
      refine lv_iconst (v := iI (0)) hx hb dX5_turn_17 (by decide) ?_
      refine xu_i (x := iI (61 + 5 * r + 0)) (rS (rest := [.ref (a 0)]) hx hb hml hown hts hK hl (c_X5_spot l g r 0 ) lk_X5_59 trivial rfl rfl rfl (Rm.of rfl) rfl rfl dX5_turn_18) ?_
      refine lv_iload_n hx hb dX5_turn_21 rfl (lv_at hl 2 rfl) ?_
      refine xm_i (rV (rest := []) hx hb hml hown hts hK hl (c_X5_becomes l g a f1 f2 f3 f4 f5 f6 f7 f8 f9 f10 f11 f12 f13 f20 f21 f22 f23 f24 f25 (61 + 5 * r + 0) k (s.heap).size (show 0 ≤ (61 + 5 * r + 0) ∧ (61 + 5 * r + 0) < 101 from by omega)) lk_X5_102 ⟨rfl, hP, hD.weaken (fun _ _ _ _ => trivial)⟩ (va_recv hK.1 hP (ci := 5) (q0 := 0) rfl rfl) rfl rfl rfl (Rm.of rfl) rfl rfl dX5_turn_22) hD hS hA (fun x9 _ H locs hw hP hD hS => ?_)
      obtain rfl : x9 = iI (f1 (61 + 5 * r + 0)) := hw
      have hP : va_P g.1 vwCl (wM g a (up f1 (61 + 5 * r + 0) k) f2 f3 f4 f5 f6 f7 f8 f9 f10 f11 f12 f13 f20 f21 f22 f23 f24 f25) H := hP
      have hD : va_D (va_A (wM g a f1 f2 f3 f4 f5 f6 f7 f8 f9 f10 f11 f12 f13 f20 f21 f22 f23 f24 f25) s.heap.size) (wM g a (up f1 (61 + 5 * r + 0) k) f2 f3 f4 f5 f6 f7 f8 f9 f10 f11 f12 f13 f20 f21 f22 f23 f24 f25) := hD
      refine lv_goto (tgt := 34) hx hb dX5_turn_25 (by decide) ?_
      have hf : fTurn f1 r k = 0 := by unfold fTurn; (repeat (first | rw [if_pos (by omega)] | rw [if_neg (by omega)])); first | done | (exfalso; omega)
      have he5 : (up f1 (61 + 5 * r + 0) k) = (if fTurn f1 r k = 0 then up f1 (61 + 5 * r + 0) k else f1) := by rw [hf]; rfl
      have hP := Eq.mp (congrArg (fun z9 => va_P g.1 vwCl (wM g a z9 f2 f3 f4 f5 f6 f7 f8 f9 f10 f11 f12 f13 f20 f21 f22 f23 f24 f25) H) he5) hP
      have hD := Eq.mp (congrArg (fun z9 => va_D (va_A (wM g a f1 f2 f3 f4 f5 f6 f7 f8 f9 f10 f11 f12 f13 f20 f21 f22 f23 f24 f25) s.heap.size) (wM g a z9 f2 f3 f4 f5 f6 f7 f8 f9 f10 f11 f12 f13 f20 f21 f22 f23 f24 f25)) he5) hD
      have he6 : f6 = (fb (fTurn f1 r k) f6) := by rw [hf]; rfl
      have hP := Eq.mp (congrArg (fun z9 => va_P g.1 vwCl (wM g a (if fTurn f1 r k = 0 then up f1 (61 + 5 * r + 0) k else f1) f2 f3 f4 f5 z9 f7 f8 f9 f10 f11 f12 f13 f20 f21 f22 f23 f24 f25) H) he6) hP
      have hD := Eq.mp (congrArg (fun z9 => va_D (va_A (wM g a f1 f2 f3 f4 f5 f6 f7 f8 f9 f10 f11 f12 f13 f20 f21 f22 f23 f24 f25) s.heap.size) (wM g a (if fTurn f1 r k = 0 then up f1 (61 + 5 * r + 0) k else f1) f2 f3 f4 f5 z9 f7 f8 f9 f10 f11 f12 f13 f20 f21 f22 f23 f24 f25)) he6) hD
      have hP : va_P g.1 vwCl (wM g a (if fTurn f1 r k = 0 then up f1 (61 + 5 * r + 0) k else f1) f2 f3 f4 f5 (fb (fTurn f1 r k) f6) f7 f8 f9 f10 f11 f12 f13 f20 f21 f22 f23 f24 f25) H := hP
      have hD : va_D (va_A (wM g a f1 f2 f3 f4 f5 f6 f7 f8 f9 f10 f11 f12 f13 f20 f21 f22 f23 f24 f25) s.heap.size) (wM g a (if fTurn f1 r k = 0 then up f1 (61 + 5 * r + 0) k else f1) f2 f3 f4 f5 (fb (fTurn f1 r k) f6) f7 f8 f9 f10 f11 f12 f13 f20 f21 f22 f23 f24 f25) := hD
      exact W.iret hx hb hr (fun t ht hW => ⟨⟨_, (), rfl, by rw [hf, ab_0]; (try (repeat (first | rw [if_pos (by omega)] | rw [if_neg (by omega)]))); first | done | rfl | exact congrArg iI (by omega) | exact congrArg iI (by simp only [up]; (repeat (first | rw [if_pos (by omega)] | rw [if_neg (by omega)])); first | done | omega), by rw [ht]; exact hP, hD⟩, hS.F ht⟩) hS.2.2 dX5_turn_34
    · refine xi_zt_eq (tgt := 28) hx hb ⟨by decide, by decide⟩ (by decide) dX5_turn_12 (by decide) ?_
      refine lv_aload_n hx hb dX5_turn_28 rfl (lv_at hl 0 rfl) ?_
      refine xi_ldc hx hb hown hts kk_X5_50 dX5_turn_29 ?_
      refine xm_i (rV (rest := []) hx hb hml hown hts hK hl (c_X5_finds l g a f1 f2 f3 f4 f5 f6 f7 f8 f9 f10 f11 f12 f13 f20 f21 f22 f23 f24 f25 (-1000000001) (s.heap).size (show 0 ≤ -1000000001 - (-1000000001) ∧ -1000000001 - (-1000000001) < 7 from by omega)) lk_X5_74 ⟨rfl, hP, hD.weaken (fun _ _ _ _ => trivial)⟩ (va_recv hK.1 hP (ci := 5) (q0 := 0) rfl rfl) rfl rfl rfl (Rm.of rfl) rfl rfl dX5_turn_31) hD hS hA (fun x9 _ H locs hw hP hD hS => ?_)
      obtain rfl : x9 = iI (-1000000001) := hw
      have hP : va_P g.1 vwCl (wM g a f1 f2 f3 f4 f5 (fb (-1000000000 - (-1000000001)) f6) f7 f8 f9 f10 f11 f12 f13 f20 f21 f22 f23 f24 f25) H := hP
      have hD : va_D (va_A (wM g a f1 f2 f3 f4 f5 f6 f7 f8 f9 f10 f11 f12 f13 f20 f21 f22 f23 f24 f25) s.heap.size) (wM g a f1 f2 f3 f4 f5 (fb (-1000000000 - (-1000000001)) f6) f7 f8 f9 f10 f11 f12 f13 f20 f21 f22 f23 f24 f25) := hD
      have hf : fTurn f1 r k = 1 := by unfold fTurn; (repeat (first | rw [if_pos (by omega)] | rw [if_neg (by omega)])); first | done | (exfalso; omega)
      have he8 : f1 = (if fTurn f1 r k = 0 then up f1 (61 + 5 * r + 0) k else f1) := by rw [hf]; rfl
      have hP := Eq.mp (congrArg (fun z9 => va_P g.1 vwCl (wM g a z9 f2 f3 f4 f5 (fb (-1000000000 - (-1000000001)) f6) f7 f8 f9 f10 f11 f12 f13 f20 f21 f22 f23 f24 f25) H) he8) hP
      have hD := Eq.mp (congrArg (fun z9 => va_D (va_A (wM g a f1 f2 f3 f4 f5 f6 f7 f8 f9 f10 f11 f12 f13 f20 f21 f22 f23 f24 f25) s.heap.size) (wM g a z9 f2 f3 f4 f5 (fb (-1000000000 - (-1000000001)) f6) f7 f8 f9 f10 f11 f12 f13 f20 f21 f22 f23 f24 f25)) he8) hD
      have he9 : (fb (-1000000000 - (-1000000001)) f6) = (fb (fTurn f1 r k) f6) := by rw [hf]; rfl
      have hP := Eq.mp (congrArg (fun z9 => va_P g.1 vwCl (wM g a (if fTurn f1 r k = 0 then up f1 (61 + 5 * r + 0) k else f1) f2 f3 f4 f5 z9 f7 f8 f9 f10 f11 f12 f13 f20 f21 f22 f23 f24 f25) H) he9) hP
      have hD := Eq.mp (congrArg (fun z9 => va_D (va_A (wM g a f1 f2 f3 f4 f5 f6 f7 f8 f9 f10 f11 f12 f13 f20 f21 f22 f23 f24 f25) s.heap.size) (wM g a (if fTurn f1 r k = 0 then up f1 (61 + 5 * r + 0) k else f1) f2 f3 f4 f5 z9 f7 f8 f9 f10 f11 f12 f13 f20 f21 f22 f23 f24 f25)) he9) hD
      have hP : va_P g.1 vwCl (wM g a (if fTurn f1 r k = 0 then up f1 (61 + 5 * r + 0) k else f1) f2 f3 f4 f5 (fb (fTurn f1 r k) f6) f7 f8 f9 f10 f11 f12 f13 f20 f21 f22 f23 f24 f25) H := hP
      have hD : va_D (va_A (wM g a f1 f2 f3 f4 f5 f6 f7 f8 f9 f10 f11 f12 f13 f20 f21 f22 f23 f24 f25) s.heap.size) (wM g a (if fTurn f1 r k = 0 then up f1 (61 + 5 * r + 0) k else f1) f2 f3 f4 f5 (fb (fTurn f1 r k) f6) f7 f8 f9 f10 f11 f12 f13 f20 f21 f22 f23 f24 f25) := hD
      exact W.iret hx hb hr (fun t ht hW => ⟨⟨_, (), rfl, by rw [hf]; rfl, by rw [ht]; exact hP, hD⟩, hS.F ht⟩) hS.2.2 dX5_turn_34
  · refine xi_zt_eq (tgt := 28) hx hb ⟨by decide, by decide⟩ (by decide) dX5_turn_5 (by decide) ?_
    refine lv_aload_n hx hb dX5_turn_28 rfl (lv_at hl 0 rfl) ?_
    refine xi_ldc hx hb hown hts kk_X5_50 dX5_turn_29 ?_
    refine xm_i (rV (rest := []) hx hb hml hown hts hK hl (c_X5_finds l g a f1 f2 f3 f4 f5 f6 f7 f8 f9 f10 f11 f12 f13 f20 f21 f22 f23 f24 f25 (-1000000001) (s.heap).size (show 0 ≤ -1000000001 - (-1000000001) ∧ -1000000001 - (-1000000001) < 7 from by omega)) lk_X5_74 ⟨rfl, hP, hD.weaken (fun _ _ _ _ => trivial)⟩ (va_recv hK.1 hP (ci := 5) (q0 := 0) rfl rfl) rfl rfl rfl (Rm.of rfl) rfl rfl dX5_turn_31) hD hS hA (fun x9 _ H locs hw hP hD hS => ?_)
    obtain rfl : x9 = iI (-1000000001) := hw
    have hP : va_P g.1 vwCl (wM g a f1 f2 f3 f4 f5 (fb (-1000000000 - (-1000000001)) f6) f7 f8 f9 f10 f11 f12 f13 f20 f21 f22 f23 f24 f25) H := hP
    have hD : va_D (va_A (wM g a f1 f2 f3 f4 f5 f6 f7 f8 f9 f10 f11 f12 f13 f20 f21 f22 f23 f24 f25) s.heap.size) (wM g a f1 f2 f3 f4 f5 (fb (-1000000000 - (-1000000001)) f6) f7 f8 f9 f10 f11 f12 f13 f20 f21 f22 f23 f24 f25) := hD
    have hf : fTurn f1 r k = 1 := by unfold fTurn; (repeat (first | rw [if_pos (by omega)] | rw [if_neg (by omega)])); first | done | (exfalso; omega)
    have he11 : f1 = (if fTurn f1 r k = 0 then up f1 (61 + 5 * r + 0) k else f1) := by rw [hf]; rfl
    have hP := Eq.mp (congrArg (fun z9 => va_P g.1 vwCl (wM g a z9 f2 f3 f4 f5 (fb (-1000000000 - (-1000000001)) f6) f7 f8 f9 f10 f11 f12 f13 f20 f21 f22 f23 f24 f25) H) he11) hP
    have hD := Eq.mp (congrArg (fun z9 => va_D (va_A (wM g a f1 f2 f3 f4 f5 f6 f7 f8 f9 f10 f11 f12 f13 f20 f21 f22 f23 f24 f25) s.heap.size) (wM g a z9 f2 f3 f4 f5 (fb (-1000000000 - (-1000000001)) f6) f7 f8 f9 f10 f11 f12 f13 f20 f21 f22 f23 f24 f25)) he11) hD
    have he12 : (fb (-1000000000 - (-1000000001)) f6) = (fb (fTurn f1 r k) f6) := by rw [hf]; rfl
    have hP := Eq.mp (congrArg (fun z9 => va_P g.1 vwCl (wM g a (if fTurn f1 r k = 0 then up f1 (61 + 5 * r + 0) k else f1) f2 f3 f4 f5 z9 f7 f8 f9 f10 f11 f12 f13 f20 f21 f22 f23 f24 f25) H) he12) hP
    have hD := Eq.mp (congrArg (fun z9 => va_D (va_A (wM g a f1 f2 f3 f4 f5 f6 f7 f8 f9 f10 f11 f12 f13 f20 f21 f22 f23 f24 f25) s.heap.size) (wM g a (if fTurn f1 r k = 0 then up f1 (61 + 5 * r + 0) k else f1) f2 f3 f4 f5 z9 f7 f8 f9 f10 f11 f12 f13 f20 f21 f22 f23 f24 f25)) he12) hD
    have hP : va_P g.1 vwCl (wM g a (if fTurn f1 r k = 0 then up f1 (61 + 5 * r + 0) k else f1) f2 f3 f4 f5 (fb (fTurn f1 r k) f6) f7 f8 f9 f10 f11 f12 f13 f20 f21 f22 f23 f24 f25) H := hP
    have hD : va_D (va_A (wM g a f1 f2 f3 f4 f5 f6 f7 f8 f9 f10 f11 f12 f13 f20 f21 f22 f23 f24 f25) s.heap.size) (wM g a (if fTurn f1 r k = 0 then up f1 (61 + 5 * r + 0) k else f1) f2 f3 f4 f5 (fb (fTurn f1 r k) f6) f7 f8 f9 f10 f11 f12 f13 f20 f21 f22 f23 f24 f25) := hD
    exact W.iret hx hb hr (fun t ht hW => ⟨⟨_, (), rfl, by rw [hf]; rfl, by rw [ht]; exact hP, hD⟩, hS.F ht⟩) hS.2.2 dX5_turn_34
abbrev rm_X5_level : Room := { frames := 2, cells := 0, slots := 0, locals := 46 }
set_option maxRecDepth 100000 in
set_option maxHeartbeats 4000000 in
theorem c_X5_level (l : Launch) (g : Gd) (a : Nat → Nat) (f1 : Int → Int) (f2 : Int → Int) (f3 : Int → Int) (f4 : Int → Int) (f5 : Int → Int) (f6 : Int → Int) (f7 : Int → Int) (f8 : Int → Int) (f9 : Int → Int) (f10 : Int → Int) (f11 : Int → Int) (f12 : Int → Int) (f13 : Int → Int) (f20 : Int) (f21 : Int) (f22 : Int) (f23 : Int) (f24 : Int) (f25 : Int) (r : Int) (sz : Nat) (h1 : InvK 0 f1) (h2 : f1 0 ≤ 9999) (h3 : IR r) : Met l yX5_level (wsOf yX5_level cX5_level 3 (some .int)) rm_X5_level (PX g (wP g (wM g a f1 f2 f3 f4 f5 f6 f7 f8 f9 f10 f11 f12 f13 f20 f21 f22 f23 f24 f25) sz) [.ref (a 0), .int (iI r)]) (QMi g (fun _ : Unit => wM g a (if fLev f1 r = 0 then nLev f1 r else f1) f2 f3 f4 f5 (fb (fLev f1 r) f6) f7 f8 f9 f10 f11 f12 f13 f20 f21 f22 f23 f24 f25) (fun r9 _ => r9 = ab (fLev f1 r) (iI (f1 (61 + 5 * r + 3)))) (va_A (wM g a f1 f2 f3 f4 f5 f6 f7 f8 f9 f10 f11 f12 f13 f20 f21 f22 f23 f24 f25) sz)) 0 0 (va_A (wM g a f1 f2 f3 f4 f5 f6 f7 f8 f9 f10 f11 f12 f13 f20 f21 f22 f23 f24 f25) sz) := by
  refine me (g := g) (by decide) rfl ?_
  intro pq eq s mq below meth cq C hnm hB ls hl
  obtain ⟨hx, hb, hr, hml, hown, hts, hlocks, hK⟩ := C
  have hown : s.vm.findClass RX5 = some mq.cls := hown
  have hl : lv_has ls 3 [(0, .ref (a 0)), (1, .int (iI r))] := hl
  obtain ⟨hsz, hP, hD0⟩ := hB
  subst hsz
  have hD := hD0.self (sz := s.heap.size)
  have hA : ∀ q : Nat, s.heap.size ≤ q → va_A (wM g a f1 f2 f3 f4 f5 f6 f7 f8 f9 f10 f11 f12 f13 f20 f21 f22 f23 f24 f25) s.heap.size q := fun q h => Or.inr h
  have hS : va_S (va_A (wM g a f1 f2 f3 f4 f5 f6 f7 f8 f9 f10 f11 f12 f13 f20 f21 f22 f23 f24 f25) s.heap.size) s.heap s.heap [] := va_S.rf
  have hI := h1
  have hI8 : Inv f1 := h1.mono (by omega)
  have hn := hI.num
  have hs := hI.sea
  have hv := hI.vil
  have q1 := h3.1
  have q2 := h3.2
  refine lv_aload_n hx hb dX5_level_0 rfl (lv_at hl 0 rfl) ?_
  refine lv_iload_n hx hb dX5_level_1 rfl (lv_at hl 1 rfl) ?_
  refine xu_b (P := 0 ≤ r ∧ r ≤ f1 1 - 1) (rV (rest := []) hx hb hml hown hts hK hl (c_X5_isRange l g a f1 f2 f3 f4 f5 f6 f7 f8 f9 f10 f11 f12 f13 f20 f21 f22 f23 f24 f25 r (show IR r from ⟨by omega, by omega⟩) (show 0 ≤ f1 1 ∧ f1 1 ≤ 8 from by omega)) lk_X5_127 hP (va_recv hK.1 hP (ci := 5) (q0 := 0) rfl rfl) rfl rfl rfl (Rm.of rfl) rfl rfl dX5_level_2) (fun z1 => ?_) (fun z1 => ?_)
  · refine xi_zt_ne (tgt := 15) hx hb ⟨by decide, by decide⟩ (by decide) dX5_level_5 (by decide) ?_
    refine lv_aload_n hx hb dX5_level_15 rfl (lv_at hl 0 rfl) ?_
    refine lv_iload_n hx hb dX5_level_16 rfl (lv_at hl 1 rfl) ?_
    refine lv_iconst (v := iI (3)) hx hb dX5_level_17 (by decide) ?_
    refine xu_i (x := iI (f1 (61 + 5 * r + 3))) (rV (rest := []) hx hb hml hown hts hK hl (c_X5_its l g a f1 f2 f3 f4 f5 f6 f7 f8 f9 f10 f11 f12 f13 f20 f21 f22 f23 f24 f25 r 3 (show 0 ≤ 61 + 5 * r + 3 ∧ 61 + 5 * r + 3 < 101 from by omega)) lk_X5_63 hP (va_recv hK.1 hP (ci := 5) (q0 := 0) rfl rfl) rfl rfl rfl (Rm.of rfl) rfl rfl dX5_level_18) ?_
    refine lv_istore_n (lv' := [(2, .int (iI (f1 (61 + 5 * r + 3)))), (0, .ref (a 0)), (1, .int (iI r))]) hx hb dX5_level_21 rfl hl (by decide) rfl (fun ls hl => ?_)
    refine lv_aload_n hx hb dX5_level_22 rfl (lv_at hl 1 rfl) ?_
    refine lv_iload_n hx hb dX5_level_23 rfl (lv_at hl 2 rfl) ?_
    refine xm_v (rV (rest := []) hx hb hml hown hts hK hl (c_X5_levels l g a f1 f2 f3 f4 f5 f6 f7 f8 f9 f10 f11 f12 f13 f20 f21 f22 f23 f24 f25 r (s.heap).size (show 0 ≤ r ∧ r < f1 1 from by omega) (show 0 ≤ f1 1 ∧ f1 1 ≤ 8 from by omega)) lk_X5_142 ⟨rfl, hP, hD.weaken (fun _ _ _ _ => trivial)⟩ (va_recv hK.1 hP (ci := 5) (q0 := 0) rfl rfl) rfl rfl rfl (Rm.of rfl) rfl rfl dX5_level_24) hD hS hA (fun _ H locs hw hP hD hS => ?_)
    have hP : va_P g.1 vwCl (wM g a (up (lvT f1 (61 + 5 * r + 0) (61 + 5 * (f1 1 - 1) + 0)) 1 (f1 1 - 1)) f2 f3 f4 f5 f6 f7 f8 f9 f10 f11 f12 f13 f20 f21 f22 f23 f24 f25) H := hP
    have hD : va_D (va_A (wM g a f1 f2 f3 f4 f5 f6 f7 f8 f9 f10 f11 f12 f13 f20 f21 f22 f23 f24 f25) s.heap.size) (wM g a (up (lvT f1 (61 + 5 * r + 0) (61 + 5 * (f1 1 - 1) + 0)) 1 (f1 1 - 1)) f2 f3 f4 f5 f6 f7 f8 f9 f10 f11 f12 f13 f20 f21 f22 f23 f24 f25) := hD
    refine lv_iload_n hx hb dX5_level_27 rfl (lv_at hl 0 rfl) ?_
    have hf : fLev f1 r = 0 := by unfold fLev; (repeat (first | rw [if_pos (by omega)] | rw [if_neg (by omega)])); first | done | (exfalso; omega)
    have he4 : (up (lvT f1 (61 + 5 * r + 0) (61 + 5 * (f1 1 - 1) + 0)) 1 (f1 1 - 1)) = (if fLev f1 r = 0 then nLev f1 r else f1) := by rw [hf]; rfl
    have hP := Eq.mp (congrArg (fun z9 => va_P g.1 vwCl (wM g a z9 f2 f3 f4 f5 f6 f7 f8 f9 f10 f11 f12 f13 f20 f21 f22 f23 f24 f25) H) he4) hP
    have hD := Eq.mp (congrArg (fun z9 => va_D (va_A (wM g a f1 f2 f3 f4 f5 f6 f7 f8 f9 f10 f11 f12 f13 f20 f21 f22 f23 f24 f25) s.heap.size) (wM g a z9 f2 f3 f4 f5 f6 f7 f8 f9 f10 f11 f12 f13 f20 f21 f22 f23 f24 f25)) he4) hD
    have he5 : f6 = (fb (fLev f1 r) f6) := by rw [hf]; rfl
    have hP := Eq.mp (congrArg (fun z9 => va_P g.1 vwCl (wM g a (if fLev f1 r = 0 then nLev f1 r else f1) f2 f3 f4 f5 z9 f7 f8 f9 f10 f11 f12 f13 f20 f21 f22 f23 f24 f25) H) he5) hP
    have hD := Eq.mp (congrArg (fun z9 => va_D (va_A (wM g a f1 f2 f3 f4 f5 f6 f7 f8 f9 f10 f11 f12 f13 f20 f21 f22 f23 f24 f25) s.heap.size) (wM g a (if fLev f1 r = 0 then nLev f1 r else f1) f2 f3 f4 f5 z9 f7 f8 f9 f10 f11 f12 f13 f20 f21 f22 f23 f24 f25)) he5) hD
    have hP : va_P g.1 vwCl (wM g a (if fLev f1 r = 0 then nLev f1 r else f1) f2 f3 f4 f5 (fb (fLev f1 r) f6) f7 f8 f9 f10 f11 f12 f13 f20 f21 f22 f23 f24 f25) H := hP
    have hD : va_D (va_A (wM g a f1 f2 f3 f4 f5 f6 f7 f8 f9 f10 f11 f12 f13 f20 f21 f22 f23 f24 f25) s.heap.size) (wM g a (if fLev f1 r = 0 then nLev f1 r else f1) f2 f3 f4 f5 (fb (fLev f1 r) f6) f7 f8 f9 f10 f11 f12 f13 f20 f21 f22 f23 f24 f25) := hD
    exact W.iret hx hb hr (fun t ht hW => ⟨⟨_, (), rfl, by rw [hf, ab_0]; (try (repeat (first | rw [if_pos (by omega)] | rw [if_neg (by omega)]))); first | done | rfl | exact congrArg iI (by omega) | exact congrArg iI (by simp only [up]; (repeat (first | rw [if_pos (by omega)] | rw [if_neg (by omega)])); first | done | omega), by rw [ht]; exact hP, hD⟩, hS.F ht⟩) hS.2.2 dX5_level_28
  · refine xi_zf_ne hx hb ⟨by decide, by decide⟩ (by decide) dX5_level_5 ⟨15, by decide⟩ ?_
    refine lv_aload_n hx hb dX5_level_8 rfl (lv_at hl 0 rfl) ?_
    refine xi_ldc hx hb hown hts kk_X5_50 dX5_level_9 ?_
    refine xm_i (rV (rest := []) hx hb hml hown hts hK hl (c_X5_finds l g a f1 f2 f3 f4 f5 f6 f7 f8 f9 f10 f11 f12 f13 f20 f21 f22 f23 f24 f25 (-1000000001) (s.heap).size (show 0 ≤ -1000000001 - (-1000000001) ∧ -1000000001 - (-1000000001) < 7 from by omega)) lk_X5_74 ⟨rfl, hP, hD.weaken (fun _ _ _ _ => trivial)⟩ (va_recv hK.1 hP (ci := 5) (q0 := 0) rfl rfl) rfl rfl rfl (Rm.of rfl) rfl rfl dX5_level_11) hD hS hA (fun x9 _ H locs hw hP hD hS => ?_)
    obtain rfl : x9 = iI (-1000000001) := hw
    have hP : va_P g.1 vwCl (wM g a f1 f2 f3 f4 f5 (fb (-1000000000 - (-1000000001)) f6) f7 f8 f9 f10 f11 f12 f13 f20 f21 f22 f23 f24 f25) H := hP
    have hD : va_D (va_A (wM g a f1 f2 f3 f4 f5 f6 f7 f8 f9 f10 f11 f12 f13 f20 f21 f22 f23 f24 f25) s.heap.size) (wM g a f1 f2 f3 f4 f5 (fb (-1000000000 - (-1000000001)) f6) f7 f8 f9 f10 f11 f12 f13 f20 f21 f22 f23 f24 f25) := hD
    have hf : fLev f1 r = 1 := by unfold fLev; (repeat (first | rw [if_pos (by omega)] | rw [if_neg (by omega)])); first | done | (exfalso; omega)
    have he7 : f1 = (if fLev f1 r = 0 then nLev f1 r else f1) := by rw [hf]; rfl
    have hP := Eq.mp (congrArg (fun z9 => va_P g.1 vwCl (wM g a z9 f2 f3 f4 f5 (fb (-1000000000 - (-1000000001)) f6) f7 f8 f9 f10 f11 f12 f13 f20 f21 f22 f23 f24 f25) H) he7) hP
    have hD := Eq.mp (congrArg (fun z9 => va_D (va_A (wM g a f1 f2 f3 f4 f5 f6 f7 f8 f9 f10 f11 f12 f13 f20 f21 f22 f23 f24 f25) s.heap.size) (wM g a z9 f2 f3 f4 f5 (fb (-1000000000 - (-1000000001)) f6) f7 f8 f9 f10 f11 f12 f13 f20 f21 f22 f23 f24 f25)) he7) hD
    have he8 : (fb (-1000000000 - (-1000000001)) f6) = (fb (fLev f1 r) f6) := by rw [hf]; rfl
    have hP := Eq.mp (congrArg (fun z9 => va_P g.1 vwCl (wM g a (if fLev f1 r = 0 then nLev f1 r else f1) f2 f3 f4 f5 z9 f7 f8 f9 f10 f11 f12 f13 f20 f21 f22 f23 f24 f25) H) he8) hP
    have hD := Eq.mp (congrArg (fun z9 => va_D (va_A (wM g a f1 f2 f3 f4 f5 f6 f7 f8 f9 f10 f11 f12 f13 f20 f21 f22 f23 f24 f25) s.heap.size) (wM g a (if fLev f1 r = 0 then nLev f1 r else f1) f2 f3 f4 f5 z9 f7 f8 f9 f10 f11 f12 f13 f20 f21 f22 f23 f24 f25)) he8) hD
    have hP : va_P g.1 vwCl (wM g a (if fLev f1 r = 0 then nLev f1 r else f1) f2 f3 f4 f5 (fb (fLev f1 r) f6) f7 f8 f9 f10 f11 f12 f13 f20 f21 f22 f23 f24 f25) H := hP
    have hD : va_D (va_A (wM g a f1 f2 f3 f4 f5 f6 f7 f8 f9 f10 f11 f12 f13 f20 f21 f22 f23 f24 f25) s.heap.size) (wM g a (if fLev f1 r = 0 then nLev f1 r else f1) f2 f3 f4 f5 (fb (fLev f1 r) f6) f7 f8 f9 f10 f11 f12 f13 f20 f21 f22 f23 f24 f25) := hD
    exact W.iret hx hb hr (fun t ht hW => ⟨⟨_, (), rfl, by rw [hf]; rfl, by rw [ht]; exact hP, hD⟩, hS.F ht⟩) hS.2.2 dX5_level_14

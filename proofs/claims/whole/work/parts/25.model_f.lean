abbrev rm_X5_on : Room := { frames := 7, cells := 0, slots := 0, locals := 156 }
set_option maxRecDepth 100000 in
set_option maxHeartbeats 4000000 in
theorem c_X5_on (l : Launch) (g : Gd) (a : Nat → Nat) (f1 : Int → Int) (f2 : Int → Int) (f3 : Int → Int) (f4 : Int → Int) (f5 : Int → Int) (f6 : Int → Int) (f7 : Int → Int) (f8 : Int → Int) (f9 : Int → Int) (f10 : Int → Int) (f11 : Int → Int) (f12 : Int → Int) (f13 : Int → Int) (f20 : Int) (f21 : Int) (f22 : Int) (f23 : Int) (f24 : Int) (f25 : Int) (r : Int) (n : Int) (w : Int) (sz : Nat) (h1 : InvK 0 f1) (h2 : f1 0 ≤ 9999) (h3 : IR r) (h4 : IR n) (h5 : IR w) : Met l yX5_on (wsOf yX5_on cX5_on 4 (some .int)) rm_X5_on (PX g (wP g (wM g a f1 f2 f3 f4 f5 f6 f7 f8 f9 f10 f11 f12 f13 f20 f21 f22 f23 f24 f25) sz) [.ref (a 0), .int (iI r), .int (iI n), .int (iI w)]) (QMi g (fun u9 : Nat → Int → Int => wM g a f1 f2 f3 (u9 4) f5 (fb (fOn f1 r n w) f6) (u9 7) f8 f9 f10 f11 f12 f13 f20 f21 f22 f23 f24 f25) (fun r9 _ => r9 = ab (fOn f1 r n w) (iI (aOn f1 r n w))) (va_A (wM g a f1 f2 f3 f4 f5 f6 f7 f8 f9 f10 f11 f12 f13 f20 f21 f22 f23 f24 f25) sz)) 0 0 (va_A (wM g a f1 f2 f3 f4 f5 f6 f7 f8 f9 f10 f11 f12 f13 f20 f21 f22 f23 f24 f25) sz) := by
  refine me (g := g) (by decide) rfl ?_
  intro pq eq s mq below meth cq C hnm hB ls hl
  obtain ⟨hx, hb, hr, hml, hown, hts, hlocks, hK⟩ := C
  have hown : s.vm.findClass RX5 = some mq.cls := hown
  have hl : lv_has ls 4 [(0, .ref (a 0)), (1, .int (iI r)), (2, .int (iI n)), (3, .int (iI w))] := hl
  obtain ⟨hsz, hP, hD0⟩ := hB
  subst hsz
  have hD := hD0.self (sz := s.heap.size)
  have hA : ∀ q : Nat, s.heap.size ≤ q → va_A (wM g a f1 f2 f3 f4 f5 f6 f7 f8 f9 f10 f11 f12 f13 f20 f21 f22 f23 f24 f25) s.heap.size q := fun q h => Or.inr h
  have hS : va_S (va_A (wM g a f1 f2 f3 f4 f5 f6 f7 f8 f9 f10 f11 f12 f13 f20 f21 f22 f23 f24 f25) s.heap.size) s.heap s.heap [] := va_S.rf
  have hI := h1
  have hI8 : Inv f1 := h1.mono (by omega)
  have hn := hI.num
  have hs := hI.sea
  have hv := hI.vil
  have q1 := h3.1
  have q3 := h4.1
  have q5 := h5.1
  have q2 := h3.2
  have q4 := h4.2
  have q6 := h5.2
  refine lv_aload_n hx hb dX5_on_0 rfl (lv_at hl 0 rfl) ?_
  refine lv_iload_n hx hb dX5_on_1 rfl (lv_at hl 1 rfl) ?_
  refine xu_b (P := 0 ≤ r ∧ r ≤ f1 1 - 1) (rV (rest := []) hx hb hml hown hts hK hl (c_X5_isRange l g a f1 f2 f3 f4 f5 f6 f7 f8 f9 f10 f11 f12 f13 f20 f21 f22 f23 f24 f25 r (show IR r from ⟨by omega, by omega⟩) (show 0 ≤ f1 1 ∧ f1 1 ≤ 8 from by omega)) lk_X5_127 hP (va_recv hK.1 hP (ci := 5) (q0 := 0) rfl rfl) rfl rfl rfl (Rm.of rfl) rfl rfl dX5_on_2) (fun z1 => ?_) (fun z1 => ?_)
  · refine xi_zf_eq hx hb ⟨by decide, by decide⟩ (by decide) dX5_on_5 ⟨32, by decide⟩ ?_
    refine lv_iload_n hx hb dX5_on_8 rfl (lv_at hl 2 rfl) ?_
    refine xi_i2l hx hb ⟨by omega, by omega⟩ dX5_on_9 ?_
    refine lv_lconst (v := lI (0)) hx hb dX5_on_10 (by decide) ?_
    refine xl_ldc hx hb hown hts kk_X5_155 dX5_on_11 ?_
    refine xu_b (P := 0 ≤ n ∧ n ≤ 80) (rS (rest := []) hx hb hml hown hts hK hl (c_X5_in l g n 0 80 (show LR n from ⟨by omega, by omega⟩) (show LR 0 from ⟨by omega, by omega⟩) (show LR 80 from ⟨by omega, by omega⟩)) lk_X5_53 trivial rfl rfl rfl (Rm.of rfl) rfl rfl dX5_on_14) (fun z2 => ?_) (fun z2 => ?_)
    · refine xi_zf_eq hx hb ⟨by decide, by decide⟩ (by decide) dX5_on_17 ⟨32, by decide⟩ ?_
      refine lv_iload_n hx hb dX5_on_20 rfl (lv_at hl 3 rfl) ?_
      refine xi_i2l hx hb ⟨by omega, by omega⟩ dX5_on_21 ?_
      refine lv_lconst (v := lI (0)) hx hb dX5_on_22 (by decide) ?_
      refine xl_ldc hx hb hown hts kk_X5_70 dX5_on_23 ?_
      refine xu_b (P := 0 ≤ w ∧ w ≤ 2) (rS (rest := []) hx hb hml hown hts hK hl (c_X5_in l g w 0 2 (show LR w from ⟨by omega, by omega⟩) (show LR 0 from ⟨by omega, by omega⟩) (show LR 2 from ⟨by omega, by omega⟩)) lk_X5_53 trivial rfl rfl rfl (Rm.of rfl) rfl rfl dX5_on_26) (fun z3 => ?_) (fun z3 => ?_)
      · refine xi_zt_ne (tgt := 39) hx hb ⟨by decide, by decide⟩ (by decide) dX5_on_29 (by decide) ?_
        refine lv_aload_n hx hb dX5_on_39 rfl (lv_at hl 0 rfl) ?_
        refine xm_v (rV (rest := []) hx hb hml hown hts hK hl (c_X5_laysAside l g a f1 f2 f3 f4 f5 f6 f7 f8 f9 f10 f11 f12 f13 f20 f21 f22 f23 f24 f25 (s.heap).size ) lk_X5_172 ⟨rfl, hP, hD.weaken (fun _ _ _ _ => trivial)⟩ (va_recv hK.1 hP (ci := 5) (q0 := 0) rfl rfl) rfl rfl rfl (Rm.of rfl) rfl rfl dX5_on_40) hD hS hA (fun _ H locs hw hP hD hS => ?_)
        have hP : va_P g.1 vwCl (wM g a f1 f2 f3 f1 f5 f6 f7 f8 f9 f10 f11 f12 f13 f20 f21 f22 f23 f24 f25) H := hP
        have hD : va_D (va_A (wM g a f1 f2 f3 f4 f5 f6 f7 f8 f9 f10 f11 f12 f13 f20 f21 f22 f23 f24 f25) s.heap.size) (wM g a f1 f2 f3 f1 f5 f6 f7 f8 f9 f10 f11 f12 f13 f20 f21 f22 f23 f24 f25) := hD
        refine lv_aload_n hx hb dX5_on_43 rfl (lv_at hl 0 rfl) ?_
        refine lv_iload_n hx hb dX5_on_44 rfl (lv_at hl 2 rfl) ?_
        refine xm_v (rV (rest := []) hx hb hml hown hts hK hl (c_X5_go l g a f1 f2 f3 f1 f5 f6 f7 f8 f9 f10 f11 f12 f13 f20 f21 f22 f23 f24 f25 n H.size (show InvK 0 f1 from h1) (show 0 ≤ n ∧ f1 0 + n ≤ 20000 from by omega)) lk_X5_157 ⟨rfl, hP, hD.weaken (fun _ _ _ _ => trivial)⟩ (va_recv hK.1 hP (ci := 5) (q0 := 0) rfl rfl) rfl rfl rfl (Rm.of rfl) rfl rfl dX5_on_45) hD hS hA (fun u5 H locs hw hP hD hS => ?_)
        have hP : va_P g.1 vwCl (wM g a (seaN f1 (Int.toNat n)) f2 f3 f1 f5 f6 (u5 7) f8 f9 f10 f11 f12 f13 f20 f21 f22 f23 f24 f25) H := hP
        have hD : va_D (va_A (wM g a f1 f2 f3 f4 f5 f6 f7 f8 f9 f10 f11 f12 f13 f20 f21 f22 f23 f24 f25) s.heap.size) (wM g a (seaN f1 (Int.toNat n)) f2 f3 f1 f5 f6 (u5 7) f8 f9 f10 f11 f12 f13 f20 f21 f22 f23 f24 f25) := hD
        refine lv_aload_n hx hb dX5_on_48 rfl (lv_at hl 0 rfl) ?_
        refine lv_aload_n hx hb dX5_on_49 rfl (lv_at hl 0 rfl) ?_
        refine lv_iload_n hx hb dX5_on_50 rfl (lv_at hl 1 rfl) ?_
        refine lv_iload_n hx hb dX5_on_51 rfl (lv_at hl 3 rfl) ?_
        refine xi_z_ne (tgt := 59) hx hb ⟨by omega, by omega⟩ dX5_on_52 (by decide) (fun z6 => ?_) (fun z6 => ?_)
        · refine lv_iload_n hx hb dX5_on_59 rfl (lv_at hl 3 rfl) ?_
          refine lv_iconst (v := iI (1)) hx hb dX5_on_60 (by decide) ?_
          refine xi_c_ne (tgt := 68) hx hb ⟨by omega, by omega⟩ ⟨by decide, by decide⟩ dX5_on_61 (by decide) (fun z7 => ?_) (fun z7 => ?_)
          · refine lv_iconst (v := iI (4)) hx hb dX5_on_68 (by decide) ?_
            refine xu_i (x := iI ((seaN f1 (Int.toNat n)) (61 + 5 * r + 4))) (rV (rest := [.ref (a 0)]) hx hb hml hown hts hK hl (c_X5_its l g a (seaN f1 (Int.toNat n)) f2 f3 f1 f5 f6 (u5 7) f8 f9 f10 f11 f12 f13 f20 f21 f22 f23 f24 f25 r 4 (show 0 ≤ 61 + 5 * r + 4 ∧ 61 + 5 * r + 4 < 101 from by omega)) lk_X5_63 hP (va_recv hK.1 hP (ci := 5) (q0 := 0) rfl rfl) rfl rfl rfl (Rm.of rfl) rfl rfl dX5_on_69) ?_
            refine xm_i (rV (rest := []) hx hb hml hown hts hK hl (c_X5_takesBack l g a (seaN f1 (Int.toNat n)) f2 f3 f1 f5 f6 (u5 7) f8 f9 f10 f11 f12 f13 f20 f21 f22 f23 f24 f25 (iI ((seaN f1 (Int.toNat n)) (61 + 5 * r + 4))) H.size ) lk_X5_175 ⟨rfl, hP, hD.weaken (fun _ _ _ _ => trivial)⟩ (va_recv hK.1 hP (ci := 5) (q0 := 0) rfl rfl) rfl rfl rfl (Rm.of rfl) rfl rfl dX5_on_72) hD hS hA (fun x9 _ H locs hw hP hD hS => ?_)
            obtain rfl : x9 = (iI ((seaN f1 (Int.toNat n)) (61 + 5 * r + 4))) := hw
            have hP : va_P g.1 vwCl (wM g a f1 f2 f3 f1 f5 f6 (u5 7) f8 f9 f10 f11 f12 f13 f20 f21 f22 f23 f24 f25) H := hP
            have hD : va_D (va_A (wM g a f1 f2 f3 f4 f5 f6 f7 f8 f9 f10 f11 f12 f13 f20 f21 f22 f23 f24 f25) s.heap.size) (wM g a f1 f2 f3 f1 f5 f6 (u5 7) f8 f9 f10 f11 f12 f13 f20 f21 f22 f23 f24 f25) := hD
            have hf : fOn f1 r n w = 0 := by unfold fOn; (repeat (first | rw [if_pos (by omega)] | rw [if_neg (by omega)])); first | done | (exfalso; omega)
            have he10 : f6 = (fb (fOn f1 r n w) f6) := by rw [hf]; rfl
            have hP := Eq.mp (congrArg (fun z9 => va_P g.1 vwCl (wM g a f1 f2 f3 f1 f5 z9 (u5 7) f8 f9 f10 f11 f12 f13 f20 f21 f22 f23 f24 f25) H) he10) hP
            have hD := Eq.mp (congrArg (fun z9 => va_D (va_A (wM g a f1 f2 f3 f4 f5 f6 f7 f8 f9 f10 f11 f12 f13 f20 f21 f22 f23 f24 f25) s.heap.size) (wM g a f1 f2 f3 f1 f5 z9 (u5 7) f8 f9 f10 f11 f12 f13 f20 f21 f22 f23 f24 f25)) he10) hD
            have hP : va_P g.1 vwCl (wM g a f1 f2 f3 ((su (su (fun _ _ => 0) 4 f1) 7 (u5 7)) 4) f5 (fb (fOn f1 r n w) f6) ((su (su (fun _ _ => 0) 4 f1) 7 (u5 7)) 7) f8 f9 f10 f11 f12 f13 f20 f21 f22 f23 f24 f25) H := hP
            have hD : va_D (va_A (wM g a f1 f2 f3 f4 f5 f6 f7 f8 f9 f10 f11 f12 f13 f20 f21 f22 f23 f24 f25) s.heap.size) (wM g a f1 f2 f3 ((su (su (fun _ _ => 0) 4 f1) 7 (u5 7)) 4) f5 (fb (fOn f1 r n w) f6) ((su (su (fun _ _ => 0) 4 f1) 7 (u5 7)) 7) f8 f9 f10 f11 f12 f13 f20 f21 f22 f23 f24 f25) := hD
            exact W.iret hx hb hr (fun t ht hW => ⟨⟨_, (su (su (fun _ _ => 0) 4 f1) 7 (u5 7)), rfl, by rw [hf, ab_0]; exact congrArg iI (by unfold aOn; (repeat (first | rw [if_pos (by omega)] | rw [if_neg (by omega)])); first | done | (exfalso; omega)), by rw [ht]; exact hP, hD⟩, hS.F ht⟩) hS.2.2 dX5_on_75
          · refine lv_iconst (v := iI (3)) hx hb dX5_on_64 (by decide) ?_
            refine lv_goto (tgt := 69) hx hb dX5_on_65 (by decide) ?_
            refine xu_i (x := iI ((seaN f1 (Int.toNat n)) (61 + 5 * r + 3))) (rV (rest := [.ref (a 0)]) hx hb hml hown hts hK hl (c_X5_its l g a (seaN f1 (Int.toNat n)) f2 f3 f1 f5 f6 (u5 7) f8 f9 f10 f11 f12 f13 f20 f21 f22 f23 f24 f25 r 3 (show 0 ≤ 61 + 5 * r + 3 ∧ 61 + 5 * r + 3 < 101 from by omega)) lk_X5_63 hP (va_recv hK.1 hP (ci := 5) (q0 := 0) rfl rfl) rfl rfl rfl (Rm.of rfl) rfl rfl dX5_on_69) ?_
            refine xm_i (rV (rest := []) hx hb hml hown hts hK hl (c_X5_takesBack l g a (seaN f1 (Int.toNat n)) f2 f3 f1 f5 f6 (u5 7) f8 f9 f10 f11 f12 f13 f20 f21 f22 f23 f24 f25 (iI ((seaN f1 (Int.toNat n)) (61 + 5 * r + 3))) H.size ) lk_X5_175 ⟨rfl, hP, hD.weaken (fun _ _ _ _ => trivial)⟩ (va_recv hK.1 hP (ci := 5) (q0 := 0) rfl rfl) rfl rfl rfl (Rm.of rfl) rfl rfl dX5_on_72) hD hS hA (fun x9 _ H locs hw hP hD hS => ?_)
            obtain rfl : x9 = (iI ((seaN f1 (Int.toNat n)) (61 + 5 * r + 3))) := hw
            have hP : va_P g.1 vwCl (wM g a f1 f2 f3 f1 f5 f6 (u5 7) f8 f9 f10 f11 f12 f13 f20 f21 f22 f23 f24 f25) H := hP
            have hD : va_D (va_A (wM g a f1 f2 f3 f4 f5 f6 f7 f8 f9 f10 f11 f12 f13 f20 f21 f22 f23 f24 f25) s.heap.size) (wM g a f1 f2 f3 f1 f5 f6 (u5 7) f8 f9 f10 f11 f12 f13 f20 f21 f22 f23 f24 f25) := hD
            have hf : fOn f1 r n w = 0 := by unfold fOn; (repeat (first | rw [if_pos (by omega)] | rw [if_neg (by omega)])); first | done | (exfalso; omega)
            have he13 : f6 = (fb (fOn f1 r n w) f6) := by rw [hf]; rfl
            have hP := Eq.mp (congrArg (fun z9 => va_P g.1 vwCl (wM g a f1 f2 f3 f1 f5 z9 (u5 7) f8 f9 f10 f11 f12 f13 f20 f21 f22 f23 f24 f25) H) he13) hP
            have hD := Eq.mp (congrArg (fun z9 => va_D (va_A (wM g a f1 f2 f3 f4 f5 f6 f7 f8 f9 f10 f11 f12 f13 f20 f21 f22 f23 f24 f25) s.heap.size) (wM g a f1 f2 f3 f1 f5 z9 (u5 7) f8 f9 f10 f11 f12 f13 f20 f21 f22 f23 f24 f25)) he13) hD
            have hP : va_P g.1 vwCl (wM g a f1 f2 f3 ((su (su (fun _ _ => 0) 4 f1) 7 (u5 7)) 4) f5 (fb (fOn f1 r n w) f6) ((su (su (fun _ _ => 0) 4 f1) 7 (u5 7)) 7) f8 f9 f10 f11 f12 f13 f20 f21 f22 f23 f24 f25) H := hP
            have hD : va_D (va_A (wM g a f1 f2 f3 f4 f5 f6 f7 f8 f9 f10 f11 f12 f13 f20 f21 f22 f23 f24 f25) s.heap.size) (wM g a f1 f2 f3 ((su (su (fun _ _ => 0) 4 f1) 7 (u5 7)) 4) f5 (fb (fOn f1 r n w) f6) ((su (su (fun _ _ => 0) 4 f1) 7 (u5 7)) 7) f8 f9 f10 f11 f12 f13 f20 f21 f22 f23 f24 f25) := hD
            exact W.iret hx hb hr (fun t ht hW => ⟨⟨_, (su (su (fun _ _ => 0) 4 f1) 7 (u5 7)), rfl, by rw [hf, ab_0]; exact congrArg iI (by unfold aOn; (repeat (first | rw [if_pos (by omega)] | rw [if_neg (by omega)])); first | done | (exfalso; omega)), by rw [ht]; exact hP, hD⟩, hS.F ht⟩) hS.2.2 dX5_on_75
        · refine lv_iconst (v := iI (1)) hx hb dX5_on_55 (by decide) ?_
          refine lv_goto (tgt := 69) hx hb dX5_on_56 (by decide) ?_
          refine xu_i (x := iI ((seaN f1 (Int.toNat n)) (61 + 5 * r + 1))) (rV (rest := [.ref (a 0)]) hx hb hml hown hts hK hl (c_X5_its l g a (seaN f1 (Int.toNat n)) f2 f3 f1 f5 f6 (u5 7) f8 f9 f10 f11 f12 f13 f20 f21 f22 f23 f24 f25 r 1 (show 0 ≤ 61 + 5 * r + 1 ∧ 61 + 5 * r + 1 < 101 from by omega)) lk_X5_63 hP (va_recv hK.1 hP (ci := 5) (q0 := 0) rfl rfl) rfl rfl rfl (Rm.of rfl) rfl rfl dX5_on_69) ?_
          refine xm_i (rV (rest := []) hx hb hml hown hts hK hl (c_X5_takesBack l g a (seaN f1 (Int.toNat n)) f2 f3 f1 f5 f6 (u5 7) f8 f9 f10 f11 f12 f13 f20 f21 f22 f23 f24 f25 (iI ((seaN f1 (Int.toNat n)) (61 + 5 * r + 1))) H.size ) lk_X5_175 ⟨rfl, hP, hD.weaken (fun _ _ _ _ => trivial)⟩ (va_recv hK.1 hP (ci := 5) (q0 := 0) rfl rfl) rfl rfl rfl (Rm.of rfl) rfl rfl dX5_on_72) hD hS hA (fun x9 _ H locs hw hP hD hS => ?_)
          obtain rfl : x9 = (iI ((seaN f1 (Int.toNat n)) (61 + 5 * r + 1))) := hw
          have hP : va_P g.1 vwCl (wM g a f1 f2 f3 f1 f5 f6 (u5 7) f8 f9 f10 f11 f12 f13 f20 f21 f22 f23 f24 f25) H := hP
          have hD : va_D (va_A (wM g a f1 f2 f3 f4 f5 f6 f7 f8 f9 f10 f11 f12 f13 f20 f21 f22 f23 f24 f25) s.heap.size) (wM g a f1 f2 f3 f1 f5 f6 (u5 7) f8 f9 f10 f11 f12 f13 f20 f21 f22 f23 f24 f25) := hD
          have hf : fOn f1 r n w = 0 := by unfold fOn; (repeat (first | rw [if_pos (by omega)] | rw [if_neg (by omega)])); first | done | (exfalso; omega)
          have he16 : f6 = (fb (fOn f1 r n w) f6) := by rw [hf]; rfl
          have hP := Eq.mp (congrArg (fun z9 => va_P g.1 vwCl (wM g a f1 f2 f3 f1 f5 z9 (u5 7) f8 f9 f10 f11 f12 f13 f20 f21 f22 f23 f24 f25) H) he16) hP
          have hD := Eq.mp (congrArg (fun z9 => va_D (va_A (wM g a f1 f2 f3 f4 f5 f6 f7 f8 f9 f10 f11 f12 f13 f20 f21 f22 f23 f24 f25) s.heap.size) (wM g a f1 f2 f3 f1 f5 z9 (u5 7) f8 f9 f10 f11 f12 f13 f20 f21 f22 f23 f24 f25)) he16) hD
          have hP : va_P g.1 vwCl (wM g a f1 f2 f3 ((su (su (fun _ _ => 0) 4 f1) 7 (u5 7)) 4) f5 (fb (fOn f1 r n w) f6) ((su (su (fun _ _ => 0) 4 f1) 7 (u5 7)) 7) f8 f9 f10 f11 f12 f13 f20 f21 f22 f23 f24 f25) H := hP
          have hD : va_D (va_A (wM g a f1 f2 f3 f4 f5 f6 f7 f8 f9 f10 f11 f12 f13 f20 f21 f22 f23 f24 f25) s.heap.size) (wM g a f1 f2 f3 ((su (su (fun _ _ => 0) 4 f1) 7 (u5 7)) 4) f5 (fb (fOn f1 r n w) f6) ((su (su (fun _ _ => 0) 4 f1) 7 (u5 7)) 7) f8 f9 f10 f11 f12 f13 f20 f21 f22 f23 f24 f25) := hD
          exact W.iret hx hb hr (fun t ht hW => ⟨⟨_, (su (su (fun _ _ => 0) 4 f1) 7 (u5 7)), rfl, by rw [hf, ab_0]; exact congrArg iI (by unfold aOn; (repeat (first | rw [if_pos (by omega)] | rw [if_neg (by omega)])); first | done | (exfalso; omega)), by rw [ht]; exact hP, hD⟩, hS.F ht⟩) hS.2.2 dX5_on_75
      · refine xi_zf_ne hx hb ⟨by decide, by decide⟩ (by decide) dX5_on_29 ⟨39, by decide⟩ ?_
        refine lv_aload_n hx hb dX5_on_32 rfl (lv_at hl 0 rfl) ?_
        refine xi_ldc hx hb hown hts kk_X5_50 dX5_on_33 ?_
        refine xm_i (rV (rest := []) hx hb hml hown hts hK hl (c_X5_finds l g a f1 f2 f3 f4 f5 f6 f7 f8 f9 f10 f11 f12 f13 f20 f21 f22 f23 f24 f25 (-1000000001) (s.heap).size (show 0 ≤ -1000000001 - (-1000000001) ∧ -1000000001 - (-1000000001) < 7 from by omega)) lk_X5_74 ⟨rfl, hP, hD.weaken (fun _ _ _ _ => trivial)⟩ (va_recv hK.1 hP (ci := 5) (q0 := 0) rfl rfl) rfl rfl rfl (Rm.of rfl) rfl rfl dX5_on_35) hD hS hA (fun x9 _ H locs hw hP hD hS => ?_)
        obtain rfl : x9 = iI (-1000000001) := hw
        have hP : va_P g.1 vwCl (wM g a f1 f2 f3 f4 f5 (fb (-1000000000 - (-1000000001)) f6) f7 f8 f9 f10 f11 f12 f13 f20 f21 f22 f23 f24 f25) H := hP
        have hD : va_D (va_A (wM g a f1 f2 f3 f4 f5 f6 f7 f8 f9 f10 f11 f12 f13 f20 f21 f22 f23 f24 f25) s.heap.size) (wM g a f1 f2 f3 f4 f5 (fb (-1000000000 - (-1000000001)) f6) f7 f8 f9 f10 f11 f12 f13 f20 f21 f22 f23 f24 f25) := hD
        have hf : fOn f1 r n w = 1 := by unfold fOn; (repeat (first | rw [if_pos (by omega)] | rw [if_neg (by omega)])); first | done | (exfalso; omega)
        have he18 : (fb (-1000000000 - (-1000000001)) f6) = (fb (fOn f1 r n w) f6) := by rw [hf]; rfl
        have hP := Eq.mp (congrArg (fun z9 => va_P g.1 vwCl (wM g a f1 f2 f3 f4 f5 z9 f7 f8 f9 f10 f11 f12 f13 f20 f21 f22 f23 f24 f25) H) he18) hP
        have hD := Eq.mp (congrArg (fun z9 => va_D (va_A (wM g a f1 f2 f3 f4 f5 f6 f7 f8 f9 f10 f11 f12 f13 f20 f21 f22 f23 f24 f25) s.heap.size) (wM g a f1 f2 f3 f4 f5 z9 f7 f8 f9 f10 f11 f12 f13 f20 f21 f22 f23 f24 f25)) he18) hD
        have hP : va_P g.1 vwCl (wM g a f1 f2 f3 ((su (su (fun _ _ => 0) 4 f4) 7 f7) 4) f5 (fb (fOn f1 r n w) f6) ((su (su (fun _ _ => 0) 4 f4) 7 f7) 7) f8 f9 f10 f11 f12 f13 f20 f21 f22 f23 f24 f25) H := hP
        have hD : va_D (va_A (wM g a f1 f2 f3 f4 f5 f6 f7 f8 f9 f10 f11 f12 f13 f20 f21 f22 f23 f24 f25) s.heap.size) (wM g a f1 f2 f3 ((su (su (fun _ _ => 0) 4 f4) 7 f7) 4) f5 (fb (fOn f1 r n w) f6) ((su (su (fun _ _ => 0) 4 f4) 7 f7) 7) f8 f9 f10 f11 f12 f13 f20 f21 f22 f23 f24 f25) := hD
        exact W.iret hx hb hr (fun t ht hW => ⟨⟨_, (su (su (fun _ _ => 0) 4 f4) 7 f7), rfl, by rw [hf]; rfl, by rw [ht]; exact hP, hD⟩, hS.F ht⟩) hS.2.2 dX5_on_38
    · refine xi_zt_eq (tgt := 32) hx hb ⟨by decide, by decide⟩ (by decide) dX5_on_17 (by decide) ?_
      refine lv_aload_n hx hb dX5_on_32 rfl (lv_at hl 0 rfl) ?_
      refine xi_ldc hx hb hown hts kk_X5_50 dX5_on_33 ?_
      refine xm_i (rV (rest := []) hx hb hml hown hts hK hl (c_X5_finds l g a f1 f2 f3 f4 f5 f6 f7 f8 f9 f10 f11 f12 f13 f20 f21 f22 f23 f24 f25 (-1000000001) (s.heap).size (show 0 ≤ -1000000001 - (-1000000001) ∧ -1000000001 - (-1000000001) < 7 from by omega)) lk_X5_74 ⟨rfl, hP, hD.weaken (fun _ _ _ _ => trivial)⟩ (va_recv hK.1 hP (ci := 5) (q0 := 0) rfl rfl) rfl rfl rfl (Rm.of rfl) rfl rfl dX5_on_35) hD hS hA (fun x9 _ H locs hw hP hD hS => ?_)
      obtain rfl : x9 = iI (-1000000001) := hw
      have hP : va_P g.1 vwCl (wM g a f1 f2 f3 f4 f5 (fb (-1000000000 - (-1000000001)) f6) f7 f8 f9 f10 f11 f12 f13 f20 f21 f22 f23 f24 f25) H := hP
      have hD : va_D (va_A (wM g a f1 f2 f3 f4 f5 f6 f7 f8 f9 f10 f11 f12 f13 f20 f21 f22 f23 f24 f25) s.heap.size) (wM g a f1 f2 f3 f4 f5 (fb (-1000000000 - (-1000000001)) f6) f7 f8 f9 f10 f11 f12 f13 f20 f21 f22 f23 f24 f25) := hD
      have hf : fOn f1 r n w = 1 := by unfold fOn; (repeat (first | rw [if_pos (by omega)] | rw [if_neg (by omega)])); first | done | (exfalso; omega)
      have he20 : (fb (-1000000000 - (-1000000001)) f6) = (fb (fOn f1 r n w) f6) := by rw [hf]; rfl
      have hP := Eq.mp (congrArg (fun z9 => va_P g.1 vwCl (wM g a f1 f2 f3 f4 f5 z9 f7 f8 f9 f10 f11 f12 f13 f20 f21 f22 f23 f24 f25) H) he20) hP
      have hD := Eq.mp (congrArg (fun z9 => va_D (va_A (wM g a f1 f2 f3 f4 f5 f6 f7 f8 f9 f10 f11 f12 f13 f20 f21 f22 f23 f24 f25) s.heap.size) (wM g a f1 f2 f3 f4 f5 z9 f7 f8 f9 f10 f11 f12 f13 f20 f21 f22 f23 f24 f25)) he20) hD
      have hP : va_P g.1 vwCl (wM g a f1 f2 f3 ((su (su (fun _ _ => 0) 4 f4) 7 f7) 4) f5 (fb (fOn f1 r n w) f6) ((su (su (fun _ _ => 0) 4 f4) 7 f7) 7) f8 f9 f10 f11 f12 f13 f20 f21 f22 f23 f24 f25) H := hP
      have hD : va_D (va_A (wM g a f1 f2 f3 f4 f5 f6 f7 f8 f9 f10 f11 f12 f13 f20 f21 f22 f23 f24 f25) s.heap.size) (wM g a f1 f2 f3 ((su (su (fun _ _ => 0) 4 f4) 7 f7) 4) f5 (fb (fOn f1 r n w) f6) ((su (su (fun _ _ => 0) 4 f4) 7 f7) 7) f8 f9 f10 f11 f12 f13 f20 f21 f22 f23 f24 f25) := hD
      exact W.iret hx hb hr (fun t ht hW => ⟨⟨_, (su (su (fun _ _ => 0) 4 f4) 7 f7), rfl, by rw [hf]; rfl, by rw [ht]; exact hP, hD⟩, hS.F ht⟩) hS.2.2 dX5_on_38
  · refine xi_zt_eq (tgt := 32) hx hb ⟨by decide, by decide⟩ (by decide) dX5_on_5 (by decide) ?_
    refine lv_aload_n hx hb dX5_on_32 rfl (lv_at hl 0 rfl) ?_
    refine xi_ldc hx hb hown hts kk_X5_50 dX5_on_33 ?_
    refine xm_i (rV (rest := []) hx hb hml hown hts hK hl (c_X5_finds l g a f1 f2 f3 f4 f5 f6 f7 f8 f9 f10 f11 f12 f13 f20 f21 f22 f23 f24 f25 (-1000000001) (s.heap).size (show 0 ≤ -1000000001 - (-1000000001) ∧ -1000000001 - (-1000000001) < 7 from by omega)) lk_X5_74 ⟨rfl, hP, hD.weaken (fun _ _ _ _ => trivial)⟩ (va_recv hK.1 hP (ci := 5) (q0 := 0) rfl rfl) rfl rfl rfl (Rm.of rfl) rfl rfl dX5_on_35) hD hS hA (fun x9 _ H locs hw hP hD hS => ?_)
    obtain rfl : x9 = iI (-1000000001) := hw
    have hP : va_P g.1 vwCl (wM g a f1 f2 f3 f4 f5 (fb (-1000000000 - (-1000000001)) f6) f7 f8 f9 f10 f11 f12 f13 f20 f21 f22 f23 f24 f25) H := hP
    have hD : va_D (va_A (wM g a f1 f2 f3 f4 f5 f6 f7 f8 f9 f10 f11 f12 f13 f20 f21 f22 f23 f24 f25) s.heap.size) (wM g a f1 f2 f3 f4 f5 (fb (-1000000000 - (-1000000001)) f6) f7 f8 f9 f10 f11 f12 f13 f20 f21 f22 f23 f24 f25) := hD
    have hf : fOn f1 r n w = 1 := by unfold fOn; (repeat (first | rw [if_pos (by omega)] | rw [if_neg (by omega)])); first | done | (exfalso; omega)
    have he22 : (fb (-1000000000 - (-1000000001)) f6) = (fb (fOn f1 r n w) f6) := by rw [hf]; rfl
    have hP := Eq.mp (congrArg (fun z9 => va_P g.1 vwCl (wM g a f1 f2 f3 f4 f5 z9 f7 f8 f9 f10 f11 f12 f13 f20 f21 f22 f23 f24 f25) H) he22) hP
    have hD := Eq.mp (congrArg (fun z9 => va_D (va_A (wM g a f1 f2 f3 f4 f5 f6 f7 f8 f9 f10 f11 f12 f13 f20 f21 f22 f23 f24 f25) s.heap.size) (wM g a f1 f2 f3 f4 f5 z9 f7 f8 f9 f10 f11 f12 f13 f20 f21 f22 f23 f24 f25)) he22) hD
    have hP : va_P g.1 vwCl (wM g a f1 f2 f3 ((su (su (fun _ _ => 0) 4 f4) 7 f7) 4) f5 (fb (fOn f1 r n w) f6) ((su (su (fun _ _ => 0) 4 f4) 7 f7) 7) f8 f9 f10 f11 f12 f13 f20 f21 f22 f23 f24 f25) H := hP
    have hD : va_D (va_A (wM g a f1 f2 f3 f4 f5 f6 f7 f8 f9 f10 f11 f12 f13 f20 f21 f22 f23 f24 f25) s.heap.size) (wM g a f1 f2 f3 ((su (su (fun _ _ => 0) 4 f4) 7 f7) 4) f5 (fb (fOn f1 r n w) f6) ((su (su (fun _ _ => 0) 4 f4) 7 f7) 7) f8 f9 f10 f11 f12 f13 f20 f21 f22 f23 f24 f25) := hD
    exact W.iret hx hb hr (fun t ht hW => ⟨⟨_, (su (su (fun _ _ => 0) 4 f4) 7 f7), rfl, by rw [hf]; rfl, by rw [ht]; exact hP, hD⟩, hS.F ht⟩) hS.2.2 dX5_on_38
abbrev rm_X5_when : Room := { frames := 6, cells := 0, slots := 0, locals := 134 }
set_option maxRecDepth 100000 in
set_option maxHeartbeats 4000000 in
theorem c_X5_when (l : Launch) (g : Gd) (a : Nat → Nat) (f1 : Int → Int) (f2 : Int → Int) (f3 : Int → Int) (f4 : Int → Int) (f5 : Int → Int) (f6 : Int → Int) (f7 : Int → Int) (f8 : Int → Int) (f9 : Int → Int) (f10 : Int → Int) (f11 : Int → Int) (f12 : Int → Int) (f13 : Int → Int) (f20 : Int) (f21 : Int) (f22 : Int) (f23 : Int) (f24 : Int) (f25 : Int) (r : Int) (ce : Int) (sz : Nat) (h1 : InvK 0 f1) (h2 : f1 0 ≤ 9999) (h3 : IR r) (h4 : IR ce) : Met l yX5_when (wsOf yX5_when cX5_when 5 (some .int)) rm_X5_when (PX g (wP g (wM g a f1 f2 f3 f4 f5 f6 f7 f8 f9 f10 f11 f12 f13 f20 f21 f22 f23 f24 f25) sz) [.ref (a 0), .int (iI r), .int (iI ce)]) (QMi g (fun u9 : Nat → Int → Int => wM g a f1 f2 f3 (u9 4) f5 (fb (fWhen f1 r ce) f6) (u9 7) f8 f9 f10 f11 f12 f13 f20 f21 f22 f23 f24 f25) (fun r9 _ => r9 = ab (fWhen f1 r ce) (iI (fsT (whP f1 r ce) 81 0 : Int))) (va_A (wM g a f1 f2 f3 f4 f5 f6 f7 f8 f9 f10 f11 f12 f13 f20 f21 f22 f23 f24 f25) sz)) 0 0 (va_A (wM g a f1 f2 f3 f4 f5 f6 f7 f8 f9 f10 f11 f12 f13 f20 f21 f22 f23 f24 f25) sz) := by
  refine me (g := g) (by decide) rfl ?_
  intro pq eq s mq below meth cq C hnm hB ls hl
  obtain ⟨hx, hb, hr, hml, hown, hts, hlocks, hK⟩ := C
  have hown : s.vm.findClass RX5 = some mq.cls := hown
  have hl : lv_has ls 5 [(0, .ref (a 0)), (1, .int (iI r)), (2, .int (iI ce))] := hl
  obtain ⟨hsz, hP, hD0⟩ := hB
  subst hsz
  have hD := hD0.self (sz := s.heap.size)
  have hA : ∀ q : Nat, s.heap.size ≤ q → va_A (wM g a f1 f2 f3 f4 f5 f6 f7 f8 f9 f10 f11 f12 f13 f20 f21 f22 f23 f24 f25) s.heap.size q := fun q h => Or.inr h
  have hS : va_S (va_A (wM g a f1 f2 f3 f4 f5 f6 f7 f8 f9 f10 f11 f12 f13 f20 f21 f22 f23 f24 f25) s.heap.size) s.heap s.heap [] := va_S.rf
  have hI := h1
  have hI8 : Inv f1 := h1.mono (by omega)
  have hn := hI.num
  have hs := hI.sea
  have hv := hI.vil
  have q1 := h3.1
  have q3 := h4.1
  have q2 := h3.2
  have q4 := h4.2
  refine lv_aload_n hx hb dX5_when_0 rfl (lv_at hl 0 rfl) ?_
  refine lv_iload_n hx hb dX5_when_1 rfl (lv_at hl 1 rfl) ?_
  refine xu_b (P := 0 ≤ r ∧ r ≤ f1 1 - 1) (rV (rest := []) hx hb hml hown hts hK hl (c_X5_isRange l g a f1 f2 f3 f4 f5 f6 f7 f8 f9 f10 f11 f12 f13 f20 f21 f22 f23 f24 f25 r (show IR r from ⟨by omega, by omega⟩) (show 0 ≤ f1 1 ∧ f1 1 ≤ 8 from by omega)) lk_X5_127 hP (va_recv hK.1 hP (ci := 5) (q0 := 0) rfl rfl) rfl rfl rfl (Rm.of rfl) rfl rfl dX5_when_2) (fun z1 => ?_) (fun z1 => ?_)
  · refine xi_zf_eq hx hb ⟨by decide, by decide⟩ (by decide) dX5_when_5 ⟨15, by decide⟩ ?_
    refine lv_iload_n hx hb dX5_when_8 rfl (lv_at hl 2 rfl) ?_
    refine xu_b (P := 0 ≤ ce ∧ ce ≤ 23) (rS (rest := []) hx hb hml hown hts hK hl (c_X5_isCell l g ce (show IR ce from ⟨by omega, by omega⟩)) lk_X5_66 trivial rfl rfl rfl (Rm.of rfl) rfl rfl dX5_when_9) (fun z2 => ?_) (fun z2 => ?_)
    · refine xi_zt_ne (tgt := 22) hx hb ⟨by decide, by decide⟩ (by decide) dX5_when_12 (by decide) ?_
      refine lv_aload_n hx hb dX5_when_22 rfl (lv_at hl 0 rfl) ?_
      refine xm_v (rV (rest := []) hx hb hml hown hts hK hl (c_X5_laysAside l g a f1 f2 f3 f4 f5 f6 f7 f8 f9 f10 f11 f12 f13 f20 f21 f22 f23 f24 f25 (s.heap).size ) lk_X5_172 ⟨rfl, hP, hD.weaken (fun _ _ _ _ => trivial)⟩ (va_recv hK.1 hP (ci := 5) (q0 := 0) rfl rfl) rfl rfl rfl (Rm.of rfl) rfl rfl dX5_when_23) hD hS hA (fun _ H locs hw hP hD hS => ?_)
      have hP : va_P g.1 vwCl (wM g a f1 f2 f3 f1 f5 f6 f7 f8 f9 f10 f11 f12 f13 f20 f21 f22 f23 f24 f25) H := hP
      have hD : va_D (va_A (wM g a f1 f2 f3 f4 f5 f6 f7 f8 f9 f10 f11 f12 f13 f20 f21 f22 f23 f24 f25) s.heap.size) (wM g a f1 f2 f3 f1 f5 f6 f7 f8 f9 f10 f11 f12 f13 f20 f21 f22 f23 f24 f25) := hD
      refine lv_iconst (v := iI (0)) hx hb dX5_when_26 (by decide) ?_
      refine lv_istore_n (lv' := [(3, .int (iI 0)), (0, .ref (a 0)), (1, .int (iI r)), (2, .int (iI ce))]) hx hb dX5_when_27 rfl hl (by decide) rfl (fun ls hl => ?_)
      have lp28 : ∀ (n28 : Nat) (n : Nat) (l7 : Int → Int), ((n : Int) ≤ 81) → (fsT (whP f1 r ce) (81 - n) n = fsT (whP f1 r ce) 81 0) → 81 - n < n28 → ∀ ls : Array Slot, lv_has ls 5 [(3, .int (iI (n : Int))), (0, .ref (a 0)), (1, .int (iI r)), (2, .int (iI ce))] → ∀ (H : Heap) (locs : List Loc), va_P g.1 vwCl (wM g a (seaN f1 n) f2 f3 f1 f5 f6 l7 f8 f9 f10 f11 f12 f13 f20 f21 f22 f23 f24 f25) H → va_D (va_A (wM g a f1 f2 f3 f4 f5 f6 f7 f8 f9 f10 f11 f12 f13 f20 f21 f22 f23 f24 f25) s.heap.size) (wM g a (seaN f1 n) f2 f3 f1 f5 f6 l7 f8 f9 f10 f11 f12 f13 f20 f21 f22 f23 f24 f25) → va_S (va_A (wM g a f1 f2 f3 f4 f5 f6 f7 f8 f9 f10 f11 f12 f13 f20 f21 f22 f23 f24 f25) s.heap.size) s.heap H locs → W pq l eq rm_X5_when s mq [.ref (a 0), .int (iI r), .int (iI ce)].toArray below meth cq H locs 0 0 (MQ below (QMi g (fun u9 : Nat → Int → Int => wM g a f1 f2 f3 (u9 4) f5 (fb (fWhen f1 r ce) f6) (u9 7) f8 f9 f10 f11 f12 f13 f20 f21 f22 f23 f24 f25) (fun r9 _ => r9 = ab (fWhen f1 r ce) (iI (fsT (whP f1 r ce) 81 0 : Int))) (va_A (wM g a f1 f2 f3 f4 f5 f6 f7 f8 f9 f10 f11 f12 f13 f20 f21 f22 f23 f24 f25) s.heap.size)) [.ref (a 0), .int (iI r), .int (iI ce)].toArray s 0 0 (va_A (wM g a f1 f2 f3 f4 f5 f6 f7 f8 f9 f10 f11 f12 f13 f20 f21 f22 f23 f24 f25) s.heap.size)) (F0 mq 28 ls []) := by
        intro n28
        induction n28 with
        | zero => intro n l7 i28_1 i28_2 hm; exact absurd hm (Nat.not_lt_zero _)
        | succ n28 ih28 =>
          intro n l7 i28_1 i28_2 hm28 ls hl H locs hP hD hS
          have hsn := seaN_inv hI n (by omega)
          have hs0 := hsn.2.1
          have hs1 := hsn.2.2 1 (by omega) (by omega)
          have hs2 := hsn.2.2 2 (by omega) (by omega)
          have hcr := hsn.1.ran r (by omega) (by omega)
          refine lv_iload_n hx hb dX5_when_28 rfl (lv_at hl 0 rfl) ?_
          refine lv_bipush (v := iI (80)) hx hb dX5_when_29 (by decide) ?_
          refine xi_c_gt (tgt := 54) hx hb ⟨by omega, by omega⟩ ⟨by decide, by decide⟩ dX5_when_31 (by decide) (fun z4 => ?_) (fun z4 => ?_)
          · have hfs : fsT (whP f1 r ce) 81 0 = n := by rw [← i28_2, show 81 - n = 0 by omega]; rfl
            refine lv_aload_n hx hb dX5_when_54 rfl (lv_at hl 1 rfl) ?_
            refine lv_iload_n hx hb dX5_when_55 rfl (lv_at hl 0 rfl) ?_
            refine xm_i (rV (rest := []) hx hb hml hown hts hK hl (c_X5_takesBack l g a (seaN f1 n) f2 f3 f1 f5 f6 l7 f8 f9 f10 f11 f12 f13 f20 f21 f22 f23 f24 f25 (iI (n : Int)) H.size ) lk_X5_175 ⟨rfl, hP, hD.weaken (fun _ _ _ _ => trivial)⟩ (va_recv hK.1 hP (ci := 5) (q0 := 0) rfl rfl) rfl rfl rfl (Rm.of rfl) rfl rfl dX5_when_56) hD hS hA (fun x9 _ H locs hw hP hD hS => ?_)
            obtain rfl : x9 = (iI (n : Int)) := hw
            have hP : va_P g.1 vwCl (wM g a f1 f2 f3 f1 f5 f6 l7 f8 f9 f10 f11 f12 f13 f20 f21 f22 f23 f24 f25) H := hP
            have hD : va_D (va_A (wM g a f1 f2 f3 f4 f5 f6 f7 f8 f9 f10 f11 f12 f13 f20 f21 f22 f23 f24 f25) s.heap.size) (wM g a f1 f2 f3 f1 f5 f6 l7 f8 f9 f10 f11 f12 f13 f20 f21 f22 f23 f24 f25) := hD
            refine lv_istore (lv' := [(4, .int (iI (n : Int))), (3, .int (iI (n : Int))), (0, .ref (a 0)), (1, .int (iI r)), (2, .int (iI ce))]) hx hb dX5_when_59 hl (by decide) rfl (fun ls hl => ?_)
            refine lv_iload hx hb dX5_when_61 (lv_at hl 0 rfl) ?_
            refine lv_bipush (v := iI (80)) hx hb dX5_when_63 (by decide) ?_
            refine xi_c_le (tgt := 77) hx hb ⟨by omega, by omega⟩ ⟨by decide, by decide⟩ dX5_when_65 (by decide) (fun z6 => ?_) (fun z6 => ?_)
            · refine lv_iload hx hb dX5_when_77 (lv_at hl 0 rfl) ?_
              have hf : fWhen f1 r ce = 0 := by unfold fWhen; (repeat (first | rw [if_pos (by omega)] | rw [if_neg (by omega)])); first | done | (exfalso; omega)
              have he7 : f6 = (fb (fWhen f1 r ce) f6) := by rw [hf]; rfl
              have hP := Eq.mp (congrArg (fun z9 => va_P g.1 vwCl (wM g a f1 f2 f3 f1 f5 z9 l7 f8 f9 f10 f11 f12 f13 f20 f21 f22 f23 f24 f25) H) he7) hP
              have hD := Eq.mp (congrArg (fun z9 => va_D (va_A (wM g a f1 f2 f3 f4 f5 f6 f7 f8 f9 f10 f11 f12 f13 f20 f21 f22 f23 f24 f25) s.heap.size) (wM g a f1 f2 f3 f1 f5 z9 l7 f8 f9 f10 f11 f12 f13 f20 f21 f22 f23 f24 f25)) he7) hD
              have hP : va_P g.1 vwCl (wM g a f1 f2 f3 ((su (su (fun _ _ => 0) 4 f1) 7 l7) 4) f5 (fb (fWhen f1 r ce) f6) ((su (su (fun _ _ => 0) 4 f1) 7 l7) 7) f8 f9 f10 f11 f12 f13 f20 f21 f22 f23 f24 f25) H := hP
              have hD : va_D (va_A (wM g a f1 f2 f3 f4 f5 f6 f7 f8 f9 f10 f11 f12 f13 f20 f21 f22 f23 f24 f25) s.heap.size) (wM g a f1 f2 f3 ((su (su (fun _ _ => 0) 4 f1) 7 l7) 4) f5 (fb (fWhen f1 r ce) f6) ((su (su (fun _ _ => 0) 4 f1) 7 l7) 7) f8 f9 f10 f11 f12 f13 f20 f21 f22 f23 f24 f25) := hD
              exact W.iret hx hb hr (fun t ht hW => ⟨⟨_, (su (su (fun _ _ => 0) 4 f1) 7 l7), rfl, by rw [hf, ab_0, hfs], by rw [ht]; exact hP, hD⟩, hS.F ht⟩) hS.2.2 dX5_when_79
            · refine lv_aload_n hx hb dX5_when_68 rfl (lv_at hl 2 rfl) ?_
              refine xi_ldc hx hb hown hts kk_X5_178 dX5_when_69 ?_
              refine xm_i (rV (rest := []) hx hb hml hown hts hK hl (c_X5_finds l g a f1 f2 f3 f1 f5 f6 l7 f8 f9 f10 f11 f12 f13 f20 f21 f22 f23 f24 f25 (-1000000004) H.size (show 0 ≤ -1000000001 - (-1000000004) ∧ -1000000001 - (-1000000004) < 7 from by omega)) lk_X5_74 ⟨rfl, hP, hD.weaken (fun _ _ _ _ => trivial)⟩ (va_recv hK.1 hP (ci := 5) (q0 := 0) rfl rfl) rfl rfl rfl (Rm.of rfl) rfl rfl dX5_when_71) hD hS hA (fun x9 _ H locs hw hP hD hS => ?_)
              obtain rfl : x9 = iI (-1000000004) := hw
              have hP : va_P g.1 vwCl (wM g a f1 f2 f3 f1 f5 (fb (-1000000000 - (-1000000004)) f6) l7 f8 f9 f10 f11 f12 f13 f20 f21 f22 f23 f24 f25) H := hP
              have hD : va_D (va_A (wM g a f1 f2 f3 f4 f5 f6 f7 f8 f9 f10 f11 f12 f13 f20 f21 f22 f23 f24 f25) s.heap.size) (wM g a f1 f2 f3 f1 f5 (fb (-1000000000 - (-1000000004)) f6) l7 f8 f9 f10 f11 f12 f13 f20 f21 f22 f23 f24 f25) := hD
              refine lv_goto (tgt := 79) hx hb dX5_when_74 (by decide) ?_
              have hf : fWhen f1 r ce = 4 := by unfold fWhen; (repeat (first | rw [if_pos (by omega)] | rw [if_neg (by omega)])); first | done | (exfalso; omega)
              have he9 : (fb (-1000000000 - (-1000000004)) f6) = (fb (fWhen f1 r ce) f6) := by rw [hf]; rfl
              have hP := Eq.mp (congrArg (fun z9 => va_P g.1 vwCl (wM g a f1 f2 f3 f1 f5 z9 l7 f8 f9 f10 f11 f12 f13 f20 f21 f22 f23 f24 f25) H) he9) hP
              have hD := Eq.mp (congrArg (fun z9 => va_D (va_A (wM g a f1 f2 f3 f4 f5 f6 f7 f8 f9 f10 f11 f12 f13 f20 f21 f22 f23 f24 f25) s.heap.size) (wM g a f1 f2 f3 f1 f5 z9 l7 f8 f9 f10 f11 f12 f13 f20 f21 f22 f23 f24 f25)) he9) hD
              have hP : va_P g.1 vwCl (wM g a f1 f2 f3 ((su (su (fun _ _ => 0) 4 f1) 7 l7) 4) f5 (fb (fWhen f1 r ce) f6) ((su (su (fun _ _ => 0) 4 f1) 7 l7) 7) f8 f9 f10 f11 f12 f13 f20 f21 f22 f23 f24 f25) H := hP
              have hD : va_D (va_A (wM g a f1 f2 f3 f4 f5 f6 f7 f8 f9 f10 f11 f12 f13 f20 f21 f22 f23 f24 f25) s.heap.size) (wM g a f1 f2 f3 ((su (su (fun _ _ => 0) 4 f1) 7 l7) 4) f5 (fb (fWhen f1 r ce) f6) ((su (su (fun _ _ => 0) 4 f1) 7 l7) 7) f8 f9 f10 f11 f12 f13 f20 f21 f22 f23 f24 f25) := hD
              exact W.iret hx hb hr (fun t ht hW => ⟨⟨_, (su (su (fun _ _ => 0) 4 f1) 7 l7), rfl, by rw [hf]; rfl, by rw [ht]; exact hP, hD⟩, hS.F ht⟩) hS.2.2 dX5_when_79
          · refine lv_aload_n hx hb dX5_when_34 rfl (lv_at hl 1 rfl) ?_
            refine lv_iload_n hx hb dX5_when_35 rfl (lv_at hl 2 rfl) ?_
            refine lv_iconst (v := iI (1)) hx hb dX5_when_36 (by decide) ?_
            refine xu_i (x := iI ((seaN f1 n) (61 + 5 * r + 1))) (rV (rest := []) hx hb hml hown hts hK hl (c_X5_its l g a (seaN f1 n) f2 f3 f1 f5 f6 l7 f8 f9 f10 f11 f12 f13 f20 f21 f22 f23 f24 f25 r 1 (show 0 ≤ 61 + 5 * r + 1 ∧ 61 + 5 * r + 1 < 101 from by omega)) lk_X5_63 hP (va_recv hK.1 hP (ci := 5) (q0 := 0) rfl rfl) rfl rfl rfl (Rm.of rfl) rfl rfl dX5_when_37) ?_
            refine lv_iload_n hx hb dX5_when_40 rfl (lv_at hl 3 rfl) ?_
            refine xi_c_eq (tgt := 54) hx hb ⟨by omega, by omega⟩ ⟨by omega, by omega⟩ dX5_when_41 (by decide) (fun z11 => ?_) (fun z11 => ?_)
            · have hfs : fsT (whP f1 r ce) 81 0 = n := by rw [← i28_2]; exact fsT_hit (decide_eq_true (by omega)) _
              refine lv_aload_n hx hb dX5_when_54 rfl (lv_at hl 1 rfl) ?_
              refine lv_iload_n hx hb dX5_when_55 rfl (lv_at hl 0 rfl) ?_
              refine xm_i (rV (rest := []) hx hb hml hown hts hK hl (c_X5_takesBack l g a (seaN f1 n) f2 f3 f1 f5 f6 l7 f8 f9 f10 f11 f12 f13 f20 f21 f22 f23 f24 f25 (iI (n : Int)) H.size ) lk_X5_175 ⟨rfl, hP, hD.weaken (fun _ _ _ _ => trivial)⟩ (va_recv hK.1 hP (ci := 5) (q0 := 0) rfl rfl) rfl rfl rfl (Rm.of rfl) rfl rfl dX5_when_56) hD hS hA (fun x9 _ H locs hw hP hD hS => ?_)
              obtain rfl : x9 = (iI (n : Int)) := hw
              have hP : va_P g.1 vwCl (wM g a f1 f2 f3 f1 f5 f6 l7 f8 f9 f10 f11 f12 f13 f20 f21 f22 f23 f24 f25) H := hP
              have hD : va_D (va_A (wM g a f1 f2 f3 f4 f5 f6 f7 f8 f9 f10 f11 f12 f13 f20 f21 f22 f23 f24 f25) s.heap.size) (wM g a f1 f2 f3 f1 f5 f6 l7 f8 f9 f10 f11 f12 f13 f20 f21 f22 f23 f24 f25) := hD
              refine lv_istore (lv' := [(4, .int (iI (n : Int))), (3, .int (iI (n : Int))), (0, .ref (a 0)), (1, .int (iI r)), (2, .int (iI ce))]) hx hb dX5_when_59 hl (by decide) rfl (fun ls hl => ?_)
              refine lv_iload hx hb dX5_when_61 (lv_at hl 0 rfl) ?_
              refine lv_bipush (v := iI (80)) hx hb dX5_when_63 (by decide) ?_
              refine xi_c_le (tgt := 77) hx hb ⟨by omega, by omega⟩ ⟨by decide, by decide⟩ dX5_when_65 (by decide) (fun z13 => ?_) (fun z13 => ?_)
              · refine lv_iload hx hb dX5_when_77 (lv_at hl 0 rfl) ?_
                have hf : fWhen f1 r ce = 0 := by unfold fWhen; (repeat (first | rw [if_pos (by omega)] | rw [if_neg (by omega)])); first | done | (exfalso; omega)
                have he14 : f6 = (fb (fWhen f1 r ce) f6) := by rw [hf]; rfl
                have hP := Eq.mp (congrArg (fun z9 => va_P g.1 vwCl (wM g a f1 f2 f3 f1 f5 z9 l7 f8 f9 f10 f11 f12 f13 f20 f21 f22 f23 f24 f25) H) he14) hP
                have hD := Eq.mp (congrArg (fun z9 => va_D (va_A (wM g a f1 f2 f3 f4 f5 f6 f7 f8 f9 f10 f11 f12 f13 f20 f21 f22 f23 f24 f25) s.heap.size) (wM g a f1 f2 f3 f1 f5 z9 l7 f8 f9 f10 f11 f12 f13 f20 f21 f22 f23 f24 f25)) he14) hD
                have hP : va_P g.1 vwCl (wM g a f1 f2 f3 ((su (su (fun _ _ => 0) 4 f1) 7 l7) 4) f5 (fb (fWhen f1 r ce) f6) ((su (su (fun _ _ => 0) 4 f1) 7 l7) 7) f8 f9 f10 f11 f12 f13 f20 f21 f22 f23 f24 f25) H := hP
                have hD : va_D (va_A (wM g a f1 f2 f3 f4 f5 f6 f7 f8 f9 f10 f11 f12 f13 f20 f21 f22 f23 f24 f25) s.heap.size) (wM g a f1 f2 f3 ((su (su (fun _ _ => 0) 4 f1) 7 l7) 4) f5 (fb (fWhen f1 r ce) f6) ((su (su (fun _ _ => 0) 4 f1) 7 l7) 7) f8 f9 f10 f11 f12 f13 f20 f21 f22 f23 f24 f25) := hD
                exact W.iret hx hb hr (fun t ht hW => ⟨⟨_, (su (su (fun _ _ => 0) 4 f1) 7 l7), rfl, by rw [hf, ab_0, hfs], by rw [ht]; exact hP, hD⟩, hS.F ht⟩) hS.2.2 dX5_when_79
              · refine lv_aload_n hx hb dX5_when_68 rfl (lv_at hl 2 rfl) ?_
                refine xi_ldc hx hb hown hts kk_X5_178 dX5_when_69 ?_
                refine xm_i (rV (rest := []) hx hb hml hown hts hK hl (c_X5_finds l g a f1 f2 f3 f1 f5 f6 l7 f8 f9 f10 f11 f12 f13 f20 f21 f22 f23 f24 f25 (-1000000004) H.size (show 0 ≤ -1000000001 - (-1000000004) ∧ -1000000001 - (-1000000004) < 7 from by omega)) lk_X5_74 ⟨rfl, hP, hD.weaken (fun _ _ _ _ => trivial)⟩ (va_recv hK.1 hP (ci := 5) (q0 := 0) rfl rfl) rfl rfl rfl (Rm.of rfl) rfl rfl dX5_when_71) hD hS hA (fun x9 _ H locs hw hP hD hS => ?_)
                obtain rfl : x9 = iI (-1000000004) := hw
                have hP : va_P g.1 vwCl (wM g a f1 f2 f3 f1 f5 (fb (-1000000000 - (-1000000004)) f6) l7 f8 f9 f10 f11 f12 f13 f20 f21 f22 f23 f24 f25) H := hP
                have hD : va_D (va_A (wM g a f1 f2 f3 f4 f5 f6 f7 f8 f9 f10 f11 f12 f13 f20 f21 f22 f23 f24 f25) s.heap.size) (wM g a f1 f2 f3 f1 f5 (fb (-1000000000 - (-1000000004)) f6) l7 f8 f9 f10 f11 f12 f13 f20 f21 f22 f23 f24 f25) := hD
                refine lv_goto (tgt := 79) hx hb dX5_when_74 (by decide) ?_
                have hf : fWhen f1 r ce = 4 := by unfold fWhen; (repeat (first | rw [if_pos (by omega)] | rw [if_neg (by omega)])); first | done | (exfalso; omega)
                have he16 : (fb (-1000000000 - (-1000000004)) f6) = (fb (fWhen f1 r ce) f6) := by rw [hf]; rfl
                have hP := Eq.mp (congrArg (fun z9 => va_P g.1 vwCl (wM g a f1 f2 f3 f1 f5 z9 l7 f8 f9 f10 f11 f12 f13 f20 f21 f22 f23 f24 f25) H) he16) hP
                have hD := Eq.mp (congrArg (fun z9 => va_D (va_A (wM g a f1 f2 f3 f4 f5 f6 f7 f8 f9 f10 f11 f12 f13 f20 f21 f22 f23 f24 f25) s.heap.size) (wM g a f1 f2 f3 f1 f5 z9 l7 f8 f9 f10 f11 f12 f13 f20 f21 f22 f23 f24 f25)) he16) hD
                have hP : va_P g.1 vwCl (wM g a f1 f2 f3 ((su (su (fun _ _ => 0) 4 f1) 7 l7) 4) f5 (fb (fWhen f1 r ce) f6) ((su (su (fun _ _ => 0) 4 f1) 7 l7) 7) f8 f9 f10 f11 f12 f13 f20 f21 f22 f23 f24 f25) H := hP
                have hD : va_D (va_A (wM g a f1 f2 f3 f4 f5 f6 f7 f8 f9 f10 f11 f12 f13 f20 f21 f22 f23 f24 f25) s.heap.size) (wM g a f1 f2 f3 ((su (su (fun _ _ => 0) 4 f1) 7 l7) 4) f5 (fb (fWhen f1 r ce) f6) ((su (su (fun _ _ => 0) 4 f1) 7 l7) 7) f8 f9 f10 f11 f12 f13 f20 f21 f22 f23 f24 f25) := hD
                exact W.iret hx hb hr (fun t ht hW => ⟨⟨_, (su (su (fun _ _ => 0) 4 f1) 7 l7), rfl, by rw [hf]; rfl, by rw [ht]; exact hP, hD⟩, hS.F ht⟩) hS.2.2 dX5_when_79
            · refine lv_aload_n hx hb dX5_when_44 rfl (lv_at hl 1 rfl) ?_
              refine xm_v (rV (rest := []) hx hb hml hown hts hK hl (c_X5_season l g a (seaN f1 n) f2 f3 f1 f5 f6 l7 f8 f9 f10 f11 f12 f13 f20 f21 f22 f23 f24 f25 H.size (show InvK 0 (seaN f1 n) from hsn.1) (show (seaN f1 n) 0 < 20000 from by omega)) lk_X5_152 ⟨rfl, hP, hD.weaken (fun _ _ _ _ => trivial)⟩ (va_recv hK.1 hP (ci := 5) (q0 := 0) rfl rfl) rfl rfl rfl (Rm.of rfl) rfl rfl dX5_when_45) hD hS hA (fun u17 H locs hw hP hD hS => ?_)
              have hP : va_P g.1 vwCl (wM g a (sea (seaN f1 n)) f2 f3 f1 f5 f6 (u17 7) f8 f9 f10 f11 f12 f13 f20 f21 f22 f23 f24 f25) H := hP
              have hD : va_D (va_A (wM g a f1 f2 f3 f4 f5 f6 f7 f8 f9 f10 f11 f12 f13 f20 f21 f22 f23 f24 f25) s.heap.size) (wM g a (sea (seaN f1 n)) f2 f3 f1 f5 f6 (u17 7) f8 f9 f10 f11 f12 f13 f20 f21 f22 f23 f24 f25) := hD
              refine xi_inc (lv' := [(3, .int (iI ((n : Int) + 1))), (0, .ref (a 0)), (1, .int (iI r)), (2, .int (iI ce))]) hx hb dX5_when_48 hl (k := 0) rfl (by decide) rfl (fun ls hl => ?_)
              refine lv_goto (tgt := 28) hx hb dX5_when_51 (by decide) ?_
              have hq18 : ((n : Int) + 1) = ((n + 1) : Int) := by omega
              have hl : lv_has ls 5 [(3, .int (iI ((n : Int) + 1))), (0, .ref (a 0)), (1, .int (iI r)), (2, .int (iI ce))] := lv_sub hl [0, 1, 2, 3] rfl
              have hl := Eq.mp (congrArg (fun z9 => lv_has ls 5 [(3, .int (iI z9)), (0, .ref (a 0)), (1, .int (iI r)), (2, .int (iI ce))]) hq18) hl
              have hq19 : (sea (seaN f1 n)) = (seaN f1 (n + 1)) := rfl
              have hP := Eq.mp (congrArg (fun z9 => va_P g.1 vwCl (wM g a z9 f2 f3 f1 f5 f6 (u17 7) f8 f9 f10 f11 f12 f13 f20 f21 f22 f23 f24 f25) H) hq19) hP
              have hD := Eq.mp (congrArg (fun z9 => va_D (va_A (wM g a f1 f2 f3 f4 f5 f6 f7 f8 f9 f10 f11 f12 f13 f20 f21 f22 f23 f24 f25) s.heap.size) (wM g a z9 f2 f3 f1 f5 f6 (u17 7) f8 f9 f10 f11 f12 f13 f20 f21 f22 f23 f24 f25)) hq19) hD
              exact ih28 (n + 1) (u17 7) (by omega) (by rw [← i28_2]; exact fsT_next (p := (whP f1 r ce)) (fun z => by have := of_decide_eq_true z; omega) (by omega)) (by omega) ls hl H locs hP hD hS
      have hq20 : 0 = (0 : Int) := rfl
      have hl : lv_has ls 5 [(3, .int (iI 0)), (0, .ref (a 0)), (1, .int (iI r)), (2, .int (iI ce))] := lv_sub hl [0, 1, 2, 3] rfl
      have hl := Eq.mp (congrArg (fun z9 => lv_has ls 5 [(3, .int (iI z9)), (0, .ref (a 0)), (1, .int (iI r)), (2, .int (iI ce))]) hq20) hl
      have hq21 : f1 = (seaN f1 0) := rfl
      have hP := Eq.mp (congrArg (fun z9 => va_P g.1 vwCl (wM g a z9 f2 f3 f1 f5 f6 f7 f8 f9 f10 f11 f12 f13 f20 f21 f22 f23 f24 f25) H) hq21) hP
      have hD := Eq.mp (congrArg (fun z9 => va_D (va_A (wM g a f1 f2 f3 f4 f5 f6 f7 f8 f9 f10 f11 f12 f13 f20 f21 f22 f23 f24 f25) s.heap.size) (wM g a z9 f2 f3 f1 f5 f6 f7 f8 f9 f10 f11 f12 f13 f20 f21 f22 f23 f24 f25)) hq21) hD
      exact lp28 (81 + 1) 0 f7 (by omega) rfl (by omega) ls hl H locs hP hD hS
    · refine xi_zf_ne hx hb ⟨by decide, by decide⟩ (by decide) dX5_when_12 ⟨22, by decide⟩ ?_
      refine lv_aload_n hx hb dX5_when_15 rfl (lv_at hl 0 rfl) ?_
      refine xi_ldc hx hb hown hts kk_X5_50 dX5_when_16 ?_
      refine xm_i (rV (rest := []) hx hb hml hown hts hK hl (c_X5_finds l g a f1 f2 f3 f4 f5 f6 f7 f8 f9 f10 f11 f12 f13 f20 f21 f22 f23 f24 f25 (-1000000001) (s.heap).size (show 0 ≤ -1000000001 - (-1000000001) ∧ -1000000001 - (-1000000001) < 7 from by omega)) lk_X5_74 ⟨rfl, hP, hD.weaken (fun _ _ _ _ => trivial)⟩ (va_recv hK.1 hP (ci := 5) (q0 := 0) rfl rfl) rfl rfl rfl (Rm.of rfl) rfl rfl dX5_when_18) hD hS hA (fun x9 _ H locs hw hP hD hS => ?_)
      obtain rfl : x9 = iI (-1000000001) := hw
      have hP : va_P g.1 vwCl (wM g a f1 f2 f3 f4 f5 (fb (-1000000000 - (-1000000001)) f6) f7 f8 f9 f10 f11 f12 f13 f20 f21 f22 f23 f24 f25) H := hP
      have hD : va_D (va_A (wM g a f1 f2 f3 f4 f5 f6 f7 f8 f9 f10 f11 f12 f13 f20 f21 f22 f23 f24 f25) s.heap.size) (wM g a f1 f2 f3 f4 f5 (fb (-1000000000 - (-1000000001)) f6) f7 f8 f9 f10 f11 f12 f13 f20 f21 f22 f23 f24 f25) := hD
      have hf : fWhen f1 r ce = 1 := by unfold fWhen; (repeat (first | rw [if_pos (by omega)] | rw [if_neg (by omega)])); first | done | (exfalso; omega)
      have he23 : (fb (-1000000000 - (-1000000001)) f6) = (fb (fWhen f1 r ce) f6) := by rw [hf]; rfl
      have hP := Eq.mp (congrArg (fun z9 => va_P g.1 vwCl (wM g a f1 f2 f3 f4 f5 z9 f7 f8 f9 f10 f11 f12 f13 f20 f21 f22 f23 f24 f25) H) he23) hP
      have hD := Eq.mp (congrArg (fun z9 => va_D (va_A (wM g a f1 f2 f3 f4 f5 f6 f7 f8 f9 f10 f11 f12 f13 f20 f21 f22 f23 f24 f25) s.heap.size) (wM g a f1 f2 f3 f4 f5 z9 f7 f8 f9 f10 f11 f12 f13 f20 f21 f22 f23 f24 f25)) he23) hD
      have hP : va_P g.1 vwCl (wM g a f1 f2 f3 ((su (su (fun _ _ => 0) 4 f4) 7 f7) 4) f5 (fb (fWhen f1 r ce) f6) ((su (su (fun _ _ => 0) 4 f4) 7 f7) 7) f8 f9 f10 f11 f12 f13 f20 f21 f22 f23 f24 f25) H := hP
      have hD : va_D (va_A (wM g a f1 f2 f3 f4 f5 f6 f7 f8 f9 f10 f11 f12 f13 f20 f21 f22 f23 f24 f25) s.heap.size) (wM g a f1 f2 f3 ((su (su (fun _ _ => 0) 4 f4) 7 f7) 4) f5 (fb (fWhen f1 r ce) f6) ((su (su (fun _ _ => 0) 4 f4) 7 f7) 7) f8 f9 f10 f11 f12 f13 f20 f21 f22 f23 f24 f25) := hD
      exact W.iret hx hb hr (fun t ht hW => ⟨⟨_, (su (su (fun _ _ => 0) 4 f4) 7 f7), rfl, by rw [hf]; rfl, by rw [ht]; exact hP, hD⟩, hS.F ht⟩) hS.2.2 dX5_when_21
  · refine xi_zt_eq (tgt := 15) hx hb ⟨by decide, by decide⟩ (by decide) dX5_when_5 (by decide) ?_
    refine lv_aload_n hx hb dX5_when_15 rfl (lv_at hl 0 rfl) ?_
    refine xi_ldc hx hb hown hts kk_X5_50 dX5_when_16 ?_
    refine xm_i (rV (rest := []) hx hb hml hown hts hK hl (c_X5_finds l g a f1 f2 f3 f4 f5 f6 f7 f8 f9 f10 f11 f12 f13 f20 f21 f22 f23 f24 f25 (-1000000001) (s.heap).size (show 0 ≤ -1000000001 - (-1000000001) ∧ -1000000001 - (-1000000001) < 7 from by omega)) lk_X5_74 ⟨rfl, hP, hD.weaken (fun _ _ _ _ => trivial)⟩ (va_recv hK.1 hP (ci := 5) (q0 := 0) rfl rfl) rfl rfl rfl (Rm.of rfl) rfl rfl dX5_when_18) hD hS hA (fun x9 _ H locs hw hP hD hS => ?_)
    obtain rfl : x9 = iI (-1000000001) := hw
    have hP : va_P g.1 vwCl (wM g a f1 f2 f3 f4 f5 (fb (-1000000000 - (-1000000001)) f6) f7 f8 f9 f10 f11 f12 f13 f20 f21 f22 f23 f24 f25) H := hP
    have hD : va_D (va_A (wM g a f1 f2 f3 f4 f5 f6 f7 f8 f9 f10 f11 f12 f13 f20 f21 f22 f23 f24 f25) s.heap.size) (wM g a f1 f2 f3 f4 f5 (fb (-1000000000 - (-1000000001)) f6) f7 f8 f9 f10 f11 f12 f13 f20 f21 f22 f23 f24 f25) := hD
    have hf : fWhen f1 r ce = 1 := by unfold fWhen; (repeat (first | rw [if_pos (by omega)] | rw [if_neg (by omega)])); first | done | (exfalso; omega)
    have he25 : (fb (-1000000000 - (-1000000001)) f6) = (fb (fWhen f1 r ce) f6) := by rw [hf]; rfl
    have hP := Eq.mp (congrArg (fun z9 => va_P g.1 vwCl (wM g a f1 f2 f3 f4 f5 z9 f7 f8 f9 f10 f11 f12 f13 f20 f21 f22 f23 f24 f25) H) he25) hP
    have hD := Eq.mp (congrArg (fun z9 => va_D (va_A (wM g a f1 f2 f3 f4 f5 f6 f7 f8 f9 f10 f11 f12 f13 f20 f21 f22 f23 f24 f25) s.heap.size) (wM g a f1 f2 f3 f4 f5 z9 f7 f8 f9 f10 f11 f12 f13 f20 f21 f22 f23 f24 f25)) he25) hD
    have hP : va_P g.1 vwCl (wM g a f1 f2 f3 ((su (su (fun _ _ => 0) 4 f4) 7 f7) 4) f5 (fb (fWhen f1 r ce) f6) ((su (su (fun _ _ => 0) 4 f4) 7 f7) 7) f8 f9 f10 f11 f12 f13 f20 f21 f22 f23 f24 f25) H := hP
    have hD : va_D (va_A (wM g a f1 f2 f3 f4 f5 f6 f7 f8 f9 f10 f11 f12 f13 f20 f21 f22 f23 f24 f25) s.heap.size) (wM g a f1 f2 f3 ((su (su (fun _ _ => 0) 4 f4) 7 f7) 4) f5 (fb (fWhen f1 r ce) f6) ((su (su (fun _ _ => 0) 4 f4) 7 f7) 7) f8 f9 f10 f11 f12 f13 f20 f21 f22 f23 f24 f25) := hD
    exact W.iret hx hb hr (fun t ht hW => ⟨⟨_, (su (su (fun _ _ => 0) 4 f4) 7 f7), rfl, by rw [hf]; rfl, by rw [ht]; exact hP, hD⟩, hS.F ht⟩) hS.2.2 dX5_when_21
abbrev rm_X5_lit : Room := { frames := 6, cells := 0, slots := 0, locals := 134 }
set_option maxRecDepth 100000 in
set_option maxHeartbeats 4000000 in
theorem c_X5_lit (l : Launch) (g : Gd) (a : Nat → Nat) (f1 : Int → Int) (f2 : Int → Int) (f3 : Int → Int) (f4 : Int → Int) (f5 : Int → Int) (f6 : Int → Int) (f7 : Int → Int) (f8 : Int → Int) (f9 : Int → Int) (f10 : Int → Int) (f11 : Int → Int) (f12 : Int → Int) (f13 : Int → Int) (f20 : Int) (f21 : Int) (f22 : Int) (f23 : Int) (f24 : Int) (f25 : Int) (v : Int) (sz : Nat) (h1 : InvK 0 f1) (h2 : f1 0 ≤ 9999) (h3 : IR v) : Met l yX5_lit (wsOf yX5_lit cX5_lit 4 (some .int)) rm_X5_lit (PX g (wP g (wM g a f1 f2 f3 f4 f5 f6 f7 f8 f9 f10 f11 f12 f13 f20 f21 f22 f23 f24 f25) sz) [.ref (a 0), .int (iI v)]) (QMi g (fun u9 : Nat → Int → Int => wM g a f1 f2 f3 (u9 4) f5 (fb (fLit f1 v) f6) (u9 7) f8 f9 f10 f11 f12 f13 f20 f21 f22 f23 f24 f25) (fun r9 _ => r9 = ab (fLit f1 v) (iI (fsT (ltP f1 v) 81 0 : Int))) (va_A (wM g a f1 f2 f3 f4 f5 f6 f7 f8 f9 f10 f11 f12 f13 f20 f21 f22 f23 f24 f25) sz)) 0 0 (va_A (wM g a f1 f2 f3 f4 f5 f6 f7 f8 f9 f10 f11 f12 f13 f20 f21 f22 f23 f24 f25) sz) := by
  refine me (g := g) (by decide) rfl ?_
  intro pq eq s mq below meth cq C hnm hB ls hl
  obtain ⟨hx, hb, hr, hml, hown, hts, hlocks, hK⟩ := C
  have hown : s.vm.findClass RX5 = some mq.cls := hown
  have hl : lv_has ls 4 [(0, .ref (a 0)), (1, .int (iI v))] := hl
  obtain ⟨hsz, hP, hD0⟩ := hB
  subst hsz
  have hD := hD0.self (sz := s.heap.size)
  have hA : ∀ q : Nat, s.heap.size ≤ q → va_A (wM g a f1 f2 f3 f4 f5 f6 f7 f8 f9 f10 f11 f12 f13 f20 f21 f22 f23 f24 f25) s.heap.size q := fun q h => Or.inr h
  have hS : va_S (va_A (wM g a f1 f2 f3 f4 f5 f6 f7 f8 f9 f10 f11 f12 f13 f20 f21 f22 f23 f24 f25) s.heap.size) s.heap s.heap [] := va_S.rf
  have hI := h1
  have hI8 : Inv f1 := h1.mono (by omega)
  have hn := hI.num
  have hs := hI.sea
  have hv := hI.vil
  have q1 := h3.1
  have q2 := h3.2
  refine lv_aload_n hx hb dX5_lit_0 rfl (lv_at hl 0 rfl) ?_
  refine lv_iload_n hx hb dX5_lit_1 rfl (lv_at hl 1 rfl) ?_
  refine xu_b (P := 0 ≤ v ∧ v ≤ f1 2 - 1) (rV (rest := []) hx hb hml hown hts hK hl (c_X5_isVillage l g a f1 f2 f3 f4 f5 f6 f7 f8 f9 f10 f11 f12 f13 f20 f21 f22 f23 f24 f25 v (show IR v from ⟨by omega, by omega⟩) (show 0 ≤ f1 2 ∧ f1 2 ≤ 6 from by omega)) lk_X5_94 hP (va_recv hK.1 hP (ci := 5) (q0 := 0) rfl rfl) rfl rfl rfl (Rm.of rfl) rfl rfl dX5_lit_2) (fun z1 => ?_) (fun z1 => ?_)
  · refine xi_zt_ne (tgt := 15) hx hb ⟨by decide, by decide⟩ (by decide) dX5_lit_5 (by decide) ?_
    refine lv_aload_n hx hb dX5_lit_15 rfl (lv_at hl 0 rfl) ?_
    refine xm_v (rV (rest := []) hx hb hml hown hts hK hl (c_X5_laysAside l g a f1 f2 f3 f4 f5 f6 f7 f8 f9 f10 f11 f12 f13 f20 f21 f22 f23 f24 f25 (s.heap).size ) lk_X5_172 ⟨rfl, hP, hD.weaken (fun _ _ _ _ => trivial)⟩ (va_recv hK.1 hP (ci := 5) (q0 := 0) rfl rfl) rfl rfl rfl (Rm.of rfl) rfl rfl dX5_lit_16) hD hS hA (fun _ H locs hw hP hD hS => ?_)
    have hP : va_P g.1 vwCl (wM g a f1 f2 f3 f1 f5 f6 f7 f8 f9 f10 f11 f12 f13 f20 f21 f22 f23 f24 f25) H := hP
    have hD : va_D (va_A (wM g a f1 f2 f3 f4 f5 f6 f7 f8 f9 f10 f11 f12 f13 f20 f21 f22 f23 f24 f25) s.heap.size) (wM g a f1 f2 f3 f1 f5 f6 f7 f8 f9 f10 f11 f12 f13 f20 f21 f22 f23 f24 f25) := hD
    refine lv_iconst (v := iI (0)) hx hb dX5_lit_19 (by decide) ?_
    refine lv_istore_n (lv' := [(2, .int (iI 0)), (0, .ref (a 0)), (1, .int (iI v))]) hx hb dX5_lit_20 rfl hl (by decide) rfl (fun ls hl => ?_)
    have lp21 : ∀ (n21 : Nat) (n : Nat) (l7 : Int → Int), ((n : Int) ≤ 81) → (fsT (ltP f1 v) (81 - n) n = fsT (ltP f1 v) 81 0) → 81 - n < n21 → ∀ ls : Array Slot, lv_has ls 4 [(2, .int (iI (n : Int))), (0, .ref (a 0)), (1, .int (iI v))] → ∀ (H : Heap) (locs : List Loc), va_P g.1 vwCl (wM g a (seaN f1 n) f2 f3 f1 f5 f6 l7 f8 f9 f10 f11 f12 f13 f20 f21 f22 f23 f24 f25) H → va_D (va_A (wM g a f1 f2 f3 f4 f5 f6 f7 f8 f9 f10 f11 f12 f13 f20 f21 f22 f23 f24 f25) s.heap.size) (wM g a (seaN f1 n) f2 f3 f1 f5 f6 l7 f8 f9 f10 f11 f12 f13 f20 f21 f22 f23 f24 f25) → va_S (va_A (wM g a f1 f2 f3 f4 f5 f6 f7 f8 f9 f10 f11 f12 f13 f20 f21 f22 f23 f24 f25) s.heap.size) s.heap H locs → W pq l eq rm_X5_lit s mq [.ref (a 0), .int (iI v)].toArray below meth cq H locs 0 0 (MQ below (QMi g (fun u9 : Nat → Int → Int => wM g a f1 f2 f3 (u9 4) f5 (fb (fLit f1 v) f6) (u9 7) f8 f9 f10 f11 f12 f13 f20 f21 f22 f23 f24 f25) (fun r9 _ => r9 = ab (fLit f1 v) (iI (fsT (ltP f1 v) 81 0 : Int))) (va_A (wM g a f1 f2 f3 f4 f5 f6 f7 f8 f9 f10 f11 f12 f13 f20 f21 f22 f23 f24 f25) s.heap.size)) [.ref (a 0), .int (iI v)].toArray s 0 0 (va_A (wM g a f1 f2 f3 f4 f5 f6 f7 f8 f9 f10 f11 f12 f13 f20 f21 f22 f23 f24 f25) s.heap.size)) (F0 mq 21 ls []) := by
      intro n21
      induction n21 with
      | zero => intro n l7 i21_1 i21_2 hm; exact absurd hm (Nat.not_lt_zero _)
      | succ n21 ih21 =>
        intro n l7 i21_1 i21_2 hm21 ls hl H locs hP hD hS
        have hsn := seaN_inv hI n (by omega)
        have hs0 := hsn.2.1
        have hs1 := hsn.2.2 1 (by omega) (by omega)
        have hs2 := hsn.2.2 2 (by omega) (by omega)
        refine lv_iload_n hx hb dX5_lit_21 rfl (lv_at hl 0 rfl) ?_
        refine lv_bipush (v := iI (80)) hx hb dX5_lit_22 (by decide) ?_
        refine xi_c_gt (tgt := 45) hx hb ⟨by omega, by omega⟩ ⟨by decide, by decide⟩ dX5_lit_24 (by decide) (fun z3 => ?_) (fun z3 => ?_)
        · have hfs : fsT (ltP f1 v) 81 0 = n := by rw [← i21_2, show 81 - n = 0 by omega]; rfl
          refine lv_aload_n hx hb dX5_lit_45 rfl (lv_at hl 1 rfl) ?_
          refine lv_iload_n hx hb dX5_lit_46 rfl (lv_at hl 0 rfl) ?_
          refine xm_i (rV (rest := []) hx hb hml hown hts hK hl (c_X5_takesBack l g a (seaN f1 n) f2 f3 f1 f5 f6 l7 f8 f9 f10 f11 f12 f13 f20 f21 f22 f23 f24 f25 (iI (n : Int)) H.size ) lk_X5_175 ⟨rfl, hP, hD.weaken (fun _ _ _ _ => trivial)⟩ (va_recv hK.1 hP (ci := 5) (q0 := 0) rfl rfl) rfl rfl rfl (Rm.of rfl) rfl rfl dX5_lit_47) hD hS hA (fun x9 _ H locs hw hP hD hS => ?_)
          obtain rfl : x9 = (iI (n : Int)) := hw
          have hP : va_P g.1 vwCl (wM g a f1 f2 f3 f1 f5 f6 l7 f8 f9 f10 f11 f12 f13 f20 f21 f22 f23 f24 f25) H := hP
          have hD : va_D (va_A (wM g a f1 f2 f3 f4 f5 f6 f7 f8 f9 f10 f11 f12 f13 f20 f21 f22 f23 f24 f25) s.heap.size) (wM g a f1 f2 f3 f1 f5 f6 l7 f8 f9 f10 f11 f12 f13 f20 f21 f22 f23 f24 f25) := hD
          refine lv_istore_n (lv' := [(3, .int (iI (n : Int))), (2, .int (iI (n : Int))), (0, .ref (a 0)), (1, .int (iI v))]) hx hb dX5_lit_50 rfl hl (by decide) rfl (fun ls hl => ?_)
          refine lv_iload_n hx hb dX5_lit_51 rfl (lv_at hl 0 rfl) ?_
          refine lv_bipush (v := iI (80)) hx hb dX5_lit_52 (by decide) ?_
          refine xi_c_le (tgt := 66) hx hb ⟨by omega, by omega⟩ ⟨by decide, by decide⟩ dX5_lit_54 (by decide) (fun z5 => ?_) (fun z5 => ?_)
          · refine lv_iload_n hx hb dX5_lit_66 rfl (lv_at hl 0 rfl) ?_
            have hf : fLit f1 v = 0 := by unfold fLit; (repeat (first | rw [if_pos (by omega)] | rw [if_neg (by omega)])); first | done | (exfalso; omega)
            have he6 : f6 = (fb (fLit f1 v) f6) := by rw [hf]; rfl
            have hP := Eq.mp (congrArg (fun z9 => va_P g.1 vwCl (wM g a f1 f2 f3 f1 f5 z9 l7 f8 f9 f10 f11 f12 f13 f20 f21 f22 f23 f24 f25) H) he6) hP
            have hD := Eq.mp (congrArg (fun z9 => va_D (va_A (wM g a f1 f2 f3 f4 f5 f6 f7 f8 f9 f10 f11 f12 f13 f20 f21 f22 f23 f24 f25) s.heap.size) (wM g a f1 f2 f3 f1 f5 z9 l7 f8 f9 f10 f11 f12 f13 f20 f21 f22 f23 f24 f25)) he6) hD
            have hP : va_P g.1 vwCl (wM g a f1 f2 f3 ((su (su (fun _ _ => 0) 4 f1) 7 l7) 4) f5 (fb (fLit f1 v) f6) ((su (su (fun _ _ => 0) 4 f1) 7 l7) 7) f8 f9 f10 f11 f12 f13 f20 f21 f22 f23 f24 f25) H := hP
            have hD : va_D (va_A (wM g a f1 f2 f3 f4 f5 f6 f7 f8 f9 f10 f11 f12 f13 f20 f21 f22 f23 f24 f25) s.heap.size) (wM g a f1 f2 f3 ((su (su (fun _ _ => 0) 4 f1) 7 l7) 4) f5 (fb (fLit f1 v) f6) ((su (su (fun _ _ => 0) 4 f1) 7 l7) 7) f8 f9 f10 f11 f12 f13 f20 f21 f22 f23 f24 f25) := hD
            exact W.iret hx hb hr (fun t ht hW => ⟨⟨_, (su (su (fun _ _ => 0) 4 f1) 7 l7), rfl, by rw [hf, ab_0, hfs], by rw [ht]; exact hP, hD⟩, hS.F ht⟩) hS.2.2 dX5_lit_67
          · refine lv_aload_n hx hb dX5_lit_57 rfl (lv_at hl 2 rfl) ?_
            refine xi_ldc hx hb hown hts kk_X5_178 dX5_lit_58 ?_
            refine xm_i (rV (rest := []) hx hb hml hown hts hK hl (c_X5_finds l g a f1 f2 f3 f1 f5 f6 l7 f8 f9 f10 f11 f12 f13 f20 f21 f22 f23 f24 f25 (-1000000004) H.size (show 0 ≤ -1000000001 - (-1000000004) ∧ -1000000001 - (-1000000004) < 7 from by omega)) lk_X5_74 ⟨rfl, hP, hD.weaken (fun _ _ _ _ => trivial)⟩ (va_recv hK.1 hP (ci := 5) (q0 := 0) rfl rfl) rfl rfl rfl (Rm.of rfl) rfl rfl dX5_lit_60) hD hS hA (fun x9 _ H locs hw hP hD hS => ?_)
            obtain rfl : x9 = iI (-1000000004) := hw
            have hP : va_P g.1 vwCl (wM g a f1 f2 f3 f1 f5 (fb (-1000000000 - (-1000000004)) f6) l7 f8 f9 f10 f11 f12 f13 f20 f21 f22 f23 f24 f25) H := hP
            have hD : va_D (va_A (wM g a f1 f2 f3 f4 f5 f6 f7 f8 f9 f10 f11 f12 f13 f20 f21 f22 f23 f24 f25) s.heap.size) (wM g a f1 f2 f3 f1 f5 (fb (-1000000000 - (-1000000004)) f6) l7 f8 f9 f10 f11 f12 f13 f20 f21 f22 f23 f24 f25) := hD
            refine lv_goto (tgt := 67) hx hb dX5_lit_63 (by decide) ?_
            have hf : fLit f1 v = 4 := by unfold fLit; (repeat (first | rw [if_pos (by omega)] | rw [if_neg (by omega)])); first | done | (exfalso; omega)
            have he8 : (fb (-1000000000 - (-1000000004)) f6) = (fb (fLit f1 v) f6) := by rw [hf]; rfl
            have hP := Eq.mp (congrArg (fun z9 => va_P g.1 vwCl (wM g a f1 f2 f3 f1 f5 z9 l7 f8 f9 f10 f11 f12 f13 f20 f21 f22 f23 f24 f25) H) he8) hP
            have hD := Eq.mp (congrArg (fun z9 => va_D (va_A (wM g a f1 f2 f3 f4 f5 f6 f7 f8 f9 f10 f11 f12 f13 f20 f21 f22 f23 f24 f25) s.heap.size) (wM g a f1 f2 f3 f1 f5 z9 l7 f8 f9 f10 f11 f12 f13 f20 f21 f22 f23 f24 f25)) he8) hD
            have hP : va_P g.1 vwCl (wM g a f1 f2 f3 ((su (su (fun _ _ => 0) 4 f1) 7 l7) 4) f5 (fb (fLit f1 v) f6) ((su (su (fun _ _ => 0) 4 f1) 7 l7) 7) f8 f9 f10 f11 f12 f13 f20 f21 f22 f23 f24 f25) H := hP
            have hD : va_D (va_A (wM g a f1 f2 f3 f4 f5 f6 f7 f8 f9 f10 f11 f12 f13 f20 f21 f22 f23 f24 f25) s.heap.size) (wM g a f1 f2 f3 ((su (su (fun _ _ => 0) 4 f1) 7 l7) 4) f5 (fb (fLit f1 v) f6) ((su (su (fun _ _ => 0) 4 f1) 7 l7) 7) f8 f9 f10 f11 f12 f13 f20 f21 f22 f23 f24 f25) := hD
            exact W.iret hx hb hr (fun t ht hW => ⟨⟨_, (su (su (fun _ _ => 0) 4 f1) 7 l7), rfl, by rw [hf]; rfl, by rw [ht]; exact hP, hD⟩, hS.F ht⟩) hS.2.2 dX5_lit_67
        · refine lv_aload_n hx hb dX5_lit_27 rfl (lv_at hl 1 rfl) ?_
          refine lv_iload_n hx hb dX5_lit_28 rfl (lv_at hl 2 rfl) ?_
          refine xu_b (P := litP (seaN f1 n) v) (rV (rest := []) hx hb hml hown hts hK hl (c_X5_isLit l g a (seaN f1 n) f2 f3 f1 f5 f6 l7 f8 f9 f10 f11 f12 f13 f20 f21 f22 f23 f24 f25 v (show Inv (seaN f1 n) from hsn.1.mono (by omega)) (show 0 ≤ v ∧ v < (seaN f1 n) 2 from by omega)) lk_X5_97 hP (va_recv hK.1 hP (ci := 5) (q0 := 0) rfl rfl) rfl rfl rfl (Rm.of rfl) rfl rfl dX5_lit_29) (fun z9 => ?_) (fun z9 => ?_)
          · have hfs : fsT (ltP f1 v) 81 0 = n := by rw [← i21_2]; exact fsT_hit (decide_eq_true (by assumption)) _
            refine xi_zt_ne (tgt := 45) hx hb ⟨by decide, by decide⟩ (by decide) dX5_lit_32 (by decide) ?_
            refine lv_aload_n hx hb dX5_lit_45 rfl (lv_at hl 1 rfl) ?_
            refine lv_iload_n hx hb dX5_lit_46 rfl (lv_at hl 0 rfl) ?_
            refine xm_i (rV (rest := []) hx hb hml hown hts hK hl (c_X5_takesBack l g a (seaN f1 n) f2 f3 f1 f5 f6 l7 f8 f9 f10 f11 f12 f13 f20 f21 f22 f23 f24 f25 (iI (n : Int)) H.size ) lk_X5_175 ⟨rfl, hP, hD.weaken (fun _ _ _ _ => trivial)⟩ (va_recv hK.1 hP (ci := 5) (q0 := 0) rfl rfl) rfl rfl rfl (Rm.of rfl) rfl rfl dX5_lit_47) hD hS hA (fun x9 _ H locs hw hP hD hS => ?_)
            obtain rfl : x9 = (iI (n : Int)) := hw
            have hP : va_P g.1 vwCl (wM g a f1 f2 f3 f1 f5 f6 l7 f8 f9 f10 f11 f12 f13 f20 f21 f22 f23 f24 f25) H := hP
            have hD : va_D (va_A (wM g a f1 f2 f3 f4 f5 f6 f7 f8 f9 f10 f11 f12 f13 f20 f21 f22 f23 f24 f25) s.heap.size) (wM g a f1 f2 f3 f1 f5 f6 l7 f8 f9 f10 f11 f12 f13 f20 f21 f22 f23 f24 f25) := hD
            refine lv_istore_n (lv' := [(3, .int (iI (n : Int))), (2, .int (iI (n : Int))), (0, .ref (a 0)), (1, .int (iI v))]) hx hb dX5_lit_50 rfl hl (by decide) rfl (fun ls hl => ?_)
            refine lv_iload_n hx hb dX5_lit_51 rfl (lv_at hl 0 rfl) ?_
            refine lv_bipush (v := iI (80)) hx hb dX5_lit_52 (by decide) ?_
            refine xi_c_le (tgt := 66) hx hb ⟨by omega, by omega⟩ ⟨by decide, by decide⟩ dX5_lit_54 (by decide) (fun z11 => ?_) (fun z11 => ?_)
            · refine lv_iload_n hx hb dX5_lit_66 rfl (lv_at hl 0 rfl) ?_
              have hf : fLit f1 v = 0 := by unfold fLit; (repeat (first | rw [if_pos (by omega)] | rw [if_neg (by omega)])); first | done | (exfalso; omega)
              have he12 : f6 = (fb (fLit f1 v) f6) := by rw [hf]; rfl
              have hP := Eq.mp (congrArg (fun z9 => va_P g.1 vwCl (wM g a f1 f2 f3 f1 f5 z9 l7 f8 f9 f10 f11 f12 f13 f20 f21 f22 f23 f24 f25) H) he12) hP
              have hD := Eq.mp (congrArg (fun z9 => va_D (va_A (wM g a f1 f2 f3 f4 f5 f6 f7 f8 f9 f10 f11 f12 f13 f20 f21 f22 f23 f24 f25) s.heap.size) (wM g a f1 f2 f3 f1 f5 z9 l7 f8 f9 f10 f11 f12 f13 f20 f21 f22 f23 f24 f25)) he12) hD
              have hP : va_P g.1 vwCl (wM g a f1 f2 f3 ((su (su (fun _ _ => 0) 4 f1) 7 l7) 4) f5 (fb (fLit f1 v) f6) ((su (su (fun _ _ => 0) 4 f1) 7 l7) 7) f8 f9 f10 f11 f12 f13 f20 f21 f22 f23 f24 f25) H := hP
              have hD : va_D (va_A (wM g a f1 f2 f3 f4 f5 f6 f7 f8 f9 f10 f11 f12 f13 f20 f21 f22 f23 f24 f25) s.heap.size) (wM g a f1 f2 f3 ((su (su (fun _ _ => 0) 4 f1) 7 l7) 4) f5 (fb (fLit f1 v) f6) ((su (su (fun _ _ => 0) 4 f1) 7 l7) 7) f8 f9 f10 f11 f12 f13 f20 f21 f22 f23 f24 f25) := hD
              exact W.iret hx hb hr (fun t ht hW => ⟨⟨_, (su (su (fun _ _ => 0) 4 f1) 7 l7), rfl, by rw [hf, ab_0, hfs], by rw [ht]; exact hP, hD⟩, hS.F ht⟩) hS.2.2 dX5_lit_67
            · refine lv_aload_n hx hb dX5_lit_57 rfl (lv_at hl 2 rfl) ?_
              refine xi_ldc hx hb hown hts kk_X5_178 dX5_lit_58 ?_
              refine xm_i (rV (rest := []) hx hb hml hown hts hK hl (c_X5_finds l g a f1 f2 f3 f1 f5 f6 l7 f8 f9 f10 f11 f12 f13 f20 f21 f22 f23 f24 f25 (-1000000004) H.size (show 0 ≤ -1000000001 - (-1000000004) ∧ -1000000001 - (-1000000004) < 7 from by omega)) lk_X5_74 ⟨rfl, hP, hD.weaken (fun _ _ _ _ => trivial)⟩ (va_recv hK.1 hP (ci := 5) (q0 := 0) rfl rfl) rfl rfl rfl (Rm.of rfl) rfl rfl dX5_lit_60) hD hS hA (fun x9 _ H locs hw hP hD hS => ?_)
              obtain rfl : x9 = iI (-1000000004) := hw
              have hP : va_P g.1 vwCl (wM g a f1 f2 f3 f1 f5 (fb (-1000000000 - (-1000000004)) f6) l7 f8 f9 f10 f11 f12 f13 f20 f21 f22 f23 f24 f25) H := hP
              have hD : va_D (va_A (wM g a f1 f2 f3 f4 f5 f6 f7 f8 f9 f10 f11 f12 f13 f20 f21 f22 f23 f24 f25) s.heap.size) (wM g a f1 f2 f3 f1 f5 (fb (-1000000000 - (-1000000004)) f6) l7 f8 f9 f10 f11 f12 f13 f20 f21 f22 f23 f24 f25) := hD
              refine lv_goto (tgt := 67) hx hb dX5_lit_63 (by decide) ?_
              have hf : fLit f1 v = 4 := by unfold fLit; (repeat (first | rw [if_pos (by omega)] | rw [if_neg (by omega)])); first | done | (exfalso; omega)
              have he14 : (fb (-1000000000 - (-1000000004)) f6) = (fb (fLit f1 v) f6) := by rw [hf]; rfl
              have hP := Eq.mp (congrArg (fun z9 => va_P g.1 vwCl (wM g a f1 f2 f3 f1 f5 z9 l7 f8 f9 f10 f11 f12 f13 f20 f21 f22 f23 f24 f25) H) he14) hP
              have hD := Eq.mp (congrArg (fun z9 => va_D (va_A (wM g a f1 f2 f3 f4 f5 f6 f7 f8 f9 f10 f11 f12 f13 f20 f21 f22 f23 f24 f25) s.heap.size) (wM g a f1 f2 f3 f1 f5 z9 l7 f8 f9 f10 f11 f12 f13 f20 f21 f22 f23 f24 f25)) he14) hD
              have hP : va_P g.1 vwCl (wM g a f1 f2 f3 ((su (su (fun _ _ => 0) 4 f1) 7 l7) 4) f5 (fb (fLit f1 v) f6) ((su (su (fun _ _ => 0) 4 f1) 7 l7) 7) f8 f9 f10 f11 f12 f13 f20 f21 f22 f23 f24 f25) H := hP
              have hD : va_D (va_A (wM g a f1 f2 f3 f4 f5 f6 f7 f8 f9 f10 f11 f12 f13 f20 f21 f22 f23 f24 f25) s.heap.size) (wM g a f1 f2 f3 ((su (su (fun _ _ => 0) 4 f1) 7 l7) 4) f5 (fb (fLit f1 v) f6) ((su (su (fun _ _ => 0) 4 f1) 7 l7) 7) f8 f9 f10 f11 f12 f13 f20 f21 f22 f23 f24 f25) := hD
              exact W.iret hx hb hr (fun t ht hW => ⟨⟨_, (su (su (fun _ _ => 0) 4 f1) 7 l7), rfl, by rw [hf]; rfl, by rw [ht]; exact hP, hD⟩, hS.F ht⟩) hS.2.2 dX5_lit_67
          · refine xi_zf_ne hx hb ⟨by decide, by decide⟩ (by decide) dX5_lit_32 ⟨45, by decide⟩ ?_
            refine lv_aload_n hx hb dX5_lit_35 rfl (lv_at hl 1 rfl) ?_
            refine xm_v (rV (rest := []) hx hb hml hown hts hK hl (c_X5_season l g a (seaN f1 n) f2 f3 f1 f5 f6 l7 f8 f9 f10 f11 f12 f13 f20 f21 f22 f23 f24 f25 H.size (show InvK 0 (seaN f1 n) from hsn.1) (show (seaN f1 n) 0 < 20000 from by omega)) lk_X5_152 ⟨rfl, hP, hD.weaken (fun _ _ _ _ => trivial)⟩ (va_recv hK.1 hP (ci := 5) (q0 := 0) rfl rfl) rfl rfl rfl (Rm.of rfl) rfl rfl dX5_lit_36) hD hS hA (fun u15 H locs hw hP hD hS => ?_)
            have hP : va_P g.1 vwCl (wM g a (sea (seaN f1 n)) f2 f3 f1 f5 f6 (u15 7) f8 f9 f10 f11 f12 f13 f20 f21 f22 f23 f24 f25) H := hP
            have hD : va_D (va_A (wM g a f1 f2 f3 f4 f5 f6 f7 f8 f9 f10 f11 f12 f13 f20 f21 f22 f23 f24 f25) s.heap.size) (wM g a (sea (seaN f1 n)) f2 f3 f1 f5 f6 (u15 7) f8 f9 f10 f11 f12 f13 f20 f21 f22 f23 f24 f25) := hD
            refine xi_inc (lv' := [(2, .int (iI ((n : Int) + 1))), (0, .ref (a 0)), (1, .int (iI v))]) hx hb dX5_lit_39 hl (k := 0) rfl (by decide) rfl (fun ls hl => ?_)
            refine lv_goto (tgt := 21) hx hb dX5_lit_42 (by decide) ?_
            have hq16 : ((n : Int) + 1) = ((n + 1) : Int) := by omega
            have hl : lv_has ls 4 [(2, .int (iI ((n : Int) + 1))), (0, .ref (a 0)), (1, .int (iI v))] := lv_sub hl [0, 1, 2] rfl
            have hl := Eq.mp (congrArg (fun z9 => lv_has ls 4 [(2, .int (iI z9)), (0, .ref (a 0)), (1, .int (iI v))]) hq16) hl
            have hq17 : (sea (seaN f1 n)) = (seaN f1 (n + 1)) := rfl
            have hP := Eq.mp (congrArg (fun z9 => va_P g.1 vwCl (wM g a z9 f2 f3 f1 f5 f6 (u15 7) f8 f9 f10 f11 f12 f13 f20 f21 f22 f23 f24 f25) H) hq17) hP
            have hD := Eq.mp (congrArg (fun z9 => va_D (va_A (wM g a f1 f2 f3 f4 f5 f6 f7 f8 f9 f10 f11 f12 f13 f20 f21 f22 f23 f24 f25) s.heap.size) (wM g a z9 f2 f3 f1 f5 f6 (u15 7) f8 f9 f10 f11 f12 f13 f20 f21 f22 f23 f24 f25)) hq17) hD
            exact ih21 (n + 1) (u15 7) (by omega) (by rw [← i21_2]; exact fsT_next (p := (ltP f1 v)) (fun z => absurd (of_decide_eq_true z) (by assumption)) (by omega)) (by omega) ls hl H locs hP hD hS
    have hq18 : 0 = (0 : Int) := rfl
    have hl : lv_has ls 4 [(2, .int (iI 0)), (0, .ref (a 0)), (1, .int (iI v))] := lv_sub hl [0, 1, 2] rfl
    have hl := Eq.mp (congrArg (fun z9 => lv_has ls 4 [(2, .int (iI z9)), (0, .ref (a 0)), (1, .int (iI v))]) hq18) hl
    have hq19 : f1 = (seaN f1 0) := rfl
    have hP := Eq.mp (congrArg (fun z9 => va_P g.1 vwCl (wM g a z9 f2 f3 f1 f5 f6 f7 f8 f9 f10 f11 f12 f13 f20 f21 f22 f23 f24 f25) H) hq19) hP
    have hD := Eq.mp (congrArg (fun z9 => va_D (va_A (wM g a f1 f2 f3 f4 f5 f6 f7 f8 f9 f10 f11 f12 f13 f20 f21 f22 f23 f24 f25) s.heap.size) (wM g a z9 f2 f3 f1 f5 f6 f7 f8 f9 f10 f11 f12 f13 f20 f21 f22 f23 f24 f25)) hq19) hD
    exact lp21 (81 + 1) 0 f7 (by omega) rfl (by omega) ls hl H locs hP hD hS
  · refine xi_zf_ne hx hb ⟨by decide, by decide⟩ (by decide) dX5_lit_5 ⟨15, by decide⟩ ?_
    refine lv_aload_n hx hb dX5_lit_8 rfl (lv_at hl 0 rfl) ?_
    refine xi_ldc hx hb hown hts kk_X5_50 dX5_lit_9 ?_
    refine xm_i (rV (rest := []) hx hb hml hown hts hK hl (c_X5_finds l g a f1 f2 f3 f4 f5 f6 f7 f8 f9 f10 f11 f12 f13 f20 f21 f22 f23 f24 f25 (-1000000001) (s.heap).size (show 0 ≤ -1000000001 - (-1000000001) ∧ -1000000001 - (-1000000001) < 7 from by omega)) lk_X5_74 ⟨rfl, hP, hD.weaken (fun _ _ _ _ => trivial)⟩ (va_recv hK.1 hP (ci := 5) (q0 := 0) rfl rfl) rfl rfl rfl (Rm.of rfl) rfl rfl dX5_lit_11) hD hS hA (fun x9 _ H locs hw hP hD hS => ?_)
    obtain rfl : x9 = iI (-1000000001) := hw
    have hP : va_P g.1 vwCl (wM g a f1 f2 f3 f4 f5 (fb (-1000000000 - (-1000000001)) f6) f7 f8 f9 f10 f11 f12 f13 f20 f21 f22 f23 f24 f25) H := hP
    have hD : va_D (va_A (wM g a f1 f2 f3 f4 f5 f6 f7 f8 f9 f10 f11 f12 f13 f20 f21 f22 f23 f24 f25) s.heap.size) (wM g a f1 f2 f3 f4 f5 (fb (-1000000000 - (-1000000001)) f6) f7 f8 f9 f10 f11 f12 f13 f20 f21 f22 f23 f24 f25) := hD
    have hf : fLit f1 v = 1 := by unfold fLit; (repeat (first | rw [if_pos (by omega)] | rw [if_neg (by omega)])); first | done | (exfalso; omega)
    have he21 : (fb (-1000000000 - (-1000000001)) f6) = (fb (fLit f1 v) f6) := by rw [hf]; rfl
    have hP := Eq.mp (congrArg (fun z9 => va_P g.1 vwCl (wM g a f1 f2 f3 f4 f5 z9 f7 f8 f9 f10 f11 f12 f13 f20 f21 f22 f23 f24 f25) H) he21) hP
    have hD := Eq.mp (congrArg (fun z9 => va_D (va_A (wM g a f1 f2 f3 f4 f5 f6 f7 f8 f9 f10 f11 f12 f13 f20 f21 f22 f23 f24 f25) s.heap.size) (wM g a f1 f2 f3 f4 f5 z9 f7 f8 f9 f10 f11 f12 f13 f20 f21 f22 f23 f24 f25)) he21) hD
    have hP : va_P g.1 vwCl (wM g a f1 f2 f3 ((su (su (fun _ _ => 0) 4 f4) 7 f7) 4) f5 (fb (fLit f1 v) f6) ((su (su (fun _ _ => 0) 4 f4) 7 f7) 7) f8 f9 f10 f11 f12 f13 f20 f21 f22 f23 f24 f25) H := hP
    have hD : va_D (va_A (wM g a f1 f2 f3 f4 f5 f6 f7 f8 f9 f10 f11 f12 f13 f20 f21 f22 f23 f24 f25) s.heap.size) (wM g a f1 f2 f3 ((su (su (fun _ _ => 0) 4 f4) 7 f7) 4) f5 (fb (fLit f1 v) f6) ((su (su (fun _ _ => 0) 4 f4) 7 f7) 7) f8 f9 f10 f11 f12 f13 f20 f21 f22 f23 f24 f25) := hD
    exact W.iret hx hb hr (fun t ht hW => ⟨⟨_, (su (su (fun _ _ => 0) 4 f4) 7 f7), rfl, by rw [hf]; rfl, by rw [ht]; exact hP, hD⟩, hS.F ht⟩) hS.2.2 dX5_lit_14
abbrev rm_X5_sun : Room := { frames := 6, cells := 0, slots := 0, locals := 134 }
set_option maxRecDepth 100000 in
set_option maxHeartbeats 4000000 in
theorem c_X5_sun (l : Launch) (g : Gd) (a : Nat → Nat) (f1 : Int → Int) (f2 : Int → Int) (f3 : Int → Int) (f4 : Int → Int) (f5 : Int → Int) (f6 : Int → Int) (f7 : Int → Int) (f8 : Int → Int) (f9 : Int → Int) (f10 : Int → Int) (f11 : Int → Int) (f12 : Int → Int) (f13 : Int → Int) (f20 : Int) (f21 : Int) (f22 : Int) (f23 : Int) (f24 : Int) (f25 : Int) (v : Int) (n : Int) (sz : Nat) (h1 : InvK 0 f1) (h2 : f1 0 ≤ 9999) (h3 : IR v) (h4 : IR n) : Met l yX5_sun (wsOf yX5_sun cX5_sun 5 (some .int)) rm_X5_sun (PX g (wP g (wM g a f1 f2 f3 f4 f5 f6 f7 f8 f9 f10 f11 f12 f13 f20 f21 f22 f23 f24 f25) sz) [.ref (a 0), .int (iI v), .int (iI n)]) (QMi g (fun u9 : Nat → Int → Int => wM g a f1 f2 f3 (u9 4) f5 (fb (fSun f1 v n) f6) (u9 7) f8 f9 f10 f11 f12 f13 f20 f21 f22 f23 f24 f25) (fun r9 _ => r9 = ab (fSun f1 v n) (iI (snT f1 v (Int.toNat n)))) (va_A (wM g a f1 f2 f3 f4 f5 f6 f7 f8 f9 f10 f11 f12 f13 f20 f21 f22 f23 f24 f25) sz)) 0 0 (va_A (wM g a f1 f2 f3 f4 f5 f6 f7 f8 f9 f10 f11 f12 f13 f20 f21 f22 f23 f24 f25) sz) := by
  refine me (g := g) (by decide) rfl ?_
  intro pq eq s mq below meth cq C hnm hB ls hl
  obtain ⟨hx, hb, hr, hml, hown, hts, hlocks, hK⟩ := C
  have hown : s.vm.findClass RX5 = some mq.cls := hown
  have hl : lv_has ls 5 [(0, .ref (a 0)), (1, .int (iI v)), (2, .int (iI n))] := hl
  obtain ⟨hsz, hP, hD0⟩ := hB
  subst hsz
  have hD := hD0.self (sz := s.heap.size)
  have hA : ∀ q : Nat, s.heap.size ≤ q → va_A (wM g a f1 f2 f3 f4 f5 f6 f7 f8 f9 f10 f11 f12 f13 f20 f21 f22 f23 f24 f25) s.heap.size q := fun q h => Or.inr h
  have hS : va_S (va_A (wM g a f1 f2 f3 f4 f5 f6 f7 f8 f9 f10 f11 f12 f13 f20 f21 f22 f23 f24 f25) s.heap.size) s.heap s.heap [] := va_S.rf
  have hI := h1
  have hI8 : Inv f1 := h1.mono (by omega)
  have hn := hI.num
  have hs := hI.sea
  have hv := hI.vil
  have q1 := h3.1
  have q3 := h4.1
  have q2 := h3.2
  have q4 := h4.2
  refine lv_aload_n hx hb dX5_sun_0 rfl (lv_at hl 0 rfl) ?_
  refine lv_iload_n hx hb dX5_sun_1 rfl (lv_at hl 1 rfl) ?_
  refine xu_b (P := 0 ≤ v ∧ v ≤ f1 2 - 1) (rV (rest := []) hx hb hml hown hts hK hl (c_X5_isVillage l g a f1 f2 f3 f4 f5 f6 f7 f8 f9 f10 f11 f12 f13 f20 f21 f22 f23 f24 f25 v (show IR v from ⟨by omega, by omega⟩) (show 0 ≤ f1 2 ∧ f1 2 ≤ 6 from by omega)) lk_X5_94 hP (va_recv hK.1 hP (ci := 5) (q0 := 0) rfl rfl) rfl rfl rfl (Rm.of rfl) rfl rfl dX5_sun_2) (fun z1 => ?_) (fun z1 => ?_)
  · refine xi_zf_eq hx hb ⟨by decide, by decide⟩ (by decide) dX5_sun_5 ⟨20, by decide⟩ ?_
    refine lv_iload_n hx hb dX5_sun_8 rfl (lv_at hl 2 rfl) ?_
    refine xi_i2l hx hb ⟨by omega, by omega⟩ dX5_sun_9 ?_
    refine lv_lconst (v := lI (0)) hx hb dX5_sun_10 (by decide) ?_
    refine xl_ldc hx hb hown hts kk_X5_155 dX5_sun_11 ?_
    refine xu_b (P := 0 ≤ n ∧ n ≤ 80) (rS (rest := []) hx hb hml hown hts hK hl (c_X5_in l g n 0 80 (show LR n from ⟨by omega, by omega⟩) (show LR 0 from ⟨by omega, by omega⟩) (show LR 80 from ⟨by omega, by omega⟩)) lk_X5_53 trivial rfl rfl rfl (Rm.of rfl) rfl rfl dX5_sun_14) (fun z2 => ?_) (fun z2 => ?_)
    · refine xi_zt_ne (tgt := 27) hx hb ⟨by decide, by decide⟩ (by decide) dX5_sun_17 (by decide) ?_
      refine lv_aload_n hx hb dX5_sun_27 rfl (lv_at hl 0 rfl) ?_
      refine xm_v (rV (rest := []) hx hb hml hown hts hK hl (c_X5_laysAside l g a f1 f2 f3 f4 f5 f6 f7 f8 f9 f10 f11 f12 f13 f20 f21 f22 f23 f24 f25 (s.heap).size ) lk_X5_172 ⟨rfl, hP, hD.weaken (fun _ _ _ _ => trivial)⟩ (va_recv hK.1 hP (ci := 5) (q0 := 0) rfl rfl) rfl rfl rfl (Rm.of rfl) rfl rfl dX5_sun_28) hD hS hA (fun _ H locs hw hP hD hS => ?_)
      have hP : va_P g.1 vwCl (wM g a f1 f2 f3 f1 f5 f6 f7 f8 f9 f10 f11 f12 f13 f20 f21 f22 f23 f24 f25) H := hP
      have hD : va_D (va_A (wM g a f1 f2 f3 f4 f5 f6 f7 f8 f9 f10 f11 f12 f13 f20 f21 f22 f23 f24 f25) s.heap.size) (wM g a f1 f2 f3 f1 f5 f6 f7 f8 f9 f10 f11 f12 f13 f20 f21 f22 f23 f24 f25) := hD
      refine lv_iconst (v := iI (0)) hx hb dX5_sun_31 (by decide) ?_
      refine lv_istore_n (lv' := [(3, .int (iI 0)), (0, .ref (a 0)), (1, .int (iI v)), (2, .int (iI n))]) hx hb dX5_sun_32 rfl hl (by decide) rfl (fun ls hl => ?_)
      refine lv_iconst (v := iI (0)) hx hb dX5_sun_33 (by decide) ?_
      refine lv_istore (lv' := [(4, .int (iI 0)), (3, .int (iI 0)), (0, .ref (a 0)), (1, .int (iI v)), (2, .int (iI n))]) hx hb dX5_sun_34 hl (by decide) rfl (fun ls hl => ?_)
      have lp36 : ∀ (n36 : Nat) (k : Nat) (l7 : Int → Int), ((k : Int) ≤ n) → n.toNat - k < n36 → ∀ ls : Array Slot, lv_has ls 5 [(4, .int (iI (k : Int))), (3, .int (iI (snT f1 v k))), (0, .ref (a 0)), (1, .int (iI v)), (2, .int (iI n))] → ∀ (H : Heap) (locs : List Loc), va_P g.1 vwCl (wM g a (seaN f1 k) f2 f3 f1 f5 f6 l7 f8 f9 f10 f11 f12 f13 f20 f21 f22 f23 f24 f25) H → va_D (va_A (wM g a f1 f2 f3 f4 f5 f6 f7 f8 f9 f10 f11 f12 f13 f20 f21 f22 f23 f24 f25) s.heap.size) (wM g a (seaN f1 k) f2 f3 f1 f5 f6 l7 f8 f9 f10 f11 f12 f13 f20 f21 f22 f23 f24 f25) → va_S (va_A (wM g a f1 f2 f3 f4 f5 f6 f7 f8 f9 f10 f11 f12 f13 f20 f21 f22 f23 f24 f25) s.heap.size) s.heap H locs → W pq l eq rm_X5_sun s mq [.ref (a 0), .int (iI v), .int (iI n)].toArray below meth cq H locs 0 0 (MQ below (QMi g (fun u9 : Nat → Int → Int => wM g a f1 f2 f3 (u9 4) f5 (fb (fSun f1 v n) f6) (u9 7) f8 f9 f10 f11 f12 f13 f20 f21 f22 f23 f24 f25) (fun r9 _ => r9 = ab (fSun f1 v n) (iI (snT f1 v (Int.toNat n)))) (va_A (wM g a f1 f2 f3 f4 f5 f6 f7 f8 f9 f10 f11 f12 f13 f20 f21 f22 f23 f24 f25) s.heap.size)) [.ref (a 0), .int (iI v), .int (iI n)].toArray s 0 0 (va_A (wM g a f1 f2 f3 f4 f5 f6 f7 f8 f9 f10 f11 f12 f13 f20 f21 f22 f23 f24 f25) s.heap.size)) (F0 mq 36 ls []) := by
        intro n36
        induction n36 with
        | zero => intro k l7 i36_1 hm; exact absurd hm (Nat.not_lt_zero _)
        | succ n36 ih36 =>
          intro k l7 i36_1 hm36 ls hl H locs hP hD hS
          have hsn := seaN_inv hI k (by omega)
          have hs0 := hsn.2.1
          refine lv_iload hx hb dX5_sun_36 (lv_at hl 0 rfl) ?_
          refine lv_iload_n hx hb dX5_sun_38 rfl (lv_at hl 4 rfl) ?_
          refine xi_c_ge (tgt := 68) hx hb ⟨by omega, by omega⟩ ⟨by omega, by omega⟩ dX5_sun_39 (by decide) (fun z4 => ?_) (fun z4 => ?_)
          · refine lv_aload_n hx hb dX5_sun_68 rfl (lv_at hl 2 rfl) ?_
            refine lv_iload_n hx hb dX5_sun_69 rfl (lv_at hl 1 rfl) ?_
            refine xm_i (rV (rest := []) hx hb hml hown hts hK hl (c_X5_takesBack l g a (seaN f1 k) f2 f3 f1 f5 f6 l7 f8 f9 f10 f11 f12 f13 f20 f21 f22 f23 f24 f25 (iI (snT f1 v k)) H.size ) lk_X5_175 ⟨rfl, hP, hD.weaken (fun _ _ _ _ => trivial)⟩ (va_recv hK.1 hP (ci := 5) (q0 := 0) rfl rfl) rfl rfl rfl (Rm.of rfl) rfl rfl dX5_sun_70) hD hS hA (fun x9 _ H locs hw hP hD hS => ?_)
            obtain rfl : x9 = (iI (snT f1 v k)) := hw
            have hP : va_P g.1 vwCl (wM g a f1 f2 f3 f1 f5 f6 l7 f8 f9 f10 f11 f12 f13 f20 f21 f22 f23 f24 f25) H := hP
            have hD : va_D (va_A (wM g a f1 f2 f3 f4 f5 f6 f7 f8 f9 f10 f11 f12 f13 f20 f21 f22 f23 f24 f25) s.heap.size) (wM g a f1 f2 f3 f1 f5 f6 l7 f8 f9 f10 f11 f12 f13 f20 f21 f22 f23 f24 f25) := hD
            have hf : fSun f1 v n = 0 := by unfold fSun; (repeat (first | rw [if_pos (by omega)] | rw [if_neg (by omega)])); first | done | (exfalso; omega)
            have he6 : f6 = (fb (fSun f1 v n) f6) := by rw [hf]; rfl
            have hP := Eq.mp (congrArg (fun z9 => va_P g.1 vwCl (wM g a f1 f2 f3 f1 f5 z9 l7 f8 f9 f10 f11 f12 f13 f20 f21 f22 f23 f24 f25) H) he6) hP
            have hD := Eq.mp (congrArg (fun z9 => va_D (va_A (wM g a f1 f2 f3 f4 f5 f6 f7 f8 f9 f10 f11 f12 f13 f20 f21 f22 f23 f24 f25) s.heap.size) (wM g a f1 f2 f3 f1 f5 z9 l7 f8 f9 f10 f11 f12 f13 f20 f21 f22 f23 f24 f25)) he6) hD
            have hP : va_P g.1 vwCl (wM g a f1 f2 f3 ((su (su (fun _ _ => 0) 4 f1) 7 l7) 4) f5 (fb (fSun f1 v n) f6) ((su (su (fun _ _ => 0) 4 f1) 7 l7) 7) f8 f9 f10 f11 f12 f13 f20 f21 f22 f23 f24 f25) H := hP
            have hD : va_D (va_A (wM g a f1 f2 f3 f4 f5 f6 f7 f8 f9 f10 f11 f12 f13 f20 f21 f22 f23 f24 f25) s.heap.size) (wM g a f1 f2 f3 ((su (su (fun _ _ => 0) 4 f1) 7 l7) 4) f5 (fb (fSun f1 v n) f6) ((su (su (fun _ _ => 0) 4 f1) 7 l7) 7) f8 f9 f10 f11 f12 f13 f20 f21 f22 f23 f24 f25) := hD
            exact W.iret hx hb hr (fun t ht hW => ⟨⟨_, (su (su (fun _ _ => 0) 4 f1) 7 l7), rfl, by rw [hf, ab_0, show n.toNat = k by omega], by rw [ht]; exact hP, hD⟩, hS.F ht⟩) hS.2.2 dX5_sun_73
          · have hsn2 := seaN_inv hI (k + 1) (by omega)
            have hs2 := hsn2.2.2 2 (by omega) (by omega)
            refine lv_aload_n hx hb dX5_sun_42 rfl (lv_at hl 2 rfl) ?_
            refine xm_v (rV (rest := []) hx hb hml hown hts hK hl (c_X5_season l g a (seaN f1 k) f2 f3 f1 f5 f6 l7 f8 f9 f10 f11 f12 f13 f20 f21 f22 f23 f24 f25 H.size (show InvK 0 (seaN f1 k) from hsn.1) (show (seaN f1 k) 0 < 20000 from by omega)) lk_X5_152 ⟨rfl, hP, hD.weaken (fun _ _ _ _ => trivial)⟩ (va_recv hK.1 hP (ci := 5) (q0 := 0) rfl rfl) rfl rfl rfl (Rm.of rfl) rfl rfl dX5_sun_43) hD hS hA (fun u7 H locs hw hP hD hS => ?_)
            have hP : va_P g.1 vwCl (wM g a (sea (seaN f1 k)) f2 f3 f1 f5 f6 (u7 7) f8 f9 f10 f11 f12 f13 f20 f21 f22 f23 f24 f25) H := hP
            have hD : va_D (va_A (wM g a f1 f2 f3 f4 f5 f6 f7 f8 f9 f10 f11 f12 f13 f20 f21 f22 f23 f24 f25) s.heap.size) (wM g a (sea (seaN f1 k)) f2 f3 f1 f5 f6 (u7 7) f8 f9 f10 f11 f12 f13 f20 f21 f22 f23 f24 f25) := hD
            refine lv_iload_n hx hb dX5_sun_46 rfl (lv_at hl 1 rfl) ?_
            refine lv_aload_n hx hb dX5_sun_47 rfl (lv_at hl 2 rfl) ?_
            refine lv_iload_n hx hb dX5_sun_48 rfl (lv_at hl 3 rfl) ?_
            refine xu_b (P := litP (sea (seaN f1 k)) v) (rV (rest := [.int (iI (snT f1 v k))]) hx hb hml hown hts hK hl (c_X5_isLit l g a (sea (seaN f1 k)) f2 f3 f1 f5 f6 (u7 7) f8 f9 f10 f11 f12 f13 f20 f21 f22 f23 f24 f25 v (show Inv (sea (seaN f1 k)) from hsn2.1.mono (by omega)) (show 0 ≤ v ∧ v < (sea (seaN f1 k)) 2 from by have := hs2; simp only [seaN] at this; omega)) lk_X5_97 hP (va_recv hK.1 hP (ci := 5) (q0 := 0) rfl rfl) rfl rfl rfl (Rm.of rfl) rfl rfl dX5_sun_49) (fun z8 => ?_) (fun z8 => ?_)
            · refine xi_zf_eq hx hb ⟨by decide, by decide⟩ (by decide) dX5_sun_52 ⟨59, by decide⟩ ?_
              refine lv_iconst (v := iI (1)) hx hb dX5_sun_55 (by decide) ?_
              refine lv_goto (tgt := 60) hx hb dX5_sun_56 (by decide) ?_
              refine xi_add hx hb dX5_sun_60 ?_
              refine lv_istore_n (lv' := [(3, .int (iI (snT f1 v k + 1))), (4, .int (iI (k : Int))), (0, .ref (a 0)), (1, .int (iI v)), (2, .int (iI n))]) hx hb dX5_sun_61 rfl hl (by decide) rfl (fun ls hl => ?_)
              refine xi_inc (lv' := [(4, .int (iI ((k : Int) + 1))), (3, .int (iI (snT f1 v k + 1))), (0, .ref (a 0)), (1, .int (iI v)), (2, .int (iI n))]) hx hb dX5_sun_62 hl (k := 1) rfl (by decide) rfl (fun ls hl => ?_)
              refine lv_goto (tgt := 36) hx hb dX5_sun_65 (by decide) ?_
              have hq9 : ((k : Int) + 1) = ((k + 1) : Int) := by omega
              have hq10 : (snT f1 v k + 1) = (snT f1 v (k + 1)) := by show _ = snT f1 v k + (if litP (seaN f1 (k + 1)) v then 1 else 0); first | (rw [if_pos (show litP (seaN f1 (k + 1)) v by assumption)]; done) | (rw [if_neg (show ¬ litP (seaN f1 (k + 1)) v by assumption)]; done)
              have hl : lv_has ls 5 [(4, .int (iI ((k : Int) + 1))), (3, .int (iI (snT f1 v k + 1))), (0, .ref (a 0)), (1, .int (iI v)), (2, .int (iI n))] := lv_sub hl [0, 1, 2, 3, 4] rfl
              have hl := Eq.mp (congrArg (fun z9 => lv_has ls 5 [(4, .int (iI z9)), (3, .int (iI (snT f1 v k + 1))), (0, .ref (a 0)), (1, .int (iI v)), (2, .int (iI n))]) hq9) hl
              have hl := Eq.mp (congrArg (fun z9 => lv_has ls 5 [(4, .int (iI ((k + 1) : Int))), (3, .int (iI z9)), (0, .ref (a 0)), (1, .int (iI v)), (2, .int (iI n))]) hq10) hl
              have hq11 : (sea (seaN f1 k)) = (seaN f1 (k + 1)) := rfl
              have hP := Eq.mp (congrArg (fun z9 => va_P g.1 vwCl (wM g a z9 f2 f3 f1 f5 f6 (u7 7) f8 f9 f10 f11 f12 f13 f20 f21 f22 f23 f24 f25) H) hq11) hP
              have hD := Eq.mp (congrArg (fun z9 => va_D (va_A (wM g a f1 f2 f3 f4 f5 f6 f7 f8 f9 f10 f11 f12 f13 f20 f21 f22 f23 f24 f25) s.heap.size) (wM g a z9 f2 f3 f1 f5 f6 (u7 7) f8 f9 f10 f11 f12 f13 f20 f21 f22 f23 f24 f25)) hq11) hD
              exact ih36 (k + 1) (u7 7) (by omega) (by omega) ls hl H locs hP hD hS
            · refine xi_zt_eq (tgt := 59) hx hb ⟨by decide, by decide⟩ (by decide) dX5_sun_52 (by decide) ?_
              refine lv_iconst (v := iI (0)) hx hb dX5_sun_59 (by decide) ?_
              refine xi_add hx hb dX5_sun_60 ?_
              refine lv_istore_n (lv' := [(3, .int (iI (snT f1 v k + 0))), (4, .int (iI (k : Int))), (0, .ref (a 0)), (1, .int (iI v)), (2, .int (iI n))]) hx hb dX5_sun_61 rfl hl (by decide) rfl (fun ls hl => ?_)
              refine xi_inc (lv' := [(4, .int (iI ((k : Int) + 1))), (3, .int (iI (snT f1 v k + 0))), (0, .ref (a 0)), (1, .int (iI v)), (2, .int (iI n))]) hx hb dX5_sun_62 hl (k := 1) rfl (by decide) rfl (fun ls hl => ?_)
              refine lv_goto (tgt := 36) hx hb dX5_sun_65 (by decide) ?_
              have hq12 : ((k : Int) + 1) = ((k + 1) : Int) := by omega
              have hq13 : (snT f1 v k + 0) = (snT f1 v (k + 1)) := by show _ = snT f1 v k + (if litP (seaN f1 (k + 1)) v then 1 else 0); first | (rw [if_pos (show litP (seaN f1 (k + 1)) v by assumption)]; done) | (rw [if_neg (show ¬ litP (seaN f1 (k + 1)) v by assumption)]; done)
              have hl : lv_has ls 5 [(4, .int (iI ((k : Int) + 1))), (3, .int (iI (snT f1 v k + 0))), (0, .ref (a 0)), (1, .int (iI v)), (2, .int (iI n))] := lv_sub hl [0, 1, 2, 3, 4] rfl
              have hl := Eq.mp (congrArg (fun z9 => lv_has ls 5 [(4, .int (iI z9)), (3, .int (iI (snT f1 v k + 0))), (0, .ref (a 0)), (1, .int (iI v)), (2, .int (iI n))]) hq12) hl
              have hl := Eq.mp (congrArg (fun z9 => lv_has ls 5 [(4, .int (iI ((k + 1) : Int))), (3, .int (iI z9)), (0, .ref (a 0)), (1, .int (iI v)), (2, .int (iI n))]) hq13) hl
              have hq14 : (sea (seaN f1 k)) = (seaN f1 (k + 1)) := rfl
              have hP := Eq.mp (congrArg (fun z9 => va_P g.1 vwCl (wM g a z9 f2 f3 f1 f5 f6 (u7 7) f8 f9 f10 f11 f12 f13 f20 f21 f22 f23 f24 f25) H) hq14) hP
              have hD := Eq.mp (congrArg (fun z9 => va_D (va_A (wM g a f1 f2 f3 f4 f5 f6 f7 f8 f9 f10 f11 f12 f13 f20 f21 f22 f23 f24 f25) s.heap.size) (wM g a z9 f2 f3 f1 f5 f6 (u7 7) f8 f9 f10 f11 f12 f13 f20 f21 f22 f23 f24 f25)) hq14) hD
              exact ih36 (k + 1) (u7 7) (by omega) (by omega) ls hl H locs hP hD hS
      have hq15 : 0 = (0 : Int) := rfl
      have hq16 : 0 = (snT f1 v 0) := rfl
      have hl : lv_has ls 5 [(4, .int (iI 0)), (3, .int (iI 0)), (0, .ref (a 0)), (1, .int (iI v)), (2, .int (iI n))] := lv_sub hl [0, 1, 2, 3, 4] rfl
      have hl := Eq.mp (congrArg (fun z9 => lv_has ls 5 [(4, .int (iI z9)), (3, .int (iI 0)), (0, .ref (a 0)), (1, .int (iI v)), (2, .int (iI n))]) hq15) hl
      have hl := Eq.mp (congrArg (fun z9 => lv_has ls 5 [(4, .int (iI (0 : Int))), (3, .int (iI z9)), (0, .ref (a 0)), (1, .int (iI v)), (2, .int (iI n))]) hq16) hl
      have hq17 : f1 = (seaN f1 0) := rfl
      have hP := Eq.mp (congrArg (fun z9 => va_P g.1 vwCl (wM g a z9 f2 f3 f1 f5 f6 f7 f8 f9 f10 f11 f12 f13 f20 f21 f22 f23 f24 f25) H) hq17) hP
      have hD := Eq.mp (congrArg (fun z9 => va_D (va_A (wM g a f1 f2 f3 f4 f5 f6 f7 f8 f9 f10 f11 f12 f13 f20 f21 f22 f23 f24 f25) s.heap.size) (wM g a z9 f2 f3 f1 f5 f6 f7 f8 f9 f10 f11 f12 f13 f20 f21 f22 f23 f24 f25)) hq17) hD
      exact lp36 (n.toNat + 1) 0 f7 (by omega) (by omega) ls hl H locs hP hD hS
    · refine xi_zf_ne hx hb ⟨by decide, by decide⟩ (by decide) dX5_sun_17 ⟨27, by decide⟩ ?_
      refine lv_aload_n hx hb dX5_sun_20 rfl (lv_at hl 0 rfl) ?_
      refine xi_ldc hx hb hown hts kk_X5_50 dX5_sun_21 ?_
      refine xm_i (rV (rest := []) hx hb hml hown hts hK hl (c_X5_finds l g a f1 f2 f3 f4 f5 f6 f7 f8 f9 f10 f11 f12 f13 f20 f21 f22 f23 f24 f25 (-1000000001) (s.heap).size (show 0 ≤ -1000000001 - (-1000000001) ∧ -1000000001 - (-1000000001) < 7 from by omega)) lk_X5_74 ⟨rfl, hP, hD.weaken (fun _ _ _ _ => trivial)⟩ (va_recv hK.1 hP (ci := 5) (q0 := 0) rfl rfl) rfl rfl rfl (Rm.of rfl) rfl rfl dX5_sun_23) hD hS hA (fun x9 _ H locs hw hP hD hS => ?_)
      obtain rfl : x9 = iI (-1000000001) := hw
      have hP : va_P g.1 vwCl (wM g a f1 f2 f3 f4 f5 (fb (-1000000000 - (-1000000001)) f6) f7 f8 f9 f10 f11 f12 f13 f20 f21 f22 f23 f24 f25) H := hP
      have hD : va_D (va_A (wM g a f1 f2 f3 f4 f5 f6 f7 f8 f9 f10 f11 f12 f13 f20 f21 f22 f23 f24 f25) s.heap.size) (wM g a f1 f2 f3 f4 f5 (fb (-1000000000 - (-1000000001)) f6) f7 f8 f9 f10 f11 f12 f13 f20 f21 f22 f23 f24 f25) := hD
      have hf : fSun f1 v n = 1 := by unfold fSun; (repeat (first | rw [if_pos (by omega)] | rw [if_neg (by omega)])); first | done | (exfalso; omega)
      have he19 : (fb (-1000000000 - (-1000000001)) f6) = (fb (fSun f1 v n) f6) := by rw [hf]; rfl
      have hP := Eq.mp (congrArg (fun z9 => va_P g.1 vwCl (wM g a f1 f2 f3 f4 f5 z9 f7 f8 f9 f10 f11 f12 f13 f20 f21 f22 f23 f24 f25) H) he19) hP
      have hD := Eq.mp (congrArg (fun z9 => va_D (va_A (wM g a f1 f2 f3 f4 f5 f6 f7 f8 f9 f10 f11 f12 f13 f20 f21 f22 f23 f24 f25) s.heap.size) (wM g a f1 f2 f3 f4 f5 z9 f7 f8 f9 f10 f11 f12 f13 f20 f21 f22 f23 f24 f25)) he19) hD
      have hP : va_P g.1 vwCl (wM g a f1 f2 f3 ((su (su (fun _ _ => 0) 4 f4) 7 f7) 4) f5 (fb (fSun f1 v n) f6) ((su (su (fun _ _ => 0) 4 f4) 7 f7) 7) f8 f9 f10 f11 f12 f13 f20 f21 f22 f23 f24 f25) H := hP
      have hD : va_D (va_A (wM g a f1 f2 f3 f4 f5 f6 f7 f8 f9 f10 f11 f12 f13 f20 f21 f22 f23 f24 f25) s.heap.size) (wM g a f1 f2 f3 ((su (su (fun _ _ => 0) 4 f4) 7 f7) 4) f5 (fb (fSun f1 v n) f6) ((su (su (fun _ _ => 0) 4 f4) 7 f7) 7) f8 f9 f10 f11 f12 f13 f20 f21 f22 f23 f24 f25) := hD
      exact W.iret hx hb hr (fun t ht hW => ⟨⟨_, (su (su (fun _ _ => 0) 4 f4) 7 f7), rfl, by rw [hf]; rfl, by rw [ht]; exact hP, hD⟩, hS.F ht⟩) hS.2.2 dX5_sun_26
  · refine xi_zt_eq (tgt := 20) hx hb ⟨by decide, by decide⟩ (by decide) dX5_sun_5 (by decide) ?_
    refine lv_aload_n hx hb dX5_sun_20 rfl (lv_at hl 0 rfl) ?_
    refine xi_ldc hx hb hown hts kk_X5_50 dX5_sun_21 ?_
    refine xm_i (rV (rest := []) hx hb hml hown hts hK hl (c_X5_finds l g a f1 f2 f3 f4 f5 f6 f7 f8 f9 f10 f11 f12 f13 f20 f21 f22 f23 f24 f25 (-1000000001) (s.heap).size (show 0 ≤ -1000000001 - (-1000000001) ∧ -1000000001 - (-1000000001) < 7 from by omega)) lk_X5_74 ⟨rfl, hP, hD.weaken (fun _ _ _ _ => trivial)⟩ (va_recv hK.1 hP (ci := 5) (q0 := 0) rfl rfl) rfl rfl rfl (Rm.of rfl) rfl rfl dX5_sun_23) hD hS hA (fun x9 _ H locs hw hP hD hS => ?_)
    obtain rfl : x9 = iI (-1000000001) := hw
    have hP : va_P g.1 vwCl (wM g a f1 f2 f3 f4 f5 (fb (-1000000000 - (-1000000001)) f6) f7 f8 f9 f10 f11 f12 f13 f20 f21 f22 f23 f24 f25) H := hP
    have hD : va_D (va_A (wM g a f1 f2 f3 f4 f5 f6 f7 f8 f9 f10 f11 f12 f13 f20 f21 f22 f23 f24 f25) s.heap.size) (wM g a f1 f2 f3 f4 f5 (fb (-1000000000 - (-1000000001)) f6) f7 f8 f9 f10 f11 f12 f13 f20 f21 f22 f23 f24 f25) := hD
    have hf : fSun f1 v n = 1 := by unfold fSun; (repeat (first | rw [if_pos (by omega)] | rw [if_neg (by omega)])); first | done | (exfalso; omega)
    have he21 : (fb (-1000000000 - (-1000000001)) f6) = (fb (fSun f1 v n) f6) := by rw [hf]; rfl
    have hP := Eq.mp (congrArg (fun z9 => va_P g.1 vwCl (wM g a f1 f2 f3 f4 f5 z9 f7 f8 f9 f10 f11 f12 f13 f20 f21 f22 f23 f24 f25) H) he21) hP
    have hD := Eq.mp (congrArg (fun z9 => va_D (va_A (wM g a f1 f2 f3 f4 f5 f6 f7 f8 f9 f10 f11 f12 f13 f20 f21 f22 f23 f24 f25) s.heap.size) (wM g a f1 f2 f3 f4 f5 z9 f7 f8 f9 f10 f11 f12 f13 f20 f21 f22 f23 f24 f25)) he21) hD
    have hP : va_P g.1 vwCl (wM g a f1 f2 f3 ((su (su (fun _ _ => 0) 4 f4) 7 f7) 4) f5 (fb (fSun f1 v n) f6) ((su (su (fun _ _ => 0) 4 f4) 7 f7) 7) f8 f9 f10 f11 f12 f13 f20 f21 f22 f23 f24 f25) H := hP
    have hD : va_D (va_A (wM g a f1 f2 f3 f4 f5 f6 f7 f8 f9 f10 f11 f12 f13 f20 f21 f22 f23 f24 f25) s.heap.size) (wM g a f1 f2 f3 ((su (su (fun _ _ => 0) 4 f4) 7 f7) 4) f5 (fb (fSun f1 v n) f6) ((su (su (fun _ _ => 0) 4 f4) 7 f7) 7) f8 f9 f10 f11 f12 f13 f20 f21 f22 f23 f24 f25) := hD
    exact W.iret hx hb hr (fun t ht hW => ⟨⟨_, (su (su (fun _ _ => 0) 4 f4) 7 f7), rfl, by rw [hf]; rfl, by rw [ht]; exact hP, hD⟩, hS.F ht⟩) hS.2.2 dX5_sun_26
abbrev rm_X5_standing : Room := { frames := 7, cells := 0, slots := 0, locals := 156 }
set_option maxRecDepth 100000 in
set_option maxHeartbeats 4000000 in
theorem c_X5_standing (l : Launch) (g : Gd) (a : Nat → Nat) (f1 : Int → Int) (f2 : Int → Int) (f3 : Int → Int) (f4 : Int → Int) (f5 : Int → Int) (f6 : Int → Int) (f7 : Int → Int) (f8 : Int → Int) (f9 : Int → Int) (f10 : Int → Int) (f11 : Int → Int) (f12 : Int → Int) (f13 : Int → Int) (f20 : Int) (f21 : Int) (f22 : Int) (f23 : Int) (f24 : Int) (f25 : Int) (sz : Nat) (h1 : InvK 0 f1) (h2 : f1 0 ≤ 9999) : Met l yX5_standing (wsOf yX5_standing cX5_standing 3 (some .int)) rm_X5_standing (PX g (wP g (wM g a f1 f2 f3 f4 f5 f6 f7 f8 f9 f10 f11 f12 f13 f20 f21 f22 f23 f24 f25) sz) [.ref (a 0)]) (QMi g (fun u9 : Nat → Int → Int => wM g a (seaN f1 80) f2 f3 f4 f5 f6 (u9 7) (u9 8) f9 f10 f11 f12 f13 f20 f21 f22 f23 f24 f25) (fun r9 _ => r9 = stdS f1) (va_A (wM g a f1 f2 f3 f4 f5 f6 f7 f8 f9 f10 f11 f12 f13 f20 f21 f22 f23 f24 f25) sz)) 0 0 (va_A (wM g a f1 f2 f3 f4 f5 f6 f7 f8 f9 f10 f11 f12 f13 f20 f21 f22 f23 f24 f25) sz) := by
  refine me (g := g) (by decide) rfl ?_
  intro pq eq s mq below meth cq C hnm hB ls hl
  obtain ⟨hx, hb, hr, hml, hown, hts, hlocks, hK⟩ := C
  have hown : s.vm.findClass RX5 = some mq.cls := hown
  have hl : lv_has ls 3 [(0, .ref (a 0))] := hl
  obtain ⟨hsz, hP, hD0⟩ := hB
  subst hsz
  have hD := hD0.self (sz := s.heap.size)
  have hA : ∀ q : Nat, s.heap.size ≤ q → va_A (wM g a f1 f2 f3 f4 f5 f6 f7 f8 f9 f10 f11 f12 f13 f20 f21 f22 f23 f24 f25) s.heap.size q := fun q h => Or.inr h
  have hS : va_S (va_A (wM g a f1 f2 f3 f4 f5 f6 f7 f8 f9 f10 f11 f12 f13 f20 f21 f22 f23 f24 f25) s.heap.size) s.heap s.heap [] := va_S.rf
  have hI := h1
  have hI8 : Inv f1 := h1.mono (by omega)
  have hn := hI.num
  have hs := hI.sea
  have hv := hI.vil
  have hsn := seaN_inv hI 80 (by omega)
  have hs0 := hsn.2.1
  have hs1 := hsn.2.2 1 (by omega) (by omega)
  refine lv_iconst (v := iI (0)) hx hb dX5_standing_0 (by decide) ?_
  refine lv_istore_n (lv' := [(1, .int (iI 0)), (0, .ref (a 0))]) hx hb dX5_standing_1 rfl hl (by decide) rfl (fun ls hl => ?_)
  have lp2 : ∀ (n2 : Nat) (k : Nat), ((k : Int) ≤ f1 1) → 8 - k < n2 → ∀ ls : Array Slot, lv_has ls 3 [(1, .int (iI (k : Int))), (0, .ref (a 0))] → ∀ (H : Heap) (locs : List Loc), va_P g.1 vwCl (wM g a f1 f2 f3 f4 f5 f6 f7 (cpT (fun j => f1 (61 + 5 * j + 3)) f8 k) f9 f10 f11 f12 f13 f20 f21 f22 f23 f24 f25) H → va_D (va_A (wM g a f1 f2 f3 f4 f5 f6 f7 f8 f9 f10 f11 f12 f13 f20 f21 f22 f23 f24 f25) s.heap.size) (wM g a f1 f2 f3 f4 f5 f6 f7 (cpT (fun j => f1 (61 + 5 * j + 3)) f8 k) f9 f10 f11 f12 f13 f20 f21 f22 f23 f24 f25) → va_S (va_A (wM g a f1 f2 f3 f4 f5 f6 f7 f8 f9 f10 f11 f12 f13 f20 f21 f22 f23 f24 f25) s.heap.size) s.heap H locs → W pq l eq rm_X5_standing s mq [.ref (a 0)].toArray below meth cq H locs 0 0 (MQ below (QMi g (fun u9 : Nat → Int → Int => wM g a (seaN f1 80) f2 f3 f4 f5 f6 (u9 7) (u9 8) f9 f10 f11 f12 f13 f20 f21 f22 f23 f24 f25) (fun r9 _ => r9 = stdS f1) (va_A (wM g a f1 f2 f3 f4 f5 f6 f7 f8 f9 f10 f11 f12 f13 f20 f21 f22 f23 f24 f25) s.heap.size)) [.ref (a 0)].toArray s 0 0 (va_A (wM g a f1 f2 f3 f4 f5 f6 f7 f8 f9 f10 f11 f12 f13 f20 f21 f22 f23 f24 f25) s.heap.size)) (F0 mq 2 ls []) := by
    intro n2
    induction n2 with
    | zero => intro k i2_1 hm; exact absurd hm (Nat.not_lt_zero _)
    | succ n2 ih2 =>
      intro k i2_1 hm2 ls hl H locs hP hD hS
      refine lv_iload_n hx hb dX5_standing_2 rfl (lv_at hl 0 rfl) ?_
      refine lv_aload_n hx hb dX5_standing_3 rfl (lv_at hl 1 rfl) ?_
      refine xg_X5 hx hb hts hown hK hP 0 rfl 0 (by decide) fk_X5_7 (v := .ref (a 1)) rfl dX5_standing_4 ?_
      refine lv_iconst (v := iI (1)) hx hb dX5_standing_7 (by decide) ?_
      refine xi_ald hx hb hK hP 1 (f := f1) rfl (i := 1) ⟨by omega, by omega⟩ rfl dX5_standing_8 ?_
      refine xi_c_ge (tgt := 30) hx hb ⟨by omega, by omega⟩ ⟨by omega, by omega⟩ dX5_standing_9 (by decide) (fun z1 => ?_) (fun z1 => ?_)
      · refine lv_aload_n hx hb dX5_standing_30 rfl (lv_at hl 1 rfl) ?_
        refine lv_bipush (v := iI (80)) hx hb dX5_standing_31 (by decide) ?_
        refine xm_v (rV (rest := []) hx hb hml hown hts hK hl (c_X5_go l g a f1 f2 f3 f4 f5 f6 f7 (cpT (fun j => f1 (61 + 5 * j + 3)) f8 k) f9 f10 f11 f12 f13 f20 f21 f22 f23 f24 f25 80 H.size (show InvK 0 f1 from h1) (show 0 ≤ 80 ∧ f1 0 + 80 ≤ 20000 from by omega)) lk_X5_157 ⟨rfl, hP, hD.weaken (fun _ _ _ _ => trivial)⟩ (va_recv hK.1 hP (ci := 5) (q0 := 0) rfl rfl) rfl rfl rfl (Rm.of rfl) rfl rfl dX5_standing_33) hD hS hA (fun u2 H locs hw hP hD hS => ?_)
        have hP : va_P g.1 vwCl (wM g a (seaN f1 80) f2 f3 f4 f5 f6 (u2 7) (cpT (fun j => f1 (61 + 5 * j + 3)) f8 k) f9 f10 f11 f12 f13 f20 f21 f22 f23 f24 f25) H := hP
        have hD : va_D (va_A (wM g a f1 f2 f3 f4 f5 f6 f7 f8 f9 f10 f11 f12 f13 f20 f21 f22 f23 f24 f25) s.heap.size) (wM g a (seaN f1 80) f2 f3 f4 f5 f6 (u2 7) (cpT (fun j => f1 (61 + 5 * j + 3)) f8 k) f9 f10 f11 f12 f13 f20 f21 f22 f23 f24 f25) := hD
        refine lv_iconst (v := iI (0)) hx hb dX5_standing_36 (by decide) ?_
        refine lv_istore_n (lv' := [(1, .int (iI 0)), (0, .ref (a 0))]) hx hb dX5_standing_37 rfl hl (by decide) rfl (fun ls hl => ?_)
        refine lv_iconst (v := iI (0)) hx hb dX5_standing_38 (by decide) ?_
        refine lv_istore_n (lv' := [(2, .int (iI 0)), (1, .int (iI 0)), (0, .ref (a 0))]) hx hb dX5_standing_39 rfl hl (by decide) rfl (fun ls hl => ?_)
        have lp40 : ∀ (n40 : Nat) (j : Nat), ((j : Int) ≤ f1 1) → 8 - j < n40 → ∀ ls : Array Slot, lv_has ls 3 [(2, .int (iI (j : Int))), (1, .int (orT (sdT f1) j)), (0, .ref (a 0))] → ∀ (H : Heap) (locs : List Loc), va_P g.1 vwCl (wM g a (seaN f1 80) f2 f3 f4 f5 f6 (u2 7) (cpT (fun j => f1 (61 + 5 * j + 3)) f8 k) f9 f10 f11 f12 f13 f20 f21 f22 f23 f24 f25) H → va_D (va_A (wM g a f1 f2 f3 f4 f5 f6 f7 f8 f9 f10 f11 f12 f13 f20 f21 f22 f23 f24 f25) s.heap.size) (wM g a (seaN f1 80) f2 f3 f4 f5 f6 (u2 7) (cpT (fun j => f1 (61 + 5 * j + 3)) f8 k) f9 f10 f11 f12 f13 f20 f21 f22 f23 f24 f25) → va_S (va_A (wM g a f1 f2 f3 f4 f5 f6 f7 f8 f9 f10 f11 f12 f13 f20 f21 f22 f23 f24 f25) s.heap.size) s.heap H locs → W pq l eq rm_X5_standing s mq [.ref (a 0)].toArray below meth cq H locs 0 0 (MQ below (QMi g (fun u9 : Nat → Int → Int => wM g a (seaN f1 80) f2 f3 f4 f5 f6 (u9 7) (u9 8) f9 f10 f11 f12 f13 f20 f21 f22 f23 f24 f25) (fun r9 _ => r9 = stdS f1) (va_A (wM g a f1 f2 f3 f4 f5 f6 f7 f8 f9 f10 f11 f12 f13 f20 f21 f22 f23 f24 f25) s.heap.size)) [.ref (a 0)].toArray s 0 0 (va_A (wM g a f1 f2 f3 f4 f5 f6 f7 f8 f9 f10 f11 f12 f13 f20 f21 f22 f23 f24 f25) s.heap.size)) (F0 mq 40 ls []) := by
          intro n40
          induction n40 with
          | zero => intro j i40_1 hm; exact absurd hm (Nat.not_lt_zero _)
          | succ n40 ih40 =>
            intro j i40_1 hm40 ls hl H locs hP hD hS
            refine lv_iload_n hx hb dX5_standing_40 rfl (lv_at hl 0 rfl) ?_
            refine lv_aload_n hx hb dX5_standing_41 rfl (lv_at hl 2 rfl) ?_
            refine xg_X5 hx hb hts hown hK hP 0 rfl 0 (by decide) fk_X5_7 (v := .ref (a 1)) rfl dX5_standing_42 ?_
            refine lv_iconst (v := iI (1)) hx hb dX5_standing_45 (by decide) ?_
            refine xi_ald hx hb hK hP 1 (f := seaN f1 80) rfl (i := 1) ⟨by omega, by omega⟩ rfl dX5_standing_46 ?_
            refine xi_c_ge (tgt := 81) hx hb ⟨by omega, by omega⟩ ⟨by omega, by omega⟩ dX5_standing_47 (by decide) (fun z3 => ?_) (fun z3 => ?_)
            · refine lv_iload_n hx hb dX5_standing_81 rfl (lv_at hl 1 rfl) ?_
              have hP : va_P g.1 vwCl (wM g a (seaN f1 80) f2 f3 f4 f5 f6 ((su (su (fun _ _ => 0) 7 (u2 7)) 8 (cpT (fun j => f1 (61 + 5 * j + 3)) f8 k)) 7) ((su (su (fun _ _ => 0) 7 (u2 7)) 8 (cpT (fun j => f1 (61 + 5 * j + 3)) f8 k)) 8) f9 f10 f11 f12 f13 f20 f21 f22 f23 f24 f25) H := hP
              have hD : va_D (va_A (wM g a f1 f2 f3 f4 f5 f6 f7 f8 f9 f10 f11 f12 f13 f20 f21 f22 f23 f24 f25) s.heap.size) (wM g a (seaN f1 80) f2 f3 f4 f5 f6 ((su (su (fun _ _ => 0) 7 (u2 7)) 8 (cpT (fun j => f1 (61 + 5 * j + 3)) f8 k)) 7) ((su (su (fun _ _ => 0) 7 (u2 7)) 8 (cpT (fun j => f1 (61 + 5 * j + 3)) f8 k)) 8) f9 f10 f11 f12 f13 f20 f21 f22 f23 f24 f25) := hD
              exact W.iret hx hb hr (fun t ht hW => ⟨⟨_, (su (su (fun _ _ => 0) 7 (u2 7)) 8 (cpT (fun j => f1 (61 + 5 * j + 3)) f8 k)), rfl, by show orT (sdT f1) j = orT (sdT f1) (f1 1).toNat; rw [show j = (f1 1).toNat by omega], by rw [ht]; exact hP, hD⟩, hS.F ht⟩) hS.2.2 dX5_standing_82
            · have hcr := hsn.1.ran (j : Int) (by omega) (by omega)
              have hcr2 := hI.ran (j : Int) (by omega) (by omega)
              have hcp : cpT (fun j => f1 (61 + 5 * j + 3)) f8 k (j : Int) = f1 (61 + 5 * (j : Int) + 3) := cpT_in (by omega) (by omega)
              refine lv_iload_n hx hb dX5_standing_50 rfl (lv_at hl 1 rfl) ?_
              refine lv_aload_n hx hb dX5_standing_51 rfl (lv_at hl 2 rfl) ?_
              refine lv_iload_n hx hb dX5_standing_52 rfl (lv_at hl 0 rfl) ?_
              refine lv_iconst (v := iI (3)) hx hb dX5_standing_53 (by decide) ?_
              refine xu_i (x := iI ((seaN f1 80) (61 + 5 * (j : Int) + 3))) (rV (rest := [.int (orT (sdT f1) j)]) hx hb hml hown hts hK hl (c_X5_its l g a (seaN f1 80) f2 f3 f4 f5 f6 (u2 7) (cpT (fun j => f1 (61 + 5 * j + 3)) f8 k) f9 f10 f11 f12 f13 f20 f21 f22 f23 f24 f25 (j : Int) 3 (show 0 ≤ 61 + 5 * (j : Int) + 3 ∧ 61 + 5 * (j : Int) + 3 < 101 from by omega)) lk_X5_63 hP (va_recv hK.1 hP (ci := 5) (q0 := 0) rfl rfl) rfl rfl rfl (Rm.of rfl) rfl rfl dX5_standing_54) ?_
              refine lv_aload_n hx hb dX5_standing_57 rfl (lv_at hl 2 rfl) ?_
              refine xg_X5 hx hb hts hown hK hP 0 rfl 8 (by decide) fk_X5_31 (v := .ref (a 8)) rfl dX5_standing_58 ?_
              refine lv_iload_n hx hb dX5_standing_61 rfl (lv_at hl 0 rfl) ?_
              refine xi_ald hx hb hK hP 8 (f := cpT (fun j => f1 (61 + 5 * j + 3)) f8 k) rfl (i := (j : Int)) ⟨by omega, by omega⟩ rfl dX5_standing_62 ?_
              refine xi_c_ne (tgt := 72) hx hb ⟨by omega, by omega⟩ ⟨by omega, by omega⟩ dX5_standing_63 (by decide) (fun z5 => ?_) (fun z5 => ?_)
              · refine lv_iconst (v := iI (0)) hx hb dX5_standing_72 (by decide) ?_
                refine lv_ior hx hb dX5_standing_73 ?_
                refine lv_istore_n (lv' := [(1, .int (((orT (sdT f1) j)) ||| (iI 0))), (2, .int (iI (j : Int))), (0, .ref (a 0))]) hx hb dX5_standing_74 rfl hl (by decide) rfl (fun ls hl => ?_)
                refine xi_inc (lv' := [(2, .int (iI ((j : Int) + 1))), (1, .int (((orT (sdT f1) j)) ||| (iI 0))), (0, .ref (a 0))]) hx hb dX5_standing_75 hl (k := 1) rfl (by decide) rfl (fun ls hl => ?_)
                refine lv_goto (tgt := 40) hx hb dX5_standing_78 (by decide) ?_
                have hq6 : ((j : Int) + 1) = ((j + 1) : Int) := by omega
                have hq7 : (((orT (sdT f1) j)) ||| (iI 0)) = (orT (sdT f1) (j + 1)) := by simp only [orT, sdT]; first | (rw [if_pos (by omega)]; rfl) | (rw [if_neg (by omega)]; done)
                have hl : lv_has ls 3 [(2, .int (iI ((j : Int) + 1))), (1, .int (((orT (sdT f1) j)) ||| (iI 0))), (0, .ref (a 0))] := lv_sub hl [0, 1, 2] rfl
                have hl := Eq.mp (congrArg (fun z9 => lv_has ls 3 [(2, .int (iI z9)), (1, .int (((orT (sdT f1) j)) ||| (iI 0))), (0, .ref (a 0))]) hq6) hl
                have hl := Eq.mp (congrArg (fun z9 => lv_has ls 3 [(2, .int (iI ((j + 1) : Int))), (1, .int z9), (0, .ref (a 0))]) hq7) hl
                exact ih40 (j + 1) (by omega) (by omega) ls hl H locs hP hD hS
              · refine lv_iconst (v := iI (1)) hx hb dX5_standing_66 (by decide) ?_
                refine lv_iload_n hx hb dX5_standing_67 rfl (lv_at hl 0 rfl) ?_
                refine lv_ishl hx hb dX5_standing_68 ?_
                refine lv_goto (tgt := 73) hx hb dX5_standing_69 (by decide) ?_
                refine lv_ior hx hb dX5_standing_73 ?_
                refine lv_istore_n (lv' := [(1, .int (((orT (sdT f1) j)) ||| (((iI 1) <<< ((iI (j : Int)) &&& 31))))), (2, .int (iI (j : Int))), (0, .ref (a 0))]) hx hb dX5_standing_74 rfl hl (by decide) rfl (fun ls hl => ?_)
                refine xi_inc (lv' := [(2, .int (iI ((j : Int) + 1))), (1, .int (((orT (sdT f1) j)) ||| (((iI 1) <<< ((iI (j : Int)) &&& 31))))), (0, .ref (a 0))]) hx hb dX5_standing_75 hl (k := 1) rfl (by decide) rfl (fun ls hl => ?_)
                refine lv_goto (tgt := 40) hx hb dX5_standing_78 (by decide) ?_
                have hq8 : ((j : Int) + 1) = ((j + 1) : Int) := by omega
                have hq9 : (((orT (sdT f1) j)) ||| (((iI 1) <<< ((iI (j : Int)) &&& 31)))) = (orT (sdT f1) (j + 1)) := by simp only [orT, sdT]; first | (rw [if_pos (by omega)]; rfl) | (rw [if_neg (by omega)]; done)
                have hl : lv_has ls 3 [(2, .int (iI ((j : Int) + 1))), (1, .int (((orT (sdT f1) j)) ||| (((iI 1) <<< ((iI (j : Int)) &&& 31))))), (0, .ref (a 0))] := lv_sub hl [0, 1, 2] rfl
                have hl := Eq.mp (congrArg (fun z9 => lv_has ls 3 [(2, .int (iI z9)), (1, .int (((orT (sdT f1) j)) ||| (((iI 1) <<< ((iI (j : Int)) &&& 31))))), (0, .ref (a 0))]) hq8) hl
                have hl := Eq.mp (congrArg (fun z9 => lv_has ls 3 [(2, .int (iI ((j + 1) : Int))), (1, .int z9), (0, .ref (a 0))]) hq9) hl
                exact ih40 (j + 1) (by omega) (by omega) ls hl H locs hP hD hS
        have hq10 : 0 = (0 : Int) := rfl
        have hq11 : (iI 0) = (orT (sdT f1) 0) := rfl
        have hl : lv_has ls 3 [(2, .int (iI 0)), (1, .int (iI 0)), (0, .ref (a 0))] := lv_sub hl [0, 1, 2] rfl
        have hl := Eq.mp (congrArg (fun z9 => lv_has ls 3 [(2, .int (iI z9)), (1, .int (iI 0)), (0, .ref (a 0))]) hq10) hl
        have hl := Eq.mp (congrArg (fun z9 => lv_has ls 3 [(2, .int (iI (0 : Int))), (1, .int z9), (0, .ref (a 0))]) hq11) hl
        exact lp40 (8 + 1) 0 (by omega) (by omega) ls hl H locs hP hD hS
      · refine lv_aload_n hx hb dX5_standing_12 rfl (lv_at hl 1 rfl) ?_
        refine xg_X5 hx hb hts hown hK hP 0 rfl 8 (by decide) fk_X5_31 (v := .ref (a 8)) rfl dX5_standing_13 ?_
        refine lv_iload_n hx hb dX5_standing_16 rfl (lv_at hl 0 rfl) ?_
        refine lv_aload_n hx hb dX5_standing_17 rfl (lv_at hl 1 rfl) ?_
        refine lv_iload_n hx hb dX5_standing_18 rfl (lv_at hl 0 rfl) ?_
        refine lv_iconst (v := iI (3)) hx hb dX5_standing_19 (by decide) ?_
        refine xu_i (x := iI (f1 (61 + 5 * (k : Int) + 3))) (rV (rest := [.int (iI (k : Int)), .ref (a 8)]) hx hb hml hown hts hK hl (c_X5_its l g a f1 f2 f3 f4 f5 f6 f7 (cpT (fun j => f1 (61 + 5 * j + 3)) f8 k) f9 f10 f11 f12 f13 f20 f21 f22 f23 f24 f25 (k : Int) 3 (show 0 ≤ 61 + 5 * (k : Int) + 3 ∧ 61 + 5 * (k : Int) + 3 < 101 from by omega)) lk_X5_63 hP (va_recv hK.1 hP (ci := 5) (q0 := 0) rfl rfl) rfl rfl rfl (Rm.of rfl) rfl rfl dX5_standing_20) ?_
        refine xi_ast hx hb hK hP hD hS 8 (f := cpT (fun j => f1 (61 + 5 * j + 3)) f8 k) rfl (i := (k : Int)) (v := f1 (61 + 5 * (k : Int) + 3)) ⟨by omega, by omega⟩ rfl dX5_standing_23 (fun H locs hP hD hS => ?_)
        have hP : va_P g.1 vwCl (wM g a f1 f2 f3 f4 f5 f6 f7 (up (cpT (fun j => f1 (61 + 5 * j + 3)) f8 k) (k : Int) (f1 (61 + 5 * (k : Int) + 3))) f9 f10 f11 f12 f13 f20 f21 f22 f23 f24 f25) H := hP
        have hD : va_D (va_A (wM g a f1 f2 f3 f4 f5 f6 f7 f8 f9 f10 f11 f12 f13 f20 f21 f22 f23 f24 f25) s.heap.size) (wM g a f1 f2 f3 f4 f5 f6 f7 (up (cpT (fun j => f1 (61 + 5 * j + 3)) f8 k) (k : Int) (f1 (61 + 5 * (k : Int) + 3))) f9 f10 f11 f12 f13 f20 f21 f22 f23 f24 f25) := hD
        refine xi_inc (lv' := [(1, .int (iI ((k : Int) + 1))), (0, .ref (a 0))]) hx hb dX5_standing_24 hl (k := 0) rfl (by decide) rfl (fun ls hl => ?_)
        refine lv_goto (tgt := 2) hx hb dX5_standing_27 (by decide) ?_
        have hq13 : ((k : Int) + 1) = ((k + 1) : Int) := by omega
        have hl : lv_has ls 3 [(1, .int (iI ((k : Int) + 1))), (0, .ref (a 0))] := lv_sub hl [0, 1] rfl
        have hl := Eq.mp (congrArg (fun z9 => lv_has ls 3 [(1, .int (iI z9)), (0, .ref (a 0))]) hq13) hl
        have hq14 : (up (cpT (fun j => f1 (61 + 5 * j + 3)) f8 k) (k : Int) (f1 (61 + 5 * (k : Int) + 3))) = (cpT (fun j => f1 (61 + 5 * j + 3)) f8 (k + 1)) := cpT_S (fun j => f1 (61 + 5 * j + 3)) f8 (k := (k : Int)) (by omega)
        have hP := Eq.mp (congrArg (fun z9 => va_P g.1 vwCl (wM g a f1 f2 f3 f4 f5 f6 f7 z9 f9 f10 f11 f12 f13 f20 f21 f22 f23 f24 f25) H) hq14) hP
        have hD := Eq.mp (congrArg (fun z9 => va_D (va_A (wM g a f1 f2 f3 f4 f5 f6 f7 f8 f9 f10 f11 f12 f13 f20 f21 f22 f23 f24 f25) s.heap.size) (wM g a f1 f2 f3 f4 f5 f6 f7 z9 f9 f10 f11 f12 f13 f20 f21 f22 f23 f24 f25)) hq14) hD
        exact ih2 (k + 1) (by omega) (by omega) ls hl H locs hP hD hS
  have hq15 : 0 = (0 : Int) := rfl
  have hl : lv_has ls 3 [(1, .int (iI 0)), (0, .ref (a 0))] := lv_sub hl [0, 1] rfl
  have hl := Eq.mp (congrArg (fun z9 => lv_has ls 3 [(1, .int (iI z9)), (0, .ref (a 0))]) hq15) hl
  have hq16 : f8 = (cpT (fun j => f1 (61 + 5 * j + 3)) f8 0) := cpT_0 (fun j => f1 (61 + 5 * j + 3)) f8
  have hP := Eq.mp (congrArg (fun z9 => va_P g.1 vwCl (wM g a f1 f2 f3 f4 f5 f6 f7 z9 f9 f10 f11 f12 f13 f20 f21 f22 f23 f24 f25) s.heap) hq16) hP
  have hD := Eq.mp (congrArg (fun z9 => va_D (va_A (wM g a f1 f2 f3 f4 f5 f6 f7 f8 f9 f10 f11 f12 f13 f20 f21 f22 f23 f24 f25) s.heap.size) (wM g a f1 f2 f3 f4 f5 f6 f7 z9 f9 f10 f11 f12 f13 f20 f21 f22 f23 f24 f25)) hq16) hD
  exact lp2 (8 + 1) 0 (by omega) (by omega) ls hl s.heap [] hP hD hS
abbrev rm_X5_ones : Room := { frames := 0, cells := 0, slots := 0, locals := 0 }
set_option maxRecDepth 100000 in
set_option maxHeartbeats 4000000 in
theorem c_X5_ones (l : Launch) (g : Gd) (x : Nat) (h1 : x < 256) : Met l yX5_ones (wsOf yX5_ones cX5_ones 3 (some .int)) rm_X5_ones (PX g (fun _ => True) [.int (iI (x : Int))]) (vp_Si (fun r9 => r9 = iI (popN x : Int))) 0 0 (fun _ => False) := by
  refine me (g := g) (by decide) rfl ?_
  intro pq eq s mq below meth cq C hnm hB ls hl
  obtain ⟨hx, hb, hr, hml, hown, hts, hlocks, hK⟩ := C
  have hown : s.vm.findClass RX5 = some mq.cls := hown
  have hl : lv_has ls 3 [(0, .int (iI (x : Int)))] := hl
  refine lv_iconst (v := iI (0)) hx hb dX5_ones_0 (by decide) ?_
  refine lv_istore_n (lv' := [(1, .int (iI 0)), (0, .int (iI (x : Int)))]) hx hb dX5_ones_1 rfl hl (by decide) rfl (fun ls hl => ?_)
  refine lv_iload_n hx hb dX5_ones_2 rfl (lv_at hl 1 rfl) ?_
  refine lv_istore_n (lv' := [(2, .int (iI (x : Int))), (1, .int (iI 0)), (0, .int (iI (x : Int)))]) hx hb dX5_ones_3 rfl hl (by decide) rfl (fun ls hl => ?_)
  have lp4 : ∀ (n4 : Nat) (y : Nat) (n : Nat), (y < 256) → (n + popN y = popN x) → y < n4 → ∀ ls : Array Slot, lv_has ls 3 [(2, .int (iI (y : Int))), (1, .int (iI (n : Int))), (0, .int (iI (x : Int)))] → W pq l eq rm_X5_ones s mq [.int (iI (x : Int))].toArray below meth cq s.heap [] 0 0 (MQ below (vp_Si (fun r9 => r9 = iI (popN x : Int))) [.int (iI (x : Int))].toArray s 0 0 (fun _ => False)) (F0 mq 4 ls []) := by
    intro n4
    induction n4 with
    | zero => intro y n i4_1 i4_2 hm; exact absurd hm (Nat.not_lt_zero _)
    | succ n4 ih4 =>
      intro y n i4_1 i4_2 hm4 ls hl
      have hd := fun h => pop_dec ⟨y, i4_1⟩ h
      have hle := pop_le ⟨y, i4_1⟩
      refine lv_iload_n hx hb dX5_ones_4 rfl (lv_at hl 0 rfl) ?_
      refine xi_z_eq (tgt := 20) hx hb ⟨by omega, by omega⟩ dX5_ones_5 (by decide) (fun z1 => ?_) (fun z1 => ?_)
      · refine lv_iload_n hx hb dX5_ones_20 rfl (lv_at hl 1 rfl) ?_
        exact W.iret hx hb hr (fun t ht hW => ⟨_, rfl, congrArg iI (by have := hle.2.mpr (show y = 0 by omega); dsimp only at this; omega), ht⟩) (fun q h => by cases h) dX5_ones_21
      · refine xi_inc (lv' := [(1, .int (iI ((n : Int) + 1))), (2, .int (iI (y : Int))), (0, .int (iI (x : Int)))]) hx hb dX5_ones_8 hl (k := 1) rfl (by decide) rfl (fun ls hl => ?_)
        refine lv_iload_n hx hb dX5_ones_11 rfl (lv_at hl 1 rfl) ?_
        refine lv_iload_n hx hb dX5_ones_12 rfl (lv_at hl 1 rfl) ?_
        refine lv_iconst (v := iI (1)) hx hb dX5_ones_13 (by decide) ?_
        refine xi_sub hx hb dX5_ones_14 ?_
        refine lv_iand hx hb dX5_ones_15 ?_
        refine lv_istore_n (lv' := [(2, .int ((iI (y : Int)) &&& (iI ((y : Int) - 1)))), (1, .int (iI ((n : Int) + 1))), (0, .int (iI (x : Int)))]) hx hb dX5_ones_16 rfl hl (by decide) rfl (fun ls hl => ?_)
        refine lv_goto (tgt := 4) hx hb dX5_ones_17 (by decide) ?_
        have hq2 : ((iI (y : Int)) &&& (iI ((y : Int) - 1))) = (iI ((y &&& (y - 1)) : Int)) := (hd (by show y ≠ 0; omega)).2.2
        have hq3 : ((n : Int) + 1) = ((n + 1) : Int) := by omega
        have hl : lv_has ls 3 [(2, .int ((iI (y : Int)) &&& (iI ((y : Int) - 1)))), (1, .int (iI ((n : Int) + 1))), (0, .int (iI (x : Int)))] := lv_sub hl [0, 1, 2] rfl
        have hl := Eq.mp (congrArg (fun z9 => lv_has ls 3 [(2, .int z9), (1, .int (iI ((n : Int) + 1))), (0, .int (iI (x : Int)))]) hq2) hl
        have hl := Eq.mp (congrArg (fun z9 => lv_has ls 3 [(2, .int (iI ((y &&& (y - 1)) : Int))), (1, .int (iI z9)), (0, .int (iI (x : Int)))]) hq3) hl
        exact ih4 (y &&& (y - 1)) (n + 1) (hd (by show y ≠ 0; omega)).2.1 (by have := (hd (by show y ≠ 0; omega)).1; dsimp only at this; omega) (by have h9 : y &&& (y - 1) ≤ y - 1 := Nat.and_le_right; omega) ls hl
  have hq4 : 0 = (0 : Int) := rfl
  have hl : lv_has ls 3 [(2, .int (iI (x : Int))), (1, .int (iI 0)), (0, .int (iI (x : Int)))] := lv_sub hl [0, 1, 2] rfl
  have hl := Eq.mp (congrArg (fun z9 => lv_has ls 3 [(2, .int (iI (x : Int))), (1, .int (iI z9)), (0, .int (iI (x : Int)))]) hq4) hl
  exact lp4 (x + 1) x 0 (by omega) (by omega) (by omega) ls hl
abbrev rm_X5_stands : Room := { frames := 8, cells := 0, slots := 0, locals := 178 }
set_option maxRecDepth 100000 in
set_option maxHeartbeats 4000000 in
theorem c_X5_stands (l : Launch) (g : Gd) (a : Nat → Nat) (f1 : Int → Int) (f2 : Int → Int) (f3 : Int → Int) (f4 : Int → Int) (f5 : Int → Int) (f6 : Int → Int) (f7 : Int → Int) (f8 : Int → Int) (f9 : Int → Int) (f10 : Int → Int) (f11 : Int → Int) (f12 : Int → Int) (f13 : Int → Int) (f20 : Int) (f21 : Int) (f22 : Int) (f23 : Int) (f24 : Int) (f25 : Int) (sz : Nat) (h1 : InvK 0 f1) (h2 : f1 0 ≤ 9999) : Met l yX5_stands (wsOf yX5_stands cX5_stands 1 (some .int)) rm_X5_stands (PX g (wP g (wM g a f1 f2 f3 f4 f5 f6 f7 f8 f9 f10 f11 f12 f13 f20 f21 f22 f23 f24 f25) sz) [.ref (a 0)]) (QMi g (fun u9 : Nat → Int → Int => wM g a f1 f2 f3 (u9 4) f5 f6 (u9 7) (u9 8) f9 f10 f11 f12 f13 f20 f21 f22 f23 f24 f25) (fun r9 _ => r9 = stdS f1) (va_A (wM g a f1 f2 f3 f4 f5 f6 f7 f8 f9 f10 f11 f12 f13 f20 f21 f22 f23 f24 f25) sz)) 0 0 (va_A (wM g a f1 f2 f3 f4 f5 f6 f7 f8 f9 f10 f11 f12 f13 f20 f21 f22 f23 f24 f25) sz) := by
  refine me (g := g) (by decide) rfl ?_
  intro pq eq s mq below meth cq C hnm hB ls hl
  obtain ⟨hx, hb, hr, hml, hown, hts, hlocks, hK⟩ := C
  have hown : s.vm.findClass RX5 = some mq.cls := hown
  have hl : lv_has ls 1 [(0, .ref (a 0))] := hl
  obtain ⟨hsz, hP, hD0⟩ := hB
  subst hsz
  have hD := hD0.self (sz := s.heap.size)
  have hA : ∀ q : Nat, s.heap.size ≤ q → va_A (wM g a f1 f2 f3 f4 f5 f6 f7 f8 f9 f10 f11 f12 f13 f20 f21 f22 f23 f24 f25) s.heap.size q := fun q h => Or.inr h
  have hS : va_S (va_A (wM g a f1 f2 f3 f4 f5 f6 f7 f8 f9 f10 f11 f12 f13 f20 f21 f22 f23 f24 f25) s.heap.size) s.heap s.heap [] := va_S.rf
  refine lv_aload_n hx hb dX5_stands_0 rfl (lv_at hl 0 rfl) ?_
  refine xm_v (rV (rest := []) hx hb hml hown hts hK hl (c_X5_laysAside l g a f1 f2 f3 f4 f5 f6 f7 f8 f9 f10 f11 f12 f13 f20 f21 f22 f23 f24 f25 (s.heap).size ) lk_X5_172 ⟨rfl, hP, hD.weaken (fun _ _ _ _ => trivial)⟩ (va_recv hK.1 hP (ci := 5) (q0 := 0) rfl rfl) rfl rfl rfl (Rm.of rfl) rfl rfl dX5_stands_1) hD hS hA (fun _ H locs hw hP hD hS => ?_)
  have hP : va_P g.1 vwCl (wM g a f1 f2 f3 f1 f5 f6 f7 f8 f9 f10 f11 f12 f13 f20 f21 f22 f23 f24 f25) H := hP
  have hD : va_D (va_A (wM g a f1 f2 f3 f4 f5 f6 f7 f8 f9 f10 f11 f12 f13 f20 f21 f22 f23 f24 f25) s.heap.size) (wM g a f1 f2 f3 f1 f5 f6 f7 f8 f9 f10 f11 f12 f13 f20 f21 f22 f23 f24 f25) := hD
  refine lv_aload_n hx hb dX5_stands_4 rfl (lv_at hl 0 rfl) ?_
  refine lv_aload_n hx hb dX5_stands_5 rfl (lv_at hl 0 rfl) ?_
  refine xm_i (rV (rest := [.ref (a 0)]) hx hb hml hown hts hK hl (c_X5_standing l g a f1 f2 f3 f1 f5 f6 f7 f8 f9 f10 f11 f12 f13 f20 f21 f22 f23 f24 f25 H.size (show InvK 0 f1 from h1) (show f1 0 ≤ 9999 from by omega)) lk_X5_179 ⟨rfl, hP, hD.weaken (fun _ _ _ _ => trivial)⟩ (va_recv hK.1 hP (ci := 5) (q0 := 0) rfl rfl) rfl rfl rfl (Rm.of rfl) rfl rfl dX5_stands_6) hD hS hA (fun x9 u2 H locs hw hP hD hS => ?_)
  obtain rfl : x9 = stdS f1 := hw
  have hP : va_P g.1 vwCl (wM g a (seaN f1 80) f2 f3 f1 f5 f6 (u2 7) (u2 8) f9 f10 f11 f12 f13 f20 f21 f22 f23 f24 f25) H := hP
  have hD : va_D (va_A (wM g a f1 f2 f3 f4 f5 f6 f7 f8 f9 f10 f11 f12 f13 f20 f21 f22 f23 f24 f25) s.heap.size) (wM g a (seaN f1 80) f2 f3 f1 f5 f6 (u2 7) (u2 8) f9 f10 f11 f12 f13 f20 f21 f22 f23 f24 f25) := hD
  refine xm_i (rV (rest := []) hx hb hml hown hts hK hl (c_X5_takesBack l g a (seaN f1 80) f2 f3 f1 f5 f6 (u2 7) (u2 8) f9 f10 f11 f12 f13 f20 f21 f22 f23 f24 f25 (stdS f1) H.size ) lk_X5_175 ⟨rfl, hP, hD.weaken (fun _ _ _ _ => trivial)⟩ (va_recv hK.1 hP (ci := 5) (q0 := 0) rfl rfl) rfl rfl rfl (Rm.of rfl) rfl rfl dX5_stands_9) hD hS hA (fun x9 _ H locs hw hP hD hS => ?_)
  obtain rfl : x9 = (stdS f1) := hw
  have hP : va_P g.1 vwCl (wM g a f1 f2 f3 f1 f5 f6 (u2 7) (u2 8) f9 f10 f11 f12 f13 f20 f21 f22 f23 f24 f25) H := hP
  have hD : va_D (va_A (wM g a f1 f2 f3 f4 f5 f6 f7 f8 f9 f10 f11 f12 f13 f20 f21 f22 f23 f24 f25) s.heap.size) (wM g a f1 f2 f3 f1 f5 f6 (u2 7) (u2 8) f9 f10 f11 f12 f13 f20 f21 f22 f23 f24 f25) := hD
  have hP : va_P g.1 vwCl (wM g a f1 f2 f3 ((su (su (su (fun _ _ => 0) 4 f1) 7 (u2 7)) 8 (u2 8)) 4) f5 f6 ((su (su (su (fun _ _ => 0) 4 f1) 7 (u2 7)) 8 (u2 8)) 7) ((su (su (su (fun _ _ => 0) 4 f1) 7 (u2 7)) 8 (u2 8)) 8) f9 f10 f11 f12 f13 f20 f21 f22 f23 f24 f25) H := hP
  have hD : va_D (va_A (wM g a f1 f2 f3 f4 f5 f6 f7 f8 f9 f10 f11 f12 f13 f20 f21 f22 f23 f24 f25) s.heap.size) (wM g a f1 f2 f3 ((su (su (su (fun _ _ => 0) 4 f1) 7 (u2 7)) 8 (u2 8)) 4) f5 f6 ((su (su (su (fun _ _ => 0) 4 f1) 7 (u2 7)) 8 (u2 8)) 7) ((su (su (su (fun _ _ => 0) 4 f1) 7 (u2 7)) 8 (u2 8)) 8) f9 f10 f11 f12 f13 f20 f21 f22 f23 f24 f25) := hD
  exact W.iret hx hb hr (fun t ht hW => ⟨⟨_, (su (su (su (fun _ _ => 0) 4 f1) 7 (u2 7)) 8 (u2 8)), rfl, rfl, by rw [ht]; exact hP, hD⟩, hS.F ht⟩) hS.2.2 dX5_stands_12
abbrev rm_X5_goneOn : Room := { frames := 7, cells := 0, slots := 0, locals := 156 }
set_option maxRecDepth 100000 in
set_option maxHeartbeats 4000000 in
theorem c_X5_goneOn (l : Launch) (g : Gd) (a : Nat → Nat) (f1 : Int → Int) (f2 : Int → Int) (f3 : Int → Int) (f4 : Int → Int) (f5 : Int → Int) (f6 : Int → Int) (f7 : Int → Int) (f8 : Int → Int) (f9 : Int → Int) (f10 : Int → Int) (f11 : Int → Int) (f12 : Int → Int) (f13 : Int → Int) (f20 : Int) (f21 : Int) (f22 : Int) (f23 : Int) (f24 : Int) (f25 : Int) (r : Int) (n : Int) (sz : Nat) (h1 : InvK 0 f1) (h2 : 0 ≤ n ∧ f1 0 + n ≤ 20000) (h3 : 0 ≤ r ∧ r < f1 1) : Met l yX5_goneOn (wsOf yX5_goneOn cX5_goneOn 4 (some .int)) rm_X5_goneOn (PX g (wP g (wM g a f1 f2 f3 f4 f5 f6 f7 f8 f9 f10 f11 f12 f13 f20 f21 f22 f23 f24 f25) sz) [.ref (a 0), .int (iI r), .int (iI n)]) (QMi g (fun u9 : Nat → Int → Int => wM g a (seaN f1 (Int.toNat n)) f2 f3 f4 f5 f6 (u9 7) f8 f9 f10 f11 f12 f13 f20 f21 f22 f23 f24 f25) (fun r9 _ => r9 = iI (goneN f1 r n)) (va_A (wM g a f1 f2 f3 f4 f5 f6 f7 f8 f9 f10 f11 f12 f13 f20 f21 f22 f23 f24 f25) sz)) 0 0 (va_A (wM g a f1 f2 f3 f4 f5 f6 f7 f8 f9 f10 f11 f12 f13 f20 f21 f22 f23 f24 f25) sz) := by
  refine me (g := g) (by decide) rfl ?_
  intro pq eq s mq below meth cq C hnm hB ls hl
  obtain ⟨hx, hb, hr, hml, hown, hts, hlocks, hK⟩ := C
  have hown : s.vm.findClass RX5 = some mq.cls := hown
  have hl : lv_has ls 4 [(0, .ref (a 0)), (1, .int (iI r)), (2, .int (iI n))] := hl
  obtain ⟨hsz, hP, hD0⟩ := hB
  subst hsz
  have hD := hD0.self (sz := s.heap.size)
  have hA : ∀ q : Nat, s.heap.size ≤ q → va_A (wM g a f1 f2 f3 f4 f5 f6 f7 f8 f9 f10 f11 f12 f13 f20 f21 f22 f23 f24 f25) s.heap.size q := fun q h => Or.inr h
  have hS : va_S (va_A (wM g a f1 f2 f3 f4 f5 f6 f7 f8 f9 f10 f11 f12 f13 f20 f21 f22 f23 f24 f25) s.heap.size) s.heap s.heap [] := va_S.rf
  have hI := h1
  have hn := hI.num
  refine lv_aload_n hx hb dX5_goneOn_0 rfl (lv_at hl 0 rfl) ?_
  refine lv_iload_n hx hb dX5_goneOn_1 rfl (lv_at hl 1 rfl) ?_
  refine lv_iconst (v := iI (3)) hx hb dX5_goneOn_2 (by decide) ?_
  refine xu_i (x := iI (f1 (61 + 5 * r + 3))) (rV (rest := []) hx hb hml hown hts hK hl (c_X5_its l g a f1 f2 f3 f4 f5 f6 f7 f8 f9 f10 f11 f12 f13 f20 f21 f22 f23 f24 f25 r 3 (show 0 ≤ 61 + 5 * r + 3 ∧ 61 + 5 * r + 3 < 101 from by omega)) lk_X5_63 hP (va_recv hK.1 hP (ci := 5) (q0 := 0) rfl rfl) rfl rfl rfl (Rm.of rfl) rfl rfl dX5_goneOn_3) ?_
  refine lv_istore_n (lv' := [(3, .int (iI (f1 (61 + 5 * r + 3)))), (0, .ref (a 0)), (1, .int (iI r)), (2, .int (iI n))]) hx hb dX5_goneOn_6 rfl hl (by decide) rfl (fun ls hl => ?_)
  refine lv_aload_n hx hb dX5_goneOn_7 rfl (lv_at hl 1 rfl) ?_
  refine lv_iload_n hx hb dX5_goneOn_8 rfl (lv_at hl 3 rfl) ?_
  refine xm_v (rV (rest := []) hx hb hml hown hts hK hl (c_X5_go l g a f1 f2 f3 f4 f5 f6 f7 f8 f9 f10 f11 f12 f13 f20 f21 f22 f23 f24 f25 n (s.heap).size (show InvK 0 f1 from h1) (show 0 ≤ n ∧ f1 0 + n ≤ 20000 from by omega)) lk_X5_157 ⟨rfl, hP, hD.weaken (fun _ _ _ _ => trivial)⟩ (va_recv hK.1 hP (ci := 5) (q0 := 0) rfl rfl) rfl rfl rfl (Rm.of rfl) rfl rfl dX5_goneOn_9) hD hS hA (fun u2 H locs hw hP hD hS => ?_)
  have hP : va_P g.1 vwCl (wM g a (seaN f1 (Int.toNat n)) f2 f3 f4 f5 f6 (u2 7) f8 f9 f10 f11 f12 f13 f20 f21 f22 f23 f24 f25) H := hP
  have hD : va_D (va_A (wM g a f1 f2 f3 f4 f5 f6 f7 f8 f9 f10 f11 f12 f13 f20 f21 f22 f23 f24 f25) s.heap.size) (wM g a (seaN f1 (Int.toNat n)) f2 f3 f4 f5 f6 (u2 7) f8 f9 f10 f11 f12 f13 f20 f21 f22 f23 f24 f25) := hD
  refine lv_aload_n hx hb dX5_goneOn_12 rfl (lv_at hl 1 rfl) ?_
  refine lv_iload_n hx hb dX5_goneOn_13 rfl (lv_at hl 2 rfl) ?_
  refine lv_iconst (v := iI (3)) hx hb dX5_goneOn_14 (by decide) ?_
  refine xu_i (x := iI ((seaN f1 (Int.toNat n)) (61 + 5 * r + 3))) (rV (rest := []) hx hb hml hown hts hK hl (c_X5_its l g a (seaN f1 (Int.toNat n)) f2 f3 f4 f5 f6 (u2 7) f8 f9 f10 f11 f12 f13 f20 f21 f22 f23 f24 f25 r 3 (show 0 ≤ 61 + 5 * r + 3 ∧ 61 + 5 * r + 3 < 101 from by omega)) lk_X5_63 hP (va_recv hK.1 hP (ci := 5) (q0 := 0) rfl rfl) rfl rfl rfl (Rm.of rfl) rfl rfl dX5_goneOn_15) ?_
  refine lv_iload_n hx hb dX5_goneOn_18 rfl (lv_at hl 0 rfl) ?_
  refine xi_sub hx hb dX5_goneOn_19 ?_
  have hP : va_P g.1 vwCl (wM g a (seaN f1 (Int.toNat n)) f2 f3 f4 f5 f6 ((su (fun _ _ => 0) 7 (u2 7)) 7) f8 f9 f10 f11 f12 f13 f20 f21 f22 f23 f24 f25) H := hP
  have hD : va_D (va_A (wM g a f1 f2 f3 f4 f5 f6 f7 f8 f9 f10 f11 f12 f13 f20 f21 f22 f23 f24 f25) s.heap.size) (wM g a (seaN f1 (Int.toNat n)) f2 f3 f4 f5 f6 ((su (fun _ _ => 0) 7 (u2 7)) 7) f8 f9 f10 f11 f12 f13 f20 f21 f22 f23 f24 f25) := hD
  exact W.iret hx hb hr (fun t ht hW => ⟨⟨_, (su (fun _ _ => 0) 7 (u2 7)), rfl, rfl, by rw [ht]; exact hP, hD⟩, hS.F ht⟩) hS.2.2 dX5_goneOn_20
abbrev rm_X5_allOn : Room := { frames := 7, cells := 0, slots := 0, locals := 156 }
set_option maxRecDepth 100000 in
set_option maxHeartbeats 4000000 in
theorem c_X5_allOn (l : Launch) (g : Gd) (a : Nat → Nat) (f1 : Int → Int) (f2 : Int → Int) (f3 : Int → Int) (f4 : Int → Int) (f5 : Int → Int) (f6 : Int → Int) (f7 : Int → Int) (f8 : Int → Int) (f9 : Int → Int) (f10 : Int → Int) (f11 : Int → Int) (f12 : Int → Int) (f13 : Int → Int) (f20 : Int) (f21 : Int) (f22 : Int) (f23 : Int) (f24 : Int) (f25 : Int) (n : Int) (sz : Nat) (h1 : InvK 0 f1) (h2 : 0 ≤ n ∧ f1 0 + n ≤ 20000) : Met l yX5_allOn (wsOf yX5_allOn cX5_allOn 2 (some .int)) rm_X5_allOn (PX g (wP g (wM g a f1 f2 f3 f4 f5 f6 f7 f8 f9 f10 f11 f12 f13 f20 f21 f22 f23 f24 f25) sz) [.ref (a 0), .int (iI n)]) (QMi g (fun u9 : Nat → Int → Int => wM g a (seaN f1 (Int.toNat n)) f2 f3 f4 f5 f6 (u9 7) f8 f9 f10 f11 f12 f13 f20 f21 f22 f23 f24 f25) (fun r9 _ => r9 = iI (sumA (seaN f1 (Int.toNat n)) 3)) (va_A (wM g a f1 f2 f3 f4 f5 f6 f7 f8 f9 f10 f11 f12 f13 f20 f21 f22 f23 f24 f25) sz)) 0 0 (va_A (wM g a f1 f2 f3 f4 f5 f6 f7 f8 f9 f10 f11 f12 f13 f20 f21 f22 f23 f24 f25) sz) := by
  refine me (g := g) (by decide) rfl ?_
  intro pq eq s mq below meth cq C hnm hB ls hl
  obtain ⟨hx, hb, hr, hml, hown, hts, hlocks, hK⟩ := C
  have hown : s.vm.findClass RX5 = some mq.cls := hown
  have hl : lv_has ls 2 [(0, .ref (a 0)), (1, .int (iI n))] := hl
  obtain ⟨hsz, hP, hD0⟩ := hB
  subst hsz
  have hD := hD0.self (sz := s.heap.size)
  have hA : ∀ q : Nat, s.heap.size ≤ q → va_A (wM g a f1 f2 f3 f4 f5 f6 f7 f8 f9 f10 f11 f12 f13 f20 f21 f22 f23 f24 f25) s.heap.size q := fun q h => Or.inr h
  have hS : va_S (va_A (wM g a f1 f2 f3 f4 f5 f6 f7 f8 f9 f10 f11 f12 f13 f20 f21 f22 f23 f24 f25) s.heap.size) s.heap s.heap [] := va_S.rf
  have hI := h1
  have hn := hI.num
  have hsn := seaN_inv hI n.toNat (by omega)
  have hs1 := hsn.2.2 1 (by omega) (by omega)
  refine lv_aload_n hx hb dX5_allOn_0 rfl (lv_at hl 0 rfl) ?_
  refine lv_iload_n hx hb dX5_allOn_1 rfl (lv_at hl 1 rfl) ?_
  refine xm_v (rV (rest := []) hx hb hml hown hts hK hl (c_X5_go l g a f1 f2 f3 f4 f5 f6 f7 f8 f9 f10 f11 f12 f13 f20 f21 f22 f23 f24 f25 n (s.heap).size (show InvK 0 f1 from h1) (show 0 ≤ n ∧ f1 0 + n ≤ 20000 from by omega)) lk_X5_157 ⟨rfl, hP, hD.weaken (fun _ _ _ _ => trivial)⟩ (va_recv hK.1 hP (ci := 5) (q0 := 0) rfl rfl) rfl rfl rfl (Rm.of rfl) rfl rfl dX5_allOn_2) hD hS hA (fun u1 H locs hw hP hD hS => ?_)
  have hP : va_P g.1 vwCl (wM g a (seaN f1 (Int.toNat n)) f2 f3 f4 f5 f6 (u1 7) f8 f9 f10 f11 f12 f13 f20 f21 f22 f23 f24 f25) H := hP
  have hD : va_D (va_A (wM g a f1 f2 f3 f4 f5 f6 f7 f8 f9 f10 f11 f12 f13 f20 f21 f22 f23 f24 f25) s.heap.size) (wM g a (seaN f1 (Int.toNat n)) f2 f3 f4 f5 f6 (u1 7) f8 f9 f10 f11 f12 f13 f20 f21 f22 f23 f24 f25) := hD
  refine lv_aload_n hx hb dX5_allOn_5 rfl (lv_at hl 0 rfl) ?_
  refine lv_iconst (v := iI (3)) hx hb dX5_allOn_6 (by decide) ?_
  refine xu_i (x := iI (sumT (seaN f1 (Int.toNat n)) 3 ((seaN f1 (Int.toNat n)) 1).toNat)) (rV (rest := []) hx hb hml hown hts hK hl (c_X5_sumOf l g a (seaN f1 (Int.toNat n)) f2 f3 f4 f5 f6 (u1 7) f8 f9 f10 f11 f12 f13 f20 f21 f22 f23 f24 f25 3 (show 0 ≤ 3 ∧ 3 ≤ 4 from by omega) (show 0 ≤ (seaN f1 (Int.toNat n)) 1 ∧ (seaN f1 (Int.toNat n)) 1 ≤ 8 from by rw [hs1]; omega)) lk_X5_160 hP (va_recv hK.1 hP (ci := 5) (q0 := 0) rfl rfl) rfl rfl rfl (Rm.of rfl) rfl rfl dX5_allOn_7) ?_
  have hP : va_P g.1 vwCl (wM g a (seaN f1 (Int.toNat n)) f2 f3 f4 f5 f6 ((su (fun _ _ => 0) 7 (u1 7)) 7) f8 f9 f10 f11 f12 f13 f20 f21 f22 f23 f24 f25) H := hP
  have hD : va_D (va_A (wM g a f1 f2 f3 f4 f5 f6 f7 f8 f9 f10 f11 f12 f13 f20 f21 f22 f23 f24 f25) s.heap.size) (wM g a (seaN f1 (Int.toNat n)) f2 f3 f4 f5 f6 ((su (fun _ _ => 0) 7 (u1 7)) 7) f8 f9 f10 f11 f12 f13 f20 f21 f22 f23 f24 f25) := hD
  exact W.iret hx hb hr (fun t ht hW => ⟨⟨_, (su (fun _ _ => 0) 7 (u1 7)), rfl, rfl, by rw [ht]; exact hP, hD⟩, hS.F ht⟩) hS.2.2 dX5_allOn_10
abbrev rm_X5_haste : Room := { frames := 8, cells := 0, slots := 0, locals := 179 }
set_option maxRecDepth 100000 in
set_option maxHeartbeats 4000000 in
theorem c_X5_haste (l : Launch) (g : Gd) (a : Nat → Nat) (f1 : Int → Int) (f2 : Int → Int) (f3 : Int → Int) (f4 : Int → Int) (f5 : Int → Int) (f6 : Int → Int) (f7 : Int → Int) (f8 : Int → Int) (f9 : Int → Int) (f10 : Int → Int) (f11 : Int → Int) (f12 : Int → Int) (f13 : Int → Int) (f20 : Int) (f21 : Int) (f22 : Int) (f23 : Int) (f24 : Int) (f25 : Int) (r : Int) (d : Int) (n : Int) (sz : Nat) (h1 : InvK 0 f1) (h2 : f1 0 ≤ 9999) (h3 : IR r) (h4 : IR d) (h5 : IR n) : Met l yX5_haste (wsOf yX5_haste cX5_haste 5 (some .int)) rm_X5_haste (PX g (wP g (wM g a f1 f2 f3 f4 f5 f6 f7 f8 f9 f10 f11 f12 f13 f20 f21 f22 f23 f24 f25) sz) [.ref (a 0), .int (iI r), .int (iI d), .int (iI n)]) (QMi g (fun u9 : Nat → Int → Int => wM g a f1 f2 f3 (u9 4) f5 (fb (fHst f1 r d n) f6) (u9 7) f8 f9 f10 f11 f12 f13 f20 f21 f22 f23 f24 f25) (fun r9 _ => r9 = ab (fHst f1 r d n) (iI (fsT (hsP f1 r d n) 10 0 : Int))) (va_A (wM g a f1 f2 f3 f4 f5 f6 f7 f8 f9 f10 f11 f12 f13 f20 f21 f22 f23 f24 f25) sz)) 0 0 (va_A (wM g a f1 f2 f3 f4 f5 f6 f7 f8 f9 f10 f11 f12 f13 f20 f21 f22 f23 f24 f25) sz) := by
  refine me (g := g) (by decide) rfl ?_
  intro pq eq s mq below meth cq C hnm hB ls hl
  obtain ⟨hx, hb, hr, hml, hown, hts, hlocks, hK⟩ := C
  have hown : s.vm.findClass RX5 = some mq.cls := hown
  have hl : lv_has ls 5 [(0, .ref (a 0)), (1, .int (iI r)), (2, .int (iI d)), (3, .int (iI n))] := hl
  obtain ⟨hsz, hP, hD0⟩ := hB
  subst hsz
  have hD := hD0.self (sz := s.heap.size)
  have hA : ∀ q : Nat, s.heap.size ≤ q → va_A (wM g a f1 f2 f3 f4 f5 f6 f7 f8 f9 f10 f11 f12 f13 f20 f21 f22 f23 f24 f25) s.heap.size q := fun q h => Or.inr h
  have hS : va_S (va_A (wM g a f1 f2 f3 f4 f5 f6 f7 f8 f9 f10 f11 f12 f13 f20 f21 f22 f23 f24 f25) s.heap.size) s.heap s.heap [] := va_S.rf
  have hI := h1
  have hI8 : Inv f1 := h1.mono (by omega)
  have hn := hI.num
  have hs := hI.sea
  have hv := hI.vil
  have q1 := h3.1
  have q3 := h4.1
  have q5 := h5.1
  have q2 := h3.2
  have q4 := h4.2
  have q6 := h5.2
  refine lv_aload_n hx hb dX5_haste_0 rfl (lv_at hl 0 rfl) ?_
  refine lv_iload_n hx hb dX5_haste_1 rfl (lv_at hl 1 rfl) ?_
  refine xu_b (P := 0 ≤ r ∧ r ≤ f1 1 - 1) (rV (rest := []) hx hb hml hown hts hK hl (c_X5_isRange l g a f1 f2 f3 f4 f5 f6 f7 f8 f9 f10 f11 f12 f13 f20 f21 f22 f23 f24 f25 r (show IR r from ⟨by omega, by omega⟩) (show 0 ≤ f1 1 ∧ f1 1 ≤ 8 from by omega)) lk_X5_127 hP (va_recv hK.1 hP (ci := 5) (q0 := 0) rfl rfl) rfl rfl rfl (Rm.of rfl) rfl rfl dX5_haste_2) (fun z1 => ?_) (fun z1 => ?_)
  · refine xi_zf_eq hx hb ⟨by decide, by decide⟩ (by decide) dX5_haste_5 ⟨27, by decide⟩ ?_
    refine lv_iload_n hx hb dX5_haste_8 rfl (lv_at hl 2 rfl) ?_
    refine xi_i2l hx hb ⟨by omega, by omega⟩ dX5_haste_9 ?_
    refine lv_lconst (v := lI (0)) hx hb dX5_haste_10 (by decide) ?_
    refine xl_ldc hx hb hown hts kk_X5_190 dX5_haste_11 ?_
    refine xu_b (P := 0 ≤ d ∧ d ≤ 999) (rS (rest := []) hx hb hml hown hts hK hl (c_X5_in l g d 0 999 (show LR d from ⟨by omega, by omega⟩) (show LR 0 from ⟨by omega, by omega⟩) (show LR 999 from ⟨by omega, by omega⟩)) lk_X5_53 trivial rfl rfl rfl (Rm.of rfl) rfl rfl dX5_haste_14) (fun z2 => ?_) (fun z2 => ?_)
    · refine xi_zf_eq hx hb ⟨by decide, by decide⟩ (by decide) dX5_haste_17 ⟨27, by decide⟩ ?_
      refine lv_iload_n hx hb dX5_haste_20 rfl (lv_at hl 3 rfl) ?_
      refine xu_b (P := 0 ≤ n ∧ n ≤ 40) (rS (rest := []) hx hb hml hown hts hK hl (c_X5_isSome l g n (show IR n from ⟨by omega, by omega⟩)) lk_X5_192 trivial rfl rfl rfl (Rm.of rfl) rfl rfl dX5_haste_21) (fun z3 => ?_) (fun z3 => ?_)
      · refine xi_zt_ne (tgt := 34) hx hb ⟨by decide, by decide⟩ (by decide) dX5_haste_24 (by decide) ?_
        refine lv_aload_n hx hb dX5_haste_34 rfl (lv_at hl 0 rfl) ?_
        refine xm_v (rV (rest := []) hx hb hml hown hts hK hl (c_X5_laysAside l g a f1 f2 f3 f4 f5 f6 f7 f8 f9 f10 f11 f12 f13 f20 f21 f22 f23 f24 f25 (s.heap).size ) lk_X5_172 ⟨rfl, hP, hD.weaken (fun _ _ _ _ => trivial)⟩ (va_recv hK.1 hP (ci := 5) (q0 := 0) rfl rfl) rfl rfl rfl (Rm.of rfl) rfl rfl dX5_haste_35) hD hS hA (fun _ H locs hw hP hD hS => ?_)
        have hP : va_P g.1 vwCl (wM g a f1 f2 f3 f1 f5 f6 f7 f8 f9 f10 f11 f12 f13 f20 f21 f22 f23 f24 f25) H := hP
        have hD : va_D (va_A (wM g a f1 f2 f3 f4 f5 f6 f7 f8 f9 f10 f11 f12 f13 f20 f21 f22 f23 f24 f25) s.heap.size) (wM g a f1 f2 f3 f1 f5 f6 f7 f8 f9 f10 f11 f12 f13 f20 f21 f22 f23 f24 f25) := hD
        refine lv_iconst (v := iI (0)) hx hb dX5_haste_38 (by decide) ?_
        refine lv_istore (lv' := [(4, .int (iI 0)), (0, .ref (a 0)), (1, .int (iI r)), (2, .int (iI d)), (3, .int (iI n))]) hx hb dX5_haste_39 hl (by decide) rfl (fun ls hl => ?_)
        have lp41 : ∀ (n41 : Nat) (k : Nat) (l7 : Int → Int), (k ≤ 10) → (fsT (hsP f1 r d n) (10 - k) k = fsT (hsP f1 r d n) 10 0) → 10 - k < n41 → ∀ ls : Array Slot, lv_has ls 5 [(4, .int (iI (k : Int))), (0, .ref (a 0)), (1, .int (iI r)), (2, .int (iI d)), (3, .int (iI n))] → ∀ (H : Heap) (locs : List Loc), va_P g.1 vwCl (wM g a f1 f2 f3 f1 f5 f6 l7 f8 f9 f10 f11 f12 f13 f20 f21 f22 f23 f24 f25) H → va_D (va_A (wM g a f1 f2 f3 f4 f5 f6 f7 f8 f9 f10 f11 f12 f13 f20 f21 f22 f23 f24 f25) s.heap.size) (wM g a f1 f2 f3 f1 f5 f6 l7 f8 f9 f10 f11 f12 f13 f20 f21 f22 f23 f24 f25) → va_S (va_A (wM g a f1 f2 f3 f4 f5 f6 f7 f8 f9 f10 f11 f12 f13 f20 f21 f22 f23 f24 f25) s.heap.size) s.heap H locs → W pq l eq rm_X5_haste s mq [.ref (a 0), .int (iI r), .int (iI d), .int (iI n)].toArray below meth cq H locs 0 0 (MQ below (QMi g (fun u9 : Nat → Int → Int => wM g a f1 f2 f3 (u9 4) f5 (fb (fHst f1 r d n) f6) (u9 7) f8 f9 f10 f11 f12 f13 f20 f21 f22 f23 f24 f25) (fun r9 _ => r9 = ab (fHst f1 r d n) (iI (fsT (hsP f1 r d n) 10 0 : Int))) (va_A (wM g a f1 f2 f3 f4 f5 f6 f7 f8 f9 f10 f11 f12 f13 f20 f21 f22 f23 f24 f25) s.heap.size)) [.ref (a 0), .int (iI r), .int (iI d), .int (iI n)].toArray s 0 0 (va_A (wM g a f1 f2 f3 f4 f5 f6 f7 f8 f9 f10 f11 f12 f13 f20 f21 f22 f23 f24 f25) s.heap.size)) (F0 mq 41 ls []) := by
          intro n41
          induction n41 with
          | zero => intro k l7 i41_1 i41_2 hm; exact absurd hm (Nat.not_lt_zero _)
          | succ n41 ih41 =>
            intro k l7 i41_1 i41_2 hm41 ls hl H locs hP hD hS
            refine lv_iload hx hb dX5_haste_41 (lv_at hl 0 rfl) ?_
            refine lv_bipush (v := iI (9)) hx hb dX5_haste_43 (by decide) ?_
            refine xi_c_gt (tgt := 83) hx hb ⟨by omega, by omega⟩ ⟨by decide, by decide⟩ dX5_haste_45 (by decide) (fun z5 => ?_) (fun z5 => ?_)
            · have hfs : fsT (hsP f1 r d n) 10 0 = 10 := by rw [← i41_2, show k = 10 by omega]; rfl
              refine lv_aload_n hx hb dX5_haste_83 rfl (lv_at hl 1 rfl) ?_
              refine xi_ldc hx hb hown hts kk_X5_178 dX5_haste_84 ?_
              refine xm_i (rV (rest := []) hx hb hml hown hts hK hl (c_X5_finds l g a f1 f2 f3 f1 f5 f6 l7 f8 f9 f10 f11 f12 f13 f20 f21 f22 f23 f24 f25 (-1000000004) H.size (show 0 ≤ -1000000001 - (-1000000004) ∧ -1000000001 - (-1000000004) < 7 from by omega)) lk_X5_74 ⟨rfl, hP, hD.weaken (fun _ _ _ _ => trivial)⟩ (va_recv hK.1 hP (ci := 5) (q0 := 0) rfl rfl) rfl rfl rfl (Rm.of rfl) rfl rfl dX5_haste_86) hD hS hA (fun x9 _ H locs hw hP hD hS => ?_)
              obtain rfl : x9 = iI (-1000000004) := hw
              have hP : va_P g.1 vwCl (wM g a f1 f2 f3 f1 f5 (fb (-1000000000 - (-1000000004)) f6) l7 f8 f9 f10 f11 f12 f13 f20 f21 f22 f23 f24 f25) H := hP
              have hD : va_D (va_A (wM g a f1 f2 f3 f4 f5 f6 f7 f8 f9 f10 f11 f12 f13 f20 f21 f22 f23 f24 f25) s.heap.size) (wM g a f1 f2 f3 f1 f5 (fb (-1000000000 - (-1000000004)) f6) l7 f8 f9 f10 f11 f12 f13 f20 f21 f22 f23 f24 f25) := hD
              have hf : fHst f1 r d n = 4 := by unfold fHst; (repeat (first | rw [if_pos (by omega)] | rw [if_neg (by omega)])); first | done | (exfalso; omega)
              have he7 : (fb (-1000000000 - (-1000000004)) f6) = (fb (fHst f1 r d n) f6) := by rw [hf]; rfl
              have hP := Eq.mp (congrArg (fun z9 => va_P g.1 vwCl (wM g a f1 f2 f3 f1 f5 z9 l7 f8 f9 f10 f11 f12 f13 f20 f21 f22 f23 f24 f25) H) he7) hP
              have hD := Eq.mp (congrArg (fun z9 => va_D (va_A (wM g a f1 f2 f3 f4 f5 f6 f7 f8 f9 f10 f11 f12 f13 f20 f21 f22 f23 f24 f25) s.heap.size) (wM g a f1 f2 f3 f1 f5 z9 l7 f8 f9 f10 f11 f12 f13 f20 f21 f22 f23 f24 f25)) he7) hD
              have hP : va_P g.1 vwCl (wM g a f1 f2 f3 ((su (su (fun _ _ => 0) 4 f1) 7 l7) 4) f5 (fb (fHst f1 r d n) f6) ((su (su (fun _ _ => 0) 4 f1) 7 l7) 7) f8 f9 f10 f11 f12 f13 f20 f21 f22 f23 f24 f25) H := hP
              have hD : va_D (va_A (wM g a f1 f2 f3 f4 f5 f6 f7 f8 f9 f10 f11 f12 f13 f20 f21 f22 f23 f24 f25) s.heap.size) (wM g a f1 f2 f3 ((su (su (fun _ _ => 0) 4 f1) 7 l7) 4) f5 (fb (fHst f1 r d n) f6) ((su (su (fun _ _ => 0) 4 f1) 7 l7) 7) f8 f9 f10 f11 f12 f13 f20 f21 f22 f23 f24 f25) := hD
              exact W.iret hx hb hr (fun t ht hW => ⟨⟨_, (su (su (fun _ _ => 0) 4 f1) 7 l7), rfl, by rw [hf]; rfl, by rw [ht]; exact hP, hD⟩, hS.F ht⟩) hS.2.2 dX5_haste_89
            · have hIu := hI.oth (k2 := 0) (r := r) (w := 2) (v := (k : Int)) (by omega) (by omega) (by omega) (by omega) (by omega) ⟨by omega, by omega, by omega, by omega⟩
              have hgb := goneN_b hIu (r := r) (n := n) (by omega) (by rw [up_n (by omega)]; omega) (by omega) (by rw [up_n (by omega)]; omega)
              refine lv_aload_n hx hb dX5_haste_48 rfl (lv_at hl 1 rfl) ?_
              refine xg_X5 hx hb hts hown hK hP 0 rfl 0 (by decide) fk_X5_7 (v := .ref (a 1)) rfl dX5_haste_49 ?_
              refine lv_iload_n hx hb dX5_haste_52 rfl (lv_at hl 2 rfl) ?_
              refine lv_iconst (v := iI (2)) hx hb dX5_haste_53 (by decide) ?_
              refine xu_i (x := iI (61 + 5 * r + 2)) (rS (rest := [.ref (a 1)]) hx hb hml hown hts hK hl (c_X5_spot l g r 2 ) lk_X5_59 trivial rfl rfl rfl (Rm.of rfl) rfl rfl dX5_haste_54) ?_
              refine lv_iload hx hb dX5_haste_57 (lv_at hl 0 rfl) ?_
              refine xi_ast hx hb hK hP hD hS 1 (f := f1) rfl (i := 61 + 5 * r + 2) (v := (k : Int)) ⟨by omega, by omega⟩ rfl dX5_haste_59 (fun H locs hP hD hS => ?_)
              have hP : va_P g.1 vwCl (wM g a (up f1 (61 + 5 * r + 2) (k : Int)) f2 f3 f1 f5 f6 l7 f8 f9 f10 f11 f12 f13 f20 f21 f22 f23 f24 f25) H := hP
              have hD : va_D (va_A (wM g a f1 f2 f3 f4 f5 f6 f7 f8 f9 f10 f11 f12 f13 f20 f21 f22 f23 f24 f25) s.heap.size) (wM g a (up f1 (61 + 5 * r + 2) (k : Int)) f2 f3 f1 f5 f6 l7 f8 f9 f10 f11 f12 f13 f20 f21 f22 f23 f24 f25) := hD
              refine lv_aload_n hx hb dX5_haste_60 rfl (lv_at hl 1 rfl) ?_
              refine lv_aload_n hx hb dX5_haste_61 rfl (lv_at hl 1 rfl) ?_
              refine lv_iload_n hx hb dX5_haste_62 rfl (lv_at hl 2 rfl) ?_
              refine lv_iload_n hx hb dX5_haste_63 rfl (lv_at hl 4 rfl) ?_
              refine xm_i (rV (rest := [.ref (a 0)]) hx hb hml hown hts hK hl (c_X5_goneOn l g a (up f1 (61 + 5 * r + 2) (k : Int)) f2 f3 f1 f5 f6 l7 f8 f9 f10 f11 f12 f13 f20 f21 f22 f23 f24 f25 r n H.size (show InvK 0 (up f1 (61 + 5 * r + 2) (k : Int)) from hIu) (show 0 ≤ n ∧ (up f1 (61 + 5 * r + 2) (k : Int)) 0 + n ≤ 20000 from ⟨by omega, by rw [up_n (by omega)]; omega⟩) (show 0 ≤ r ∧ r < (up f1 (61 + 5 * r + 2) (k : Int)) 1 from ⟨by omega, by rw [up_n (by omega)]; omega⟩)) lk_X5_195 ⟨rfl, hP, hD.weaken (fun _ _ _ _ => trivial)⟩ (va_recv hK.1 hP (ci := 5) (q0 := 0) rfl rfl) rfl rfl rfl (Rm.of rfl) rfl rfl dX5_haste_64) hD hS hA (fun x9 u9 H locs hw hP hD hS => ?_)
              obtain rfl : x9 = iI (goneN (up f1 (61 + 5 * r + 2) (k : Int)) r n) := hw
              have hP : va_P g.1 vwCl (wM g a (seaN (up f1 (61 + 5 * r + 2) (k : Int)) (Int.toNat n)) f2 f3 f1 f5 f6 (u9 7) f8 f9 f10 f11 f12 f13 f20 f21 f22 f23 f24 f25) H := hP
              have hD : va_D (va_A (wM g a f1 f2 f3 f4 f5 f6 f7 f8 f9 f10 f11 f12 f13 f20 f21 f22 f23 f24 f25) s.heap.size) (wM g a (seaN (up f1 (61 + 5 * r + 2) (k : Int)) (Int.toNat n)) f2 f3 f1 f5 f6 (u9 7) f8 f9 f10 f11 f12 f13 f20 f21 f22 f23 f24 f25) := hD
              refine xm_i (rV (rest := []) hx hb hml hown hts hK hl (c_X5_takesBack l g a (seaN (up f1 (61 + 5 * r + 2) (k : Int)) (Int.toNat n)) f2 f3 f1 f5 f6 (u9 7) f8 f9 f10 f11 f12 f13 f20 f21 f22 f23 f24 f25 (iI (goneN (up f1 (61 + 5 * r + 2) (k : Int)) r n)) H.size ) lk_X5_175 ⟨rfl, hP, hD.weaken (fun _ _ _ _ => trivial)⟩ (va_recv hK.1 hP (ci := 5) (q0 := 0) rfl rfl) rfl rfl rfl (Rm.of rfl) rfl rfl dX5_haste_67) hD hS hA (fun x9 _ H locs hw hP hD hS => ?_)
              obtain rfl : x9 = (iI (goneN (up f1 (61 + 5 * r + 2) (k : Int)) r n)) := hw
              have hP : va_P g.1 vwCl (wM g a f1 f2 f3 f1 f5 f6 (u9 7) f8 f9 f10 f11 f12 f13 f20 f21 f22 f23 f24 f25) H := hP
              have hD : va_D (va_A (wM g a f1 f2 f3 f4 f5 f6 f7 f8 f9 f10 f11 f12 f13 f20 f21 f22 f23 f24 f25) s.heap.size) (wM g a f1 f2 f3 f1 f5 f6 (u9 7) f8 f9 f10 f11 f12 f13 f20 f21 f22 f23 f24 f25) := hD
              refine lv_iload_n hx hb dX5_haste_70 rfl (lv_at hl 3 rfl) ?_
              refine xi_c_lt (tgt := 77) hx hb ⟨by omega, by omega⟩ ⟨by omega, by omega⟩ dX5_haste_71 (by decide) (fun z11 => ?_) (fun z11 => ?_)
              · refine xi_inc (lv' := [(4, .int (iI ((k : Int) + 1))), (0, .ref (a 0)), (1, .int (iI r)), (2, .int (iI d)), (3, .int (iI n))]) hx hb dX5_haste_77 hl (k := 0) rfl (by decide) rfl (fun ls hl => ?_)
                refine lv_goto (tgt := 41) hx hb dX5_haste_80 (by decide) ?_
                have hq12 : ((k : Int) + 1) = ((k + 1) : Int) := by omega
                have hl : lv_has ls 5 [(4, .int (iI ((k : Int) + 1))), (0, .ref (a 0)), (1, .int (iI r)), (2, .int (iI d)), (3, .int (iI n))] := lv_sub hl [0, 1, 2, 3, 4] rfl
                have hl := Eq.mp (congrArg (fun z9 => lv_has ls 5 [(4, .int (iI z9)), (0, .ref (a 0)), (1, .int (iI r)), (2, .int (iI d)), (3, .int (iI n))]) hq12) hl
                exact ih41 (k + 1) (u9 7) (by omega) (by rw [← i41_2]; exact fsT_next (p := (hsP f1 r d n)) (fun z => by have := of_decide_eq_true z; omega) (by omega)) (by omega) ls hl H locs hP hD hS
              · have hfs : fsT (hsP f1 r d n) 10 0 = k := by rw [← i41_2]; exact fsT_hit (decide_eq_true (by omega)) _
                refine lv_iload hx hb dX5_haste_74 (lv_at hl 0 rfl) ?_
                have hf : fHst f1 r d n = 0 := by unfold fHst; (repeat (first | rw [if_pos (by omega)] | rw [if_neg (by omega)])); first | done | (exfalso; omega)
                have he13 : f6 = (fb (fHst f1 r d n) f6) := by rw [hf]; rfl
                have hP := Eq.mp (congrArg (fun z9 => va_P g.1 vwCl (wM g a f1 f2 f3 f1 f5 z9 (u9 7) f8 f9 f10 f11 f12 f13 f20 f21 f22 f23 f24 f25) H) he13) hP
                have hD := Eq.mp (congrArg (fun z9 => va_D (va_A (wM g a f1 f2 f3 f4 f5 f6 f7 f8 f9 f10 f11 f12 f13 f20 f21 f22 f23 f24 f25) s.heap.size) (wM g a f1 f2 f3 f1 f5 z9 (u9 7) f8 f9 f10 f11 f12 f13 f20 f21 f22 f23 f24 f25)) he13) hD
                have hP : va_P g.1 vwCl (wM g a f1 f2 f3 ((su (su (fun _ _ => 0) 4 f1) 7 (u9 7)) 4) f5 (fb (fHst f1 r d n) f6) ((su (su (fun _ _ => 0) 4 f1) 7 (u9 7)) 7) f8 f9 f10 f11 f12 f13 f20 f21 f22 f23 f24 f25) H := hP
                have hD : va_D (va_A (wM g a f1 f2 f3 f4 f5 f6 f7 f8 f9 f10 f11 f12 f13 f20 f21 f22 f23 f24 f25) s.heap.size) (wM g a f1 f2 f3 ((su (su (fun _ _ => 0) 4 f1) 7 (u9 7)) 4) f5 (fb (fHst f1 r d n) f6) ((su (su (fun _ _ => 0) 4 f1) 7 (u9 7)) 7) f8 f9 f10 f11 f12 f13 f20 f21 f22 f23 f24 f25) := hD
                exact W.iret hx hb hr (fun t ht hW => ⟨⟨_, (su (su (fun _ _ => 0) 4 f1) 7 (u9 7)), rfl, by rw [hf, ab_0, hfs], by rw [ht]; exact hP, hD⟩, hS.F ht⟩) hS.2.2 dX5_haste_76
        have hq14 : 0 = (0 : Int) := rfl
        have hl : lv_has ls 5 [(4, .int (iI 0)), (0, .ref (a 0)), (1, .int (iI r)), (2, .int (iI d)), (3, .int (iI n))] := lv_sub hl [0, 1, 2, 3, 4] rfl
        have hl := Eq.mp (congrArg (fun z9 => lv_has ls 5 [(4, .int (iI z9)), (0, .ref (a 0)), (1, .int (iI r)), (2, .int (iI d)), (3, .int (iI n))]) hq14) hl
        exact lp41 (10 + 1) 0 f7 (by omega) rfl (by omega) ls hl H locs hP hD hS
      · refine xi_zf_ne hx hb ⟨by decide, by decide⟩ (by decide) dX5_haste_24 ⟨34, by decide⟩ ?_
        refine lv_aload_n hx hb dX5_haste_27 rfl (lv_at hl 0 rfl) ?_
        refine xi_ldc hx hb hown hts kk_X5_50 dX5_haste_28 ?_
        refine xm_i (rV (rest := []) hx hb hml hown hts hK hl (c_X5_finds l g a f1 f2 f3 f4 f5 f6 f7 f8 f9 f10 f11 f12 f13 f20 f21 f22 f23 f24 f25 (-1000000001) (s.heap).size (show 0 ≤ -1000000001 - (-1000000001) ∧ -1000000001 - (-1000000001) < 7 from by omega)) lk_X5_74 ⟨rfl, hP, hD.weaken (fun _ _ _ _ => trivial)⟩ (va_recv hK.1 hP (ci := 5) (q0 := 0) rfl rfl) rfl rfl rfl (Rm.of rfl) rfl rfl dX5_haste_30) hD hS hA (fun x9 _ H locs hw hP hD hS => ?_)
        obtain rfl : x9 = iI (-1000000001) := hw
        have hP : va_P g.1 vwCl (wM g a f1 f2 f3 f4 f5 (fb (-1000000000 - (-1000000001)) f6) f7 f8 f9 f10 f11 f12 f13 f20 f21 f22 f23 f24 f25) H := hP
        have hD : va_D (va_A (wM g a f1 f2 f3 f4 f5 f6 f7 f8 f9 f10 f11 f12 f13 f20 f21 f22 f23 f24 f25) s.heap.size) (wM g a f1 f2 f3 f4 f5 (fb (-1000000000 - (-1000000001)) f6) f7 f8 f9 f10 f11 f12 f13 f20 f21 f22 f23 f24 f25) := hD
        have hf : fHst f1 r d n = 1 := by unfold fHst; (repeat (first | rw [if_pos (by omega)] | rw [if_neg (by omega)])); first | done | (exfalso; omega)
        have he16 : (fb (-1000000000 - (-1000000001)) f6) = (fb (fHst f1 r d n) f6) := by rw [hf]; rfl
        have hP := Eq.mp (congrArg (fun z9 => va_P g.1 vwCl (wM g a f1 f2 f3 f4 f5 z9 f7 f8 f9 f10 f11 f12 f13 f20 f21 f22 f23 f24 f25) H) he16) hP
        have hD := Eq.mp (congrArg (fun z9 => va_D (va_A (wM g a f1 f2 f3 f4 f5 f6 f7 f8 f9 f10 f11 f12 f13 f20 f21 f22 f23 f24 f25) s.heap.size) (wM g a f1 f2 f3 f4 f5 z9 f7 f8 f9 f10 f11 f12 f13 f20 f21 f22 f23 f24 f25)) he16) hD
        have hP : va_P g.1 vwCl (wM g a f1 f2 f3 ((su (su (fun _ _ => 0) 4 f4) 7 f7) 4) f5 (fb (fHst f1 r d n) f6) ((su (su (fun _ _ => 0) 4 f4) 7 f7) 7) f8 f9 f10 f11 f12 f13 f20 f21 f22 f23 f24 f25) H := hP
        have hD : va_D (va_A (wM g a f1 f2 f3 f4 f5 f6 f7 f8 f9 f10 f11 f12 f13 f20 f21 f22 f23 f24 f25) s.heap.size) (wM g a f1 f2 f3 ((su (su (fun _ _ => 0) 4 f4) 7 f7) 4) f5 (fb (fHst f1 r d n) f6) ((su (su (fun _ _ => 0) 4 f4) 7 f7) 7) f8 f9 f10 f11 f12 f13 f20 f21 f22 f23 f24 f25) := hD
        exact W.iret hx hb hr (fun t ht hW => ⟨⟨_, (su (su (fun _ _ => 0) 4 f4) 7 f7), rfl, by rw [hf]; rfl, by rw [ht]; exact hP, hD⟩, hS.F ht⟩) hS.2.2 dX5_haste_33
    · refine xi_zt_eq (tgt := 27) hx hb ⟨by decide, by decide⟩ (by decide) dX5_haste_17 (by decide) ?_
      refine lv_aload_n hx hb dX5_haste_27 rfl (lv_at hl 0 rfl) ?_
      refine xi_ldc hx hb hown hts kk_X5_50 dX5_haste_28 ?_
      refine xm_i (rV (rest := []) hx hb hml hown hts hK hl (c_X5_finds l g a f1 f2 f3 f4 f5 f6 f7 f8 f9 f10 f11 f12 f13 f20 f21 f22 f23 f24 f25 (-1000000001) (s.heap).size (show 0 ≤ -1000000001 - (-1000000001) ∧ -1000000001 - (-1000000001) < 7 from by omega)) lk_X5_74 ⟨rfl, hP, hD.weaken (fun _ _ _ _ => trivial)⟩ (va_recv hK.1 hP (ci := 5) (q0 := 0) rfl rfl) rfl rfl rfl (Rm.of rfl) rfl rfl dX5_haste_30) hD hS hA (fun x9 _ H locs hw hP hD hS => ?_)
      obtain rfl : x9 = iI (-1000000001) := hw
      have hP : va_P g.1 vwCl (wM g a f1 f2 f3 f4 f5 (fb (-1000000000 - (-1000000001)) f6) f7 f8 f9 f10 f11 f12 f13 f20 f21 f22 f23 f24 f25) H := hP
      have hD : va_D (va_A (wM g a f1 f2 f3 f4 f5 f6 f7 f8 f9 f10 f11 f12 f13 f20 f21 f22 f23 f24 f25) s.heap.size) (wM g a f1 f2 f3 f4 f5 (fb (-1000000000 - (-1000000001)) f6) f7 f8 f9 f10 f11 f12 f13 f20 f21 f22 f23 f24 f25) := hD
      have hf : fHst f1 r d n = 1 := by unfold fHst; (repeat (first | rw [if_pos (by omega)] | rw [if_neg (by omega)])); first | done | (exfalso; omega)
      have he18 : (fb (-1000000000 - (-1000000001)) f6) = (fb (fHst f1 r d n) f6) := by rw [hf]; rfl
      have hP := Eq.mp (congrArg (fun z9 => va_P g.1 vwCl (wM g a f1 f2 f3 f4 f5 z9 f7 f8 f9 f10 f11 f12 f13 f20 f21 f22 f23 f24 f25) H) he18) hP
      have hD := Eq.mp (congrArg (fun z9 => va_D (va_A (wM g a f1 f2 f3 f4 f5 f6 f7 f8 f9 f10 f11 f12 f13 f20 f21 f22 f23 f24 f25) s.heap.size) (wM g a f1 f2 f3 f4 f5 z9 f7 f8 f9 f10 f11 f12 f13 f20 f21 f22 f23 f24 f25)) he18) hD
      have hP : va_P g.1 vwCl (wM g a f1 f2 f3 ((su (su (fun _ _ => 0) 4 f4) 7 f7) 4) f5 (fb (fHst f1 r d n) f6) ((su (su (fun _ _ => 0) 4 f4) 7 f7) 7) f8 f9 f10 f11 f12 f13 f20 f21 f22 f23 f24 f25) H := hP
      have hD : va_D (va_A (wM g a f1 f2 f3 f4 f5 f6 f7 f8 f9 f10 f11 f12 f13 f20 f21 f22 f23 f24 f25) s.heap.size) (wM g a f1 f2 f3 ((su (su (fun _ _ => 0) 4 f4) 7 f7) 4) f5 (fb (fHst f1 r d n) f6) ((su (su (fun _ _ => 0) 4 f4) 7 f7) 7) f8 f9 f10 f11 f12 f13 f20 f21 f22 f23 f24 f25) := hD
      exact W.iret hx hb hr (fun t ht hW => ⟨⟨_, (su (su (fun _ _ => 0) 4 f4) 7 f7), rfl, by rw [hf]; rfl, by rw [ht]; exact hP, hD⟩, hS.F ht⟩) hS.2.2 dX5_haste_33
  · refine xi_zt_eq (tgt := 27) hx hb ⟨by decide, by decide⟩ (by decide) dX5_haste_5 (by decide) ?_
    refine lv_aload_n hx hb dX5_haste_27 rfl (lv_at hl 0 rfl) ?_
    refine xi_ldc hx hb hown hts kk_X5_50 dX5_haste_28 ?_
    refine xm_i (rV (rest := []) hx hb hml hown hts hK hl (c_X5_finds l g a f1 f2 f3 f4 f5 f6 f7 f8 f9 f10 f11 f12 f13 f20 f21 f22 f23 f24 f25 (-1000000001) (s.heap).size (show 0 ≤ -1000000001 - (-1000000001) ∧ -1000000001 - (-1000000001) < 7 from by omega)) lk_X5_74 ⟨rfl, hP, hD.weaken (fun _ _ _ _ => trivial)⟩ (va_recv hK.1 hP (ci := 5) (q0 := 0) rfl rfl) rfl rfl rfl (Rm.of rfl) rfl rfl dX5_haste_30) hD hS hA (fun x9 _ H locs hw hP hD hS => ?_)
    obtain rfl : x9 = iI (-1000000001) := hw
    have hP : va_P g.1 vwCl (wM g a f1 f2 f3 f4 f5 (fb (-1000000000 - (-1000000001)) f6) f7 f8 f9 f10 f11 f12 f13 f20 f21 f22 f23 f24 f25) H := hP
    have hD : va_D (va_A (wM g a f1 f2 f3 f4 f5 f6 f7 f8 f9 f10 f11 f12 f13 f20 f21 f22 f23 f24 f25) s.heap.size) (wM g a f1 f2 f3 f4 f5 (fb (-1000000000 - (-1000000001)) f6) f7 f8 f9 f10 f11 f12 f13 f20 f21 f22 f23 f24 f25) := hD
    have hf : fHst f1 r d n = 1 := by unfold fHst; (repeat (first | rw [if_pos (by omega)] | rw [if_neg (by omega)])); first | done | (exfalso; omega)
    have he20 : (fb (-1000000000 - (-1000000001)) f6) = (fb (fHst f1 r d n) f6) := by rw [hf]; rfl
    have hP := Eq.mp (congrArg (fun z9 => va_P g.1 vwCl (wM g a f1 f2 f3 f4 f5 z9 f7 f8 f9 f10 f11 f12 f13 f20 f21 f22 f23 f24 f25) H) he20) hP
    have hD := Eq.mp (congrArg (fun z9 => va_D (va_A (wM g a f1 f2 f3 f4 f5 f6 f7 f8 f9 f10 f11 f12 f13 f20 f21 f22 f23 f24 f25) s.heap.size) (wM g a f1 f2 f3 f4 f5 z9 f7 f8 f9 f10 f11 f12 f13 f20 f21 f22 f23 f24 f25)) he20) hD
    have hP : va_P g.1 vwCl (wM g a f1 f2 f3 ((su (su (fun _ _ => 0) 4 f4) 7 f7) 4) f5 (fb (fHst f1 r d n) f6) ((su (su (fun _ _ => 0) 4 f4) 7 f7) 7) f8 f9 f10 f11 f12 f13 f20 f21 f22 f23 f24 f25) H := hP
    have hD : va_D (va_A (wM g a f1 f2 f3 f4 f5 f6 f7 f8 f9 f10 f11 f12 f13 f20 f21 f22 f23 f24 f25) s.heap.size) (wM g a f1 f2 f3 ((su (su (fun _ _ => 0) 4 f4) 7 f7) 4) f5 (fb (fHst f1 r d n) f6) ((su (su (fun _ _ => 0) 4 f4) 7 f7) 7) f8 f9 f10 f11 f12 f13 f20 f21 f22 f23 f24 f25) := hD
    exact W.iret hx hb hr (fun t ht hW => ⟨⟨_, (su (su (fun _ _ => 0) 4 f4) 7 f7), rfl, by rw [hf]; rfl, by rw [ht]; exact hP, hD⟩, hS.F ht⟩) hS.2.2 dX5_haste_33

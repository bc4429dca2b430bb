abbrev rm_X4_on : Room := { frames := 5, cells := 0, slots := 0, locals := 122 }
set_option maxRecDepth 100000 in
set_option maxHeartbeats 4000000 in
theorem c_X4_on (l : Launch) (g : Gd) (d : Nat → Nat) (tp : Nat → Nat) (sh : Nat → Nat) (a : Nat → Nat) (f1 : Int → Int) (f20 : Int) (fo : Nat → Nat) (o1 : Int → Int) (b : Nat → Nat) (e1 : Int → Int) (e10 : Int → Int) (e11 : Int → Int) (tr : Nat → Nat) (t1 : Int → Int) (t10 : Int → Int) (t11 : Int → Int) (r : Int) (n : Int) (w : Int) (sz : Nat) (h1 : InvK 0 e1) (h2 : e1 0 ≤ 9999) (h3 : IR r) (h4 : IR n) (h5 : IR w) : Met l yX4_on (wsOf yX4_on cX4_on 4 (some .int)) rm_X4_on (PX g (wP g (wX g a b d fo tp sh f1 f20 ++ (wF g fo b tr o1 ++ (wLs g b e1 e10 e11 ++ (wLs g tr t1 t10 t11)))) sz) [.ref (a 0), .int (iI r), .int (iI n), .int (iI w)]) (QMi g (fun u9 : Nat → Int → Int => wX g a b d fo tp sh (fb (fOn e1 r n w) f1) f20 ++ (wF g fo b tr o1 ++ (wLs g b e1 e10 e11 ++ (wLs g tr (u9 301) (u9 310) (u9 311))))) (fun r9 _ => r9 = ab (fOn e1 r n w) (iI (aOn e1 r n w))) (va_A (wX g a b d fo tp sh f1 f20 ++ (wF g fo b tr o1 ++ (wLs g b e1 e10 e11 ++ (wLs g tr t1 t10 t11)))) sz)) 0 0 (va_A (wX g a b d fo tp sh f1 f20 ++ (wF g fo b tr o1 ++ (wLs g b e1 e10 e11 ++ (wLs g tr t1 t10 t11)))) sz) := by
  refine me (g := g) (by decide) rfl ?_
  intro pq eq s mq below meth cq C hnm hB ls hl
  obtain ⟨hx, hb, hr, hml, hown, hts, hlocks, hK⟩ := C
  have hown : s.vm.findClass RX4 = some mq.cls := hown
  have hl : lv_has ls 4 [(0, .ref (a 0)), (1, .int (iI r)), (2, .int (iI n)), (3, .int (iI w))] := hl
  obtain ⟨hsz, hP, hD0⟩ := hB
  subst hsz
  have hD := hD0.self (sz := s.heap.size)
  have hA : ∀ q : Nat, s.heap.size ≤ q → va_A (wX g a b d fo tp sh f1 f20 ++ (wF g fo b tr o1 ++ (wLs g b e1 e10 e11 ++ (wLs g tr t1 t10 t11)))) s.heap.size q := fun q h => Or.inr h
  have hS : va_S (va_A (wX g a b d fo tp sh f1 f20 ++ (wF g fo b tr o1 ++ (wLs g b e1 e10 e11 ++ (wLs g tr t1 t10 t11)))) s.heap.size) s.heap s.heap [] := va_S.rf
  obtain ⟨hP0, hPr0⟩ := va_P_app.mp hP
  obtain ⟨hP1, hPr1⟩ := va_P_app.mp hPr0
  obtain ⟨hP2, hP3⟩ := va_P_app.mp hPr1
  have hI := h1
  have hI8 : Inv e1 := h1.mono (by omega)
  have hn := hI.num
  have hs := hI.sea
  have hv := hI.vil
  have q1 := h3.1
  have q3 := h4.1
  have q5 := h5.1
  have q2 := h3.2
  have q4 := h4.2
  have q6 := h5.2
  refine lv_aload_n hx hb dX4_on_0 rfl (lv_at hl 0 rfl) ?_
  refine lv_iload_n hx hb dX4_on_1 rfl (lv_at hl 1 rfl) ?_
  refine xu_b (P := 0 ≤ r ∧ r < e1 1) (rV (rest := []) hx hb hml hown hts hK hl (c_X4_isRange l g d fo tp sh a f1 f20 b e1 e10 e11 r (show IR r from ⟨by omega, by omega⟩) (show 0 ≤ e1 1 ∧ e1 1 ≤ 8 from by omega)) lk_X4_117 (va_P_app.mpr ⟨hP0, hP2⟩) (va_recv hK.1 hP0 (ci := 4) (q0 := 0) rfl rfl) rfl rfl rfl (Rm.of rfl) rfl rfl dX4_on_2) (fun z1 => ?_) (fun z1 => ?_)
  · refine xi_zf_eq hx hb ⟨by decide, by decide⟩ (by decide) dX4_on_5 ⟨18, by decide⟩ ?_
    refine lv_iload_n hx hb dX4_on_8 rfl (lv_at hl 2 rfl) ?_
    refine lv_iconst (v := iI (0)) hx hb dX4_on_9 (by decide) ?_
    refine lv_bipush (v := iI (80)) hx hb dX4_on_10 (by decide) ?_
    refine xu_b (P := 0 ≤ n ∧ n ≤ 80) (rS (rest := []) hx hb hml hown hts hK hl (c_X4_isBetween l g n 0 80 (show IR n from ⟨by omega, by omega⟩) (show IR 0 from ⟨by omega, by omega⟩) (show IR 80 from ⟨by omega, by omega⟩)) lk_X4_99 trivial rfl rfl rfl (Rm.of rfl) rfl rfl dX4_on_12) (fun z2 => ?_) (fun z2 => ?_)
    · refine xi_zt_ne (tgt := 25) hx hb ⟨by decide, by decide⟩ (by decide) dX4_on_15 (by decide) ?_
      refine lv_iload_n hx hb dX4_on_25 rfl (lv_at hl 3 rfl) ?_
      have hir3 : IR (w) := ⟨by omega, by omega⟩
      rcases (show (w) = 0 ∨ (w) = 1 ∨ (w) = 2 ∨ ((w) < 0 ∨ 2 < (w)) by omega) with z3 | z3 | z3 | z3
      · refine lv_tableIn (tgt := 52) (off := 26) hx hb dX4_on_26 (by rw [iI_toInt hir3, z3]; decide) (by rw [iI_toInt hir3, z3]; decide) (by rw [iI_toInt hir3, z3]; rfl) (by decide) ?_
        refine lv_aload_n hx hb dX4_on_52 rfl (lv_at hl 0 rfl) ?_
        refine xg_X4 hx hb hts hown hK hP0 0 rfl 2 (by decide) fk_X4_24 (v := .ref (fo 0)) rfl dX4_on_53 ?_
        refine lv_iload_n hx hb dX4_on_56 rfl (lv_at hl 2 rfl) ?_
        have hD : va_D (va_A (wX g a b d fo tp sh f1 f20 ++ (wF g fo b tr o1 ++ (wLs g b e1 e10 e11 ++ (wLs g tr t1 t10 t11)))) s.heap.size) (wF g fo b tr o1 ++ (wX g a b d fo tp sh f1 f20 ++ (wLs g b e1 e10 e11 ++ (wLs g tr t1 t10 t11)))) := D_perm (List.perm_append_comm_assoc _ _ _) hD
        have hD : va_D (va_A (wX g a b d fo tp sh f1 f20 ++ (wF g fo b tr o1 ++ (wLs g b e1 e10 e11 ++ (wLs g tr t1 t10 t11)))) s.heap.size) (wF g fo b tr o1 ++ (wLs g b e1 e10 e11 ++ (wX g a b d fo tp sh f1 f20 ++ (wLs g tr t1 t10 t11)))) := D_perm (List.Perm.append_left _ (List.perm_append_comm_assoc _ _ _)) hD
        have hD : va_D (va_A (wX g a b d fo tp sh f1 f20 ++ (wF g fo b tr o1 ++ (wLs g b e1 e10 e11 ++ (wLs g tr t1 t10 t11)))) s.heap.size) (wF g fo b tr o1 ++ (wLs g b e1 e10 e11 ++ (wLs g tr t1 t10 t11 ++ (wX g a b d fo tp sh f1 f20)))) := D_perm (List.Perm.append_left _ (List.Perm.append_left _ (List.perm_append_comm))) hD
        have hP : va_P g.1 vwCl (wF g fo b tr o1 ++ (wLs g b e1 e10 e11 ++ (wLs g tr t1 t10 t11 ++ (wX g a b d fo tp sh f1 f20)))) s.heap := va_P_app.mpr ⟨hP1, va_P_app.mpr ⟨hP2, va_P_app.mpr ⟨hP3, hP0⟩⟩⟩
        have hP : va_P g.1 vwCl ((wF g fo b tr o1 ++ (wLs g b e1 e10 e11 ++ (wLs g tr t1 t10 t11))) ++ (wX g a b d fo tp sh f1 f20)) s.heap := by rw [List.append_assoc, List.append_assoc]; exact hP
        have hD : va_D (va_A (wX g a b d fo tp sh f1 f20 ++ (wF g fo b tr o1 ++ (wLs g b e1 e10 e11 ++ (wLs g tr t1 t10 t11)))) s.heap.size) ((wF g fo b tr o1 ++ (wLs g b e1 e10 e11 ++ (wLs g tr t1 t10 t11))) ++ (wX g a b d fo tp sh f1 f20)) := by rw [List.append_assoc, List.append_assoc]; exact hD
        refine xmF_r (rVN (rest := []) hx hb hml hown hts hK hl (c_X0_after l g fo o1 b e1 e10 e11 tr t1 t10 t11 n (s.heap).size (show InvK 0 e1 from h1) (show 0 ≤ n ∧ e1 0 + n ≤ 20000 from by omega)) lk_X4_182 ⟨rfl, (va_P_app.mp hP).1, (va_D_app hD).1.weaken (fun _ _ _ _ => trivial)⟩ (va_recv hK.1 hP1 (ci := 0) (q0 := 0) rfl rfl) rfl rfl rfl (Rm.of rfl) rfl rfl dX4_on_57) hP hD hS hA (fun u4 H locs hw hP hD hS => ?_)
        have hP : va_P g.1 vwCl ((wF g fo b tr o1 ++ (wLs g b e1 e10 e11 ++ (wLs g tr (seaN e1 (Int.toNat n)) (u4 210) (u4 211)))) ++ (wX g a b d fo tp sh f1 f20)) H := hP
        have hD : va_D (va_A (wX g a b d fo tp sh f1 f20 ++ (wF g fo b tr o1 ++ (wLs g b e1 e10 e11 ++ (wLs g tr t1 t10 t11)))) s.heap.size) ((wF g fo b tr o1 ++ (wLs g b e1 e10 e11 ++ (wLs g tr (seaN e1 (Int.toNat n)) (u4 210) (u4 211)))) ++ (wX g a b d fo tp sh f1 f20)) := hD
        rw [List.append_assoc, List.append_assoc] at hP hD
        have hP : va_P g.1 vwCl (wF g fo b tr o1 ++ (wLs g b e1 e10 e11 ++ (wLs g tr (seaN e1 (Int.toNat n)) (u4 210) (u4 211) ++ (wX g a b d fo tp sh f1 f20)))) H := hP
        have hD : va_D (va_A (wX g a b d fo tp sh f1 f20 ++ (wF g fo b tr o1 ++ (wLs g b e1 e10 e11 ++ (wLs g tr t1 t10 t11)))) s.heap.size) (wF g fo b tr o1 ++ (wLs g b e1 e10 e11 ++ (wLs g tr (seaN e1 (Int.toNat n)) (u4 210) (u4 211) ++ (wX g a b d fo tp sh f1 f20)))) := hD
        obtain ⟨hP1, hPr0⟩ := va_P_app.mp hP
        obtain ⟨hP2, hPr1⟩ := va_P_app.mp hPr0
        obtain ⟨hP3, hP0⟩ := va_P_app.mp hPr1
        refine xgN_X1 hx hb hts hown hK hP3 0 rfl 8 (by decide) fk_X4_123 (v := .ref (tr 6)) rfl dX4_on_60 ?_
        refine lv_iload_n hx hb dX4_on_63 rfl (lv_at hl 1 rfl) ?_
        refine xi_alz hx hb hK hP3 6 (s0 := seaN e1 (Int.toNat n)) rfl (i := r) ⟨by omega, by omega⟩ rfl dX4_on_64 ?_
        have hD : va_D (va_A (wX g a b d fo tp sh f1 f20 ++ (wF g fo b tr o1 ++ (wLs g b e1 e10 e11 ++ (wLs g tr t1 t10 t11)))) s.heap.size) (wF g fo b tr o1 ++ (wLs g b e1 e10 e11 ++ (wX g a b d fo tp sh f1 f20 ++ (wLs g tr (seaN e1 (Int.toNat n)) (u4 210) (u4 211))))) := D_perm (List.Perm.append_left _ (List.Perm.append_left _ (List.perm_append_comm))) hD
        have hD : va_D (va_A (wX g a b d fo tp sh f1 f20 ++ (wF g fo b tr o1 ++ (wLs g b e1 e10 e11 ++ (wLs g tr t1 t10 t11)))) s.heap.size) (wF g fo b tr o1 ++ (wX g a b d fo tp sh f1 f20 ++ (wLs g b e1 e10 e11 ++ (wLs g tr (seaN e1 (Int.toNat n)) (u4 210) (u4 211))))) := D_perm (List.Perm.append_left _ (List.perm_append_comm_assoc _ _ _)) hD
        have hD : va_D (va_A (wX g a b d fo tp sh f1 f20 ++ (wF g fo b tr o1 ++ (wLs g b e1 e10 e11 ++ (wLs g tr t1 t10 t11)))) s.heap.size) (wX g a b d fo tp sh f1 f20 ++ (wF g fo b tr o1 ++ (wLs g b e1 e10 e11 ++ (wLs g tr (seaN e1 (Int.toNat n)) (u4 210) (u4 211))))) := D_perm (List.perm_append_comm_assoc _ _ _) hD
        have hP : va_P g.1 vwCl (wX g a b d fo tp sh f1 f20 ++ (wF g fo b tr o1 ++ (wLs g b e1 e10 e11 ++ (wLs g tr (seaN e1 (Int.toNat n)) (u4 210) (u4 211))))) H := va_P_app.mpr ⟨hP0, va_P_app.mpr ⟨hP1, va_P_app.mpr ⟨hP2, hP3⟩⟩⟩
        have hf : fOn e1 r n w = 0 := by unfold fOn; (repeat (first | rw [if_pos (by omega)] | rw [if_neg (by omega)])); first | done | (exfalso; omega)
        have he5 : f1 = (fb (fOn e1 r n w) f1) := by rw [hf]; rfl
        have hP := Eq.mp (congrArg (fun z9 => va_P g.1 vwCl (wX g a b d fo tp sh z9 f20 ++ (wF g fo b tr o1 ++ (wLs g b e1 e10 e11 ++ (wLs g tr (seaN e1 (Int.toNat n)) (u4 210) (u4 211))))) H) he5) hP
        have hD := Eq.mp (congrArg (fun z9 => va_D (va_A (wX g a b d fo tp sh f1 f20 ++ (wF g fo b tr o1 ++ (wLs g b e1 e10 e11 ++ (wLs g tr t1 t10 t11)))) s.heap.size) (wX g a b d fo tp sh z9 f20 ++ (wF g fo b tr o1 ++ (wLs g b e1 e10 e11 ++ (wLs g tr (seaN e1 (Int.toNat n)) (u4 210) (u4 211)))))) he5) hD
        obtain ⟨hP0, hPr0⟩ := va_P_app.mp hP
        obtain ⟨hP1, hPr1⟩ := va_P_app.mp hPr0
        obtain ⟨hP2, hP3⟩ := va_P_app.mp hPr1
        have hP : va_P g.1 vwCl (wX g a b d fo tp sh (fb (fOn e1 r n w) f1) f20 ++ (wF g fo b tr o1 ++ (wLs g b e1 e10 e11 ++ (wLs g tr ((su (su (su (fun _ _ => 0) 301 (seaN e1 (Int.toNat n))) 310 (u4 210)) 311 (u4 211)) 301) ((su (su (su (fun _ _ => 0) 301 (seaN e1 (Int.toNat n))) 310 (u4 210)) 311 (u4 211)) 310) ((su (su (su (fun _ _ => 0) 301 (seaN e1 (Int.toNat n))) 310 (u4 210)) 311 (u4 211)) 311))))) H := hP
        have hD : va_D (va_A (wX g a b d fo tp sh f1 f20 ++ (wF g fo b tr o1 ++ (wLs g b e1 e10 e11 ++ (wLs g tr t1 t10 t11)))) s.heap.size) (wX g a b d fo tp sh (fb (fOn e1 r n w) f1) f20 ++ (wF g fo b tr o1 ++ (wLs g b e1 e10 e11 ++ (wLs g tr ((su (su (su (fun _ _ => 0) 301 (seaN e1 (Int.toNat n))) 310 (u4 210)) 311 (u4 211)) 301) ((su (su (su (fun _ _ => 0) 301 (seaN e1 (Int.toNat n))) 310 (u4 210)) 311 (u4 211)) 310) ((su (su (su (fun _ _ => 0) 301 (seaN e1 (Int.toNat n))) 310 (u4 210)) 311 (u4 211)) 311))))) := hD
        exact W.iret hx hb hr (fun t ht hW => ⟨⟨_, (su (su (su (fun _ _ => 0) 301 (seaN e1 (Int.toNat n))) 310 (u4 210)) 311 (u4 211)), rfl, by rw [hf, ab_0]; exact congrArg iI (by unfold aOn; (repeat (first | rw [if_pos (by omega)] | rw [if_neg (by omega)])); first | done | (exfalso; omega)), by rw [ht]; exact hP, hD⟩, hS.F ht⟩) hS.2.2 dX4_on_65
      · refine lv_tableIn (tgt := 66) (off := 40) hx hb dX4_on_26 (by rw [iI_toInt hir3, z3]; decide) (by rw [iI_toInt hir3, z3]; decide) (by rw [iI_toInt hir3, z3]; rfl) (by decide) ?_
        refine lv_aload_n hx hb dX4_on_66 rfl (lv_at hl 0 rfl) ?_
        refine xg_X4 hx hb hts hown hK hP0 0 rfl 2 (by decide) fk_X4_24 (v := .ref (fo 0)) rfl dX4_on_67 ?_
        refine lv_iload_n hx hb dX4_on_70 rfl (lv_at hl 2 rfl) ?_
        have hD : va_D (va_A (wX g a b d fo tp sh f1 f20 ++ (wF g fo b tr o1 ++ (wLs g b e1 e10 e11 ++ (wLs g tr t1 t10 t11)))) s.heap.size) (wF g fo b tr o1 ++ (wX g a b d fo tp sh f1 f20 ++ (wLs g b e1 e10 e11 ++ (wLs g tr t1 t10 t11)))) := D_perm (List.perm_append_comm_assoc _ _ _) hD
        have hD : va_D (va_A (wX g a b d fo tp sh f1 f20 ++ (wF g fo b tr o1 ++ (wLs g b e1 e10 e11 ++ (wLs g tr t1 t10 t11)))) s.heap.size) (wF g fo b tr o1 ++ (wLs g b e1 e10 e11 ++ (wX g a b d fo tp sh f1 f20 ++ (wLs g tr t1 t10 t11)))) := D_perm (List.Perm.append_left _ (List.perm_append_comm_assoc _ _ _)) hD
        have hD : va_D (va_A (wX g a b d fo tp sh f1 f20 ++ (wF g fo b tr o1 ++ (wLs g b e1 e10 e11 ++ (wLs g tr t1 t10 t11)))) s.heap.size) (wF g fo b tr o1 ++ (wLs g b e1 e10 e11 ++ (wLs g tr t1 t10 t11 ++ (wX g a b d fo tp sh f1 f20)))) := D_perm (List.Perm.append_left _ (List.Perm.append_left _ (List.perm_append_comm))) hD
        have hP : va_P g.1 vwCl (wF g fo b tr o1 ++ (wLs g b e1 e10 e11 ++ (wLs g tr t1 t10 t11 ++ (wX g a b d fo tp sh f1 f20)))) s.heap := va_P_app.mpr ⟨hP1, va_P_app.mpr ⟨hP2, va_P_app.mpr ⟨hP3, hP0⟩⟩⟩
        have hP : va_P g.1 vwCl ((wF g fo b tr o1 ++ (wLs g b e1 e10 e11 ++ (wLs g tr t1 t10 t11))) ++ (wX g a b d fo tp sh f1 f20)) s.heap := by rw [List.append_assoc, List.append_assoc]; exact hP
        have hD : va_D (va_A (wX g a b d fo tp sh f1 f20 ++ (wF g fo b tr o1 ++ (wLs g b e1 e10 e11 ++ (wLs g tr t1 t10 t11)))) s.heap.size) ((wF g fo b tr o1 ++ (wLs g b e1 e10 e11 ++ (wLs g tr t1 t10 t11))) ++ (wX g a b d fo tp sh f1 f20)) := by rw [List.append_assoc, List.append_assoc]; exact hD
        refine xmF_r (rVN (rest := []) hx hb hml hown hts hK hl (c_X0_after l g fo o1 b e1 e10 e11 tr t1 t10 t11 n (s.heap).size (show InvK 0 e1 from h1) (show 0 ≤ n ∧ e1 0 + n ≤ 20000 from by omega)) lk_X4_182 ⟨rfl, (va_P_app.mp hP).1, (va_D_app hD).1.weaken (fun _ _ _ _ => trivial)⟩ (va_recv hK.1 hP1 (ci := 0) (q0 := 0) rfl rfl) rfl rfl rfl (Rm.of rfl) rfl rfl dX4_on_71) hP hD hS hA (fun u6 H locs hw hP hD hS => ?_)
        have hP : va_P g.1 vwCl ((wF g fo b tr o1 ++ (wLs g b e1 e10 e11 ++ (wLs g tr (seaN e1 (Int.toNat n)) (u6 210) (u6 211)))) ++ (wX g a b d fo tp sh f1 f20)) H := hP
        have hD : va_D (va_A (wX g a b d fo tp sh f1 f20 ++ (wF g fo b tr o1 ++ (wLs g b e1 e10 e11 ++ (wLs g tr t1 t10 t11)))) s.heap.size) ((wF g fo b tr o1 ++ (wLs g b e1 e10 e11 ++ (wLs g tr (seaN e1 (Int.toNat n)) (u6 210) (u6 211)))) ++ (wX g a b d fo tp sh f1 f20)) := hD
        rw [List.append_assoc, List.append_assoc] at hP hD
        have hP : va_P g.1 vwCl (wF g fo b tr o1 ++ (wLs g b e1 e10 e11 ++ (wLs g tr (seaN e1 (Int.toNat n)) (u6 210) (u6 211) ++ (wX g a b d fo tp sh f1 f20)))) H := hP
        have hD : va_D (va_A (wX g a b d fo tp sh f1 f20 ++ (wF g fo b tr o1 ++ (wLs g b e1 e10 e11 ++ (wLs g tr t1 t10 t11)))) s.heap.size) (wF g fo b tr o1 ++ (wLs g b e1 e10 e11 ++ (wLs g tr (seaN e1 (Int.toNat n)) (u6 210) (u6 211) ++ (wX g a b d fo tp sh f1 f20)))) := hD
        obtain ⟨hP1, hPr0⟩ := va_P_app.mp hP
        obtain ⟨hP2, hPr1⟩ := va_P_app.mp hPr0
        obtain ⟨hP3, hP0⟩ := va_P_app.mp hPr1
        refine xgN_X1 hx hb hts hown hK hP3 0 rfl 10 (by decide) fk_X4_129 (v := .ref (tr 8)) rfl dX4_on_74 ?_
        refine lv_iload_n hx hb dX4_on_77 rfl (lv_at hl 1 rfl) ?_
        refine xi_alz hx hb hK hP3 8 (s0 := seaN e1 (Int.toNat n)) rfl (i := r) ⟨by omega, by omega⟩ rfl dX4_on_78 ?_
        have hD : va_D (va_A (wX g a b d fo tp sh f1 f20 ++ (wF g fo b tr o1 ++ (wLs g b e1 e10 e11 ++ (wLs g tr t1 t10 t11)))) s.heap.size) (wF g fo b tr o1 ++ (wLs g b e1 e10 e11 ++ (wX g a b d fo tp sh f1 f20 ++ (wLs g tr (seaN e1 (Int.toNat n)) (u6 210) (u6 211))))) := D_perm (List.Perm.append_left _ (List.Perm.append_left _ (List.perm_append_comm))) hD
        have hD : va_D (va_A (wX g a b d fo tp sh f1 f20 ++ (wF g fo b tr o1 ++ (wLs g b e1 e10 e11 ++ (wLs g tr t1 t10 t11)))) s.heap.size) (wF g fo b tr o1 ++ (wX g a b d fo tp sh f1 f20 ++ (wLs g b e1 e10 e11 ++ (wLs g tr (seaN e1 (Int.toNat n)) (u6 210) (u6 211))))) := D_perm (List.Perm.append_left _ (List.perm_append_comm_assoc _ _ _)) hD
        have hD : va_D (va_A (wX g a b d fo tp sh f1 f20 ++ (wF g fo b tr o1 ++ (wLs g b e1 e10 e11 ++ (wLs g tr t1 t10 t11)))) s.heap.size) (wX g a b d fo tp sh f1 f20 ++ (wF g fo b tr o1 ++ (wLs g b e1 e10 e11 ++ (wLs g tr (seaN e1 (Int.toNat n)) (u6 210) (u6 211))))) := D_perm (List.perm_append_comm_assoc _ _ _) hD
        have hP : va_P g.1 vwCl (wX g a b d fo tp sh f1 f20 ++ (wF g fo b tr o1 ++ (wLs g b e1 e10 e11 ++ (wLs g tr (seaN e1 (Int.toNat n)) (u6 210) (u6 211))))) H := va_P_app.mpr ⟨hP0, va_P_app.mpr ⟨hP1, va_P_app.mpr ⟨hP2, hP3⟩⟩⟩
        have hf : fOn e1 r n w = 0 := by unfold fOn; (repeat (first | rw [if_pos (by omega)] | rw [if_neg (by omega)])); first | done | (exfalso; omega)
        have he7 : f1 = (fb (fOn e1 r n w) f1) := by rw [hf]; rfl
        have hP := Eq.mp (congrArg (fun z9 => va_P g.1 vwCl (wX g a b d fo tp sh z9 f20 ++ (wF g fo b tr o1 ++ (wLs g b e1 e10 e11 ++ (wLs g tr (seaN e1 (Int.toNat n)) (u6 210) (u6 211))))) H) he7) hP
        have hD := Eq.mp (congrArg (fun z9 => va_D (va_A (wX g a b d fo tp sh f1 f20 ++ (wF g fo b tr o1 ++ (wLs g b e1 e10 e11 ++ (wLs g tr t1 t10 t11)))) s.heap.size) (wX g a b d fo tp sh z9 f20 ++ (wF g fo b tr o1 ++ (wLs g b e1 e10 e11 ++ (wLs g tr (seaN e1 (Int.toNat n)) (u6 210) (u6 211)))))) he7) hD
        obtain ⟨hP0, hPr0⟩ := va_P_app.mp hP
        obtain ⟨hP1, hPr1⟩ := va_P_app.mp hPr0
        obtain ⟨hP2, hP3⟩ := va_P_app.mp hPr1
        have hP : va_P g.1 vwCl (wX g a b d fo tp sh (fb (fOn e1 r n w) f1) f20 ++ (wF g fo b tr o1 ++ (wLs g b e1 e10 e11 ++ (wLs g tr ((su (su (su (fun _ _ => 0) 301 (seaN e1 (Int.toNat n))) 310 (u6 210)) 311 (u6 211)) 301) ((su (su (su (fun _ _ => 0) 301 (seaN e1 (Int.toNat n))) 310 (u6 210)) 311 (u6 211)) 310) ((su (su (su (fun _ _ => 0) 301 (seaN e1 (Int.toNat n))) 310 (u6 210)) 311 (u6 211)) 311))))) H := hP
        have hD : va_D (va_A (wX g a b d fo tp sh f1 f20 ++ (wF g fo b tr o1 ++ (wLs g b e1 e10 e11 ++ (wLs g tr t1 t10 t11)))) s.heap.size) (wX g a b d fo tp sh (fb (fOn e1 r n w) f1) f20 ++ (wF g fo b tr o1 ++ (wLs g b e1 e10 e11 ++ (wLs g tr ((su (su (su (fun _ _ => 0) 301 (seaN e1 (Int.toNat n))) 310 (u6 210)) 311 (u6 211)) 301) ((su (su (su (fun _ _ => 0) 301 (seaN e1 (Int.toNat n))) 310 (u6 210)) 311 (u6 211)) 310) ((su (su (su (fun _ _ => 0) 301 (seaN e1 (Int.toNat n))) 310 (u6 210)) 311 (u6 211)) 311))))) := hD
        exact W.iret hx hb hr (fun t ht hW => ⟨⟨_, (su (su (su (fun _ _ => 0) 301 (seaN e1 (Int.toNat n))) 310 (u6 210)) 311 (u6 211)), rfl, by rw [hf, ab_0]; exact congrArg iI (by unfold aOn; (repeat (first | rw [if_pos (by omega)] | rw [if_neg (by omega)])); first | done | (exfalso; omega)), by rw [ht]; exact hP, hD⟩, hS.F ht⟩) hS.2.2 dX4_on_79
      · refine lv_tableIn (tgt := 80) (off := 54) hx hb dX4_on_26 (by rw [iI_toInt hir3, z3]; decide) (by rw [iI_toInt hir3, z3]; decide) (by rw [iI_toInt hir3, z3]; rfl) (by decide) ?_
        refine lv_aload_n hx hb dX4_on_80 rfl (lv_at hl 0 rfl) ?_
        refine xg_X4 hx hb hts hown hK hP0 0 rfl 2 (by decide) fk_X4_24 (v := .ref (fo 0)) rfl dX4_on_81 ?_
        refine lv_iload_n hx hb dX4_on_84 rfl (lv_at hl 2 rfl) ?_
        have hD : va_D (va_A (wX g a b d fo tp sh f1 f20 ++ (wF g fo b tr o1 ++ (wLs g b e1 e10 e11 ++ (wLs g tr t1 t10 t11)))) s.heap.size) (wF g fo b tr o1 ++ (wX g a b d fo tp sh f1 f20 ++ (wLs g b e1 e10 e11 ++ (wLs g tr t1 t10 t11)))) := D_perm (List.perm_append_comm_assoc _ _ _) hD
        have hD : va_D (va_A (wX g a b d fo tp sh f1 f20 ++ (wF g fo b tr o1 ++ (wLs g b e1 e10 e11 ++ (wLs g tr t1 t10 t11)))) s.heap.size) (wF g fo b tr o1 ++ (wLs g b e1 e10 e11 ++ (wX g a b d fo tp sh f1 f20 ++ (wLs g tr t1 t10 t11)))) := D_perm (List.Perm.append_left _ (List.perm_append_comm_assoc _ _ _)) hD
        have hD : va_D (va_A (wX g a b d fo tp sh f1 f20 ++ (wF g fo b tr o1 ++ (wLs g b e1 e10 e11 ++ (wLs g tr t1 t10 t11)))) s.heap.size) (wF g fo b tr o1 ++ (wLs g b e1 e10 e11 ++ (wLs g tr t1 t10 t11 ++ (wX g a b d fo tp sh f1 f20)))) := D_perm (List.Perm.append_left _ (List.Perm.append_left _ (List.perm_append_comm))) hD
        have hP : va_P g.1 vwCl (wF g fo b tr o1 ++ (wLs g b e1 e10 e11 ++ (wLs g tr t1 t10 t11 ++ (wX g a b d fo tp sh f1 f20)))) s.heap := va_P_app.mpr ⟨hP1, va_P_app.mpr ⟨hP2, va_P_app.mpr ⟨hP3, hP0⟩⟩⟩
        have hP : va_P g.1 vwCl ((wF g fo b tr o1 ++ (wLs g b e1 e10 e11 ++ (wLs g tr t1 t10 t11))) ++ (wX g a b d fo tp sh f1 f20)) s.heap := by rw [List.append_assoc, List.append_assoc]; exact hP
        have hD : va_D (va_A (wX g a b d fo tp sh f1 f20 ++ (wF g fo b tr o1 ++ (wLs g b e1 e10 e11 ++ (wLs g tr t1 t10 t11)))) s.heap.size) ((wF g fo b tr o1 ++ (wLs g b e1 e10 e11 ++ (wLs g tr t1 t10 t11))) ++ (wX g a b d fo tp sh f1 f20)) := by rw [List.append_assoc, List.append_assoc]; exact hD
        refine xmF_r (rVN (rest := []) hx hb hml hown hts hK hl (c_X0_after l g fo o1 b e1 e10 e11 tr t1 t10 t11 n (s.heap).size (show InvK 0 e1 from h1) (show 0 ≤ n ∧ e1 0 + n ≤ 20000 from by omega)) lk_X4_182 ⟨rfl, (va_P_app.mp hP).1, (va_D_app hD).1.weaken (fun _ _ _ _ => trivial)⟩ (va_recv hK.1 hP1 (ci := 0) (q0 := 0) rfl rfl) rfl rfl rfl (Rm.of rfl) rfl rfl dX4_on_85) hP hD hS hA (fun u8 H locs hw hP hD hS => ?_)
        have hP : va_P g.1 vwCl ((wF g fo b tr o1 ++ (wLs g b e1 e10 e11 ++ (wLs g tr (seaN e1 (Int.toNat n)) (u8 210) (u8 211)))) ++ (wX g a b d fo tp sh f1 f20)) H := hP
        have hD : va_D (va_A (wX g a b d fo tp sh f1 f20 ++ (wF g fo b tr o1 ++ (wLs g b e1 e10 e11 ++ (wLs g tr t1 t10 t11)))) s.heap.size) ((wF g fo b tr o1 ++ (wLs g b e1 e10 e11 ++ (wLs g tr (seaN e1 (Int.toNat n)) (u8 210) (u8 211)))) ++ (wX g a b d fo tp sh f1 f20)) := hD
        rw [List.append_assoc, List.append_assoc] at hP hD
        have hP : va_P g.1 vwCl (wF g fo b tr o1 ++ (wLs g b e1 e10 e11 ++ (wLs g tr (seaN e1 (Int.toNat n)) (u8 210) (u8 211) ++ (wX g a b d fo tp sh f1 f20)))) H := hP
        have hD : va_D (va_A (wX g a b d fo tp sh f1 f20 ++ (wF g fo b tr o1 ++ (wLs g b e1 e10 e11 ++ (wLs g tr t1 t10 t11)))) s.heap.size) (wF g fo b tr o1 ++ (wLs g b e1 e10 e11 ++ (wLs g tr (seaN e1 (Int.toNat n)) (u8 210) (u8 211) ++ (wX g a b d fo tp sh f1 f20)))) := hD
        obtain ⟨hP1, hPr0⟩ := va_P_app.mp hP
        obtain ⟨hP2, hPr1⟩ := va_P_app.mp hPr0
        obtain ⟨hP3, hP0⟩ := va_P_app.mp hPr1
        refine xgN_X1 hx hb hts hown hK hP3 0 rfl 11 (by decide) fk_X4_132 (v := .ref (tr 9)) rfl dX4_on_88 ?_
        refine lv_iload_n hx hb dX4_on_91 rfl (lv_at hl 1 rfl) ?_
        refine xi_alz hx hb hK hP3 9 (s0 := seaN e1 (Int.toNat n)) rfl (i := r) ⟨by omega, by omega⟩ rfl dX4_on_92 ?_
        have hD : va_D (va_A (wX g a b d fo tp sh f1 f20 ++ (wF g fo b tr o1 ++ (wLs g b e1 e10 e11 ++ (wLs g tr t1 t10 t11)))) s.heap.size) (wF g fo b tr o1 ++ (wLs g b e1 e10 e11 ++ (wX g a b d fo tp sh f1 f20 ++ (wLs g tr (seaN e1 (Int.toNat n)) (u8 210) (u8 211))))) := D_perm (List.Perm.append_left _ (List.Perm.append_left _ (List.perm_append_comm))) hD
        have hD : va_D (va_A (wX g a b d fo tp sh f1 f20 ++ (wF g fo b tr o1 ++ (wLs g b e1 e10 e11 ++ (wLs g tr t1 t10 t11)))) s.heap.size) (wF g fo b tr o1 ++ (wX g a b d fo tp sh f1 f20 ++ (wLs g b e1 e10 e11 ++ (wLs g tr (seaN e1 (Int.toNat n)) (u8 210) (u8 211))))) := D_perm (List.Perm.append_left _ (List.perm_append_comm_assoc _ _ _)) hD
        have hD : va_D (va_A (wX g a b d fo tp sh f1 f20 ++ (wF g fo b tr o1 ++ (wLs g b e1 e10 e11 ++ (wLs g tr t1 t10 t11)))) s.heap.size) (wX g a b d fo tp sh f1 f20 ++ (wF g fo b tr o1 ++ (wLs g b e1 e10 e11 ++ (wLs g tr (seaN e1 (Int.toNat n)) (u8 210) (u8 211))))) := D_perm (List.perm_append_comm_assoc _ _ _) hD
        have hP : va_P g.1 vwCl (wX g a b d fo tp sh f1 f20 ++ (wF g fo b tr o1 ++ (wLs g b e1 e10 e11 ++ (wLs g tr (seaN e1 (Int.toNat n)) (u8 210) (u8 211))))) H := va_P_app.mpr ⟨hP0, va_P_app.mpr ⟨hP1, va_P_app.mpr ⟨hP2, hP3⟩⟩⟩
        have hf : fOn e1 r n w = 0 := by unfold fOn; (repeat (first | rw [if_pos (by omega)] | rw [if_neg (by omega)])); first | done | (exfalso; omega)
        have he9 : f1 = (fb (fOn e1 r n w) f1) := by rw [hf]; rfl
        have hP := Eq.mp (congrArg (fun z9 => va_P g.1 vwCl (wX g a b d fo tp sh z9 f20 ++ (wF g fo b tr o1 ++ (wLs g b e1 e10 e11 ++ (wLs g tr (seaN e1 (Int.toNat n)) (u8 210) (u8 211))))) H) he9) hP
        have hD := Eq.mp (congrArg (fun z9 => va_D (va_A (wX g a b d fo tp sh f1 f20 ++ (wF g fo b tr o1 ++ (wLs g b e1 e10 e11 ++ (wLs g tr t1 t10 t11)))) s.heap.size) (wX g a b d fo tp sh z9 f20 ++ (wF g fo b tr o1 ++ (wLs g b e1 e10 e11 ++ (wLs g tr (seaN e1 (Int.toNat n)) (u8 210) (u8 211)))))) he9) hD
        obtain ⟨hP0, hPr0⟩ := va_P_app.mp hP
        obtain ⟨hP1, hPr1⟩ := va_P_app.mp hPr0
        obtain ⟨hP2, hP3⟩ := va_P_app.mp hPr1
        have hP : va_P g.1 vwCl (wX g a b d fo tp sh (fb (fOn e1 r n w) f1) f20 ++ (wF g fo b tr o1 ++ (wLs g b e1 e10 e11 ++ (wLs g tr ((su (su (su (fun _ _ => 0) 301 (seaN e1 (Int.toNat n))) 310 (u8 210)) 311 (u8 211)) 301) ((su (su (su (fun _ _ => 0) 301 (seaN e1 (Int.toNat n))) 310 (u8 210)) 311 (u8 211)) 310) ((su (su (su (fun _ _ => 0) 301 (seaN e1 (Int.toNat n))) 310 (u8 210)) 311 (u8 211)) 311))))) H := hP
        have hD : va_D (va_A (wX g a b d fo tp sh f1 f20 ++ (wF g fo b tr o1 ++ (wLs g b e1 e10 e11 ++ (wLs g tr t1 t10 t11)))) s.heap.size) (wX g a b d fo tp sh (fb (fOn e1 r n w) f1) f20 ++ (wF g fo b tr o1 ++ (wLs g b e1 e10 e11 ++ (wLs g tr ((su (su (su (fun _ _ => 0) 301 (seaN e1 (Int.toNat n))) 310 (u8 210)) 311 (u8 211)) 301) ((su (su (su (fun _ _ => 0) 301 (seaN e1 (Int.toNat n))) 310 (u8 210)) 311 (u8 211)) 310) ((su (su (su (fun _ _ => 0) 301 (seaN e1 (Int.toNat n))) 310 (u8 210)) 311 (u8 211)) 311))))) := hD
        exact W.iret hx hb hr (fun t ht hW => ⟨⟨_, (su (su (su (fun _ _ => 0) 301 (seaN e1 (Int.toNat n))) 310 (u8 210)) 311 (u8 211)), rfl, by rw [hf, ab_0]; exact congrArg iI (by unfold aOn; (repeat (first | rw [if_pos (by omega)] | rw [if_neg (by omega)])); first | done | (exfalso; omega)), by rw [ht]; exact hP, hD⟩, hS.F ht⟩) hS.2.2 dX4_on_93
      · refine lv_tableOut (tgt := 94) hx hb dX4_on_26 (by rw [iI_toInt hir3]; exact z3) (by decide) ?_
        refine lv_aload_n hx hb dX4_on_94 rfl (lv_at hl 0 rfl) ?_
        refine xi_ldc hx hb hown hts kk_X4_58 dX4_on_95 ?_
        refine xmF_i (rV (rest := []) hx hb hml hown hts hK hl (c_X4_finding l g b d fo tp sh a f1 f20 (-1000000001) (s.heap).size (show 0 ≤ -1000000001 - (-1000000001) ∧ -1000000001 - (-1000000001) < 7 from by omega)) lk_X4_59 ⟨rfl, hP0, (va_D_app hD).1.weaken (fun _ _ _ _ => trivial)⟩ (va_recv hK.1 hP0 (ci := 4) (q0 := 0) rfl rfl) rfl rfl rfl (Rm.of rfl) rfl rfl dX4_on_97) hP hD hS hA (fun x9 _ H locs hw hP hD hS => ?_)
        obtain rfl : x9 = iI (-1000000001) := hw
        have hP : va_P g.1 vwCl (wX g a b d fo tp sh (fb (-1000000000 - (-1000000001)) f1) f20 ++ (wF g fo b tr o1 ++ (wLs g b e1 e10 e11 ++ (wLs g tr t1 t10 t11)))) H := hP
        have hD : va_D (va_A (wX g a b d fo tp sh f1 f20 ++ (wF g fo b tr o1 ++ (wLs g b e1 e10 e11 ++ (wLs g tr t1 t10 t11)))) s.heap.size) (wX g a b d fo tp sh (fb (-1000000000 - (-1000000001)) f1) f20 ++ (wF g fo b tr o1 ++ (wLs g b e1 e10 e11 ++ (wLs g tr t1 t10 t11)))) := hD
        obtain ⟨hP0, hPr0⟩ := va_P_app.mp hP
        obtain ⟨hP1, hPr1⟩ := va_P_app.mp hPr0
        obtain ⟨hP2, hP3⟩ := va_P_app.mp hPr1
        have hf : fOn e1 r n w = 1 := by unfold fOn; (repeat (first | rw [if_pos (by omega)] | rw [if_neg (by omega)])); first | done | (exfalso; omega)
        have he11 : (fb (-1000000000 - (-1000000001)) f1) = (fb (fOn e1 r n w) f1) := by rw [hf]; rfl
        have hP := Eq.mp (congrArg (fun z9 => va_P g.1 vwCl (wX g a b d fo tp sh z9 f20 ++ (wF g fo b tr o1 ++ (wLs g b e1 e10 e11 ++ (wLs g tr t1 t10 t11)))) H) he11) hP
        have hD := Eq.mp (congrArg (fun z9 => va_D (va_A (wX g a b d fo tp sh f1 f20 ++ (wF g fo b tr o1 ++ (wLs g b e1 e10 e11 ++ (wLs g tr t1 t10 t11)))) s.heap.size) (wX g a b d fo tp sh z9 f20 ++ (wF g fo b tr o1 ++ (wLs g b e1 e10 e11 ++ (wLs g tr t1 t10 t11))))) he11) hD
        obtain ⟨hP0, hPr0⟩ := va_P_app.mp hP
        obtain ⟨hP1, hPr1⟩ := va_P_app.mp hPr0
        obtain ⟨hP2, hP3⟩ := va_P_app.mp hPr1
        have hP : va_P g.1 vwCl (wX g a b d fo tp sh (fb (fOn e1 r n w) f1) f20 ++ (wF g fo b tr o1 ++ (wLs g b e1 e10 e11 ++ (wLs g tr ((su (su (su (fun _ _ => 0) 301 t1) 310 t10) 311 t11) 301) ((su (su (su (fun _ _ => 0) 301 t1) 310 t10) 311 t11) 310) ((su (su (su (fun _ _ => 0) 301 t1) 310 t10) 311 t11) 311))))) H := hP
        have hD : va_D (va_A (wX g a b d fo tp sh f1 f20 ++ (wF g fo b tr o1 ++ (wLs g b e1 e10 e11 ++ (wLs g tr t1 t10 t11)))) s.heap.size) (wX g a b d fo tp sh (fb (fOn e1 r n w) f1) f20 ++ (wF g fo b tr o1 ++ (wLs g b e1 e10 e11 ++ (wLs g tr ((su (su (su (fun _ _ => 0) 301 t1) 310 t10) 311 t11) 301) ((su (su (su (fun _ _ => 0) 301 t1) 310 t10) 311 t11) 310) ((su (su (su (fun _ _ => 0) 301 t1) 310 t10) 311 t11) 311))))) := hD
        exact W.iret hx hb hr (fun t ht hW => ⟨⟨_, (su (su (su (fun _ _ => 0) 301 t1) 310 t10) 311 t11), rfl, by rw [hf]; rfl, by rw [ht]; exact hP, hD⟩, hS.F ht⟩) hS.2.2 dX4_on_100
    · refine xi_zf_ne hx hb ⟨by decide, by decide⟩ (by decide) dX4_on_15 ⟨25, by decide⟩ ?_
      refine lv_aload_n hx hb dX4_on_18 rfl (lv_at hl 0 rfl) ?_
      refine xi_ldc hx hb hown hts kk_X4_58 dX4_on_19 ?_
      refine xmF_i (rV (rest := []) hx hb hml hown hts hK hl (c_X4_finding l g b d fo tp sh a f1 f20 (-1000000001) (s.heap).size (show 0 ≤ -1000000001 - (-1000000001) ∧ -1000000001 - (-1000000001) < 7 from by omega)) lk_X4_59 ⟨rfl, hP0, (va_D_app hD).1.weaken (fun _ _ _ _ => trivial)⟩ (va_recv hK.1 hP0 (ci := 4) (q0 := 0) rfl rfl) rfl rfl rfl (Rm.of rfl) rfl rfl dX4_on_21) hP hD hS hA (fun x9 _ H locs hw hP hD hS => ?_)
      obtain rfl : x9 = iI (-1000000001) := hw
      have hP : va_P g.1 vwCl (wX g a b d fo tp sh (fb (-1000000000 - (-1000000001)) f1) f20 ++ (wF g fo b tr o1 ++ (wLs g b e1 e10 e11 ++ (wLs g tr t1 t10 t11)))) H := hP
      have hD : va_D (va_A (wX g a b d fo tp sh f1 f20 ++ (wF g fo b tr o1 ++ (wLs g b e1 e10 e11 ++ (wLs g tr t1 t10 t11)))) s.heap.size) (wX g a b d fo tp sh (fb (-1000000000 - (-1000000001)) f1) f20 ++ (wF g fo b tr o1 ++ (wLs g b e1 e10 e11 ++ (wLs g tr t1 t10 t11)))) := hD
      obtain ⟨hP0, hPr0⟩ := va_P_app.mp hP
      obtain ⟨hP1, hPr1⟩ := va_P_app.mp hPr0
      obtain ⟨hP2, hP3⟩ := va_P_app.mp hPr1
      have hf : fOn e1 r n w = 1 := by unfold fOn; (repeat (first | rw [if_pos (by omega)] | rw [if_neg (by omega)])); first | done | (exfalso; omega)
      have he13 : (fb (-1000000000 - (-1000000001)) f1) = (fb (fOn e1 r n w) f1) := by rw [hf]; rfl
      have hP := Eq.mp (congrArg (fun z9 => va_P g.1 vwCl (wX g a b d fo tp sh z9 f20 ++ (wF g fo b tr o1 ++ (wLs g b e1 e10 e11 ++ (wLs g tr t1 t10 t11)))) H) he13) hP
      have hD := Eq.mp (congrArg (fun z9 => va_D (va_A (wX g a b d fo tp sh f1 f20 ++ (wF g fo b tr o1 ++ (wLs g b e1 e10 e11 ++ (wLs g tr t1 t10 t11)))) s.heap.size) (wX g a b d fo tp sh z9 f20 ++ (wF g fo b tr o1 ++ (wLs g b e1 e10 e11 ++ (wLs g tr t1 t10 t11))))) he13) hD
      obtain ⟨hP0, hPr0⟩ := va_P_app.mp hP
      obtain ⟨hP1, hPr1⟩ := va_P_app.mp hPr0
      obtain ⟨hP2, hP3⟩ := va_P_app.mp hPr1
      have hP : va_P g.1 vwCl (wX g a b d fo tp sh (fb (fOn e1 r n w) f1) f20 ++ (wF g fo b tr o1 ++ (wLs g b e1 e10 e11 ++ (wLs g tr ((su (su (su (fun _ _ => 0) 301 t1) 310 t10) 311 t11) 301) ((su (su (su (fun _ _ => 0) 301 t1) 310 t10) 311 t11) 310) ((su (su (su (fun _ _ => 0) 301 t1) 310 t10) 311 t11) 311))))) H := hP
      have hD : va_D (va_A (wX g a b d fo tp sh f1 f20 ++ (wF g fo b tr o1 ++ (wLs g b e1 e10 e11 ++ (wLs g tr t1 t10 t11)))) s.heap.size) (wX g a b d fo tp sh (fb (fOn e1 r n w) f1) f20 ++ (wF g fo b tr o1 ++ (wLs g b e1 e10 e11 ++ (wLs g tr ((su (su (su (fun _ _ => 0) 301 t1) 310 t10) 311 t11) 301) ((su (su (su (fun _ _ => 0) 301 t1) 310 t10) 311 t11) 310) ((su (su (su (fun _ _ => 0) 301 t1) 310 t10) 311 t11) 311))))) := hD
      exact W.iret hx hb hr (fun t ht hW => ⟨⟨_, (su (su (su (fun _ _ => 0) 301 t1) 310 t10) 311 t11), rfl, by rw [hf]; rfl, by rw [ht]; exact hP, hD⟩, hS.F ht⟩) hS.2.2 dX4_on_24
  · refine xi_zt_eq (tgt := 18) hx hb ⟨by decide, by decide⟩ (by decide) dX4_on_5 (by decide) ?_
    refine lv_aload_n hx hb dX4_on_18 rfl (lv_at hl 0 rfl) ?_
    refine xi_ldc hx hb hown hts kk_X4_58 dX4_on_19 ?_
    refine xmF_i (rV (rest := []) hx hb hml hown hts hK hl (c_X4_finding l g b d fo tp sh a f1 f20 (-1000000001) (s.heap).size (show 0 ≤ -1000000001 - (-1000000001) ∧ -1000000001 - (-1000000001) < 7 from by omega)) lk_X4_59 ⟨rfl, hP0, (va_D_app hD).1.weaken (fun _ _ _ _ => trivial)⟩ (va_recv hK.1 hP0 (ci := 4) (q0 := 0) rfl rfl) rfl rfl rfl (Rm.of rfl) rfl rfl dX4_on_21) hP hD hS hA (fun x9 _ H locs hw hP hD hS => ?_)
    obtain rfl : x9 = iI (-1000000001) := hw
    have hP : va_P g.1 vwCl (wX g a b d fo tp sh (fb (-1000000000 - (-1000000001)) f1) f20 ++ (wF g fo b tr o1 ++ (wLs g b e1 e10 e11 ++ (wLs g tr t1 t10 t11)))) H := hP
    have hD : va_D (va_A (wX g a b d fo tp sh f1 f20 ++ (wF g fo b tr o1 ++ (wLs g b e1 e10 e11 ++ (wLs g tr t1 t10 t11)))) s.heap.size) (wX g a b d fo tp sh (fb (-1000000000 - (-1000000001)) f1) f20 ++ (wF g fo b tr o1 ++ (wLs g b e1 e10 e11 ++ (wLs g tr t1 t10 t11)))) := hD
    obtain ⟨hP0, hPr0⟩ := va_P_app.mp hP
    obtain ⟨hP1, hPr1⟩ := va_P_app.mp hPr0
    obtain ⟨hP2, hP3⟩ := va_P_app.mp hPr1
    have hf : fOn e1 r n w = 1 := by unfold fOn; (repeat (first | rw [if_pos (by omega)] | rw [if_neg (by omega)])); first | done | (exfalso; omega)
    have he15 : (fb (-1000000000 - (-1000000001)) f1) = (fb (fOn e1 r n w) f1) := by rw [hf]; rfl
    have hP := Eq.mp (congrArg (fun z9 => va_P g.1 vwCl (wX g a b d fo tp sh z9 f20 ++ (wF g fo b tr o1 ++ (wLs g b e1 e10 e11 ++ (wLs g tr t1 t10 t11)))) H) he15) hP
    have hD := Eq.mp (congrArg (fun z9 => va_D (va_A (wX g a b d fo tp sh f1 f20 ++ (wF g fo b tr o1 ++ (wLs g b e1 e10 e11 ++ (wLs g tr t1 t10 t11)))) s.heap.size) (wX g a b d fo tp sh z9 f20 ++ (wF g fo b tr o1 ++ (wLs g b e1 e10 e11 ++ (wLs g tr t1 t10 t11))))) he15) hD
    obtain ⟨hP0, hPr0⟩ := va_P_app.mp hP
    obtain ⟨hP1, hPr1⟩ := va_P_app.mp hPr0
    obtain ⟨hP2, hP3⟩ := va_P_app.mp hPr1
    have hP : va_P g.1 vwCl (wX g a b d fo tp sh (fb (fOn e1 r n w) f1) f20 ++ (wF g fo b tr o1 ++ (wLs g b e1 e10 e11 ++ (wLs g tr ((su (su (su (fun _ _ => 0) 301 t1) 310 t10) 311 t11) 301) ((su (su (su (fun _ _ => 0) 301 t1) 310 t10) 311 t11) 310) ((su (su (su (fun _ _ => 0) 301 t1) 310 t10) 311 t11) 311))))) H := hP
    have hD : va_D (va_A (wX g a b d fo tp sh f1 f20 ++ (wF g fo b tr o1 ++ (wLs g b e1 e10 e11 ++ (wLs g tr t1 t10 t11)))) s.heap.size) (wX g a b d fo tp sh (fb (fOn e1 r n w) f1) f20 ++ (wF g fo b tr o1 ++ (wLs g b e1 e10 e11 ++ (wLs g tr ((su (su (su (fun _ _ => 0) 301 t1) 310 t10) 311 t11) 301) ((su (su (su (fun _ _ => 0) 301 t1) 310 t10) 311 t11) 310) ((su (su (su (fun _ _ => 0) 301 t1) 310 t10) 311 t11) 311))))) := hD
    exact W.iret hx hb hr (fun t ht hW => ⟨⟨_, (su (su (su (fun _ _ => 0) 301 t1) 310 t10) 311 t11), rfl, by rw [hf]; rfl, by rw [ht]; exact hP, hD⟩, hS.F ht⟩) hS.2.2 dX4_on_24
abbrev rm_X4_when : Room := { frames := 4, cells := 0, slots := 0, locals := 124 }
set_option maxRecDepth 100000 in
set_option maxHeartbeats 4000000 in
theorem c_X4_when (l : Launch) (g : Gd) (d : Nat → Nat) (tp : Nat → Nat) (sh : Nat → Nat) (a : Nat → Nat) (f1 : Int → Int) (f20 : Int) (fo : Nat → Nat) (o1 : Int → Int) (b : Nat → Nat) (e1 : Int → Int) (e10 : Int → Int) (e11 : Int → Int) (tr : Nat → Nat) (t1 : Int → Int) (t10 : Int → Int) (t11 : Int → Int) (r : Int) (ce : Int) (sz : Nat) (h1 : InvK 0 e1) (h2 : e1 0 ≤ 9999) (h3 : IR r) (h4 : IR ce) : Met l yX4_when (wsOf yX4_when cX4_when 3 (some .int)) rm_X4_when (PX g (wP g (wX g a b d fo tp sh f1 f20 ++ (wF g fo b tr o1 ++ (wLs g b e1 e10 e11 ++ (wLs g tr t1 t10 t11)))) sz) [.ref (a 0), .int (iI r), .int (iI ce)]) (QMi g (fun u9 : Nat → Int → Int => wX g a b d fo tp sh (fb (fWhen e1 r ce) f1) f20 ++ (wF g fo b tr o1 ++ (wLs g b e1 e10 e11 ++ (wLs g tr (u9 301) (u9 310) (u9 311))))) (fun r9 _ => r9 = ab (fWhen e1 r ce) (iI (fsT (whP e1 r ce) 81 0 : Int))) (va_A (wX g a b d fo tp sh f1 f20 ++ (wF g fo b tr o1 ++ (wLs g b e1 e10 e11 ++ (wLs g tr t1 t10 t11)))) sz)) 0 0 (va_A (wX g a b d fo tp sh f1 f20 ++ (wF g fo b tr o1 ++ (wLs g b e1 e10 e11 ++ (wLs g tr t1 t10 t11)))) sz) := by
  refine me (g := g) (by decide) rfl ?_
  intro pq eq s mq below meth cq C hnm hB ls hl
  obtain ⟨hx, hb, hr, hml, hown, hts, hlocks, hK⟩ := C
  have hown : s.vm.findClass RX4 = some mq.cls := hown
  have hl : lv_has ls 3 [(0, .ref (a 0)), (1, .int (iI r)), (2, .int (iI ce))] := hl
  obtain ⟨hsz, hP, hD0⟩ := hB
  subst hsz
  have hD := hD0.self (sz := s.heap.size)
  have hA : ∀ q : Nat, s.heap.size ≤ q → va_A (wX g a b d fo tp sh f1 f20 ++ (wF g fo b tr o1 ++ (wLs g b e1 e10 e11 ++ (wLs g tr t1 t10 t11)))) s.heap.size q := fun q h => Or.inr h
  have hS : va_S (va_A (wX g a b d fo tp sh f1 f20 ++ (wF g fo b tr o1 ++ (wLs g b e1 e10 e11 ++ (wLs g tr t1 t10 t11)))) s.heap.size) s.heap s.heap [] := va_S.rf
  obtain ⟨hP0, hPr0⟩ := va_P_app.mp hP
  obtain ⟨hP1, hPr1⟩ := va_P_app.mp hPr0
  obtain ⟨hP2, hP3⟩ := va_P_app.mp hPr1
  have hI := h1
  have hI8 : Inv e1 := h1.mono (by omega)
  have hn := hI.num
  have hs := hI.sea
  have hv := hI.vil
  have q1 := h3.1
  have q3 := h4.1
  have q2 := h3.2
  have q4 := h4.2
  have hfb := fsT_b (whP e1 r ce) 81 0
  have hoi := nn_or (fsT (whP e1 r ce) 81 0) 80
  refine lv_aload_n hx hb dX4_when_0 rfl (lv_at hl 0 rfl) ?_
  refine lv_iload_n hx hb dX4_when_1 rfl (lv_at hl 1 rfl) ?_
  refine xu_b (P := 0 ≤ r ∧ r < e1 1) (rV (rest := []) hx hb hml hown hts hK hl (c_X4_isRange l g d fo tp sh a f1 f20 b e1 e10 e11 r (show IR r from ⟨by omega, by omega⟩) (show 0 ≤ e1 1 ∧ e1 1 ≤ 8 from by omega)) lk_X4_117 (va_P_app.mpr ⟨hP0, hP2⟩) (va_recv hK.1 hP0 (ci := 4) (q0 := 0) rfl rfl) rfl rfl rfl (Rm.of rfl) rfl rfl dX4_when_2) (fun z1 => ?_) (fun z1 => ?_)
  · refine xi_zf_eq hx hb ⟨by decide, by decide⟩ (by decide) dX4_when_5 ⟨15, by decide⟩ ?_
    refine lv_iload_n hx hb dX4_when_8 rfl (lv_at hl 2 rfl) ?_
    refine xu_b (P := 0 ≤ ce ∧ ce ≤ 23) (rS (rest := []) hx hb hml hown hts hK hl (c_X4_isCell l g ce (show IR ce from ⟨by omega, by omega⟩)) lk_X4_50 trivial rfl rfl rfl (Rm.of rfl) rfl rfl dX4_when_9) (fun z2 => ?_) (fun z2 => ?_)
    · refine xi_zt_ne (tgt := 22) hx hb ⟨by decide, by decide⟩ (by decide) dX4_when_12 (by decide) ?_
      refine lv_aload_n hx hb dX4_when_22 rfl (lv_at hl 0 rfl) ?_
      refine lv_aload_n hx hb dX4_when_23 rfl (lv_at hl 0 rfl) ?_
      refine xg_X4 hx hb hts hown hK hP0 0 rfl 2 (by decide) fk_X4_24 (v := .ref (fo 0)) rfl dX4_when_24 ?_
      refine lv_iload_n hx hb dX4_when_27 rfl (lv_at hl 1 rfl) ?_
      refine lv_iload_n hx hb dX4_when_28 rfl (lv_at hl 2 rfl) ?_
      have hD : va_D (va_A (wX g a b d fo tp sh f1 f20 ++ (wF g fo b tr o1 ++ (wLs g b e1 e10 e11 ++ (wLs g tr t1 t10 t11)))) s.heap.size) (wF g fo b tr o1 ++ (wX g a b d fo tp sh f1 f20 ++ (wLs g b e1 e10 e11 ++ (wLs g tr t1 t10 t11)))) := D_perm (List.perm_append_comm_assoc _ _ _) hD
      have hD : va_D (va_A (wX g a b d fo tp sh f1 f20 ++ (wF g fo b tr o1 ++ (wLs g b e1 e10 e11 ++ (wLs g tr t1 t10 t11)))) s.heap.size) (wF g fo b tr o1 ++ (wLs g b e1 e10 e11 ++ (wX g a b d fo tp sh f1 f20 ++ (wLs g tr t1 t10 t11)))) := D_perm (List.Perm.append_left _ (List.perm_append_comm_assoc _ _ _)) hD
      have hD : va_D (va_A (wX g a b d fo tp sh f1 f20 ++ (wF g fo b tr o1 ++ (wLs g b e1 e10 e11 ++ (wLs g tr t1 t10 t11)))) s.heap.size) (wF g fo b tr o1 ++ (wLs g b e1 e10 e11 ++ (wLs g tr t1 t10 t11 ++ (wX g a b d fo tp sh f1 f20)))) := D_perm (List.Perm.append_left _ (List.Perm.append_left _ (List.perm_append_comm))) hD
      have hP : va_P g.1 vwCl (wF g fo b tr o1 ++ (wLs g b e1 e10 e11 ++ (wLs g tr t1 t10 t11 ++ (wX g a b d fo tp sh f1 f20)))) s.heap := va_P_app.mpr ⟨hP1, va_P_app.mpr ⟨hP2, va_P_app.mpr ⟨hP3, hP0⟩⟩⟩
      have hP : va_P g.1 vwCl ((wF g fo b tr o1 ++ (wLs g b e1 e10 e11 ++ (wLs g tr t1 t10 t11))) ++ (wX g a b d fo tp sh f1 f20)) s.heap := by rw [List.append_assoc, List.append_assoc]; exact hP
      have hD : va_D (va_A (wX g a b d fo tp sh f1 f20 ++ (wF g fo b tr o1 ++ (wLs g b e1 e10 e11 ++ (wLs g tr t1 t10 t11)))) s.heap.size) ((wF g fo b tr o1 ++ (wLs g b e1 e10 e11 ++ (wLs g tr t1 t10 t11))) ++ (wX g a b d fo tp sh f1 f20)) := by rw [List.append_assoc, List.append_assoc]; exact hD
      refine xmF_i (rVN (rest := [.ref (a 0)]) hx hb hml hown hts hK hl (c_X0_seasonsUntilIn l g fo o1 b e1 e10 e11 tr t1 t10 t11 r ce (s.heap).size (show InvK 0 e1 from h1) (show e1 0 ≤ 9999 from by omega) (show 0 ≤ r ∧ r < e1 1 from by omega) (show 0 ≤ ce ∧ ce ≤ 23 from by omega)) lk_X4_186 ⟨rfl, (va_P_app.mp hP).1, (va_D_app hD).1.weaken (fun _ _ _ _ => trivial)⟩ (va_recv hK.1 hP1 (ci := 0) (q0 := 0) rfl rfl) rfl rfl rfl (Rm.of rfl) rfl rfl dX4_when_29) hP hD hS hA (fun x9 u3 H locs hw hP hD hS => ?_)
      have hP : va_P g.1 vwCl ((wF g fo b tr o1 ++ (wLs g b e1 e10 e11 ++ (wLs g tr (u3 201) (u3 210) (u3 211)))) ++ (wX g a b d fo tp sh f1 f20)) H := hP
      have hD : va_D (va_A (wX g a b d fo tp sh f1 f20 ++ (wF g fo b tr o1 ++ (wLs g b e1 e10 e11 ++ (wLs g tr t1 t10 t11)))) s.heap.size) ((wF g fo b tr o1 ++ (wLs g b e1 e10 e11 ++ (wLs g tr (u3 201) (u3 210) (u3 211)))) ++ (wX g a b d fo tp sh f1 f20)) := hD
      rw [List.append_assoc, List.append_assoc] at hP hD
      obtain rfl : x9 = iI (if 80 < fsT (whP e1 r ce) 81 0 then -1 else (fsT (whP e1 r ce) 81 0 : Int)) := hw
      have hP : va_P g.1 vwCl (wF g fo b tr o1 ++ (wLs g b e1 e10 e11 ++ (wLs g tr (u3 201) (u3 210) (u3 211) ++ (wX g a b d fo tp sh f1 f20)))) H := hP
      have hD : va_D (va_A (wX g a b d fo tp sh f1 f20 ++ (wF g fo b tr o1 ++ (wLs g b e1 e10 e11 ++ (wLs g tr t1 t10 t11)))) s.heap.size) (wF g fo b tr o1 ++ (wLs g b e1 e10 e11 ++ (wLs g tr (u3 201) (u3 210) (u3 211) ++ (wX g a b d fo tp sh f1 f20)))) := hD
      obtain ⟨hP1, hPr0⟩ := va_P_app.mp hP
      obtain ⟨hP2, hPr1⟩ := va_P_app.mp hPr0
      obtain ⟨hP3, hP0⟩ := va_P_app.mp hPr1
      rcases (show ((if 80 < fsT (whP e1 r ce) 81 0 then -1 else (fsT (whP e1 r ce) 81 0 : Int)) < 0) ∨ (0 ≤ (if 80 < fsT (whP e1 r ce) 81 0 then -1 else (fsT (whP e1 r ce) 81 0 : Int))) from by omega) with z4 | z4
      · have hD : va_D (va_A (wX g a b d fo tp sh f1 f20 ++ (wF g fo b tr o1 ++ (wLs g b e1 e10 e11 ++ (wLs g tr t1 t10 t11)))) s.heap.size) (wF g fo b tr o1 ++ (wLs g b e1 e10 e11 ++ (wX g a b d fo tp sh f1 f20 ++ (wLs g tr (u3 201) (u3 210) (u3 211))))) := D_perm (List.Perm.append_left _ (List.Perm.append_left _ (List.perm_append_comm))) hD
        have hD : va_D (va_A (wX g a b d fo tp sh f1 f20 ++ (wF g fo b tr o1 ++ (wLs g b e1 e10 e11 ++ (wLs g tr t1 t10 t11)))) s.heap.size) (wF g fo b tr o1 ++ (wX g a b d fo tp sh f1 f20 ++ (wLs g b e1 e10 e11 ++ (wLs g tr (u3 201) (u3 210) (u3 211))))) := D_perm (List.Perm.append_left _ (List.perm_append_comm_assoc _ _ _)) hD
        have hD : va_D (va_A (wX g a b d fo tp sh f1 f20 ++ (wF g fo b tr o1 ++ (wLs g b e1 e10 e11 ++ (wLs g tr t1 t10 t11)))) s.heap.size) (wX g a b d fo tp sh f1 f20 ++ (wF g fo b tr o1 ++ (wLs g b e1 e10 e11 ++ (wLs g tr (u3 201) (u3 210) (u3 211))))) := D_perm (List.perm_append_comm_assoc _ _ _) hD
        have hP : va_P g.1 vwCl (wX g a b d fo tp sh f1 f20 ++ (wF g fo b tr o1 ++ (wLs g b e1 e10 e11 ++ (wLs g tr (u3 201) (u3 210) (u3 211))))) H := va_P_app.mpr ⟨hP0, va_P_app.mpr ⟨hP1, va_P_app.mpr ⟨hP2, hP3⟩⟩⟩
        refine xmF_i (rV (rest := []) hx hb hml hown hts hK hl (c_X4_orNoneN l g b d fo tp sh a f1 f20 (if 80 < fsT (whP e1 r ce) 81 0 then -1 else (fsT (whP e1 r ce) 81 0 : Int)) H.size (show IR (if 80 < fsT (whP e1 r ce) 81 0 then -1 else (fsT (whP e1 r ce) 81 0 : Int)) from ⟨by omega, by omega⟩) (show (if 80 < fsT (whP e1 r ce) 81 0 then -1 else (fsT (whP e1 r ce) 81 0 : Int)) < 0 from by omega)) lk_X4_189 ⟨rfl, hP0, (va_D_app hD).1.weaken (fun _ _ _ _ => trivial)⟩ (va_recv hK.1 hP0 (ci := 4) (q0 := 0) rfl rfl) rfl rfl rfl (Rm.of rfl) rfl rfl dX4_when_32) hP hD hS hA (fun x9 _ H locs hw hP hD hS => ?_)
        obtain rfl : x9 = iI (-1000000004) := hw
        have hP : va_P g.1 vwCl (wX g a b d fo tp sh (fb (-1000000000 - (-1000000004)) f1) f20 ++ (wF g fo b tr o1 ++ (wLs g b e1 e10 e11 ++ (wLs g tr (u3 201) (u3 210) (u3 211))))) H := hP
        have hD : va_D (va_A (wX g a b d fo tp sh f1 f20 ++ (wF g fo b tr o1 ++ (wLs g b e1 e10 e11 ++ (wLs g tr t1 t10 t11)))) s.heap.size) (wX g a b d fo tp sh (fb (-1000000000 - (-1000000004)) f1) f20 ++ (wF g fo b tr o1 ++ (wLs g b e1 e10 e11 ++ (wLs g tr (u3 201) (u3 210) (u3 211))))) := hD
        obtain ⟨hP0, hPr0⟩ := va_P_app.mp hP
        obtain ⟨hP1, hPr1⟩ := va_P_app.mp hPr0
        obtain ⟨hP2, hP3⟩ := va_P_app.mp hPr1
        have hf : fWhen e1 r ce = 4 := by unfold fWhen; (repeat (first | rw [if_pos (by omega)] | rw [if_neg (by omega)])); first | done | (exfalso; omega)
        have he6 : (fb (-1000000000 - (-1000000004)) f1) = (fb (fWhen e1 r ce) f1) := by rw [hf]; rfl
        have hP := Eq.mp (congrArg (fun z9 => va_P g.1 vwCl (wX g a b d fo tp sh z9 f20 ++ (wF g fo b tr o1 ++ (wLs g b e1 e10 e11 ++ (wLs g tr (u3 201) (u3 210) (u3 211))))) H) he6) hP
        have hD := Eq.mp (congrArg (fun z9 => va_D (va_A (wX g a b d fo tp sh f1 f20 ++ (wF g fo b tr o1 ++ (wLs g b e1 e10 e11 ++ (wLs g tr t1 t10 t11)))) s.heap.size) (wX g a b d fo tp sh z9 f20 ++ (wF g fo b tr o1 ++ (wLs g b e1 e10 e11 ++ (wLs g tr (u3 201) (u3 210) (u3 211)))))) he6) hD
        obtain ⟨hP0, hPr0⟩ := va_P_app.mp hP
        obtain ⟨hP1, hPr1⟩ := va_P_app.mp hPr0
        obtain ⟨hP2, hP3⟩ := va_P_app.mp hPr1
        have hP : va_P g.1 vwCl (wX g a b d fo tp sh (fb (fWhen e1 r ce) f1) f20 ++ (wF g fo b tr o1 ++ (wLs g b e1 e10 e11 ++ (wLs g tr ((su (su (su (fun _ _ => 0) 301 (u3 201)) 310 (u3 210)) 311 (u3 211)) 301) ((su (su (su (fun _ _ => 0) 301 (u3 201)) 310 (u3 210)) 311 (u3 211)) 310) ((su (su (su (fun _ _ => 0) 301 (u3 201)) 310 (u3 210)) 311 (u3 211)) 311))))) H := hP
        have hD : va_D (va_A (wX g a b d fo tp sh f1 f20 ++ (wF g fo b tr o1 ++ (wLs g b e1 e10 e11 ++ (wLs g tr t1 t10 t11)))) s.heap.size) (wX g a b d fo tp sh (fb (fWhen e1 r ce) f1) f20 ++ (wF g fo b tr o1 ++ (wLs g b e1 e10 e11 ++ (wLs g tr ((su (su (su (fun _ _ => 0) 301 (u3 201)) 310 (u3 210)) 311 (u3 211)) 301) ((su (su (su (fun _ _ => 0) 301 (u3 201)) 310 (u3 210)) 311 (u3 211)) 310) ((su (su (su (fun _ _ => 0) 301 (u3 201)) 310 (u3 210)) 311 (u3 211)) 311))))) := hD
        exact W.iret hx hb hr (fun t ht hW => ⟨⟨_, (su (su (su (fun _ _ => 0) 301 (u3 201)) 310 (u3 210)) 311 (u3 211)), rfl, by rw [hf]; rfl, by rw [ht]; exact hP, hD⟩, hS.F ht⟩) hS.2.2 dX4_when_35
      · have hD : va_D (va_A (wX g a b d fo tp sh f1 f20 ++ (wF g fo b tr o1 ++ (wLs g b e1 e10 e11 ++ (wLs g tr t1 t10 t11)))) s.heap.size) (wF g fo b tr o1 ++ (wLs g b e1 e10 e11 ++ (wX g a b d fo tp sh f1 f20 ++ (wLs g tr (u3 201) (u3 210) (u3 211))))) := D_perm (List.Perm.append_left _ (List.Perm.append_left _ (List.perm_append_comm))) hD
        have hD : va_D (va_A (wX g a b d fo tp sh f1 f20 ++ (wF g fo b tr o1 ++ (wLs g b e1 e10 e11 ++ (wLs g tr t1 t10 t11)))) s.heap.size) (wF g fo b tr o1 ++ (wX g a b d fo tp sh f1 f20 ++ (wLs g b e1 e10 e11 ++ (wLs g tr (u3 201) (u3 210) (u3 211))))) := D_perm (List.Perm.append_left _ (List.perm_append_comm_assoc _ _ _)) hD
        have hD : va_D (va_A (wX g a b d fo tp sh f1 f20 ++ (wF g fo b tr o1 ++ (wLs g b e1 e10 e11 ++ (wLs g tr t1 t10 t11)))) s.heap.size) (wX g a b d fo tp sh f1 f20 ++ (wF g fo b tr o1 ++ (wLs g b e1 e10 e11 ++ (wLs g tr (u3 201) (u3 210) (u3 211))))) := D_perm (List.perm_append_comm_assoc _ _ _) hD
        have hP : va_P g.1 vwCl (wX g a b d fo tp sh f1 f20 ++ (wF g fo b tr o1 ++ (wLs g b e1 e10 e11 ++ (wLs g tr (u3 201) (u3 210) (u3 211))))) H := va_P_app.mpr ⟨hP0, va_P_app.mpr ⟨hP1, va_P_app.mpr ⟨hP2, hP3⟩⟩⟩
        refine xmF_i (rV (rest := []) hx hb hml hown hts hK hl (c_X4_orNoneP l g b d fo tp sh a f1 f20 (if 80 < fsT (whP e1 r ce) 81 0 then -1 else (fsT (whP e1 r ce) 81 0 : Int)) H.size (show IR (if 80 < fsT (whP e1 r ce) 81 0 then -1 else (fsT (whP e1 r ce) 81 0 : Int)) from ⟨by omega, by omega⟩) (show 0 ≤ (if 80 < fsT (whP e1 r ce) 81 0 then -1 else (fsT (whP e1 r ce) 81 0 : Int)) from by omega)) lk_X4_189 ⟨rfl, hP0, (va_D_app hD).1.weaken (fun _ _ _ _ => trivial)⟩ (va_recv hK.1 hP0 (ci := 4) (q0 := 0) rfl rfl) rfl rfl rfl (Rm.of rfl) rfl rfl dX4_when_32) hP hD hS hA (fun x9 _ H locs hw hP hD hS => ?_)
        obtain rfl : x9 = iI (if 80 < fsT (whP e1 r ce) 81 0 then -1 else (fsT (whP e1 r ce) 81 0 : Int)) := hw
        have hP : va_P g.1 vwCl (wX g a b d fo tp sh f1 f20 ++ (wF g fo b tr o1 ++ (wLs g b e1 e10 e11 ++ (wLs g tr (u3 201) (u3 210) (u3 211))))) H := hP
        have hD : va_D (va_A (wX g a b d fo tp sh f1 f20 ++ (wF g fo b tr o1 ++ (wLs g b e1 e10 e11 ++ (wLs g tr t1 t10 t11)))) s.heap.size) (wX g a b d fo tp sh f1 f20 ++ (wF g fo b tr o1 ++ (wLs g b e1 e10 e11 ++ (wLs g tr (u3 201) (u3 210) (u3 211))))) := hD
        obtain ⟨hP0, hPr0⟩ := va_P_app.mp hP
        obtain ⟨hP1, hPr1⟩ := va_P_app.mp hPr0
        obtain ⟨hP2, hP3⟩ := va_P_app.mp hPr1
        have hf : fWhen e1 r ce = 0 := by unfold fWhen; (repeat (first | rw [if_pos (by omega)] | rw [if_neg (by omega)])); first | done | (exfalso; omega)
        have he8 : f1 = (fb (fWhen e1 r ce) f1) := by rw [hf]; rfl
        have hP := Eq.mp (congrArg (fun z9 => va_P g.1 vwCl (wX g a b d fo tp sh z9 f20 ++ (wF g fo b tr o1 ++ (wLs g b e1 e10 e11 ++ (wLs g tr (u3 201) (u3 210) (u3 211))))) H) he8) hP
        have hD := Eq.mp (congrArg (fun z9 => va_D (va_A (wX g a b d fo tp sh f1 f20 ++ (wF g fo b tr o1 ++ (wLs g b e1 e10 e11 ++ (wLs g tr t1 t10 t11)))) s.heap.size) (wX g a b d fo tp sh z9 f20 ++ (wF g fo b tr o1 ++ (wLs g b e1 e10 e11 ++ (wLs g tr (u3 201) (u3 210) (u3 211)))))) he8) hD
        obtain ⟨hP0, hPr0⟩ := va_P_app.mp hP
        obtain ⟨hP1, hPr1⟩ := va_P_app.mp hPr0
        obtain ⟨hP2, hP3⟩ := va_P_app.mp hPr1
        have hP : va_P g.1 vwCl (wX g a b d fo tp sh (fb (fWhen e1 r ce) f1) f20 ++ (wF g fo b tr o1 ++ (wLs g b e1 e10 e11 ++ (wLs g tr ((su (su (su (fun _ _ => 0) 301 (u3 201)) 310 (u3 210)) 311 (u3 211)) 301) ((su (su (su (fun _ _ => 0) 301 (u3 201)) 310 (u3 210)) 311 (u3 211)) 310) ((su (su (su (fun _ _ => 0) 301 (u3 201)) 310 (u3 210)) 311 (u3 211)) 311))))) H := hP
        have hD : va_D (va_A (wX g a b d fo tp sh f1 f20 ++ (wF g fo b tr o1 ++ (wLs g b e1 e10 e11 ++ (wLs g tr t1 t10 t11)))) s.heap.size) (wX g a b d fo tp sh (fb (fWhen e1 r ce) f1) f20 ++ (wF g fo b tr o1 ++ (wLs g b e1 e10 e11 ++ (wLs g tr ((su (su (su (fun _ _ => 0) 301 (u3 201)) 310 (u3 210)) 311 (u3 211)) 301) ((su (su (su (fun _ _ => 0) 301 (u3 201)) 310 (u3 210)) 311 (u3 211)) 310) ((su (su (su (fun _ _ => 0) 301 (u3 201)) 310 (u3 210)) 311 (u3 211)) 311))))) := hD
        exact W.iret hx hb hr (fun t ht hW => ⟨⟨_, (su (su (su (fun _ _ => 0) 301 (u3 201)) 310 (u3 210)) 311 (u3 211)), rfl, by rw [hf, ab_0]; exact congrArg iI (by omega), by rw [ht]; exact hP, hD⟩, hS.F ht⟩) hS.2.2 dX4_when_35
    · refine xi_zf_ne hx hb ⟨by decide, by decide⟩ (by decide) dX4_when_12 ⟨22, by decide⟩ ?_
      refine lv_aload_n hx hb dX4_when_15 rfl (lv_at hl 0 rfl) ?_
      refine xi_ldc hx hb hown hts kk_X4_58 dX4_when_16 ?_
      refine xmF_i (rV (rest := []) hx hb hml hown hts hK hl (c_X4_finding l g b d fo tp sh a f1 f20 (-1000000001) (s.heap).size (show 0 ≤ -1000000001 - (-1000000001) ∧ -1000000001 - (-1000000001) < 7 from by omega)) lk_X4_59 ⟨rfl, hP0, (va_D_app hD).1.weaken (fun _ _ _ _ => trivial)⟩ (va_recv hK.1 hP0 (ci := 4) (q0 := 0) rfl rfl) rfl rfl rfl (Rm.of rfl) rfl rfl dX4_when_18) hP hD hS hA (fun x9 _ H locs hw hP hD hS => ?_)
      obtain rfl : x9 = iI (-1000000001) := hw
      have hP : va_P g.1 vwCl (wX g a b d fo tp sh (fb (-1000000000 - (-1000000001)) f1) f20 ++ (wF g fo b tr o1 ++ (wLs g b e1 e10 e11 ++ (wLs g tr t1 t10 t11)))) H := hP
      have hD : va_D (va_A (wX g a b d fo tp sh f1 f20 ++ (wF g fo b tr o1 ++ (wLs g b e1 e10 e11 ++ (wLs g tr t1 t10 t11)))) s.heap.size) (wX g a b d fo tp sh (fb (-1000000000 - (-1000000001)) f1) f20 ++ (wF g fo b tr o1 ++ (wLs g b e1 e10 e11 ++ (wLs g tr t1 t10 t11)))) := hD
      obtain ⟨hP0, hPr0⟩ := va_P_app.mp hP
      obtain ⟨hP1, hPr1⟩ := va_P_app.mp hPr0
      obtain ⟨hP2, hP3⟩ := va_P_app.mp hPr1
      have hf : fWhen e1 r ce = 1 := by unfold fWhen; (repeat (first | rw [if_pos (by omega)] | rw [if_neg (by omega)])); first | done | (exfalso; omega)
      have he10 : (fb (-1000000000 - (-1000000001)) f1) = (fb (fWhen e1 r ce) f1) := by rw [hf]; rfl
      have hP := Eq.mp (congrArg (fun z9 => va_P g.1 vwCl (wX g a b d fo tp sh z9 f20 ++ (wF g fo b tr o1 ++ (wLs g b e1 e10 e11 ++ (wLs g tr t1 t10 t11)))) H) he10) hP
      have hD := Eq.mp (congrArg (fun z9 => va_D (va_A (wX g a b d fo tp sh f1 f20 ++ (wF g fo b tr o1 ++ (wLs g b e1 e10 e11 ++ (wLs g tr t1 t10 t11)))) s.heap.size) (wX g a b d fo tp sh z9 f20 ++ (wF g fo b tr o1 ++ (wLs g b e1 e10 e11 ++ (wLs g tr t1 t10 t11))))) he10) hD
      obtain ⟨hP0, hPr0⟩ := va_P_app.mp hP
      obtain ⟨hP1, hPr1⟩ := va_P_app.mp hPr0
      obtain ⟨hP2, hP3⟩ := va_P_app.mp hPr1
      have hP : va_P g.1 vwCl (wX g a b d fo tp sh (fb (fWhen e1 r ce) f1) f20 ++ (wF g fo b tr o1 ++ (wLs g b e1 e10 e11 ++ (wLs g tr ((su (su (su (fun _ _ => 0) 301 t1) 310 t10) 311 t11) 301) ((su (su (su (fun _ _ => 0) 301 t1) 310 t10) 311 t11) 310) ((su (su (su (fun _ _ => 0) 301 t1) 310 t10) 311 t11) 311))))) H := hP
      have hD : va_D (va_A (wX g a b d fo tp sh f1 f20 ++ (wF g fo b tr o1 ++ (wLs g b e1 e10 e11 ++ (wLs g tr t1 t10 t11)))) s.heap.size) (wX g a b d fo tp sh (fb (fWhen e1 r ce) f1) f20 ++ (wF g fo b tr o1 ++ (wLs g b e1 e10 e11 ++ (wLs g tr ((su (su (su (fun _ _ => 0) 301 t1) 310 t10) 311 t11) 301) ((su (su (su (fun _ _ => 0) 301 t1) 310 t10) 311 t11) 310) ((su (su (su (fun _ _ => 0) 301 t1) 310 t10) 311 t11) 311))))) := hD
      exact W.iret hx hb hr (fun t ht hW => ⟨⟨_, (su (su (su (fun _ _ => 0) 301 t1) 310 t10) 311 t11), rfl, by rw [hf]; rfl, by rw [ht]; exact hP, hD⟩, hS.F ht⟩) hS.2.2 dX4_when_21
  · refine xi_zt_eq (tgt := 15) hx hb ⟨by decide, by decide⟩ (by decide) dX4_when_5 (by decide) ?_
    refine lv_aload_n hx hb dX4_when_15 rfl (lv_at hl 0 rfl) ?_
    refine xi_ldc hx hb hown hts kk_X4_58 dX4_when_16 ?_
    refine xmF_i (rV (rest := []) hx hb hml hown hts hK hl (c_X4_finding l g b d fo tp sh a f1 f20 (-1000000001) (s.heap).size (show 0 ≤ -1000000001 - (-1000000001) ∧ -1000000001 - (-1000000001) < 7 from by omega)) lk_X4_59 ⟨rfl, hP0, (va_D_app hD).1.weaken (fun _ _ _ _ => trivial)⟩ (va_recv hK.1 hP0 (ci := 4) (q0 := 0) rfl rfl) rfl rfl rfl (Rm.of rfl) rfl rfl dX4_when_18) hP hD hS hA (fun x9 _ H locs hw hP hD hS => ?_)
    obtain rfl : x9 = iI (-1000000001) := hw
    have hP : va_P g.1 vwCl (wX g a b d fo tp sh (fb (-1000000000 - (-1000000001)) f1) f20 ++ (wF g fo b tr o1 ++ (wLs g b e1 e10 e11 ++ (wLs g tr t1 t10 t11)))) H := hP
    have hD : va_D (va_A (wX g a b d fo tp sh f1 f20 ++ (wF g fo b tr o1 ++ (wLs g b e1 e10 e11 ++ (wLs g tr t1 t10 t11)))) s.heap.size) (wX g a b d fo tp sh (fb (-1000000000 - (-1000000001)) f1) f20 ++ (wF g fo b tr o1 ++ (wLs g b e1 e10 e11 ++ (wLs g tr t1 t10 t11)))) := hD
    obtain ⟨hP0, hPr0⟩ := va_P_app.mp hP
    obtain ⟨hP1, hPr1⟩ := va_P_app.mp hPr0
    obtain ⟨hP2, hP3⟩ := va_P_app.mp hPr1
    have hf : fWhen e1 r ce = 1 := by unfold fWhen; (repeat (first | rw [if_pos (by omega)] | rw [if_neg (by omega)])); first | done | (exfalso; omega)
    have he12 : (fb (-1000000000 - (-1000000001)) f1) = (fb (fWhen e1 r ce) f1) := by rw [hf]; rfl
    have hP := Eq.mp (congrArg (fun z9 => va_P g.1 vwCl (wX g a b d fo tp sh z9 f20 ++ (wF g fo b tr o1 ++ (wLs g b e1 e10 e11 ++ (wLs g tr t1 t10 t11)))) H) he12) hP
    have hD := Eq.mp (congrArg (fun z9 => va_D (va_A (wX g a b d fo tp sh f1 f20 ++ (wF g fo b tr o1 ++ (wLs g b e1 e10 e11 ++ (wLs g tr t1 t10 t11)))) s.heap.size) (wX g a b d fo tp sh z9 f20 ++ (wF g fo b tr o1 ++ (wLs g b e1 e10 e11 ++ (wLs g tr t1 t10 t11))))) he12) hD
    obtain ⟨hP0, hPr0⟩ := va_P_app.mp hP
    obtain ⟨hP1, hPr1⟩ := va_P_app.mp hPr0
    obtain ⟨hP2, hP3⟩ := va_P_app.mp hPr1
    have hP : va_P g.1 vwCl (wX g a b d fo tp sh (fb (fWhen e1 r ce) f1) f20 ++ (wF g fo b tr o1 ++ (wLs g b e1 e10 e11 ++ (wLs g tr ((su (su (su (fun _ _ => 0) 301 t1) 310 t10) 311 t11) 301) ((su (su (su (fun _ _ => 0) 301 t1) 310 t10) 311 t11) 310) ((su (su (su (fun _ _ => 0) 301 t1) 310 t10) 311 t11) 311))))) H := hP
    have hD : va_D (va_A (wX g a b d fo tp sh f1 f20 ++ (wF g fo b tr o1 ++ (wLs g b e1 e10 e11 ++ (wLs g tr t1 t10 t11)))) s.heap.size) (wX g a b d fo tp sh (fb (fWhen e1 r ce) f1) f20 ++ (wF g fo b tr o1 ++ (wLs g b e1 e10 e11 ++ (wLs g tr ((su (su (su (fun _ _ => 0) 301 t1) 310 t10) 311 t11) 301) ((su (su (su (fun _ _ => 0) 301 t1) 310 t10) 311 t11) 310) ((su (su (su (fun _ _ => 0) 301 t1) 310 t10) 311 t11) 311))))) := hD
    exact W.iret hx hb hr (fun t ht hW => ⟨⟨_, (su (su (su (fun _ _ => 0) 301 t1) 310 t10) 311 t11), rfl, by rw [hf]; rfl, by rw [ht]; exact hP, hD⟩, hS.F ht⟩) hS.2.2 dX4_when_21
abbrev rm_X4_lit : Room := { frames := 4, cells := 0, slots := 0, locals := 123 }
set_option maxRecDepth 100000 in
set_option maxHeartbeats 4000000 in
theorem c_X4_lit (l : Launch) (g : Gd) (d : Nat → Nat) (tp : Nat → Nat) (sh : Nat → Nat) (a : Nat → Nat) (f1 : Int → Int) (f20 : Int) (fo : Nat → Nat) (o1 : Int → Int) (b : Nat → Nat) (e1 : Int → Int) (e10 : Int → Int) (e11 : Int → Int) (tr : Nat → Nat) (t1 : Int → Int) (t10 : Int → Int) (t11 : Int → Int) (v : Int) (sz : Nat) (h1 : InvK 0 e1) (h2 : e1 0 ≤ 9999) (h3 : IR v) : Met l yX4_lit (wsOf yX4_lit cX4_lit 2 (some .int)) rm_X4_lit (PX g (wP g (wX g a b d fo tp sh f1 f20 ++ (wF g fo b tr o1 ++ (wLs g b e1 e10 e11 ++ (wLs g tr t1 t10 t11)))) sz) [.ref (a 0), .int (iI v)]) (QMi g (fun u9 : Nat → Int → Int => wX g a b d fo tp sh (fb (fLit e1 v) f1) f20 ++ (wF g fo b tr o1 ++ (wLs g b e1 e10 e11 ++ (wLs g tr (u9 301) (u9 310) (u9 311))))) (fun r9 _ => r9 = ab (fLit e1 v) (iI (fsT (ltP e1 v) 81 0 : Int))) (va_A (wX g a b d fo tp sh f1 f20 ++ (wF g fo b tr o1 ++ (wLs g b e1 e10 e11 ++ (wLs g tr t1 t10 t11)))) sz)) 0 0 (va_A (wX g a b d fo tp sh f1 f20 ++ (wF g fo b tr o1 ++ (wLs g b e1 e10 e11 ++ (wLs g tr t1 t10 t11)))) sz) := by
  refine me (g := g) (by decide) rfl ?_
  intro pq eq s mq below meth cq C hnm hB ls hl
  obtain ⟨hx, hb, hr, hml, hown, hts, hlocks, hK⟩ := C
  have hown : s.vm.findClass RX4 = some mq.cls := hown
  have hl : lv_has ls 2 [(0, .ref (a 0)), (1, .int (iI v))] := hl
  obtain ⟨hsz, hP, hD0⟩ := hB
  subst hsz
  have hD := hD0.self (sz := s.heap.size)
  have hA : ∀ q : Nat, s.heap.size ≤ q → va_A (wX g a b d fo tp sh f1 f20 ++ (wF g fo b tr o1 ++ (wLs g b e1 e10 e11 ++ (wLs g tr t1 t10 t11)))) s.heap.size q := fun q h => Or.inr h
  have hS : va_S (va_A (wX g a b d fo tp sh f1 f20 ++ (wF g fo b tr o1 ++ (wLs g b e1 e10 e11 ++ (wLs g tr t1 t10 t11)))) s.heap.size) s.heap s.heap [] := va_S.rf
  obtain ⟨hP0, hPr0⟩ := va_P_app.mp hP
  obtain ⟨hP1, hPr1⟩ := va_P_app.mp hPr0
  obtain ⟨hP2, hP3⟩ := va_P_app.mp hPr1
  have hI := h1
  have hI8 : Inv e1 := h1.mono (by omega)
  have hn := hI.num
  have hs := hI.sea
  have hv := hI.vil
  have q1 := h3.1
  have q2 := h3.2
  have hfb := fsT_b (ltP e1 v) 81 0
  have hoi := nn_or (fsT (ltP e1 v) 81 0) 80
  refine lv_aload_n hx hb dX4_lit_0 rfl (lv_at hl 0 rfl) ?_
  refine lv_iload_n hx hb dX4_lit_1 rfl (lv_at hl 1 rfl) ?_
  refine xu_b (P := 0 ≤ v ∧ v < e1 2) (rV (rest := []) hx hb hml hown hts hK hl (c_X4_isVillage l g d fo tp sh a f1 f20 b e1 e10 e11 v (show IR v from ⟨by omega, by omega⟩) (show 0 ≤ e1 2 ∧ e1 2 ≤ 6 from by omega)) lk_X4_90 (va_P_app.mpr ⟨hP0, hP2⟩) (va_recv hK.1 hP0 (ci := 4) (q0 := 0) rfl rfl) rfl rfl rfl (Rm.of rfl) rfl rfl dX4_lit_2) (fun z1 => ?_) (fun z1 => ?_)
  · refine xi_zt_ne (tgt := 15) hx hb ⟨by decide, by decide⟩ (by decide) dX4_lit_5 (by decide) ?_
    refine lv_aload_n hx hb dX4_lit_15 rfl (lv_at hl 0 rfl) ?_
    refine lv_aload_n hx hb dX4_lit_16 rfl (lv_at hl 0 rfl) ?_
    refine xg_X4 hx hb hts hown hK hP0 0 rfl 2 (by decide) fk_X4_24 (v := .ref (fo 0)) rfl dX4_lit_17 ?_
    refine lv_iload_n hx hb dX4_lit_20 rfl (lv_at hl 1 rfl) ?_
    have hD : va_D (va_A (wX g a b d fo tp sh f1 f20 ++ (wF g fo b tr o1 ++ (wLs g b e1 e10 e11 ++ (wLs g tr t1 t10 t11)))) s.heap.size) (wF g fo b tr o1 ++ (wX g a b d fo tp sh f1 f20 ++ (wLs g b e1 e10 e11 ++ (wLs g tr t1 t10 t11)))) := D_perm (List.perm_append_comm_assoc _ _ _) hD
    have hD : va_D (va_A (wX g a b d fo tp sh f1 f20 ++ (wF g fo b tr o1 ++ (wLs g b e1 e10 e11 ++ (wLs g tr t1 t10 t11)))) s.heap.size) (wF g fo b tr o1 ++ (wLs g b e1 e10 e11 ++ (wX g a b d fo tp sh f1 f20 ++ (wLs g tr t1 t10 t11)))) := D_perm (List.Perm.append_left _ (List.perm_append_comm_assoc _ _ _)) hD
    have hD : va_D (va_A (wX g a b d fo tp sh f1 f20 ++ (wF g fo b tr o1 ++ (wLs g b e1 e10 e11 ++ (wLs g tr t1 t10 t11)))) s.heap.size) (wF g fo b tr o1 ++ (wLs g b e1 e10 e11 ++ (wLs g tr t1 t10 t11 ++ (wX g a b d fo tp sh f1 f20)))) := D_perm (List.Perm.append_left _ (List.Perm.append_left _ (List.perm_append_comm))) hD
    have hP : va_P g.1 vwCl (wF g fo b tr o1 ++ (wLs g b e1 e10 e11 ++ (wLs g tr t1 t10 t11 ++ (wX g a b d fo tp sh f1 f20)))) s.heap := va_P_app.mpr ⟨hP1, va_P_app.mpr ⟨hP2, va_P_app.mpr ⟨hP3, hP0⟩⟩⟩
    have hP : va_P g.1 vwCl ((wF g fo b tr o1 ++ (wLs g b e1 e10 e11 ++ (wLs g tr t1 t10 t11))) ++ (wX g a b d fo tp sh f1 f20)) s.heap := by rw [List.append_assoc, List.append_assoc]; exact hP
    have hD : va_D (va_A (wX g a b d fo tp sh f1 f20 ++ (wF g fo b tr o1 ++ (wLs g b e1 e10 e11 ++ (wLs g tr t1 t10 t11)))) s.heap.size) ((wF g fo b tr o1 ++ (wLs g b e1 e10 e11 ++ (wLs g tr t1 t10 t11))) ++ (wX g a b d fo tp sh f1 f20)) := by rw [List.append_assoc, List.append_assoc]; exact hD
    refine xmF_i (rVN (rest := [.ref (a 0)]) hx hb hml hown hts hK hl (c_X0_seasonsUntilLit l g fo o1 b e1 e10 e11 tr t1 t10 t11 v (s.heap).size (show InvK 0 e1 from h1) (show e1 0 ≤ 9999 from by omega) (show 0 ≤ v ∧ v < e1 2 from by omega)) lk_X4_192 ⟨rfl, (va_P_app.mp hP).1, (va_D_app hD).1.weaken (fun _ _ _ _ => trivial)⟩ (va_recv hK.1 hP1 (ci := 0) (q0 := 0) rfl rfl) rfl rfl rfl (Rm.of rfl) rfl rfl dX4_lit_21) hP hD hS hA (fun x9 u2 H locs hw hP hD hS => ?_)
    have hP : va_P g.1 vwCl ((wF g fo b tr o1 ++ (wLs g b e1 e10 e11 ++ (wLs g tr (u2 201) (u2 210) (u2 211)))) ++ (wX g a b d fo tp sh f1 f20)) H := hP
    have hD : va_D (va_A (wX g a b d fo tp sh f1 f20 ++ (wF g fo b tr o1 ++ (wLs g b e1 e10 e11 ++ (wLs g tr t1 t10 t11)))) s.heap.size) ((wF g fo b tr o1 ++ (wLs g b e1 e10 e11 ++ (wLs g tr (u2 201) (u2 210) (u2 211)))) ++ (wX g a b d fo tp sh f1 f20)) := hD
    rw [List.append_assoc, List.append_assoc] at hP hD
    obtain rfl : x9 = iI (if 80 < fsT (ltP e1 v) 81 0 then -1 else (fsT (ltP e1 v) 81 0 : Int)) := hw
    have hP : va_P g.1 vwCl (wF g fo b tr o1 ++ (wLs g b e1 e10 e11 ++ (wLs g tr (u2 201) (u2 210) (u2 211) ++ (wX g a b d fo tp sh f1 f20)))) H := hP
    have hD : va_D (va_A (wX g a b d fo tp sh f1 f20 ++ (wF g fo b tr o1 ++ (wLs g b e1 e10 e11 ++ (wLs g tr t1 t10 t11)))) s.heap.size) (wF g fo b tr o1 ++ (wLs g b e1 e10 e11 ++ (wLs g tr (u2 201) (u2 210) (u2 211) ++ (wX g a b d fo tp sh f1 f20)))) := hD
    obtain ⟨hP1, hPr0⟩ := va_P_app.mp hP
    obtain ⟨hP2, hPr1⟩ := va_P_app.mp hPr0
    obtain ⟨hP3, hP0⟩ := va_P_app.mp hPr1
    rcases (show ((if 80 < fsT (ltP e1 v) 81 0 then -1 else (fsT (ltP e1 v) 81 0 : Int)) < 0) ∨ (0 ≤ (if 80 < fsT (ltP e1 v) 81 0 then -1 else (fsT (ltP e1 v) 81 0 : Int))) from by omega) with z3 | z3
    · have hD : va_D (va_A (wX g a b d fo tp sh f1 f20 ++ (wF g fo b tr o1 ++ (wLs g b e1 e10 e11 ++ (wLs g tr t1 t10 t11)))) s.heap.size) (wF g fo b tr o1 ++ (wLs g b e1 e10 e11 ++ (wX g a b d fo tp sh f1 f20 ++ (wLs g tr (u2 201) (u2 210) (u2 211))))) := D_perm (List.Perm.append_left _ (List.Perm.append_left _ (List.perm_append_comm))) hD
      have hD : va_D (va_A (wX g a b d fo tp sh f1 f20 ++ (wF g fo b tr o1 ++ (wLs g b e1 e10 e11 ++ (wLs g tr t1 t10 t11)))) s.heap.size) (wF g fo b tr o1 ++ (wX g a b d fo tp sh f1 f20 ++ (wLs g b e1 e10 e11 ++ (wLs g tr (u2 201) (u2 210) (u2 211))))) := D_perm (List.Perm.append_left _ (List.perm_append_comm_assoc _ _ _)) hD
      have hD : va_D (va_A (wX g a b d fo tp sh f1 f20 ++ (wF g fo b tr o1 ++ (wLs g b e1 e10 e11 ++ (wLs g tr t1 t10 t11)))) s.heap.size) (wX g a b d fo tp sh f1 f20 ++ (wF g fo b tr o1 ++ (wLs g b e1 e10 e11 ++ (wLs g tr (u2 201) (u2 210) (u2 211))))) := D_perm (List.perm_append_comm_assoc _ _ _) hD
      have hP : va_P g.1 vwCl (wX g a b d fo tp sh f1 f20 ++ (wF g fo b tr o1 ++ (wLs g b e1 e10 e11 ++ (wLs g tr (u2 201) (u2 210) (u2 211))))) H := va_P_app.mpr ⟨hP0, va_P_app.mpr ⟨hP1, va_P_app.mpr ⟨hP2, hP3⟩⟩⟩
      refine xmF_i (rV (rest := []) hx hb hml hown hts hK hl (c_X4_orNoneN l g b d fo tp sh a f1 f20 (if 80 < fsT (ltP e1 v) 81 0 then -1 else (fsT (ltP e1 v) 81 0 : Int)) H.size (show IR (if 80 < fsT (ltP e1 v) 81 0 then -1 else (fsT (ltP e1 v) 81 0 : Int)) from ⟨by omega, by omega⟩) (show (if 80 < fsT (ltP e1 v) 81 0 then -1 else (fsT (ltP e1 v) 81 0 : Int)) < 0 from by omega)) lk_X4_189 ⟨rfl, hP0, (va_D_app hD).1.weaken (fun _ _ _ _ => trivial)⟩ (va_recv hK.1 hP0 (ci := 4) (q0 := 0) rfl rfl) rfl rfl rfl (Rm.of rfl) rfl rfl dX4_lit_24) hP hD hS hA (fun x9 _ H locs hw hP hD hS => ?_)
      obtain rfl : x9 = iI (-1000000004) := hw
      have hP : va_P g.1 vwCl (wX g a b d fo tp sh (fb (-1000000000 - (-1000000004)) f1) f20 ++ (wF g fo b tr o1 ++ (wLs g b e1 e10 e11 ++ (wLs g tr (u2 201) (u2 210) (u2 211))))) H := hP
      have hD : va_D (va_A (wX g a b d fo tp sh f1 f20 ++ (wF g fo b tr o1 ++ (wLs g b e1 e10 e11 ++ (wLs g tr t1 t10 t11)))) s.heap.size) (wX g a b d fo tp sh (fb (-1000000000 - (-1000000004)) f1) f20 ++ (wF g fo b tr o1 ++ (wLs g b e1 e10 e11 ++ (wLs g tr (u2 201) (u2 210) (u2 211))))) := hD
      obtain ⟨hP0, hPr0⟩ := va_P_app.mp hP
      obtain ⟨hP1, hPr1⟩ := va_P_app.mp hPr0
      obtain ⟨hP2, hP3⟩ := va_P_app.mp hPr1
      have hf : fLit e1 v = 4 := by unfold fLit; (repeat (first | rw [if_pos (by omega)] | rw [if_neg (by omega)])); first | done | (exfalso; omega)
      have he5 : (fb (-1000000000 - (-1000000004)) f1) = (fb (fLit e1 v) f1) := by rw [hf]; rfl
      have hP := Eq.mp (congrArg (fun z9 => va_P g.1 vwCl (wX g a b d fo tp sh z9 f20 ++ (wF g fo b tr o1 ++ (wLs g b e1 e10 e11 ++ (wLs g tr (u2 201) (u2 210) (u2 211))))) H) he5) hP
      have hD := Eq.mp (congrArg (fun z9 => va_D (va_A (wX g a b d fo tp sh f1 f20 ++ (wF g fo b tr o1 ++ (wLs g b e1 e10 e11 ++ (wLs g tr t1 t10 t11)))) s.heap.size) (wX g a b d fo tp sh z9 f20 ++ (wF g fo b tr o1 ++ (wLs g b e1 e10 e11 ++ (wLs g tr (u2 201) (u2 210) (u2 211)))))) he5) hD
      obtain ⟨hP0, hPr0⟩ := va_P_app.mp hP
      obtain ⟨hP1, hPr1⟩ := va_P_app.mp hPr0
      obtain ⟨hP2, hP3⟩ := va_P_app.mp hPr1
      have hP : va_P g.1 vwCl (wX g a b d fo tp sh (fb (fLit e1 v) f1) f20 ++ (wF g fo b tr o1 ++ (wLs g b e1 e10 e11 ++ (wLs g tr ((su (su (su (fun _ _ => 0) 301 (u2 201)) 310 (u2 210)) 311 (u2 211)) 301) ((su (su (su (fun _ _ => 0) 301 (u2 201)) 310 (u2 210)) 311 (u2 211)) 310) ((su (su (su (fun _ _ => 0) 301 (u2 201)) 310 (u2 210)) 311 (u2 211)) 311))))) H := hP
      have hD : va_D (va_A (wX g a b d fo tp sh f1 f20 ++ (wF g fo b tr o1 ++ (wLs g b e1 e10 e11 ++ (wLs g tr t1 t10 t11)))) s.heap.size) (wX g a b d fo tp sh (fb (fLit e1 v) f1) f20 ++ (wF g fo b tr o1 ++ (wLs g b e1 e10 e11 ++ (wLs g tr ((su (su (su (fun _ _ => 0) 301 (u2 201)) 310 (u2 210)) 311 (u2 211)) 301) ((su (su (su (fun _ _ => 0) 301 (u2 201)) 310 (u2 210)) 311 (u2 211)) 310) ((su (su (su (fun _ _ => 0) 301 (u2 201)) 310 (u2 210)) 311 (u2 211)) 311))))) := hD
      exact W.iret hx hb hr (fun t ht hW => ⟨⟨_, (su (su (su (fun _ _ => 0) 301 (u2 201)) 310 (u2 210)) 311 (u2 211)), rfl, by rw [hf]; rfl, by rw [ht]; exact hP, hD⟩, hS.F ht⟩) hS.2.2 dX4_lit_27
    · have hD : va_D (va_A (wX g a b d fo tp sh f1 f20 ++ (wF g fo b tr o1 ++ (wLs g b e1 e10 e11 ++ (wLs g tr t1 t10 t11)))) s.heap.size) (wF g fo b tr o1 ++ (wLs g b e1 e10 e11 ++ (wX g a b d fo tp sh f1 f20 ++ (wLs g tr (u2 201) (u2 210) (u2 211))))) := D_perm (List.Perm.append_left _ (List.Perm.append_left _ (List.perm_append_comm))) hD
      have hD : va_D (va_A (wX g a b d fo tp sh f1 f20 ++ (wF g fo b tr o1 ++ (wLs g b e1 e10 e11 ++ (wLs g tr t1 t10 t11)))) s.heap.size) (wF g fo b tr o1 ++ (wX g a b d fo tp sh f1 f20 ++ (wLs g b e1 e10 e11 ++ (wLs g tr (u2 201) (u2 210) (u2 211))))) := D_perm (List.Perm.append_left _ (List.perm_append_comm_assoc _ _ _)) hD
      have hD : va_D (va_A (wX g a b d fo tp sh f1 f20 ++ (wF g fo b tr o1 ++ (wLs g b e1 e10 e11 ++ (wLs g tr t1 t10 t11)))) s.heap.size) (wX g a b d fo tp sh f1 f20 ++ (wF g fo b tr o1 ++ (wLs g b e1 e10 e11 ++ (wLs g tr (u2 201) (u2 210) (u2 211))))) := D_perm (List.perm_append_comm_assoc _ _ _) hD
      have hP : va_P g.1 vwCl (wX g a b d fo tp sh f1 f20 ++ (wF g fo b tr o1 ++ (wLs g b e1 e10 e11 ++ (wLs g tr (u2 201) (u2 210) (u2 211))))) H := va_P_app.mpr ⟨hP0, va_P_app.mpr ⟨hP1, va_P_app.mpr ⟨hP2, hP3⟩⟩⟩
      refine xmF_i (rV (rest := []) hx hb hml hown hts hK hl (c_X4_orNoneP l g b d fo tp sh a f1 f20 (if 80 < fsT (ltP e1 v) 81 0 then -1 else (fsT (ltP e1 v) 81 0 : Int)) H.size (show IR (if 80 < fsT (ltP e1 v) 81 0 then -1 else (fsT (ltP e1 v) 81 0 : Int)) from ⟨by omega, by omega⟩) (show 0 ≤ (if 80 < fsT (ltP e1 v) 81 0 then -1 else (fsT (ltP e1 v) 81 0 : Int)) from by omega)) lk_X4_189 ⟨rfl, hP0, (va_D_app hD).1.weaken (fun _ _ _ _ => trivial)⟩ (va_recv hK.1 hP0 (ci := 4) (q0 := 0) rfl rfl) rfl rfl rfl (Rm.of rfl) rfl rfl dX4_lit_24) hP hD hS hA (fun x9 _ H locs hw hP hD hS => ?_)
      obtain rfl : x9 = iI (if 80 < fsT (ltP e1 v) 81 0 then -1 else (fsT (ltP e1 v) 81 0 : Int)) := hw
      have hP : va_P g.1 vwCl (wX g a b d fo tp sh f1 f20 ++ (wF g fo b tr o1 ++ (wLs g b e1 e10 e11 ++ (wLs g tr (u2 201) (u2 210) (u2 211))))) H := hP
      have hD : va_D (va_A (wX g a b d fo tp sh f1 f20 ++ (wF g fo b tr o1 ++ (wLs g b e1 e10 e11 ++ (wLs g tr t1 t10 t11)))) s.heap.size) (wX g a b d fo tp sh f1 f20 ++ (wF g fo b tr o1 ++ (wLs g b e1 e10 e11 ++ (wLs g tr (u2 201) (u2 210) (u2 211))))) := hD
      obtain ⟨hP0, hPr0⟩ := va_P_app.mp hP
      obtain ⟨hP1, hPr1⟩ := va_P_app.mp hPr0
      obtain ⟨hP2, hP3⟩ := va_P_app.mp hPr1
      have hf : fLit e1 v = 0 := by unfold fLit; (repeat (first | rw [if_pos (by omega)] | rw [if_neg (by omega)])); first | done | (exfalso; omega)
      have he7 : f1 = (fb (fLit e1 v) f1) := by rw [hf]; rfl
      have hP := Eq.mp (congrArg (fun z9 => va_P g.1 vwCl (wX g a b d fo tp sh z9 f20 ++ (wF g fo b tr o1 ++ (wLs g b e1 e10 e11 ++ (wLs g tr (u2 201) (u2 210) (u2 211))))) H) he7) hP
      have hD := Eq.mp (congrArg (fun z9 => va_D (va_A (wX g a b d fo tp sh f1 f20 ++ (wF g fo b tr o1 ++ (wLs g b e1 e10 e11 ++ (wLs g tr t1 t10 t11)))) s.heap.size) (wX g a b d fo tp sh z9 f20 ++ (wF g fo b tr o1 ++ (wLs g b e1 e10 e11 ++ (wLs g tr (u2 201) (u2 210) (u2 211)))))) he7) hD
      obtain ⟨hP0, hPr0⟩ := va_P_app.mp hP
      obtain ⟨hP1, hPr1⟩ := va_P_app.mp hPr0
      obtain ⟨hP2, hP3⟩ := va_P_app.mp hPr1
      have hP : va_P g.1 vwCl (wX g a b d fo tp sh (fb (fLit e1 v) f1) f20 ++ (wF g fo b tr o1 ++ (wLs g b e1 e10 e11 ++ (wLs g tr ((su (su (su (fun _ _ => 0) 301 (u2 201)) 310 (u2 210)) 311 (u2 211)) 301) ((su (su (su (fun _ _ => 0) 301 (u2 201)) 310 (u2 210)) 311 (u2 211)) 310) ((su (su (su (fun _ _ => 0) 301 (u2 201)) 310 (u2 210)) 311 (u2 211)) 311))))) H := hP
      have hD : va_D (va_A (wX g a b d fo tp sh f1 f20 ++ (wF g fo b tr o1 ++ (wLs g b e1 e10 e11 ++ (wLs g tr t1 t10 t11)))) s.heap.size) (wX g a b d fo tp sh (fb (fLit e1 v) f1) f20 ++ (wF g fo b tr o1 ++ (wLs g b e1 e10 e11 ++ (wLs g tr ((su (su (su (fun _ _ => 0) 301 (u2 201)) 310 (u2 210)) 311 (u2 211)) 301) ((su (su (su (fun _ _ => 0) 301 (u2 201)) 310 (u2 210)) 311 (u2 211)) 310) ((su (su (su (fun _ _ => 0) 301 (u2 201)) 310 (u2 210)) 311 (u2 211)) 311))))) := hD
      exact W.iret hx hb hr (fun t ht hW => ⟨⟨_, (su (su (su (fun _ _ => 0) 301 (u2 201)) 310 (u2 210)) 311 (u2 211)), rfl, by rw [hf, ab_0]; exact congrArg iI (by omega), by rw [ht]; exact hP, hD⟩, hS.F ht⟩) hS.2.2 dX4_lit_27
  · refine xi_zf_ne hx hb ⟨by decide, by decide⟩ (by decide) dX4_lit_5 ⟨15, by decide⟩ ?_
    refine lv_aload_n hx hb dX4_lit_8 rfl (lv_at hl 0 rfl) ?_
    refine xi_ldc hx hb hown hts kk_X4_58 dX4_lit_9 ?_
    refine xmF_i (rV (rest := []) hx hb hml hown hts hK hl (c_X4_finding l g b d fo tp sh a f1 f20 (-1000000001) (s.heap).size (show 0 ≤ -1000000001 - (-1000000001) ∧ -1000000001 - (-1000000001) < 7 from by omega)) lk_X4_59 ⟨rfl, hP0, (va_D_app hD).1.weaken (fun _ _ _ _ => trivial)⟩ (va_recv hK.1 hP0 (ci := 4) (q0 := 0) rfl rfl) rfl rfl rfl (Rm.of rfl) rfl rfl dX4_lit_11) hP hD hS hA (fun x9 _ H locs hw hP hD hS => ?_)
    obtain rfl : x9 = iI (-1000000001) := hw
    have hP : va_P g.1 vwCl (wX g a b d fo tp sh (fb (-1000000000 - (-1000000001)) f1) f20 ++ (wF g fo b tr o1 ++ (wLs g b e1 e10 e11 ++ (wLs g tr t1 t10 t11)))) H := hP
    have hD : va_D (va_A (wX g a b d fo tp sh f1 f20 ++ (wF g fo b tr o1 ++ (wLs g b e1 e10 e11 ++ (wLs g tr t1 t10 t11)))) s.heap.size) (wX g a b d fo tp sh (fb (-1000000000 - (-1000000001)) f1) f20 ++ (wF g fo b tr o1 ++ (wLs g b e1 e10 e11 ++ (wLs g tr t1 t10 t11)))) := hD
    obtain ⟨hP0, hPr0⟩ := va_P_app.mp hP
    obtain ⟨hP1, hPr1⟩ := va_P_app.mp hPr0
    obtain ⟨hP2, hP3⟩ := va_P_app.mp hPr1
    have hf : fLit e1 v = 1 := by unfold fLit; (repeat (first | rw [if_pos (by omega)] | rw [if_neg (by omega)])); first | done | (exfalso; omega)
    have he9 : (fb (-1000000000 - (-1000000001)) f1) = (fb (fLit e1 v) f1) := by rw [hf]; rfl
    have hP := Eq.mp (congrArg (fun z9 => va_P g.1 vwCl (wX g a b d fo tp sh z9 f20 ++ (wF g fo b tr o1 ++ (wLs g b e1 e10 e11 ++ (wLs g tr t1 t10 t11)))) H) he9) hP
    have hD := Eq.mp (congrArg (fun z9 => va_D (va_A (wX g a b d fo tp sh f1 f20 ++ (wF g fo b tr o1 ++ (wLs g b e1 e10 e11 ++ (wLs g tr t1 t10 t11)))) s.heap.size) (wX g a b d fo tp sh z9 f20 ++ (wF g fo b tr o1 ++ (wLs g b e1 e10 e11 ++ (wLs g tr t1 t10 t11))))) he9) hD
    obtain ⟨hP0, hPr0⟩ := va_P_app.mp hP
    obtain ⟨hP1, hPr1⟩ := va_P_app.mp hPr0
    obtain ⟨hP2, hP3⟩ := va_P_app.mp hPr1
    have hP : va_P g.1 vwCl (wX g a b d fo tp sh (fb (fLit e1 v) f1) f20 ++ (wF g fo b tr o1 ++ (wLs g b e1 e10 e11 ++ (wLs g tr ((su (su (su (fun _ _ => 0) 301 t1) 310 t10) 311 t11) 301) ((su (su (su (fun _ _ => 0) 301 t1) 310 t10) 311 t11) 310) ((su (su (su (fun _ _ => 0) 301 t1) 310 t10) 311 t11) 311))))) H := hP
    have hD : va_D (va_A (wX g a b d fo tp sh f1 f20 ++ (wF g fo b tr o1 ++ (wLs g b e1 e10 e11 ++ (wLs g tr t1 t10 t11)))) s.heap.size) (wX g a b d fo tp sh (fb (fLit e1 v) f1) f20 ++ (wF g fo b tr o1 ++ (wLs g b e1 e10 e11 ++ (wLs g tr ((su (su (su (fun _ _ => 0) 301 t1) 310 t10) 311 t11) 301) ((su (su (su (fun _ _ => 0) 301 t1) 310 t10) 311 t11) 310) ((su (su (su (fun _ _ => 0) 301 t1) 310 t10) 311 t11) 311))))) := hD
    exact W.iret hx hb hr (fun t ht hW => ⟨⟨_, (su (su (su (fun _ _ => 0) 301 t1) 310 t10) 311 t11), rfl, by rw [hf]; rfl, by rw [ht]; exact hP, hD⟩, hS.F ht⟩) hS.2.2 dX4_lit_14
abbrev rm_X4_sun : Room := { frames := 4, cells := 0, slots := 0, locals := 125 }
set_option maxRecDepth 100000 in
set_option maxHeartbeats 4000000 in
theorem c_X4_sun (l : Launch) (g : Gd) (d : Nat → Nat) (tp : Nat → Nat) (sh : Nat → Nat) (a : Nat → Nat) (f1 : Int → Int) (f20 : Int) (fo : Nat → Nat) (o1 : Int → Int) (b : Nat → Nat) (e1 : Int → Int) (e10 : Int → Int) (e11 : Int → Int) (tr : Nat → Nat) (t1 : Int → Int) (t10 : Int → Int) (t11 : Int → Int) (v : Int) (n : Int) (sz : Nat) (h1 : InvK 0 e1) (h2 : e1 0 ≤ 9999) (h3 : IR v) (h4 : IR n) : Met l yX4_sun (wsOf yX4_sun cX4_sun 3 (some .int)) rm_X4_sun (PX g (wP g (wX g a b d fo tp sh f1 f20 ++ (wF g fo b tr o1 ++ (wLs g b e1 e10 e11 ++ (wLs g tr t1 t10 t11)))) sz) [.ref (a 0), .int (iI v), .int (iI n)]) (QMi g (fun u9 : Nat → Int → Int => wX g a b d fo tp sh (fb (fSun e1 v n) f1) f20 ++ (wF g fo b tr o1 ++ (wLs g b e1 e10 e11 ++ (wLs g tr (u9 301) (u9 310) (u9 311))))) (fun r9 _ => r9 = ab (fSun e1 v n) (iI (snT e1 v (Int.toNat n)))) (va_A (wX g a b d fo tp sh f1 f20 ++ (wF g fo b tr o1 ++ (wLs g b e1 e10 e11 ++ (wLs g tr t1 t10 t11)))) sz)) 0 0 (va_A (wX g a b d fo tp sh f1 f20 ++ (wF g fo b tr o1 ++ (wLs g b e1 e10 e11 ++ (wLs g tr t1 t10 t11)))) sz) := by
  refine me (g := g) (by decide) rfl ?_
  intro pq eq s mq below meth cq C hnm hB ls hl
  obtain ⟨hx, hb, hr, hml, hown, hts, hlocks, hK⟩ := C
  have hown : s.vm.findClass RX4 = some mq.cls := hown
  have hl : lv_has ls 3 [(0, .ref (a 0)), (1, .int (iI v)), (2, .int (iI n))] := hl
  obtain ⟨hsz, hP, hD0⟩ := hB
  subst hsz
  have hD := hD0.self (sz := s.heap.size)
  have hA : ∀ q : Nat, s.heap.size ≤ q → va_A (wX g a b d fo tp sh f1 f20 ++ (wF g fo b tr o1 ++ (wLs g b e1 e10 e11 ++ (wLs g tr t1 t10 t11)))) s.heap.size q := fun q h => Or.inr h
  have hS : va_S (va_A (wX g a b d fo tp sh f1 f20 ++ (wF g fo b tr o1 ++ (wLs g b e1 e10 e11 ++ (wLs g tr t1 t10 t11)))) s.heap.size) s.heap s.heap [] := va_S.rf
  obtain ⟨hP0, hPr0⟩ := va_P_app.mp hP
  obtain ⟨hP1, hPr1⟩ := va_P_app.mp hPr0
  obtain ⟨hP2, hP3⟩ := va_P_app.mp hPr1
  have hI := h1
  have hI8 : Inv e1 := h1.mono (by omega)
  have hn := hI.num
  have hs := hI.sea
  have hv := hI.vil
  have q1 := h3.1
  have q3 := h4.1
  have q2 := h3.2
  have q4 := h4.2
  refine lv_aload_n hx hb dX4_sun_0 rfl (lv_at hl 0 rfl) ?_
  refine lv_iload_n hx hb dX4_sun_1 rfl (lv_at hl 1 rfl) ?_
  refine xu_b (P := 0 ≤ v ∧ v < e1 2) (rV (rest := []) hx hb hml hown hts hK hl (c_X4_isVillage l g d fo tp sh a f1 f20 b e1 e10 e11 v (show IR v from ⟨by omega, by omega⟩) (show 0 ≤ e1 2 ∧ e1 2 ≤ 6 from by omega)) lk_X4_90 (va_P_app.mpr ⟨hP0, hP2⟩) (va_recv hK.1 hP0 (ci := 4) (q0 := 0) rfl rfl) rfl rfl rfl (Rm.of rfl) rfl rfl dX4_sun_2) (fun z1 => ?_) (fun z1 => ?_)
  · refine xi_zf_eq hx hb ⟨by decide, by decide⟩ (by decide) dX4_sun_5 ⟨18, by decide⟩ ?_
    refine lv_iload_n hx hb dX4_sun_8 rfl (lv_at hl 2 rfl) ?_
    refine lv_iconst (v := iI (0)) hx hb dX4_sun_9 (by decide) ?_
    refine lv_bipush (v := iI (80)) hx hb dX4_sun_10 (by decide) ?_
    refine xu_b (P := 0 ≤ n ∧ n ≤ 80) (rS (rest := []) hx hb hml hown hts hK hl (c_X4_isBetween l g n 0 80 (show IR n from ⟨by omega, by omega⟩) (show IR 0 from ⟨by omega, by omega⟩) (show IR 80 from ⟨by omega, by omega⟩)) lk_X4_99 trivial rfl rfl rfl (Rm.of rfl) rfl rfl dX4_sun_12) (fun z2 => ?_) (fun z2 => ?_)
    · refine xi_zt_ne (tgt := 25) hx hb ⟨by decide, by decide⟩ (by decide) dX4_sun_15 (by decide) ?_
      refine lv_aload_n hx hb dX4_sun_25 rfl (lv_at hl 0 rfl) ?_
      refine xg_X4 hx hb hts hown hK hP0 0 rfl 2 (by decide) fk_X4_24 (v := .ref (fo 0)) rfl dX4_sun_26 ?_
      refine lv_iload_n hx hb dX4_sun_29 rfl (lv_at hl 1 rfl) ?_
      refine lv_iload_n hx hb dX4_sun_30 rfl (lv_at hl 2 rfl) ?_
      have hD : va_D (va_A (wX g a b d fo tp sh f1 f20 ++ (wF g fo b tr o1 ++ (wLs g b e1 e10 e11 ++ (wLs g tr t1 t10 t11)))) s.heap.size) (wF g fo b tr o1 ++ (wX g a b d fo tp sh f1 f20 ++ (wLs g b e1 e10 e11 ++ (wLs g tr t1 t10 t11)))) := D_perm (List.perm_append_comm_assoc _ _ _) hD
      have hD : va_D (va_A (wX g a b d fo tp sh f1 f20 ++ (wF g fo b tr o1 ++ (wLs g b e1 e10 e11 ++ (wLs g tr t1 t10 t11)))) s.heap.size) (wF g fo b tr o1 ++ (wLs g b e1 e10 e11 ++ (wX g a b d fo tp sh f1 f20 ++ (wLs g tr t1 t10 t11)))) := D_perm (List.Perm.append_left _ (List.perm_append_comm_assoc _ _ _)) hD
      have hD : va_D (va_A (wX g a b d fo tp sh f1 f20 ++ (wF g fo b tr o1 ++ (wLs g b e1 e10 e11 ++ (wLs g tr t1 t10 t11)))) s.heap.size) (wF g fo b tr o1 ++ (wLs g b e1 e10 e11 ++ (wLs g tr t1 t10 t11 ++ (wX g a b d fo tp sh f1 f20)))) := D_perm (List.Perm.append_left _ (List.Perm.append_left _ (List.perm_append_comm))) hD
      have hP : va_P g.1 vwCl (wF g fo b tr o1 ++ (wLs g b e1 e10 e11 ++ (wLs g tr t1 t10 t11 ++ (wX g a b d fo tp sh f1 f20)))) s.heap := va_P_app.mpr ⟨hP1, va_P_app.mpr ⟨hP2, va_P_app.mpr ⟨hP3, hP0⟩⟩⟩
      have hP : va_P g.1 vwCl ((wF g fo b tr o1 ++ (wLs g b e1 e10 e11 ++ (wLs g tr t1 t10 t11))) ++ (wX g a b d fo tp sh f1 f20)) s.heap := by rw [List.append_assoc, List.append_assoc]; exact hP
      have hD : va_D (va_A (wX g a b d fo tp sh f1 f20 ++ (wF g fo b tr o1 ++ (wLs g b e1 e10 e11 ++ (wLs g tr t1 t10 t11)))) s.heap.size) ((wF g fo b tr o1 ++ (wLs g b e1 e10 e11 ++ (wLs g tr t1 t10 t11))) ++ (wX g a b d fo tp sh f1 f20)) := by rw [List.append_assoc, List.append_assoc]; exact hD
      refine xmF_i (rVN (rest := []) hx hb hml hown hts hK hl (c_X0_litSeasons l g fo o1 b e1 e10 e11 tr t1 t10 t11 v n (s.heap).size (show InvK 0 e1 from h1) (show e1 0 ≤ 9999 from by omega) (show 0 ≤ v ∧ v < e1 2 from by omega) (show 0 ≤ n ∧ n ≤ 80 from by omega)) lk_X4_195 ⟨rfl, (va_P_app.mp hP).1, (va_D_app hD).1.weaken (fun _ _ _ _ => trivial)⟩ (va_recv hK.1 hP1 (ci := 0) (q0 := 0) rfl rfl) rfl rfl rfl (Rm.of rfl) rfl rfl dX4_sun_31) hP hD hS hA (fun x9 u3 H locs hw hP hD hS => ?_)
      have hP : va_P g.1 vwCl ((wF g fo b tr o1 ++ (wLs g b e1 e10 e11 ++ (wLs g tr (u3 201) (u3 210) (u3 211)))) ++ (wX g a b d fo tp sh f1 f20)) H := hP
      have hD : va_D (va_A (wX g a b d fo tp sh f1 f20 ++ (wF g fo b tr o1 ++ (wLs g b e1 e10 e11 ++ (wLs g tr t1 t10 t11)))) s.heap.size) ((wF g fo b tr o1 ++ (wLs g b e1 e10 e11 ++ (wLs g tr (u3 201) (u3 210) (u3 211)))) ++ (wX g a b d fo tp sh f1 f20)) := hD
      rw [List.append_assoc, List.append_assoc] at hP hD
      obtain rfl : x9 = iI (snT e1 v (Int.toNat n)) := hw
      have hP : va_P g.1 vwCl (wF g fo b tr o1 ++ (wLs g b e1 e10 e11 ++ (wLs g tr (u3 201) (u3 210) (u3 211) ++ (wX g a b d fo tp sh f1 f20)))) H := hP
      have hD : va_D (va_A (wX g a b d fo tp sh f1 f20 ++ (wF g fo b tr o1 ++ (wLs g b e1 e10 e11 ++ (wLs g tr t1 t10 t11)))) s.heap.size) (wF g fo b tr o1 ++ (wLs g b e1 e10 e11 ++ (wLs g tr (u3 201) (u3 210) (u3 211) ++ (wX g a b d fo tp sh f1 f20)))) := hD
      obtain ⟨hP1, hPr0⟩ := va_P_app.mp hP
      obtain ⟨hP2, hPr1⟩ := va_P_app.mp hPr0
      obtain ⟨hP3, hP0⟩ := va_P_app.mp hPr1
      have hD : va_D (va_A (wX g a b d fo tp sh f1 f20 ++ (wF g fo b tr o1 ++ (wLs g b e1 e10 e11 ++ (wLs g tr t1 t10 t11)))) s.heap.size) (wF g fo b tr o1 ++ (wLs g b e1 e10 e11 ++ (wX g a b d fo tp sh f1 f20 ++ (wLs g tr (u3 201) (u3 210) (u3 211))))) := D_perm (List.Perm.append_left _ (List.Perm.append_left _ (List.perm_append_comm))) hD
      have hD : va_D (va_A (wX g a b d fo tp sh f1 f20 ++ (wF g fo b tr o1 ++ (wLs g b e1 e10 e11 ++ (wLs g tr t1 t10 t11)))) s.heap.size) (wF g fo b tr o1 ++ (wX g a b d fo tp sh f1 f20 ++ (wLs g b e1 e10 e11 ++ (wLs g tr (u3 201) (u3 210) (u3 211))))) := D_perm (List.Perm.append_left _ (List.perm_append_comm_assoc _ _ _)) hD
      have hD : va_D (va_A (wX g a b d fo tp sh f1 f20 ++ (wF g fo b tr o1 ++ (wLs g b e1 e10 e11 ++ (wLs g tr t1 t10 t11)))) s.heap.size) (wX g a b d fo tp sh f1 f20 ++ (wF g fo b tr o1 ++ (wLs g b e1 e10 e11 ++ (wLs g tr (u3 201) (u3 210) (u3 211))))) := D_perm (List.perm_append_comm_assoc _ _ _) hD
      have hP : va_P g.1 vwCl (wX g a b d fo tp sh f1 f20 ++ (wF g fo b tr o1 ++ (wLs g b e1 e10 e11 ++ (wLs g tr (u3 201) (u3 210) (u3 211))))) H := va_P_app.mpr ⟨hP0, va_P_app.mpr ⟨hP1, va_P_app.mpr ⟨hP2, hP3⟩⟩⟩
      have hf : fSun e1 v n = 0 := by unfold fSun; (repeat (first | rw [if_pos (by omega)] | rw [if_neg (by omega)])); first | done | (exfalso; omega)
      have he4 : f1 = (fb (fSun e1 v n) f1) := by rw [hf]; rfl
      have hP := Eq.mp (congrArg (fun z9 => va_P g.1 vwCl (wX g a b d fo tp sh z9 f20 ++ (wF g fo b tr o1 ++ (wLs g b e1 e10 e11 ++ (wLs g tr (u3 201) (u3 210) (u3 211))))) H) he4) hP
      have hD := Eq.mp (congrArg (fun z9 => va_D (va_A (wX g a b d fo tp sh f1 f20 ++ (wF g fo b tr o1 ++ (wLs g b e1 e10 e11 ++ (wLs g tr t1 t10 t11)))) s.heap.size) (wX g a b d fo tp sh z9 f20 ++ (wF g fo b tr o1 ++ (wLs g b e1 e10 e11 ++ (wLs g tr (u3 201) (u3 210) (u3 211)))))) he4) hD
      obtain ⟨hP0, hPr0⟩ := va_P_app.mp hP
      obtain ⟨hP1, hPr1⟩ := va_P_app.mp hPr0
      obtain ⟨hP2, hP3⟩ := va_P_app.mp hPr1
      have hP : va_P g.1 vwCl (wX g a b d fo tp sh (fb (fSun e1 v n) f1) f20 ++ (wF g fo b tr o1 ++ (wLs g b e1 e10 e11 ++ (wLs g tr ((su (su (su (fun _ _ => 0) 301 (u3 201)) 310 (u3 210)) 311 (u3 211)) 301) ((su (su (su (fun _ _ => 0) 301 (u3 201)) 310 (u3 210)) 311 (u3 211)) 310) ((su (su (su (fun _ _ => 0) 301 (u3 201)) 310 (u3 210)) 311 (u3 211)) 311))))) H := hP
      have hD : va_D (va_A (wX g a b d fo tp sh f1 f20 ++ (wF g fo b tr o1 ++ (wLs g b e1 e10 e11 ++ (wLs g tr t1 t10 t11)))) s.heap.size) (wX g a b d fo tp sh (fb (fSun e1 v n) f1) f20 ++ (wF g fo b tr o1 ++ (wLs g b e1 e10 e11 ++ (wLs g tr ((su (su (su (fun _ _ => 0) 301 (u3 201)) 310 (u3 210)) 311 (u3 211)) 301) ((su (su (su (fun _ _ => 0) 301 (u3 201)) 310 (u3 210)) 311 (u3 211)) 310) ((su (su (su (fun _ _ => 0) 301 (u3 201)) 310 (u3 210)) 311 (u3 211)) 311))))) := hD
      exact W.iret hx hb hr (fun t ht hW => ⟨⟨_, (su (su (su (fun _ _ => 0) 301 (u3 201)) 310 (u3 210)) 311 (u3 211)), rfl, by rw [hf, ab_0], by rw [ht]; exact hP, hD⟩, hS.F ht⟩) hS.2.2 dX4_sun_34
    · refine xi_zf_ne hx hb ⟨by decide, by decide⟩ (by decide) dX4_sun_15 ⟨25, by decide⟩ ?_
      refine lv_aload_n hx hb dX4_sun_18 rfl (lv_at hl 0 rfl) ?_
      refine xi_ldc hx hb hown hts kk_X4_58 dX4_sun_19 ?_
      refine xmF_i (rV (rest := []) hx hb hml hown hts hK hl (c_X4_finding l g b d fo tp sh a f1 f20 (-1000000001) (s.heap).size (show 0 ≤ -1000000001 - (-1000000001) ∧ -1000000001 - (-1000000001) < 7 from by omega)) lk_X4_59 ⟨rfl, hP0, (va_D_app hD).1.weaken (fun _ _ _ _ => trivial)⟩ (va_recv hK.1 hP0 (ci := 4) (q0 := 0) rfl rfl) rfl rfl rfl (Rm.of rfl) rfl rfl dX4_sun_21) hP hD hS hA (fun x9 _ H locs hw hP hD hS => ?_)
      obtain rfl : x9 = iI (-1000000001) := hw
      have hP : va_P g.1 vwCl (wX g a b d fo tp sh (fb (-1000000000 - (-1000000001)) f1) f20 ++ (wF g fo b tr o1 ++ (wLs g b e1 e10 e11 ++ (wLs g tr t1 t10 t11)))) H := hP
      have hD : va_D (va_A (wX g a b d fo tp sh f1 f20 ++ (wF g fo b tr o1 ++ (wLs g b e1 e10 e11 ++ (wLs g tr t1 t10 t11)))) s.heap.size) (wX g a b d fo tp sh (fb (-1000000000 - (-1000000001)) f1) f20 ++ (wF g fo b tr o1 ++ (wLs g b e1 e10 e11 ++ (wLs g tr t1 t10 t11)))) := hD
      obtain ⟨hP0, hPr0⟩ := va_P_app.mp hP
      obtain ⟨hP1, hPr1⟩ := va_P_app.mp hPr0
      obtain ⟨hP2, hP3⟩ := va_P_app.mp hPr1
      have hf : fSun e1 v n = 1 := by unfold fSun; (repeat (first | rw [if_pos (by omega)] | rw [if_neg (by omega)])); first | done | (exfalso; omega)
      have he6 : (fb (-1000000000 - (-1000000001)) f1) = (fb (fSun e1 v n) f1) := by rw [hf]; rfl
      have hP := Eq.mp (congrArg (fun z9 => va_P g.1 vwCl (wX g a b d fo tp sh z9 f20 ++ (wF g fo b tr o1 ++ (wLs g b e1 e10 e11 ++ (wLs g tr t1 t10 t11)))) H) he6) hP
      have hD := Eq.mp (congrArg (fun z9 => va_D (va_A (wX g a b d fo tp sh f1 f20 ++ (wF g fo b tr o1 ++ (wLs g b e1 e10 e11 ++ (wLs g tr t1 t10 t11)))) s.heap.size) (wX g a b d fo tp sh z9 f20 ++ (wF g fo b tr o1 ++ (wLs g b e1 e10 e11 ++ (wLs g tr t1 t10 t11))))) he6) hD
      obtain ⟨hP0, hPr0⟩ := va_P_app.mp hP
      obtain ⟨hP1, hPr1⟩ := va_P_app.mp hPr0
      obtain ⟨hP2, hP3⟩ := va_P_app.mp hPr1
      have hP : va_P g.1 vwCl (wX g a b d fo tp sh (fb (fSun e1 v n) f1) f20 ++ (wF g fo b tr o1 ++ (wLs g b e1 e10 e11 ++ (wLs g tr ((su (su (su (fun _ _ => 0) 301 t1) 310 t10) 311 t11) 301) ((su (su (su (fun _ _ => 0) 301 t1) 310 t10) 311 t11) 310) ((su (su (su (fun _ _ => 0) 301 t1) 310 t10) 311 t11) 311))))) H := hP
      have hD : va_D (va_A (wX g a b d fo tp sh f1 f20 ++ (wF g fo b tr o1 ++ (wLs g b e1 e10 e11 ++ (wLs g tr t1 t10 t11)))) s.heap.size) (wX g a b d fo tp sh (fb (fSun e1 v n) f1) f20 ++ (wF g fo b tr o1 ++ (wLs g b e1 e10 e11 ++ (wLs g tr ((su (su (su (fun _ _ => 0) 301 t1) 310 t10) 311 t11) 301) ((su (su (su (fun _ _ => 0) 301 t1) 310 t10) 311 t11) 310) ((su (su (su (fun _ _ => 0) 301 t1) 310 t10) 311 t11) 311))))) := hD
      exact W.iret hx hb hr (fun t ht hW => ⟨⟨_, (su (su (su (fun _ _ => 0) 301 t1) 310 t10) 311 t11), rfl, by rw [hf]; rfl, by rw [ht]; exact hP, hD⟩, hS.F ht⟩) hS.2.2 dX4_sun_24
  · refine xi_zt_eq (tgt := 18) hx hb ⟨by decide, by decide⟩ (by decide) dX4_sun_5 (by decide) ?_
    refine lv_aload_n hx hb dX4_sun_18 rfl (lv_at hl 0 rfl) ?_
    refine xi_ldc hx hb hown hts kk_X4_58 dX4_sun_19 ?_
    refine xmF_i (rV (rest := []) hx hb hml hown hts hK hl (c_X4_finding l g b d fo tp sh a f1 f20 (-1000000001) (s.heap).size (show 0 ≤ -1000000001 - (-1000000001) ∧ -1000000001 - (-1000000001) < 7 from by omega)) lk_X4_59 ⟨rfl, hP0, (va_D_app hD).1.weaken (fun _ _ _ _ => trivial)⟩ (va_recv hK.1 hP0 (ci := 4) (q0 := 0) rfl rfl) rfl rfl rfl (Rm.of rfl) rfl rfl dX4_sun_21) hP hD hS hA (fun x9 _ H locs hw hP hD hS => ?_)
    obtain rfl : x9 = iI (-1000000001) := hw
    have hP : va_P g.1 vwCl (wX g a b d fo tp sh (fb (-1000000000 - (-1000000001)) f1) f20 ++ (wF g fo b tr o1 ++ (wLs g b e1 e10 e11 ++ (wLs g tr t1 t10 t11)))) H := hP
    have hD : va_D (va_A (wX g a b d fo tp sh f1 f20 ++ (wF g fo b tr o1 ++ (wLs g b e1 e10 e11 ++ (wLs g tr t1 t10 t11)))) s.heap.size) (wX g a b d fo tp sh (fb (-1000000000 - (-1000000001)) f1) f20 ++ (wF g fo b tr o1 ++ (wLs g b e1 e10 e11 ++ (wLs g tr t1 t10 t11)))) := hD
    obtain ⟨hP0, hPr0⟩ := va_P_app.mp hP
    obtain ⟨hP1, hPr1⟩ := va_P_app.mp hPr0
    obtain ⟨hP2, hP3⟩ := va_P_app.mp hPr1
    have hf : fSun e1 v n = 1 := by unfold fSun; (repeat (first | rw [if_pos (by omega)] | rw [if_neg (by omega)])); first | done | (exfalso; omega)
    have he8 : (fb (-1000000000 - (-1000000001)) f1) = (fb (fSun e1 v n) f1) := by rw [hf]; rfl
    have hP := Eq.mp (congrArg (fun z9 => va_P g.1 vwCl (wX g a b d fo tp sh z9 f20 ++ (wF g fo b tr o1 ++ (wLs g b e1 e10 e11 ++ (wLs g tr t1 t10 t11)))) H) he8) hP
    have hD := Eq.mp (congrArg (fun z9 => va_D (va_A (wX g a b d fo tp sh f1 f20 ++ (wF g fo b tr o1 ++ (wLs g b e1 e10 e11 ++ (wLs g tr t1 t10 t11)))) s.heap.size) (wX g a b d fo tp sh z9 f20 ++ (wF g fo b tr o1 ++ (wLs g b e1 e10 e11 ++ (wLs g tr t1 t10 t11))))) he8) hD
    obtain ⟨hP0, hPr0⟩ := va_P_app.mp hP
    obtain ⟨hP1, hPr1⟩ := va_P_app.mp hPr0
    obtain ⟨hP2, hP3⟩ := va_P_app.mp hPr1
    have hP : va_P g.1 vwCl (wX g a b d fo tp sh (fb (fSun e1 v n) f1) f20 ++ (wF g fo b tr o1 ++ (wLs g b e1 e10 e11 ++ (wLs g tr ((su (su (su (fun _ _ => 0) 301 t1) 310 t10) 311 t11) 301) ((su (su (su (fun _ _ => 0) 301 t1) 310 t10) 311 t11) 310) ((su (su (su (fun _ _ => 0) 301 t1) 310 t10) 311 t11) 311))))) H := hP
    have hD : va_D (va_A (wX g a b d fo tp sh f1 f20 ++ (wF g fo b tr o1 ++ (wLs g b e1 e10 e11 ++ (wLs g tr t1 t10 t11)))) s.heap.size) (wX g a b d fo tp sh (fb (fSun e1 v n) f1) f20 ++ (wF g fo b tr o1 ++ (wLs g b e1 e10 e11 ++ (wLs g tr ((su (su (su (fun _ _ => 0) 301 t1) 310 t10) 311 t11) 301) ((su (su (su (fun _ _ => 0) 301 t1) 310 t10) 311 t11) 310) ((su (su (su (fun _ _ => 0) 301 t1) 310 t10) 311 t11) 311))))) := hD
    exact W.iret hx hb hr (fun t ht hW => ⟨⟨_, (su (su (su (fun _ _ => 0) 301 t1) 310 t10) 311 t11), rfl, by rw [hf]; rfl, by rw [ht]; exact hP, hD⟩, hS.F ht⟩) hS.2.2 dX4_sun_24
abbrev rm_X4_stands : Room := { frames := 5, cells := 0, slots := 0, locals := 123 }
set_option maxRecDepth 100000 in
set_option maxHeartbeats 4000000 in
theorem c_X4_stands (l : Launch) (g : Gd) (d : Nat → Nat) (tp : Nat → Nat) (sh : Nat → Nat) (a : Nat → Nat) (f1 : Int → Int) (f20 : Int) (fo : Nat → Nat) (o1 : Int → Int) (b : Nat → Nat) (e1 : Int → Int) (e10 : Int → Int) (e11 : Int → Int) (tr : Nat → Nat) (t1 : Int → Int) (t10 : Int → Int) (t11 : Int → Int) (sz : Nat) (h1 : InvK 0 e1) (h2 : e1 0 ≤ 9999) : Met l yX4_stands (wsOf yX4_stands cX4_stands 1 (some .int)) rm_X4_stands (PX g (wP g (wX g a b d fo tp sh f1 f20 ++ (wF g fo b tr o1 ++ (wLs g b e1 e10 e11 ++ (wLs g tr t1 t10 t11)))) sz) [.ref (a 0)]) (QMi g (fun u9 : Nat → Int → Int => wX g a b d fo tp sh f1 f20 ++ (wF g fo b tr o1 ++ (wLs g b e1 e10 e11 ++ (wLs g tr (u9 301) (u9 310) (u9 311))))) (fun r9 _ => r9 = stdS e1) (va_A (wX g a b d fo tp sh f1 f20 ++ (wF g fo b tr o1 ++ (wLs g b e1 e10 e11 ++ (wLs g tr t1 t10 t11)))) sz)) 0 0 (va_A (wX g a b d fo tp sh f1 f20 ++ (wF g fo b tr o1 ++ (wLs g b e1 e10 e11 ++ (wLs g tr t1 t10 t11)))) sz) := by
  refine me (g := g) (by decide) rfl ?_
  intro pq eq s mq below meth cq C hnm hB ls hl
  obtain ⟨hx, hb, hr, hml, hown, hts, hlocks, hK⟩ := C
  have hown : s.vm.findClass RX4 = some mq.cls := hown
  have hl : lv_has ls 1 [(0, .ref (a 0))] := hl
  obtain ⟨hsz, hP, hD0⟩ := hB
  subst hsz
  have hD := hD0.self (sz := s.heap.size)
  have hA : ∀ q : Nat, s.heap.size ≤ q → va_A (wX g a b d fo tp sh f1 f20 ++ (wF g fo b tr o1 ++ (wLs g b e1 e10 e11 ++ (wLs g tr t1 t10 t11)))) s.heap.size q := fun q h => Or.inr h
  have hS : va_S (va_A (wX g a b d fo tp sh f1 f20 ++ (wF g fo b tr o1 ++ (wLs g b e1 e10 e11 ++ (wLs g tr t1 t10 t11)))) s.heap.size) s.heap s.heap [] := va_S.rf
  obtain ⟨hP0, hPr0⟩ := va_P_app.mp hP
  obtain ⟨hP1, hPr1⟩ := va_P_app.mp hPr0
  obtain ⟨hP2, hP3⟩ := va_P_app.mp hPr1
  refine lv_aload_n hx hb dX4_stands_0 rfl (lv_at hl 0 rfl) ?_
  refine xg_X4 hx hb hts hown hK hP0 0 rfl 2 (by decide) fk_X4_24 (v := .ref (fo 0)) rfl dX4_stands_1 ?_
  have hD : va_D (va_A (wX g a b d fo tp sh f1 f20 ++ (wF g fo b tr o1 ++ (wLs g b e1 e10 e11 ++ (wLs g tr t1 t10 t11)))) s.heap.size) (wF g fo b tr o1 ++ (wX g a b d fo tp sh f1 f20 ++ (wLs g b e1 e10 e11 ++ (wLs g tr t1 t10 t11)))) := D_perm (List.perm_append_comm_assoc _ _ _) hD
  have hD : va_D (va_A (wX g a b d fo tp sh f1 f20 ++ (wF g fo b tr o1 ++ (wLs g b e1 e10 e11 ++ (wLs g tr t1 t10 t11)))) s.heap.size) (wF g fo b tr o1 ++ (wLs g b e1 e10 e11 ++ (wX g a b d fo tp sh f1 f20 ++ (wLs g tr t1 t10 t11)))) := D_perm (List.Perm.append_left _ (List.perm_append_comm_assoc _ _ _)) hD
  have hD : va_D (va_A (wX g a b d fo tp sh f1 f20 ++ (wF g fo b tr o1 ++ (wLs g b e1 e10 e11 ++ (wLs g tr t1 t10 t11)))) s.heap.size) (wF g fo b tr o1 ++ (wLs g b e1 e10 e11 ++ (wLs g tr t1 t10 t11 ++ (wX g a b d fo tp sh f1 f20)))) := D_perm (List.Perm.append_left _ (List.Perm.append_left _ (List.perm_append_comm))) hD
  have hP : va_P g.1 vwCl (wF g fo b tr o1 ++ (wLs g b e1 e10 e11 ++ (wLs g tr t1 t10 t11 ++ (wX g a b d fo tp sh f1 f20)))) s.heap := va_P_app.mpr ⟨hP1, va_P_app.mpr ⟨hP2, va_P_app.mpr ⟨hP3, hP0⟩⟩⟩
  have hP : va_P g.1 vwCl ((wF g fo b tr o1 ++ (wLs g b e1 e10 e11 ++ (wLs g tr t1 t10 t11))) ++ (wX g a b d fo tp sh f1 f20)) s.heap := by rw [List.append_assoc, List.append_assoc]; exact hP
  have hD : va_D (va_A (wX g a b d fo tp sh f1 f20 ++ (wF g fo b tr o1 ++ (wLs g b e1 e10 e11 ++ (wLs g tr t1 t10 t11)))) s.heap.size) ((wF g fo b tr o1 ++ (wLs g b e1 e10 e11 ++ (wLs g tr t1 t10 t11))) ++ (wX g a b d fo tp sh f1 f20)) := by rw [List.append_assoc, List.append_assoc]; exact hD
  refine xmF_i (rVN (rest := []) hx hb hml hown hts hK hl (c_X0_standing l g fo o1 b e1 e10 e11 tr t1 t10 t11 (s.heap).size (show InvK 0 e1 from h1) (show e1 0 ≤ 9999 from by omega)) lk_X4_198 ⟨rfl, (va_P_app.mp hP).1, (va_D_app hD).1.weaken (fun _ _ _ _ => trivial)⟩ (va_recv hK.1 hP1 (ci := 0) (q0 := 0) rfl rfl) rfl rfl rfl (Rm.of rfl) rfl rfl dX4_stands_4) hP hD hS hA (fun x9 u1 H locs hw hP hD hS => ?_)
  have hP : va_P g.1 vwCl ((wF g fo b tr o1 ++ (wLs g b e1 e10 e11 ++ (wLs g tr (seaN e1 80) (u1 210) (u1 211)))) ++ (wX g a b d fo tp sh f1 f20)) H := hP
  have hD : va_D (va_A (wX g a b d fo tp sh f1 f20 ++ (wF g fo b tr o1 ++ (wLs g b e1 e10 e11 ++ (wLs g tr t1 t10 t11)))) s.heap.size) ((wF g fo b tr o1 ++ (wLs g b e1 e10 e11 ++ (wLs g tr (seaN e1 80) (u1 210) (u1 211)))) ++ (wX g a b d fo tp sh f1 f20)) := hD
  rw [List.append_assoc, List.append_assoc] at hP hD
  obtain rfl : x9 = stdS e1 := hw
  have hP : va_P g.1 vwCl (wF g fo b tr o1 ++ (wLs g b e1 e10 e11 ++ (wLs g tr (seaN e1 80) (u1 210) (u1 211) ++ (wX g a b d fo tp sh f1 f20)))) H := hP
  have hD : va_D (va_A (wX g a b d fo tp sh f1 f20 ++ (wF g fo b tr o1 ++ (wLs g b e1 e10 e11 ++ (wLs g tr t1 t10 t11)))) s.heap.size) (wF g fo b tr o1 ++ (wLs g b e1 e10 e11 ++ (wLs g tr (seaN e1 80) (u1 210) (u1 211) ++ (wX g a b d fo tp sh f1 f20)))) := hD
  obtain ⟨hP1, hPr0⟩ := va_P_app.mp hP
  obtain ⟨hP2, hPr1⟩ := va_P_app.mp hPr0
  obtain ⟨hP3, hP0⟩ := va_P_app.mp hPr1
  have hD : va_D (va_A (wX g a b d fo tp sh f1 f20 ++ (wF g fo b tr o1 ++ (wLs g b e1 e10 e11 ++ (wLs g tr t1 t10 t11)))) s.heap.size) (wF g fo b tr o1 ++ (wLs g b e1 e10 e11 ++ (wX g a b d fo tp sh f1 f20 ++ (wLs g tr (seaN e1 80) (u1 210) (u1 211))))) := D_perm (List.Perm.append_left _ (List.Perm.append_left _ (List.perm_append_comm))) hD
  have hD : va_D (va_A (wX g a b d fo tp sh f1 f20 ++ (wF g fo b tr o1 ++ (wLs g b e1 e10 e11 ++ (wLs g tr t1 t10 t11)))) s.heap.size) (wF g fo b tr o1 ++ (wX g a b d fo tp sh f1 f20 ++ (wLs g b e1 e10 e11 ++ (wLs g tr (seaN e1 80) (u1 210) (u1 211))))) := D_perm (List.Perm.append_left _ (List.perm_append_comm_assoc _ _ _)) hD
  have hD : va_D (va_A (wX g a b d fo tp sh f1 f20 ++ (wF g fo b tr o1 ++ (wLs g b e1 e10 e11 ++ (wLs g tr t1 t10 t11)))) s.heap.size) (wX g a b d fo tp sh f1 f20 ++ (wF g fo b tr o1 ++ (wLs g b e1 e10 e11 ++ (wLs g tr (seaN e1 80) (u1 210) (u1 211))))) := D_perm (List.perm_append_comm_assoc _ _ _) hD
  have hP : va_P g.1 vwCl (wX g a b d fo tp sh f1 f20 ++ (wF g fo b tr o1 ++ (wLs g b e1 e10 e11 ++ (wLs g tr (seaN e1 80) (u1 210) (u1 211))))) H := va_P_app.mpr ⟨hP0, va_P_app.mpr ⟨hP1, va_P_app.mpr ⟨hP2, hP3⟩⟩⟩
  have hP : va_P g.1 vwCl (wX g a b d fo tp sh f1 f20 ++ (wF g fo b tr o1 ++ (wLs g b e1 e10 e11 ++ (wLs g tr ((su (su (su (fun _ _ => 0) 301 (seaN e1 80)) 310 (u1 210)) 311 (u1 211)) 301) ((su (su (su (fun _ _ => 0) 301 (seaN e1 80)) 310 (u1 210)) 311 (u1 211)) 310) ((su (su (su (fun _ _ => 0) 301 (seaN e1 80)) 310 (u1 210)) 311 (u1 211)) 311))))) H := hP
  have hD : va_D (va_A (wX g a b d fo tp sh f1 f20 ++ (wF g fo b tr o1 ++ (wLs g b e1 e10 e11 ++ (wLs g tr t1 t10 t11)))) s.heap.size) (wX g a b d fo tp sh f1 f20 ++ (wF g fo b tr o1 ++ (wLs g b e1 e10 e11 ++ (wLs g tr ((su (su (su (fun _ _ => 0) 301 (seaN e1 80)) 310 (u1 210)) 311 (u1 211)) 301) ((su (su (su (fun _ _ => 0) 301 (seaN e1 80)) 310 (u1 210)) 311 (u1 211)) 310) ((su (su (su (fun _ _ => 0) 301 (seaN e1 80)) 310 (u1 210)) 311 (u1 211)) 311))))) := hD
  exact W.iret hx hb hr (fun t ht hW => ⟨⟨_, (su (su (su (fun _ _ => 0) 301 (seaN e1 80)) 310 (u1 210)) 311 (u1 211)), rfl, rfl, by rw [ht]; exact hP, hD⟩, hS.F ht⟩) hS.2.2 dX4_stands_7
abbrev rm_X4_file : Room := { frames := 2, cells := 0, slots := 0, locals := 44 }
set_option maxRecDepth 100000 in
set_option maxHeartbeats 4000000 in
theorem c_X4_file (l : Launch) (g : Gd) (d : Nat → Nat) (fo : Nat → Nat) (tp : Nat → Nat) (sh : Nat → Nat) (a : Nat → Nat) (f1 : Int → Int) (f20 : Int) (b : Nat → Nat) (e1 : Int → Int) (e10 : Int → Int) (e11 : Int → Int) (r : Int) (sz : Nat) (h1 : InvK 0 e1) (h2 : e1 0 ≤ 9999) (h3 : IR r) : Met l yX4_file (wsOf yX4_file cX4_file 5 (some .int)) rm_X4_file (PX g (wP g (wX g a b d fo tp sh f1 f20 ++ (wLs g b e1 e10 e11)) sz) [.ref (a 0), .int (iI r)]) (QMi g (fun _ : Unit => wX g a b d fo tp sh (fb (fLev e1 r) f1) f20 ++ (wLs g b e1 e10 e11)) (fun r9 _ => r9 = ab (fLev e1 r) (flT e1 256 (iI 0) r)) (va_A (wX g a b d fo tp sh f1 f20 ++ (wLs g b e1 e10 e11)) sz)) 0 0 (va_A (wX g a b d fo tp sh f1 f20 ++ (wLs g b e1 e10 e11)) sz) := by
  refine me (g := g) (by decide) rfl ?_
  intro pq eq s mq below meth cq C hnm hB ls hl
  obtain ⟨hx, hb, hr, hml, hown, hts, hlocks, hK⟩ := C
  have hown : s.vm.findClass RX4 = some mq.cls := hown
  have hl : lv_has ls 5 [(0, .ref (a 0)), (1, .int (iI r))] := hl
  obtain ⟨hsz, hP, hD0⟩ := hB
  subst hsz
  have hD := hD0.self (sz := s.heap.size)
  have hA : ∀ q : Nat, s.heap.size ≤ q → va_A (wX g a b d fo tp sh f1 f20 ++ (wLs g b e1 e10 e11)) s.heap.size q := fun q h => Or.inr h
  have hS : va_S (va_A (wX g a b d fo tp sh f1 f20 ++ (wLs g b e1 e10 e11)) s.heap.size) s.heap s.heap [] := va_S.rf
  obtain ⟨hP0, hP1⟩ := va_P_app.mp hP
  have hI := h1
  have hI8 : Inv e1 := h1.mono (by omega)
  have hn := hI.num
  have hs := hI.sea
  have hv := hI.vil
  have q1 := h3.1
  have q2 := h3.2
  refine lv_aload_n hx hb dX4_file_0 rfl (lv_at hl 0 rfl) ?_
  refine lv_iload_n hx hb dX4_file_1 rfl (lv_at hl 1 rfl) ?_
  refine xu_b (P := 0 ≤ r ∧ r < e1 1) (rV (rest := []) hx hb hml hown hts hK hl (c_X4_isRange l g d fo tp sh a f1 f20 b e1 e10 e11 r (show IR r from ⟨by omega, by omega⟩) (show 0 ≤ e1 1 ∧ e1 1 ≤ 8 from by omega)) lk_X4_117 (va_P_app.mpr ⟨hP0, hP1⟩) (va_recv hK.1 hP0 (ci := 4) (q0 := 0) rfl rfl) rfl rfl rfl (Rm.of rfl) rfl rfl dX4_file_2) (fun z1 => ?_) (fun z1 => ?_)
  · refine xi_zt_ne (tgt := 15) hx hb ⟨by decide, by decide⟩ (by decide) dX4_file_5 (by decide) ?_
    refine lv_iconst (v := iI (0)) hx hb dX4_file_15 (by decide) ?_
    refine lv_istore_n (lv' := [(2, .int (iI 0)), (0, .ref (a 0)), (1, .int (iI r))]) hx hb dX4_file_16 rfl hl (by decide) rfl (fun ls hl => ?_)
    refine lv_iload_n hx hb dX4_file_17 rfl (lv_at hl 2 rfl) ?_
    refine lv_istore_n (lv' := [(3, .int (iI r)), (2, .int (iI 0)), (0, .ref (a 0)), (1, .int (iI r))]) hx hb dX4_file_18 rfl hl (by decide) rfl (fun ls hl => ?_)
    refine lv_iconst (v := iI (0)) hx hb dX4_file_19 (by decide) ?_
    refine lv_istore (lv' := [(4, .int (iI 0)), (3, .int (iI r)), (2, .int (iI 0)), (0, .ref (a 0)), (1, .int (iI r))]) hx hb dX4_file_20 hl (by decide) rfl (fun ls hl => ?_)
    have lp22 : ∀ (n22 : Nat) (k : Nat) (x : Nat) (r9 : Int), (k ≤ 8) → (x < 256) → (-1 ≤ r9 ∧ r9 < e1 1) → (clT e1 (8 - k) (iI ((x : Nat) : Int)) r9 = (clT e1 8 (iI 0) r)) → 8 - k < n22 → ∀ ls : Array Slot, lv_has ls 5 [(4, .int (iI (k : Int))), (3, .int (iI r9)), (2, .int (iI ((x : Nat) : Int))), (0, .ref (a 0)), (1, .int (iI r))] → ∀ (H : Heap) (locs : List Loc), va_P g.1 vwCl (wX g a b d fo tp sh f1 f20 ++ (wLs g b e1 e10 e11)) H → va_D (va_A (wX g a b d fo tp sh f1 f20 ++ (wLs g b e1 e10 e11)) s.heap.size) (wX g a b d fo tp sh f1 f20 ++ (wLs g b e1 e10 e11)) → va_S (va_A (wX g a b d fo tp sh f1 f20 ++ (wLs g b e1 e10 e11)) s.heap.size) s.heap H locs → W pq l eq rm_X4_file s mq [.ref (a 0), .int (iI r)].toArray below meth cq H locs 0 0 (MQ below (QMi g (fun _ : Unit => wX g a b d fo tp sh (fb (fLev e1 r) f1) f20 ++ (wLs g b e1 e10 e11)) (fun r9 _ => r9 = ab (fLev e1 r) (flT e1 256 (iI 0) r)) (va_A (wX g a b d fo tp sh f1 f20 ++ (wLs g b e1 e10 e11)) s.heap.size)) [.ref (a 0), .int (iI r)].toArray s 0 0 (va_A (wX g a b d fo tp sh f1 f20 ++ (wLs g b e1 e10 e11)) s.heap.size)) (F0 mq 22 ls []) := by
      intro n22
      induction n22 with
      | zero => intro k x r9 i22_1 i22_2 i22_3 i22_4 hm; exact absurd hm (Nat.not_lt_zero _)
      | succ n22 ih22 =>
        intro k x r9 i22_1 i22_2 i22_3 i22_4 hm22 ls hl H locs hP hD hS
        obtain ⟨hP0, hP1⟩ := va_P_app.mp hP
        refine lv_iload hx hb dX4_file_22 (lv_at hl 0 rfl) ?_
        refine lv_bipush (v := iI (8)) hx hb dX4_file_24 (by decide) ?_
        refine xi_c_ge (tgt := 58) hx hb ⟨by omega, by omega⟩ ⟨by decide, by decide⟩ dX4_file_26 (by decide) (fun z2 => ?_) (fun z2 => ?_)
        · have hfl : iI ((x : Nat) : Int) = (clT e1 8 (iI 0) r) := by rw [← i22_4, show 8 - k = 0 by omega]; rfl
          refine lv_iload_n hx hb dX4_file_58 rfl (lv_at hl 2 rfl) ?_
          have hf : fLev e1 r = 0 := by unfold fLev; (repeat (first | rw [if_pos (by omega)] | rw [if_neg (by omega)])); first | done | (exfalso; omega)
          have he3 : f1 = (fb (fLev e1 r) f1) := by rw [hf]; rfl
          have hP := Eq.mp (congrArg (fun z9 => va_P g.1 vwCl (wX g a b d fo tp sh z9 f20 ++ (wLs g b e1 e10 e11)) H) he3) hP
          have hD := Eq.mp (congrArg (fun z9 => va_D (va_A (wX g a b d fo tp sh f1 f20 ++ (wLs g b e1 e10 e11)) s.heap.size) (wX g a b d fo tp sh z9 f20 ++ (wLs g b e1 e10 e11))) he3) hD
          obtain ⟨hP0, hP1⟩ := va_P_app.mp hP
          have hP : va_P g.1 vwCl (wX g a b d fo tp sh (fb (fLev e1 r) f1) f20 ++ (wLs g b e1 e10 e11)) H := hP
          have hD : va_D (va_A (wX g a b d fo tp sh f1 f20 ++ (wLs g b e1 e10 e11)) s.heap.size) (wX g a b d fo tp sh (fb (fLev e1 r) f1) f20 ++ (wLs g b e1 e10 e11)) := hD
          exact W.iret hx hb hr (fun t ht hW => ⟨⟨_, (), rfl, by rw [hf, ab_0, ← cl_file hn (by omega) (by omega)]; exact hfl, by rw [ht]; exact hP, hD⟩, hS.F ht⟩) hS.2.2 dX4_file_59
        · refine lv_aload_n hx hb dX4_file_29 rfl (lv_at hl 3 rfl) ?_
          refine lv_iload_n hx hb dX4_file_30 rfl (lv_at hl 1 rfl) ?_
          refine xu_b (P := 0 ≤ r9 ∧ r9 < e1 1) (rV (rest := []) hx hb hml hown hts hK hl (c_X4_isRange l g d fo tp sh a f1 f20 b e1 e10 e11 r9 (show IR r9 from ⟨by omega, by omega⟩) (show 0 ≤ e1 1 ∧ e1 1 ≤ 8 from by omega)) lk_X4_117 (va_P_app.mpr ⟨hP0, hP1⟩) (va_recv hK.1 hP0 (ci := 4) (q0 := 0) rfl rfl) rfl rfl rfl (Rm.of rfl) rfl rfl dX4_file_31) (fun z4 => ?_) (fun z4 => ?_)
          · obtain ⟨q9, hq9⟩ : ∃ q : Nat, (q : Int) = r9 := ⟨r9.toNat, by omega⟩
            have hbo := bit_or ⟨x, i22_2⟩ ⟨q9, by omega⟩
            dsimp only at hbo
            rw [hq9] at hbo
            have hab := ahd_b hn r9
            refine xi_zf_eq hx hb ⟨by decide, by decide⟩ (by decide) dX4_file_34 ⟨58, by decide⟩ ?_
            refine lv_iload_n hx hb dX4_file_37 rfl (lv_at hl 2 rfl) ?_
            refine lv_iconst (v := iI (1)) hx hb dX4_file_38 (by decide) ?_
            refine lv_iload_n hx hb dX4_file_39 rfl (lv_at hl 1 rfl) ?_
            refine lv_ishl hx hb dX4_file_40 ?_
            refine lv_ior hx hb dX4_file_41 ?_
            refine lv_istore_n (lv' := [(2, .int ((iI ((x : Nat) : Int)) ||| (((iI 1) <<< ((iI r9) &&& 31))))), (4, .int (iI (k : Int))), (3, .int (iI r9)), (0, .ref (a 0)), (1, .int (iI r))]) hx hb dX4_file_42 rfl hl (by decide) rfl (fun ls hl => ?_)
            refine lv_aload_n hx hb dX4_file_43 rfl (lv_at hl 3 rfl) ?_
            refine xg_X4 hx hb hts hown hK hP0 0 rfl 0 (by decide) fk_X4_10 (v := .ref (b 0)) rfl dX4_file_44 ?_
            refine lv_iload_n hx hb dX4_file_47 rfl (lv_at hl 2 rfl) ?_
            refine xu_i (x := iI (ahd e1 r9)) (rVN (rest := []) hx hb hml hown hts hK hl (c_X1_rangeAhead l g b e1 e10 e11 r9 (show Inv e1 from hI8) (show 0 ≤ r9 ∧ r9 < e1 1 from by omega)) lk_X4_201 hP1 (va_recv hK.1 hP1 (ci := 1) (q0 := 0) rfl rfl) rfl rfl rfl (Rm.of rfl) rfl rfl dX4_file_48) ?_
            refine lv_istore_n (lv' := [(3, .int (iI (ahd e1 r9))), (2, .int ((iI ((x : Nat) : Int)) ||| (((iI 1) <<< ((iI r9) &&& 31))))), (4, .int (iI (k : Int))), (0, .ref (a 0)), (1, .int (iI r))]) hx hb dX4_file_51 rfl hl (by decide) rfl (fun ls hl => ?_)
            refine xi_inc (lv' := [(4, .int (iI ((k : Int) + 1))), (3, .int (iI (ahd e1 r9))), (2, .int ((iI ((x : Nat) : Int)) ||| (((iI 1) <<< ((iI r9) &&& 31))))), (0, .ref (a 0)), (1, .int (iI r))]) hx hb dX4_file_52 hl (k := 2) rfl (by decide) rfl (fun ls hl => ?_)
            refine lv_goto (tgt := 22) hx hb dX4_file_55 (by decide) ?_
            have hq6 : ((k : Int) + 1) = ((k + 1) : Int) := by omega
            have hq7 : ((iI ((x : Nat) : Int)) ||| (((iI 1) <<< ((iI r9) &&& 31)))) = (iI (((x ||| 2 ^ q9) : Nat) : Int)) := hbo.1
            have hl : lv_has ls 5 [(4, .int (iI ((k : Int) + 1))), (3, .int (iI (ahd e1 r9))), (2, .int ((iI ((x : Nat) : Int)) ||| (((iI 1) <<< ((iI r9) &&& 31))))), (0, .ref (a 0)), (1, .int (iI r))] := lv_sub hl [0, 1, 2, 3, 4] rfl
            have hl := Eq.mp (congrArg (fun z9 => lv_has ls 5 [(4, .int (iI z9)), (3, .int (iI (ahd e1 r9))), (2, .int ((iI ((x : Nat) : Int)) ||| (((iI 1) <<< ((iI r9) &&& 31))))), (0, .ref (a 0)), (1, .int (iI r))]) hq6) hl
            have hl := Eq.mp (congrArg (fun z9 => lv_has ls 5 [(4, .int (iI ((k + 1) : Int))), (3, .int (iI (ahd e1 r9))), (2, .int z9), (0, .ref (a 0)), (1, .int (iI r))]) hq7) hl
            exact ih22 (k + 1) (x ||| 2 ^ q9) (ahd e1 r9) (by omega) hbo.2.1 hab (by rw [← hbo.1, ← i22_4, clT_go (f := 8 - k) (by omega) (by omega), show 8 - k - 1 = 8 - (k + 1) by omega]) (by omega) ls hl H locs hP hD hS
          · have hfl : iI ((x : Nat) : Int) = (clT e1 8 (iI 0) r) := by rw [← i22_4]; exact (clT_no (by omega) _).symm
            refine xi_zt_eq (tgt := 58) hx hb ⟨by decide, by decide⟩ (by decide) dX4_file_34 (by decide) ?_
            refine lv_iload_n hx hb dX4_file_58 rfl (lv_at hl 2 rfl) ?_
            have hf : fLev e1 r = 0 := by unfold fLev; (repeat (first | rw [if_pos (by omega)] | rw [if_neg (by omega)])); first | done | (exfalso; omega)
            have he8 : f1 = (fb (fLev e1 r) f1) := by rw [hf]; rfl
            have hP := Eq.mp (congrArg (fun z9 => va_P g.1 vwCl (wX g a b d fo tp sh z9 f20 ++ (wLs g b e1 e10 e11)) H) he8) hP
            have hD := Eq.mp (congrArg (fun z9 => va_D (va_A (wX g a b d fo tp sh f1 f20 ++ (wLs g b e1 e10 e11)) s.heap.size) (wX g a b d fo tp sh z9 f20 ++ (wLs g b e1 e10 e11))) he8) hD
            obtain ⟨hP0, hP1⟩ := va_P_app.mp hP
            have hP : va_P g.1 vwCl (wX g a b d fo tp sh (fb (fLev e1 r) f1) f20 ++ (wLs g b e1 e10 e11)) H := hP
            have hD : va_D (va_A (wX g a b d fo tp sh f1 f20 ++ (wLs g b e1 e10 e11)) s.heap.size) (wX g a b d fo tp sh (fb (fLev e1 r) f1) f20 ++ (wLs g b e1 e10 e11)) := hD
            exact W.iret hx hb hr (fun t ht hW => ⟨⟨_, (), rfl, by rw [hf, ab_0, ← cl_file hn (by omega) (by omega)]; exact hfl, by rw [ht]; exact hP, hD⟩, hS.F ht⟩) hS.2.2 dX4_file_59
    have hq9 : 0 = (0 : Int) := rfl
    have hq10 : 0 = ((0 : Nat) : Int) := rfl
    have hl : lv_has ls 5 [(4, .int (iI 0)), (3, .int (iI r)), (2, .int (iI 0)), (0, .ref (a 0)), (1, .int (iI r))] := lv_sub hl [0, 1, 2, 3, 4] rfl
    have hl := Eq.mp (congrArg (fun z9 => lv_has ls 5 [(4, .int (iI z9)), (3, .int (iI r)), (2, .int (iI 0)), (0, .ref (a 0)), (1, .int (iI r))]) hq9) hl
    have hl := Eq.mp (congrArg (fun z9 => lv_has ls 5 [(4, .int (iI (0 : Int))), (3, .int (iI r)), (2, .int (iI z9)), (0, .ref (a 0)), (1, .int (iI r))]) hq10) hl
    exact lp22 (8 + 1) 0 0 r (by omega) (by omega) (by omega) rfl (by omega) ls hl s.heap [] hP hD hS
  · refine xi_zf_ne hx hb ⟨by decide, by decide⟩ (by decide) dX4_file_5 ⟨15, by decide⟩ ?_
    refine lv_aload_n hx hb dX4_file_8 rfl (lv_at hl 0 rfl) ?_
    refine xi_ldc hx hb hown hts kk_X4_58 dX4_file_9 ?_
    refine xmF_i (rV (rest := []) hx hb hml hown hts hK hl (c_X4_finding l g b d fo tp sh a f1 f20 (-1000000001) (s.heap).size (show 0 ≤ -1000000001 - (-1000000001) ∧ -1000000001 - (-1000000001) < 7 from by omega)) lk_X4_59 ⟨rfl, hP0, (va_D_app hD).1.weaken (fun _ _ _ _ => trivial)⟩ (va_recv hK.1 hP0 (ci := 4) (q0 := 0) rfl rfl) rfl rfl rfl (Rm.of rfl) rfl rfl dX4_file_11) hP hD hS hA (fun x9 _ H locs hw hP hD hS => ?_)
    obtain rfl : x9 = iI (-1000000001) := hw
    have hP : va_P g.1 vwCl (wX g a b d fo tp sh (fb (-1000000000 - (-1000000001)) f1) f20 ++ (wLs g b e1 e10 e11)) H := hP
    have hD : va_D (va_A (wX g a b d fo tp sh f1 f20 ++ (wLs g b e1 e10 e11)) s.heap.size) (wX g a b d fo tp sh (fb (-1000000000 - (-1000000001)) f1) f20 ++ (wLs g b e1 e10 e11)) := hD
    obtain ⟨hP0, hP1⟩ := va_P_app.mp hP
    have hf : fLev e1 r = 1 := by unfold fLev; (repeat (first | rw [if_pos (by omega)] | rw [if_neg (by omega)])); first | done | (exfalso; omega)
    have he12 : (fb (-1000000000 - (-1000000001)) f1) = (fb (fLev e1 r) f1) := by rw [hf]; rfl
    have hP := Eq.mp (congrArg (fun z9 => va_P g.1 vwCl (wX g a b d fo tp sh z9 f20 ++ (wLs g b e1 e10 e11)) H) he12) hP
    have hD := Eq.mp (congrArg (fun z9 => va_D (va_A (wX g a b d fo tp sh f1 f20 ++ (wLs g b e1 e10 e11)) s.heap.size) (wX g a b d fo tp sh z9 f20 ++ (wLs g b e1 e10 e11))) he12) hD
    obtain ⟨hP0, hP1⟩ := va_P_app.mp hP
    have hP : va_P g.1 vwCl (wX g a b d fo tp sh (fb (fLev e1 r) f1) f20 ++ (wLs g b e1 e10 e11)) H := hP
    have hD : va_D (va_A (wX g a b d fo tp sh f1 f20 ++ (wLs g b e1 e10 e11)) s.heap.size) (wX g a b d fo tp sh (fb (fLev e1 r) f1) f20 ++ (wLs g b e1 e10 e11)) := hD
    exact W.iret hx hb hr (fun t ht hW => ⟨⟨_, (), rfl, by rw [hf]; rfl, by rw [ht]; exact hP, hD⟩, hS.F ht⟩) hS.2.2 dX4_file_14
abbrev rm_X4_frees : Room := { frames := 6, cells := 0, slots := 0, locals := 149 }
set_option maxRecDepth 100000 in
set_option maxHeartbeats 4000000 in
theorem c_X4_frees (l : Launch) (g : Gd) (d : Nat → Nat) (tp : Nat → Nat) (sh : Nat → Nat) (a : Nat → Nat) (f1 : Int → Int) (f20 : Int) (fo : Nat → Nat) (o1 : Int → Int) (b : Nat → Nat) (e1 : Int → Int) (e10 : Int → Int) (e11 : Int → Int) (tr : Nat → Nat) (t1 : Int → Int) (t10 : Int → Int) (t11 : Int → Int) (sz : Nat) (h1 : InvK 0 e1) (h2 : e1 0 ≤ 9999) : Met l yX4_frees (wsOf yX4_frees cX4_frees 1 (some .int)) rm_X4_frees (PX g (wP g (wX g a b d fo tp sh f1 f20 ++ (wF g fo b tr o1 ++ (wLs g b e1 e10 e11 ++ (wLs g tr t1 t10 t11)))) sz) [.ref (a 0)]) (QMi g (fun u9 : Nat → Int → Int => wX g a b d fo tp sh (fb (fFre e1) f1) f20 ++ (wF g fo b tr o1 ++ (wLs g b e1 e10 e11 ++ (wLs g tr (u9 301) (u9 310) (u9 311))))) (fun r9 _ => r9 = ab (fFre e1) (iI (frS e1))) (va_A (wX g a b d fo tp sh f1 f20 ++ (wF g fo b tr o1 ++ (wLs g b e1 e10 e11 ++ (wLs g tr t1 t10 t11)))) sz)) 0 0 (va_A (wX g a b d fo tp sh f1 f20 ++ (wF g fo b tr o1 ++ (wLs g b e1 e10 e11 ++ (wLs g tr t1 t10 t11)))) sz) := by
  refine me (g := g) (by decide) rfl ?_
  intro pq eq s mq below meth cq C hnm hB ls hl
  obtain ⟨hx, hb, hr, hml, hown, hts, hlocks, hK⟩ := C
  have hown : s.vm.findClass RX4 = some mq.cls := hown
  have hl : lv_has ls 1 [(0, .ref (a 0))] := hl
  obtain ⟨hsz, hP, hD0⟩ := hB
  subst hsz
  have hD := hD0.self (sz := s.heap.size)
  have hA : ∀ q : Nat, s.heap.size ≤ q → va_A (wX g a b d fo tp sh f1 f20 ++ (wF g fo b tr o1 ++ (wLs g b e1 e10 e11 ++ (wLs g tr t1 t10 t11)))) s.heap.size q := fun q h => Or.inr h
  have hS : va_S (va_A (wX g a b d fo tp sh f1 f20 ++ (wF g fo b tr o1 ++ (wLs g b e1 e10 e11 ++ (wLs g tr t1 t10 t11)))) s.heap.size) s.heap s.heap [] := va_S.rf
  obtain ⟨hP0, hPr0⟩ := va_P_app.mp hP
  obtain ⟨hP1, hPr1⟩ := va_P_app.mp hPr0
  obtain ⟨hP2, hP3⟩ := va_P_app.mp hPr1
  have hI := h1
  have hI8 : Inv e1 := h1.mono (by omega)
  have hn := hI.num
  have hs := hI.sea
  have hv := hI.vil
  have hfb := frT_b (v := frV e1) (l0 := cntS e1) (cntS_b hn) (e1 1).toNat (fun j hj => cntS_b (hI.lev (r := (j : Int)) (by omega) (by omega)).num)
  have hfr : frS e1 = (frT (frV e1) (cntS e1) (e1 1).toNat).1 := rfl
  refine lv_aload_n hx hb dX4_frees_0 rfl (lv_at hl 0 rfl) ?_
  refine lv_aload_n hx hb dX4_frees_1 rfl (lv_at hl 0 rfl) ?_
  refine xg_X4 hx hb hts hown hK hP0 0 rfl 2 (by decide) fk_X4_24 (v := .ref (fo 0)) rfl dX4_frees_2 ?_
  have hD : va_D (va_A (wX g a b d fo tp sh f1 f20 ++ (wF g fo b tr o1 ++ (wLs g b e1 e10 e11 ++ (wLs g tr t1 t10 t11)))) s.heap.size) (wF g fo b tr o1 ++ (wX g a b d fo tp sh f1 f20 ++ (wLs g b e1 e10 e11 ++ (wLs g tr t1 t10 t11)))) := D_perm (List.perm_append_comm_assoc _ _ _) hD
  have hD : va_D (va_A (wX g a b d fo tp sh f1 f20 ++ (wF g fo b tr o1 ++ (wLs g b e1 e10 e11 ++ (wLs g tr t1 t10 t11)))) s.heap.size) (wF g fo b tr o1 ++ (wLs g b e1 e10 e11 ++ (wX g a b d fo tp sh f1 f20 ++ (wLs g tr t1 t10 t11)))) := D_perm (List.Perm.append_left _ (List.perm_append_comm_assoc _ _ _)) hD
  have hD : va_D (va_A (wX g a b d fo tp sh f1 f20 ++ (wF g fo b tr o1 ++ (wLs g b e1 e10 e11 ++ (wLs g tr t1 t10 t11)))) s.heap.size) (wF g fo b tr o1 ++ (wLs g b e1 e10 e11 ++ (wLs g tr t1 t10 t11 ++ (wX g a b d fo tp sh f1 f20)))) := D_perm (List.Perm.append_left _ (List.Perm.append_left _ (List.perm_append_comm))) hD
  have hP : va_P g.1 vwCl (wF g fo b tr o1 ++ (wLs g b e1 e10 e11 ++ (wLs g tr t1 t10 t11 ++ (wX g a b d fo tp sh f1 f20)))) s.heap := va_P_app.mpr ⟨hP1, va_P_app.mpr ⟨hP2, va_P_app.mpr ⟨hP3, hP0⟩⟩⟩
  have hP : va_P g.1 vwCl ((wF g fo b tr o1 ++ (wLs g b e1 e10 e11 ++ (wLs g tr t1 t10 t11))) ++ (wX g a b d fo tp sh f1 f20)) s.heap := by rw [List.append_assoc, List.append_assoc]; exact hP
  have hD : va_D (va_A (wX g a b d fo tp sh f1 f20 ++ (wF g fo b tr o1 ++ (wLs g b e1 e10 e11 ++ (wLs g tr t1 t10 t11)))) s.heap.size) ((wF g fo b tr o1 ++ (wLs g b e1 e10 e11 ++ (wLs g tr t1 t10 t11))) ++ (wX g a b d fo tp sh f1 f20)) := by rw [List.append_assoc, List.append_assoc]; exact hD
  refine xmF_i (rVN (rest := [.ref (a 0)]) hx hb hml hown hts hK hl (c_X0_bestToLevel l g fo o1 b e1 e10 e11 tr t1 t10 t11 (s.heap).size (show InvK 0 e1 from h1) (show e1 0 ≤ 9999 from by omega)) lk_X4_204 ⟨rfl, (va_P_app.mp hP).1, (va_D_app hD).1.weaken (fun _ _ _ _ => trivial)⟩ (va_recv hK.1 hP1 (ci := 0) (q0 := 0) rfl rfl) rfl rfl rfl (Rm.of rfl) rfl rfl dX4_frees_5) hP hD hS hA (fun x9 u1 H locs hw hP hD hS => ?_)
  have hP : va_P g.1 vwCl ((wF g fo b tr o1 ++ (wLs g b e1 e10 e11 ++ (wLs g tr (u1 201) (u1 210) (u1 211)))) ++ (wX g a b d fo tp sh f1 f20)) H := hP
  have hD : va_D (va_A (wX g a b d fo tp sh f1 f20 ++ (wF g fo b tr o1 ++ (wLs g b e1 e10 e11 ++ (wLs g tr t1 t10 t11)))) s.heap.size) ((wF g fo b tr o1 ++ (wLs g b e1 e10 e11 ++ (wLs g tr (u1 201) (u1 210) (u1 211)))) ++ (wX g a b d fo tp sh f1 f20)) := hD
  rw [List.append_assoc, List.append_assoc] at hP hD
  obtain rfl : x9 = iI (frS e1) := hw
  have hP : va_P g.1 vwCl (wF g fo b tr o1 ++ (wLs g b e1 e10 e11 ++ (wLs g tr (u1 201) (u1 210) (u1 211) ++ (wX g a b d fo tp sh f1 f20)))) H := hP
  have hD : va_D (va_A (wX g a b d fo tp sh f1 f20 ++ (wF g fo b tr o1 ++ (wLs g b e1 e10 e11 ++ (wLs g tr t1 t10 t11)))) s.heap.size) (wF g fo b tr o1 ++ (wLs g b e1 e10 e11 ++ (wLs g tr (u1 201) (u1 210) (u1 211) ++ (wX g a b d fo tp sh f1 f20)))) := hD
  obtain ⟨hP1, hPr0⟩ := va_P_app.mp hP
  obtain ⟨hP2, hPr1⟩ := va_P_app.mp hPr0
  obtain ⟨hP3, hP0⟩ := va_P_app.mp hPr1
  rcases (show ((frS e1) < 0) ∨ (0 ≤ (frS e1)) from by omega) with z2 | z2
  · have hD : va_D (va_A (wX g a b d fo tp sh f1 f20 ++ (wF g fo b tr o1 ++ (wLs g b e1 e10 e11 ++ (wLs g tr t1 t10 t11)))) s.heap.size) (wF g fo b tr o1 ++ (wLs g b e1 e10 e11 ++ (wX g a b d fo tp sh f1 f20 ++ (wLs g tr (u1 201) (u1 210) (u1 211))))) := D_perm (List.Perm.append_left _ (List.Perm.append_left _ (List.perm_append_comm))) hD
    have hD : va_D (va_A (wX g a b d fo tp sh f1 f20 ++ (wF g fo b tr o1 ++ (wLs g b e1 e10 e11 ++ (wLs g tr t1 t10 t11)))) s.heap.size) (wF g fo b tr o1 ++ (wX g a b d fo tp sh f1 f20 ++ (wLs g b e1 e10 e11 ++ (wLs g tr (u1 201) (u1 210) (u1 211))))) := D_perm (List.Perm.append_left _ (List.perm_append_comm_assoc _ _ _)) hD
    have hD : va_D (va_A (wX g a b d fo tp sh f1 f20 ++ (wF g fo b tr o1 ++ (wLs g b e1 e10 e11 ++ (wLs g tr t1 t10 t11)))) s.heap.size) (wX g a b d fo tp sh f1 f20 ++ (wF g fo b tr o1 ++ (wLs g b e1 e10 e11 ++ (wLs g tr (u1 201) (u1 210) (u1 211))))) := D_perm (List.perm_append_comm_assoc _ _ _) hD
    have hP : va_P g.1 vwCl (wX g a b d fo tp sh f1 f20 ++ (wF g fo b tr o1 ++ (wLs g b e1 e10 e11 ++ (wLs g tr (u1 201) (u1 210) (u1 211))))) H := va_P_app.mpr ⟨hP0, va_P_app.mpr ⟨hP1, va_P_app.mpr ⟨hP2, hP3⟩⟩⟩
    refine xmF_i (rV (rest := []) hx hb hml hown hts hK hl (c_X4_orNoneN l g b d fo tp sh a f1 f20 (frS e1) H.size (show IR (frS e1) from ⟨by omega, by omega⟩) (show (frS e1) < 0 from by omega)) lk_X4_189 ⟨rfl, hP0, (va_D_app hD).1.weaken (fun _ _ _ _ => trivial)⟩ (va_recv hK.1 hP0 (ci := 4) (q0 := 0) rfl rfl) rfl rfl rfl (Rm.of rfl) rfl rfl dX4_frees_8) hP hD hS hA (fun x9 _ H locs hw hP hD hS => ?_)
    obtain rfl : x9 = iI (-1000000004) := hw
    have hP : va_P g.1 vwCl (wX g a b d fo tp sh (fb (-1000000000 - (-1000000004)) f1) f20 ++ (wF g fo b tr o1 ++ (wLs g b e1 e10 e11 ++ (wLs g tr (u1 201) (u1 210) (u1 211))))) H := hP
    have hD : va_D (va_A (wX g a b d fo tp sh f1 f20 ++ (wF g fo b tr o1 ++ (wLs g b e1 e10 e11 ++ (wLs g tr t1 t10 t11)))) s.heap.size) (wX g a b d fo tp sh (fb (-1000000000 - (-1000000004)) f1) f20 ++ (wF g fo b tr o1 ++ (wLs g b e1 e10 e11 ++ (wLs g tr (u1 201) (u1 210) (u1 211))))) := hD
    obtain ⟨hP0, hPr0⟩ := va_P_app.mp hP
    obtain ⟨hP1, hPr1⟩ := va_P_app.mp hPr0
    obtain ⟨hP2, hP3⟩ := va_P_app.mp hPr1
    have hf : fFre e1 = 4 := by unfold fFre; first | rw [if_pos (by omega)] | rw [if_neg (by omega)]
    have he4 : (fb (-1000000000 - (-1000000004)) f1) = (fb (fFre e1) f1) := by rw [hf]; rfl
    have hP := Eq.mp (congrArg (fun z9 => va_P g.1 vwCl (wX g a b d fo tp sh z9 f20 ++ (wF g fo b tr o1 ++ (wLs g b e1 e10 e11 ++ (wLs g tr (u1 201) (u1 210) (u1 211))))) H) he4) hP
    have hD := Eq.mp (congrArg (fun z9 => va_D (va_A (wX g a b d fo tp sh f1 f20 ++ (wF g fo b tr o1 ++ (wLs g b e1 e10 e11 ++ (wLs g tr t1 t10 t11)))) s.heap.size) (wX g a b d fo tp sh z9 f20 ++ (wF g fo b tr o1 ++ (wLs g b e1 e10 e11 ++ (wLs g tr (u1 201) (u1 210) (u1 211)))))) he4) hD
    obtain ⟨hP0, hPr0⟩ := va_P_app.mp hP
    obtain ⟨hP1, hPr1⟩ := va_P_app.mp hPr0
    obtain ⟨hP2, hP3⟩ := va_P_app.mp hPr1
    have hP : va_P g.1 vwCl (wX g a b d fo tp sh (fb (fFre e1) f1) f20 ++ (wF g fo b tr o1 ++ (wLs g b e1 e10 e11 ++ (wLs g tr ((su (su (su (fun _ _ => 0) 301 (u1 201)) 310 (u1 210)) 311 (u1 211)) 301) ((su (su (su (fun _ _ => 0) 301 (u1 201)) 310 (u1 210)) 311 (u1 211)) 310) ((su (su (su (fun _ _ => 0) 301 (u1 201)) 310 (u1 210)) 311 (u1 211)) 311))))) H := hP
    have hD : va_D (va_A (wX g a b d fo tp sh f1 f20 ++ (wF g fo b tr o1 ++ (wLs g b e1 e10 e11 ++ (wLs g tr t1 t10 t11)))) s.heap.size) (wX g a b d fo tp sh (fb (fFre e1) f1) f20 ++ (wF g fo b tr o1 ++ (wLs g b e1 e10 e11 ++ (wLs g tr ((su (su (su (fun _ _ => 0) 301 (u1 201)) 310 (u1 210)) 311 (u1 211)) 301) ((su (su (su (fun _ _ => 0) 301 (u1 201)) 310 (u1 210)) 311 (u1 211)) 310) ((su (su (su (fun _ _ => 0) 301 (u1 201)) 310 (u1 210)) 311 (u1 211)) 311))))) := hD
    exact W.iret hx hb hr (fun t ht hW => ⟨⟨_, (su (su (su (fun _ _ => 0) 301 (u1 201)) 310 (u1 210)) 311 (u1 211)), rfl, by rw [hf]; rfl, by rw [ht]; exact hP, hD⟩, hS.F ht⟩) hS.2.2 dX4_frees_11
  · have hD : va_D (va_A (wX g a b d fo tp sh f1 f20 ++ (wF g fo b tr o1 ++ (wLs g b e1 e10 e11 ++ (wLs g tr t1 t10 t11)))) s.heap.size) (wF g fo b tr o1 ++ (wLs g b e1 e10 e11 ++ (wX g a b d fo tp sh f1 f20 ++ (wLs g tr (u1 201) (u1 210) (u1 211))))) := D_perm (List.Perm.append_left _ (List.Perm.append_left _ (List.perm_append_comm))) hD
    have hD : va_D (va_A (wX g a b d fo tp sh f1 f20 ++ (wF g fo b tr o1 ++ (wLs g b e1 e10 e11 ++ (wLs g tr t1 t10 t11)))) s.heap.size) (wF g fo b tr o1 ++ (wX g a b d fo tp sh f1 f20 ++ (wLs g b e1 e10 e11 ++ (wLs g tr (u1 201) (u1 210) (u1 211))))) := D_perm (List.Perm.append_left _ (List.perm_append_comm_assoc _ _ _)) hD
    have hD : va_D (va_A (wX g a b d fo tp sh f1 f20 ++ (wF g fo b tr o1 ++ (wLs g b e1 e10 e11 ++ (wLs g tr t1 t10 t11)))) s.heap.size) (wX g a b d fo tp sh f1 f20 ++ (wF g fo b tr o1 ++ (wLs g b e1 e10 e11 ++ (wLs g tr (u1 201) (u1 210) (u1 211))))) := D_perm (List.perm_append_comm_assoc _ _ _) hD
    have hP : va_P g.1 vwCl (wX g a b d fo tp sh f1 f20 ++ (wF g fo b tr o1 ++ (wLs g b e1 e10 e11 ++ (wLs g tr (u1 201) (u1 210) (u1 211))))) H := va_P_app.mpr ⟨hP0, va_P_app.mpr ⟨hP1, va_P_app.mpr ⟨hP2, hP3⟩⟩⟩
    refine xmF_i (rV (rest := []) hx hb hml hown hts hK hl (c_X4_orNoneP l g b d fo tp sh a f1 f20 (frS e1) H.size (show IR (frS e1) from ⟨by omega, by omega⟩) (show 0 ≤ (frS e1) from by omega)) lk_X4_189 ⟨rfl, hP0, (va_D_app hD).1.weaken (fun _ _ _ _ => trivial)⟩ (va_recv hK.1 hP0 (ci := 4) (q0 := 0) rfl rfl) rfl rfl rfl (Rm.of rfl) rfl rfl dX4_frees_8) hP hD hS hA (fun x9 _ H locs hw hP hD hS => ?_)
    obtain rfl : x9 = iI (frS e1) := hw
    have hP : va_P g.1 vwCl (wX g a b d fo tp sh f1 f20 ++ (wF g fo b tr o1 ++ (wLs g b e1 e10 e11 ++ (wLs g tr (u1 201) (u1 210) (u1 211))))) H := hP
    have hD : va_D (va_A (wX g a b d fo tp sh f1 f20 ++ (wF g fo b tr o1 ++ (wLs g b e1 e10 e11 ++ (wLs g tr t1 t10 t11)))) s.heap.size) (wX g a b d fo tp sh f1 f20 ++ (wF g fo b tr o1 ++ (wLs g b e1 e10 e11 ++ (wLs g tr (u1 201) (u1 210) (u1 211))))) := hD
    obtain ⟨hP0, hPr0⟩ := va_P_app.mp hP
    obtain ⟨hP1, hPr1⟩ := va_P_app.mp hPr0
    obtain ⟨hP2, hP3⟩ := va_P_app.mp hPr1
    have hf : fFre e1 = 0 := by unfold fFre; first | rw [if_pos (by omega)] | rw [if_neg (by omega)]
    have he6 : f1 = (fb (fFre e1) f1) := by rw [hf]; rfl
    have hP := Eq.mp (congrArg (fun z9 => va_P g.1 vwCl (wX g a b d fo tp sh z9 f20 ++ (wF g fo b tr o1 ++ (wLs g b e1 e10 e11 ++ (wLs g tr (u1 201) (u1 210) (u1 211))))) H) he6) hP
    have hD := Eq.mp (congrArg (fun z9 => va_D (va_A (wX g a b d fo tp sh f1 f20 ++ (wF g fo b tr o1 ++ (wLs g b e1 e10 e11 ++ (wLs g tr t1 t10 t11)))) s.heap.size) (wX g a b d fo tp sh z9 f20 ++ (wF g fo b tr o1 ++ (wLs g b e1 e10 e11 ++ (wLs g tr (u1 201) (u1 210) (u1 211)))))) he6) hD
    obtain ⟨hP0, hPr0⟩ := va_P_app.mp hP
    obtain ⟨hP1, hPr1⟩ := va_P_app.mp hPr0
    obtain ⟨hP2, hP3⟩ := va_P_app.mp hPr1
    have hP : va_P g.1 vwCl (wX g a b d fo tp sh (fb (fFre e1) f1) f20 ++ (wF g fo b tr o1 ++ (wLs g b e1 e10 e11 ++ (wLs g tr ((su (su (su (fun _ _ => 0) 301 (u1 201)) 310 (u1 210)) 311 (u1 211)) 301) ((su (su (su (fun _ _ => 0) 301 (u1 201)) 310 (u1 210)) 311 (u1 211)) 310) ((su (su (su (fun _ _ => 0) 301 (u1 201)) 310 (u1 210)) 311 (u1 211)) 311))))) H := hP
    have hD : va_D (va_A (wX g a b d fo tp sh f1 f20 ++ (wF g fo b tr o1 ++ (wLs g b e1 e10 e11 ++ (wLs g tr t1 t10 t11)))) s.heap.size) (wX g a b d fo tp sh (fb (fFre e1) f1) f20 ++ (wF g fo b tr o1 ++ (wLs g b e1 e10 e11 ++ (wLs g tr ((su (su (su (fun _ _ => 0) 301 (u1 201)) 310 (u1 210)) 311 (u1 211)) 301) ((su (su (su (fun _ _ => 0) 301 (u1 201)) 310 (u1 210)) 311 (u1 211)) 310) ((su (su (su (fun _ _ => 0) 301 (u1 201)) 310 (u1 210)) 311 (u1 211)) 311))))) := hD
    exact W.iret hx hb hr (fun t ht hW => ⟨⟨_, (su (su (su (fun _ _ => 0) 301 (u1 201)) 310 (u1 210)) 311 (u1 211)), rfl, by rw [hf, ab_0], by rw [ht]; exact hP, hD⟩, hS.F ht⟩) hS.2.2 dX4_frees_11
abbrev rm_X4_haste : Room := { frames := 6, cells := 0, slots := 0, locals := 140 }
set_option maxRecDepth 100000 in
set_option maxHeartbeats 4000000 in
theorem c_X4_haste (l : Launch) (g : Gd) (d : Nat → Nat) (tp : Nat → Nat) (sh : Nat → Nat) (a : Nat → Nat) (f1 : Int → Int) (f20 : Int) (fo : Nat → Nat) (o1 : Int → Int) (b : Nat → Nat) (e1 : Int → Int) (e10 : Int → Int) (e11 : Int → Int) (tr : Nat → Nat) (t1 : Int → Int) (t10 : Int → Int) (t11 : Int → Int) (r : Int) (d9 : Int) (n : Int) (sz : Nat) (h1 : InvK 0 e1) (h2 : e1 0 ≤ 9999) (h3 : IR r) (h4 : IR d9) (h5 : IR n) : Met l yX4_haste (wsOf yX4_haste cX4_haste 4 (some .int)) rm_X4_haste (PX g (wP g (wX g a b d fo tp sh f1 f20 ++ (wF g fo b tr o1 ++ (wLs g b e1 e10 e11 ++ (wLs g tr t1 t10 t11)))) sz) [.ref (a 0), .int (iI r), .int (iI d9), .int (iI n)]) (QMi g (fun u9 : Nat → Int → Int => wX g a b d fo tp sh (fb (fHst e1 r d9 n) f1) f20 ++ (wF g fo b tr o1 ++ (wLs g b e1 e10 e11 ++ (wLs g tr (u9 301) (u9 310) (u9 311))))) (fun r9 _ => r9 = ab (fHst e1 r d9 n) (iI (fsT (hsP e1 r d9 n) 10 0 : Int))) (va_A (wX g a b d fo tp sh f1 f20 ++ (wF g fo b tr o1 ++ (wLs g b e1 e10 e11 ++ (wLs g tr t1 t10 t11)))) sz)) 0 0 (va_A (wX g a b d fo tp sh f1 f20 ++ (wF g fo b tr o1 ++ (wLs g b e1 e10 e11 ++ (wLs g tr t1 t10 t11)))) sz) := by
  refine me (g := g) (by decide) rfl ?_
  intro pq eq s mq below meth cq C hnm hB ls hl
  obtain ⟨hx, hb, hr, hml, hown, hts, hlocks, hK⟩ := C
  have hown : s.vm.findClass RX4 = some mq.cls := hown
  have hl : lv_has ls 4 [(0, .ref (a 0)), (1, .int (iI r)), (2, .int (iI d9)), (3, .int (iI n))] := hl
  obtain ⟨hsz, hP, hD0⟩ := hB
  subst hsz
  have hD := hD0.self (sz := s.heap.size)
  have hA : ∀ q : Nat, s.heap.size ≤ q → va_A (wX g a b d fo tp sh f1 f20 ++ (wF g fo b tr o1 ++ (wLs g b e1 e10 e11 ++ (wLs g tr t1 t10 t11)))) s.heap.size q := fun q h => Or.inr h
  have hS : va_S (va_A (wX g a b d fo tp sh f1 f20 ++ (wF g fo b tr o1 ++ (wLs g b e1 e10 e11 ++ (wLs g tr t1 t10 t11)))) s.heap.size) s.heap s.heap [] := va_S.rf
  obtain ⟨hP0, hPr0⟩ := va_P_app.mp hP
  obtain ⟨hP1, hPr1⟩ := va_P_app.mp hPr0
  obtain ⟨hP2, hP3⟩ := va_P_app.mp hPr1
  have hI := h1
  have hI8 : Inv e1 := h1.mono (by omega)
  have hn := hI.num
  have hs := hI.sea
  have hv := hI.vil
  have q1 := h3.1
  have q3 := h4.1
  have q5 := h5.1
  have q2 := h3.2
  have q4 := h4.2
  have q6 := h5.2
  have hfb := fsT_b (hsP e1 r d9 n) 10 0
  have hoi := nn_or (fsT (hsP e1 r d9 n) 10 0) 9
  refine lv_aload_n hx hb dX4_haste_0 rfl (lv_at hl 0 rfl) ?_
  refine lv_iload_n hx hb dX4_haste_1 rfl (lv_at hl 1 rfl) ?_
  refine xu_b (P := 0 ≤ r ∧ r < e1 1) (rV (rest := []) hx hb hml hown hts hK hl (c_X4_isRange l g d fo tp sh a f1 f20 b e1 e10 e11 r (show IR r from ⟨by omega, by omega⟩) (show 0 ≤ e1 1 ∧ e1 1 ≤ 8 from by omega)) lk_X4_117 (va_P_app.mpr ⟨hP0, hP2⟩) (va_recv hK.1 hP0 (ci := 4) (q0 := 0) rfl rfl) rfl rfl rfl (Rm.of rfl) rfl rfl dX4_haste_2) (fun z1 => ?_) (fun z1 => ?_)
  · refine xi_zf_eq hx hb ⟨by decide, by decide⟩ (by decide) dX4_haste_5 ⟨29, by decide⟩ ?_
    refine lv_iload_n hx hb dX4_haste_8 rfl (lv_at hl 2 rfl) ?_
    refine lv_iconst (v := iI (0)) hx hb dX4_haste_9 (by decide) ?_
    refine lv_sipush (v := iI (999)) hx hb dX4_haste_10 (by decide) ?_
    refine xu_b (P := 0 ≤ d9 ∧ d9 ≤ 999) (rS (rest := []) hx hb hml hown hts hK hl (c_X4_isBetween l g d9 0 999 (show IR d9 from ⟨by omega, by omega⟩) (show IR 0 from ⟨by omega, by omega⟩) (show IR 999 from ⟨by omega, by omega⟩)) lk_X4_99 trivial rfl rfl rfl (Rm.of rfl) rfl rfl dX4_haste_13) (fun z2 => ?_) (fun z2 => ?_)
    · refine xi_zf_eq hx hb ⟨by decide, by decide⟩ (by decide) dX4_haste_16 ⟨29, by decide⟩ ?_
      refine lv_iload_n hx hb dX4_haste_19 rfl (lv_at hl 3 rfl) ?_
      refine lv_iconst (v := iI (0)) hx hb dX4_haste_20 (by decide) ?_
      refine lv_bipush (v := iI (40)) hx hb dX4_haste_21 (by decide) ?_
      refine xu_b (P := 0 ≤ n ∧ n ≤ 40) (rS (rest := []) hx hb hml hown hts hK hl (c_X4_isBetween l g n 0 40 (show IR n from ⟨by omega, by omega⟩) (show IR 0 from ⟨by omega, by omega⟩) (show IR 40 from ⟨by omega, by omega⟩)) lk_X4_99 trivial rfl rfl rfl (Rm.of rfl) rfl rfl dX4_haste_23) (fun z3 => ?_) (fun z3 => ?_)
      · refine xi_zt_ne (tgt := 36) hx hb ⟨by decide, by decide⟩ (by decide) dX4_haste_26 (by decide) ?_
        refine lv_aload_n hx hb dX4_haste_36 rfl (lv_at hl 0 rfl) ?_
        refine lv_aload_n hx hb dX4_haste_37 rfl (lv_at hl 0 rfl) ?_
        refine xg_X4 hx hb hts hown hK hP0 0 rfl 2 (by decide) fk_X4_24 (v := .ref (fo 0)) rfl dX4_haste_38 ?_
        refine lv_iload_n hx hb dX4_haste_41 rfl (lv_at hl 1 rfl) ?_
        refine lv_iload_n hx hb dX4_haste_42 rfl (lv_at hl 2 rfl) ?_
        refine lv_iload_n hx hb dX4_haste_43 rfl (lv_at hl 3 rfl) ?_
        have hD : va_D (va_A (wX g a b d fo tp sh f1 f20 ++ (wF g fo b tr o1 ++ (wLs g b e1 e10 e11 ++ (wLs g tr t1 t10 t11)))) s.heap.size) (wF g fo b tr o1 ++ (wX g a b d fo tp sh f1 f20 ++ (wLs g b e1 e10 e11 ++ (wLs g tr t1 t10 t11)))) := D_perm (List.perm_append_comm_assoc _ _ _) hD
        have hD : va_D (va_A (wX g a b d fo tp sh f1 f20 ++ (wF g fo b tr o1 ++ (wLs g b e1 e10 e11 ++ (wLs g tr t1 t10 t11)))) s.heap.size) (wF g fo b tr o1 ++ (wLs g b e1 e10 e11 ++ (wX g a b d fo tp sh f1 f20 ++ (wLs g tr t1 t10 t11)))) := D_perm (List.Perm.append_left _ (List.perm_append_comm_assoc _ _ _)) hD
        have hD : va_D (va_A (wX g a b d fo tp sh f1 f20 ++ (wF g fo b tr o1 ++ (wLs g b e1 e10 e11 ++ (wLs g tr t1 t10 t11)))) s.heap.size) (wF g fo b tr o1 ++ (wLs g b e1 e10 e11 ++ (wLs g tr t1 t10 t11 ++ (wX g a b d fo tp sh f1 f20)))) := D_perm (List.Perm.append_left _ (List.Perm.append_left _ (List.perm_append_comm))) hD
        have hP : va_P g.1 vwCl (wF g fo b tr o1 ++ (wLs g b e1 e10 e11 ++ (wLs g tr t1 t10 t11 ++ (wX g a b d fo tp sh f1 f20)))) s.heap := va_P_app.mpr ⟨hP1, va_P_app.mpr ⟨hP2, va_P_app.mpr ⟨hP3, hP0⟩⟩⟩
        have hP : va_P g.1 vwCl ((wF g fo b tr o1 ++ (wLs g b e1 e10 e11 ++ (wLs g tr t1 t10 t11))) ++ (wX g a b d fo tp sh f1 f20)) s.heap := by rw [List.append_assoc, List.append_assoc]; exact hP
        have hD : va_D (va_A (wX g a b d fo tp sh f1 f20 ++ (wF g fo b tr o1 ++ (wLs g b e1 e10 e11 ++ (wLs g tr t1 t10 t11)))) s.heap.size) ((wF g fo b tr o1 ++ (wLs g b e1 e10 e11 ++ (wLs g tr t1 t10 t11))) ++ (wX g a b d fo tp sh f1 f20)) := by rw [List.append_assoc, List.append_assoc]; exact hD
        refine xmF_i (rVN (rest := [.ref (a 0)]) hx hb hml hown hts hK hl (c_X0_leastHaste l g fo o1 b e1 e10 e11 tr t1 t10 t11 r d9 n (s.heap).size (show InvK 0 e1 from h1) (show e1 0 ≤ 9999 from by omega) (show 0 ≤ r ∧ r < e1 1 from by omega) (show 0 ≤ d9 ∧ d9 ≤ 999 from by omega) (show 0 ≤ n ∧ n ≤ 40 from by omega)) lk_X4_207 ⟨rfl, (va_P_app.mp hP).1, (va_D_app hD).1.weaken (fun _ _ _ _ => trivial)⟩ (va_recv hK.1 hP1 (ci := 0) (q0 := 0) rfl rfl) rfl rfl rfl (Rm.of rfl) rfl rfl dX4_haste_44) hP hD hS hA (fun x9 u4 H locs hw hP hD hS => ?_)
        have hP : va_P g.1 vwCl ((wF g fo b tr o1 ++ (wLs g b e1 e10 e11 ++ (wLs g tr (u4 201) (u4 210) (u4 211)))) ++ (wX g a b d fo tp sh f1 f20)) H := hP
        have hD : va_D (va_A (wX g a b d fo tp sh f1 f20 ++ (wF g fo b tr o1 ++ (wLs g b e1 e10 e11 ++ (wLs g tr t1 t10 t11)))) s.heap.size) ((wF g fo b tr o1 ++ (wLs g b e1 e10 e11 ++ (wLs g tr (u4 201) (u4 210) (u4 211)))) ++ (wX g a b d fo tp sh f1 f20)) := hD
        rw [List.append_assoc, List.append_assoc] at hP hD
        obtain rfl : x9 = iI (if 9 < fsT (hsP e1 r d9 n) 10 0 then -1 else (fsT (hsP e1 r d9 n) 10 0 : Int)) := hw
        have hP : va_P g.1 vwCl (wF g fo b tr o1 ++ (wLs g b e1 e10 e11 ++ (wLs g tr (u4 201) (u4 210) (u4 211) ++ (wX g a b d fo tp sh f1 f20)))) H := hP
        have hD : va_D (va_A (wX g a b d fo tp sh f1 f20 ++ (wF g fo b tr o1 ++ (wLs g b e1 e10 e11 ++ (wLs g tr t1 t10 t11)))) s.heap.size) (wF g fo b tr o1 ++ (wLs g b e1 e10 e11 ++ (wLs g tr (u4 201) (u4 210) (u4 211) ++ (wX g a b d fo tp sh f1 f20)))) := hD
        obtain ⟨hP1, hPr0⟩ := va_P_app.mp hP
        obtain ⟨hP2, hPr1⟩ := va_P_app.mp hPr0
        obtain ⟨hP3, hP0⟩ := va_P_app.mp hPr1
        rcases (show ((if 9 < fsT (hsP e1 r d9 n) 10 0 then -1 else (fsT (hsP e1 r d9 n) 10 0 : Int)) < 0) ∨ (0 ≤ (if 9 < fsT (hsP e1 r d9 n) 10 0 then -1 else (fsT (hsP e1 r d9 n) 10 0 : Int))) from by omega) with z5 | z5
        · have hD : va_D (va_A (wX g a b d fo tp sh f1 f20 ++ (wF g fo b tr o1 ++ (wLs g b e1 e10 e11 ++ (wLs g tr t1 t10 t11)))) s.heap.size) (wF g fo b tr o1 ++ (wLs g b e1 e10 e11 ++ (wX g a b d fo tp sh f1 f20 ++ (wLs g tr (u4 201) (u4 210) (u4 211))))) := D_perm (List.Perm.append_left _ (List.Perm.append_left _ (List.perm_append_comm))) hD
          have hD : va_D (va_A (wX g a b d fo tp sh f1 f20 ++ (wF g fo b tr o1 ++ (wLs g b e1 e10 e11 ++ (wLs g tr t1 t10 t11)))) s.heap.size) (wF g fo b tr o1 ++ (wX g a b d fo tp sh f1 f20 ++ (wLs g b e1 e10 e11 ++ (wLs g tr (u4 201) (u4 210) (u4 211))))) := D_perm (List.Perm.append_left _ (List.perm_append_comm_assoc _ _ _)) hD
          have hD : va_D (va_A (wX g a b d fo tp sh f1 f20 ++ (wF g fo b tr o1 ++ (wLs g b e1 e10 e11 ++ (wLs g tr t1 t10 t11)))) s.heap.size) (wX g a b d fo tp sh f1 f20 ++ (wF g fo b tr o1 ++ (wLs g b e1 e10 e11 ++ (wLs g tr (u4 201) (u4 210) (u4 211))))) := D_perm (List.perm_append_comm_assoc _ _ _) hD
          have hP : va_P g.1 vwCl (wX g a b d fo tp sh f1 f20 ++ (wF g fo b tr o1 ++ (wLs g b e1 e10 e11 ++ (wLs g tr (u4 201) (u4 210) (u4 211))))) H := va_P_app.mpr ⟨hP0, va_P_app.mpr ⟨hP1, va_P_app.mpr ⟨hP2, hP3⟩⟩⟩
          refine xmF_i (rV (rest := []) hx hb hml hown hts hK hl (c_X4_orNoneN l g b d fo tp sh a f1 f20 (if 9 < fsT (hsP e1 r d9 n) 10 0 then -1 else (fsT (hsP e1 r d9 n) 10 0 : Int)) H.size (show IR (if 9 < fsT (hsP e1 r d9 n) 10 0 then -1 else (fsT (hsP e1 r d9 n) 10 0 : Int)) from ⟨by omega, by omega⟩) (show (if 9 < fsT (hsP e1 r d9 n) 10 0 then -1 else (fsT (hsP e1 r d9 n) 10 0 : Int)) < 0 from by omega)) lk_X4_189 ⟨rfl, hP0, (va_D_app hD).1.weaken (fun _ _ _ _ => trivial)⟩ (va_recv hK.1 hP0 (ci := 4) (q0 := 0) rfl rfl) rfl rfl rfl (Rm.of rfl) rfl rfl dX4_haste_47) hP hD hS hA (fun x9 _ H locs hw hP hD hS => ?_)
          obtain rfl : x9 = iI (-1000000004) := hw
          have hP : va_P g.1 vwCl (wX g a b d fo tp sh (fb (-1000000000 - (-1000000004)) f1) f20 ++ (wF g fo b tr o1 ++ (wLs g b e1 e10 e11 ++ (wLs g tr (u4 201) (u4 210) (u4 211))))) H := hP
          have hD : va_D (va_A (wX g a b d fo tp sh f1 f20 ++ (wF g fo b tr o1 ++ (wLs g b e1 e10 e11 ++ (wLs g tr t1 t10 t11)))) s.heap.size) (wX g a b d fo tp sh (fb (-1000000000 - (-1000000004)) f1) f20 ++ (wF g fo b tr o1 ++ (wLs g b e1 e10 e11 ++ (wLs g tr (u4 201) (u4 210) (u4 211))))) := hD
          obtain ⟨hP0, hPr0⟩ := va_P_app.mp hP
          obtain ⟨hP1, hPr1⟩ := va_P_app.mp hPr0
          obtain ⟨hP2, hP3⟩ := va_P_app.mp hPr1
          have hf : fHst e1 r d9 n = 4 := by unfold fHst; (repeat (first | rw [if_pos (by omega)] | rw [if_neg (by omega)])); first | done | (exfalso; omega)
          have he7 : (fb (-1000000000 - (-1000000004)) f1) = (fb (fHst e1 r d9 n) f1) := by rw [hf]; rfl
          have hP := Eq.mp (congrArg (fun z9 => va_P g.1 vwCl (wX g a b d fo tp sh z9 f20 ++ (wF g fo b tr o1 ++ (wLs g b e1 e10 e11 ++ (wLs g tr (u4 201) (u4 210) (u4 211))))) H) he7) hP
          have hD := Eq.mp (congrArg (fun z9 => va_D (va_A (wX g a b d fo tp sh f1 f20 ++ (wF g fo b tr o1 ++ (wLs g b e1 e10 e11 ++ (wLs g tr t1 t10 t11)))) s.heap.size) (wX g a b d fo tp sh z9 f20 ++ (wF g fo b tr o1 ++ (wLs g b e1 e10 e11 ++ (wLs g tr (u4 201) (u4 210) (u4 211)))))) he7) hD
          obtain ⟨hP0, hPr0⟩ := va_P_app.mp hP
          obtain ⟨hP1, hPr1⟩ := va_P_app.mp hPr0
          obtain ⟨hP2, hP3⟩ := va_P_app.mp hPr1
          have hP : va_P g.1 vwCl (wX g a b d fo tp sh (fb (fHst e1 r d9 n) f1) f20 ++ (wF g fo b tr o1 ++ (wLs g b e1 e10 e11 ++ (wLs g tr ((su (su (su (fun _ _ => 0) 301 (u4 201)) 310 (u4 210)) 311 (u4 211)) 301) ((su (su (su (fun _ _ => 0) 301 (u4 201)) 310 (u4 210)) 311 (u4 211)) 310) ((su (su (su (fun _ _ => 0) 301 (u4 201)) 310 (u4 210)) 311 (u4 211)) 311))))) H := hP
          have hD : va_D (va_A (wX g a b d fo tp sh f1 f20 ++ (wF g fo b tr o1 ++ (wLs g b e1 e10 e11 ++ (wLs g tr t1 t10 t11)))) s.heap.size) (wX g a b d fo tp sh (fb (fHst e1 r d9 n) f1) f20 ++ (wF g fo b tr o1 ++ (wLs g b e1 e10 e11 ++ (wLs g tr ((su (su (su (fun _ _ => 0) 301 (u4 201)) 310 (u4 210)) 311 (u4 211)) 301) ((su (su (su (fun _ _ => 0) 301 (u4 201)) 310 (u4 210)) 311 (u4 211)) 310) ((su (su (su (fun _ _ => 0) 301 (u4 201)) 310 (u4 210)) 311 (u4 211)) 311))))) := hD
          exact W.iret hx hb hr (fun t ht hW => ⟨⟨_, (su (su (su (fun _ _ => 0) 301 (u4 201)) 310 (u4 210)) 311 (u4 211)), rfl, by rw [hf]; rfl, by rw [ht]; exact hP, hD⟩, hS.F ht⟩) hS.2.2 dX4_haste_50
        · have hD : va_D (va_A (wX g a b d fo tp sh f1 f20 ++ (wF g fo b tr o1 ++ (wLs g b e1 e10 e11 ++ (wLs g tr t1 t10 t11)))) s.heap.size) (wF g fo b tr o1 ++ (wLs g b e1 e10 e11 ++ (wX g a b d fo tp sh f1 f20 ++ (wLs g tr (u4 201) (u4 210) (u4 211))))) := D_perm (List.Perm.append_left _ (List.Perm.append_left _ (List.perm_append_comm))) hD
          have hD : va_D (va_A (wX g a b d fo tp sh f1 f20 ++ (wF g fo b tr o1 ++ (wLs g b e1 e10 e11 ++ (wLs g tr t1 t10 t11)))) s.heap.size) (wF g fo b tr o1 ++ (wX g a b d fo tp sh f1 f20 ++ (wLs g b e1 e10 e11 ++ (wLs g tr (u4 201) (u4 210) (u4 211))))) := D_perm (List.Perm.append_left _ (List.perm_append_comm_assoc _ _ _)) hD
          have hD : va_D (va_A (wX g a b d fo tp sh f1 f20 ++ (wF g fo b tr o1 ++ (wLs g b e1 e10 e11 ++ (wLs g tr t1 t10 t11)))) s.heap.size) (wX g a b d fo tp sh f1 f20 ++ (wF g fo b tr o1 ++ (wLs g b e1 e10 e11 ++ (wLs g tr (u4 201) (u4 210) (u4 211))))) := D_perm (List.perm_append_comm_assoc _ _ _) hD
          have hP : va_P g.1 vwCl (wX g a b d fo tp sh f1 f20 ++ (wF g fo b tr o1 ++ (wLs g b e1 e10 e11 ++ (wLs g tr (u4 201) (u4 210) (u4 211))))) H := va_P_app.mpr ⟨hP0, va_P_app.mpr ⟨hP1, va_P_app.mpr ⟨hP2, hP3⟩⟩⟩
          refine xmF_i (rV (rest := []) hx hb hml hown hts hK hl (c_X4_orNoneP l g b d fo tp sh a f1 f20 (if 9 < fsT (hsP e1 r d9 n) 10 0 then -1 else (fsT (hsP e1 r d9 n) 10 0 : Int)) H.size (show IR (if 9 < fsT (hsP e1 r d9 n) 10 0 then -1 else (fsT (hsP e1 r d9 n) 10 0 : Int)) from ⟨by omega, by omega⟩) (show 0 ≤ (if 9 < fsT (hsP e1 r d9 n) 10 0 then -1 else (fsT (hsP e1 r d9 n) 10 0 : Int)) from by omega)) lk_X4_189 ⟨rfl, hP0, (va_D_app hD).1.weaken (fun _ _ _ _ => trivial)⟩ (va_recv hK.1 hP0 (ci := 4) (q0 := 0) rfl rfl) rfl rfl rfl (Rm.of rfl) rfl rfl dX4_haste_47) hP hD hS hA (fun x9 _ H locs hw hP hD hS => ?_)
          obtain rfl : x9 = iI (if 9 < fsT (hsP e1 r d9 n) 10 0 then -1 else (fsT (hsP e1 r d9 n) 10 0 : Int)) := hw
          have hP : va_P g.1 vwCl (wX g a b d fo tp sh f1 f20 ++ (wF g fo b tr o1 ++ (wLs g b e1 e10 e11 ++ (wLs g tr (u4 201) (u4 210) (u4 211))))) H := hP
          have hD : va_D (va_A (wX g a b d fo tp sh f1 f20 ++ (wF g fo b tr o1 ++ (wLs g b e1 e10 e11 ++ (wLs g tr t1 t10 t11)))) s.heap.size) (wX g a b d fo tp sh f1 f20 ++ (wF g fo b tr o1 ++ (wLs g b e1 e10 e11 ++ (wLs g tr (u4 201) (u4 210) (u4 211))))) := hD
          obtain ⟨hP0, hPr0⟩ := va_P_app.mp hP
          obtain ⟨hP1, hPr1⟩ := va_P_app.mp hPr0
          obtain ⟨hP2, hP3⟩ := va_P_app.mp hPr1
          have hf : fHst e1 r d9 n = 0 := by unfold fHst; (repeat (first | rw [if_pos (by omega)] | rw [if_neg (by omega)])); first | done | (exfalso; omega)
          have he9 : f1 = (fb (fHst e1 r d9 n) f1) := by rw [hf]; rfl
          have hP := Eq.mp (congrArg (fun z9 => va_P g.1 vwCl (wX g a b d fo tp sh z9 f20 ++ (wF g fo b tr o1 ++ (wLs g b e1 e10 e11 ++ (wLs g tr (u4 201) (u4 210) (u4 211))))) H) he9) hP
          have hD := Eq.mp (congrArg (fun z9 => va_D (va_A (wX g a b d fo tp sh f1 f20 ++ (wF g fo b tr o1 ++ (wLs g b e1 e10 e11 ++ (wLs g tr t1 t10 t11)))) s.heap.size) (wX g a b d fo tp sh z9 f20 ++ (wF g fo b tr o1 ++ (wLs g b e1 e10 e11 ++ (wLs g tr (u4 201) (u4 210) (u4 211)))))) he9) hD
          obtain ⟨hP0, hPr0⟩ := va_P_app.mp hP
          obtain ⟨hP1, hPr1⟩ := va_P_app.mp hPr0
          obtain ⟨hP2, hP3⟩ := va_P_app.mp hPr1
          have hP : va_P g.1 vwCl (wX g a b d fo tp sh (fb (fHst e1 r d9 n) f1) f20 ++ (wF g fo b tr o1 ++ (wLs g b e1 e10 e11 ++ (wLs g tr ((su (su (su (fun _ _ => 0) 301 (u4 201)) 310 (u4 210)) 311 (u4 211)) 301) ((su (su (su (fun _ _ => 0) 301 (u4 201)) 310 (u4 210)) 311 (u4 211)) 310) ((su (su (su (fun _ _ => 0) 301 (u4 201)) 310 (u4 210)) 311 (u4 211)) 311))))) H := hP
          have hD : va_D (va_A (wX g a b d fo tp sh f1 f20 ++ (wF g fo b tr o1 ++ (wLs g b e1 e10 e11 ++ (wLs g tr t1 t10 t11)))) s.heap.size) (wX g a b d fo tp sh (fb (fHst e1 r d9 n) f1) f20 ++ (wF g fo b tr o1 ++ (wLs g b e1 e10 e11 ++ (wLs g tr ((su (su (su (fun _ _ => 0) 301 (u4 201)) 310 (u4 210)) 311 (u4 211)) 301) ((su (su (su (fun _ _ => 0) 301 (u4 201)) 310 (u4 210)) 311 (u4 211)) 310) ((su (su (su (fun _ _ => 0) 301 (u4 201)) 310 (u4 210)) 311 (u4 211)) 311))))) := hD
          exact W.iret hx hb hr (fun t ht hW => ⟨⟨_, (su (su (su (fun _ _ => 0) 301 (u4 201)) 310 (u4 210)) 311 (u4 211)), rfl, by rw [hf, ab_0]; exact congrArg iI (by omega), by rw [ht]; exact hP, hD⟩, hS.F ht⟩) hS.2.2 dX4_haste_50
      · refine xi_zf_ne hx hb ⟨by decide, by decide⟩ (by decide) dX4_haste_26 ⟨36, by decide⟩ ?_
        refine lv_aload_n hx hb dX4_haste_29 rfl (lv_at hl 0 rfl) ?_
        refine xi_ldc hx hb hown hts kk_X4_58 dX4_haste_30 ?_
        refine xmF_i (rV (rest := []) hx hb hml hown hts hK hl (c_X4_finding l g b d fo tp sh a f1 f20 (-1000000001) (s.heap).size (show 0 ≤ -1000000001 - (-1000000001) ∧ -1000000001 - (-1000000001) < 7 from by omega)) lk_X4_59 ⟨rfl, hP0, (va_D_app hD).1.weaken (fun _ _ _ _ => trivial)⟩ (va_recv hK.1 hP0 (ci := 4) (q0 := 0) rfl rfl) rfl rfl rfl (Rm.of rfl) rfl rfl dX4_haste_32) hP hD hS hA (fun x9 _ H locs hw hP hD hS => ?_)
        obtain rfl : x9 = iI (-1000000001) := hw
        have hP : va_P g.1 vwCl (wX g a b d fo tp sh (fb (-1000000000 - (-1000000001)) f1) f20 ++ (wF g fo b tr o1 ++ (wLs g b e1 e10 e11 ++ (wLs g tr t1 t10 t11)))) H := hP
        have hD : va_D (va_A (wX g a b d fo tp sh f1 f20 ++ (wF g fo b tr o1 ++ (wLs g b e1 e10 e11 ++ (wLs g tr t1 t10 t11)))) s.heap.size) (wX g a b d fo tp sh (fb (-1000000000 - (-1000000001)) f1) f20 ++ (wF g fo b tr o1 ++ (wLs g b e1 e10 e11 ++ (wLs g tr t1 t10 t11)))) := hD
        obtain ⟨hP0, hPr0⟩ := va_P_app.mp hP
        obtain ⟨hP1, hPr1⟩ := va_P_app.mp hPr0
        obtain ⟨hP2, hP3⟩ := va_P_app.mp hPr1
        have hf : fHst e1 r d9 n = 1 := by unfold fHst; (repeat (first | rw [if_pos (by omega)] | rw [if_neg (by omega)])); first | done | (exfalso; omega)
        have he11 : (fb (-1000000000 - (-1000000001)) f1) = (fb (fHst e1 r d9 n) f1) := by rw [hf]; rfl
        have hP := Eq.mp (congrArg (fun z9 => va_P g.1 vwCl (wX g a b d fo tp sh z9 f20 ++ (wF g fo b tr o1 ++ (wLs g b e1 e10 e11 ++ (wLs g tr t1 t10 t11)))) H) he11) hP
        have hD := Eq.mp (congrArg (fun z9 => va_D (va_A (wX g a b d fo tp sh f1 f20 ++ (wF g fo b tr o1 ++ (wLs g b e1 e10 e11 ++ (wLs g tr t1 t10 t11)))) s.heap.size) (wX g a b d fo tp sh z9 f20 ++ (wF g fo b tr o1 ++ (wLs g b e1 e10 e11 ++ (wLs g tr t1 t10 t11))))) he11) hD
        obtain ⟨hP0, hPr0⟩ := va_P_app.mp hP
        obtain ⟨hP1, hPr1⟩ := va_P_app.mp hPr0
        obtain ⟨hP2, hP3⟩ := va_P_app.mp hPr1
        have hP : va_P g.1 vwCl (wX g a b d fo tp sh (fb (fHst e1 r d9 n) f1) f20 ++ (wF g fo b tr o1 ++ (wLs g b e1 e10 e11 ++ (wLs g tr ((su (su (su (fun _ _ => 0) 301 t1) 310 t10) 311 t11) 301) ((su (su (su (fun _ _ => 0) 301 t1) 310 t10) 311 t11) 310) ((su (su (su (fun _ _ => 0) 301 t1) 310 t10) 311 t11) 311))))) H := hP
        have hD : va_D (va_A (wX g a b d fo tp sh f1 f20 ++ (wF g fo b tr o1 ++ (wLs g b e1 e10 e11 ++ (wLs g tr t1 t10 t11)))) s.heap.size) (wX g a b d fo tp sh (fb (fHst e1 r d9 n) f1) f20 ++ (wF g fo b tr o1 ++ (wLs g b e1 e10 e11 ++ (wLs g tr ((su (su (su (fun _ _ => 0) 301 t1) 310 t10) 311 t11) 301) ((su (su (su (fun _ _ => 0) 301 t1) 310 t10) 311 t11) 310) ((su (su (su (fun _ _ => 0) 301 t1) 310 t10) 311 t11) 311))))) := hD
        exact W.iret hx hb hr (fun t ht hW => ⟨⟨_, (su (su (su (fun _ _ => 0) 301 t1) 310 t10) 311 t11), rfl, by rw [hf]; rfl, by rw [ht]; exact hP, hD⟩, hS.F ht⟩) hS.2.2 dX4_haste_35
    · refine xi_zt_eq (tgt := 29) hx hb ⟨by decide, by decide⟩ (by decide) dX4_haste_16 (by decide) ?_
      refine lv_aload_n hx hb dX4_haste_29 rfl (lv_at hl 0 rfl) ?_
      refine xi_ldc hx hb hown hts kk_X4_58 dX4_haste_30 ?_
      refine xmF_i (rV (rest := []) hx hb hml hown hts hK hl (c_X4_finding l g b d fo tp sh a f1 f20 (-1000000001) (s.heap).size (show 0 ≤ -1000000001 - (-1000000001) ∧ -1000000001 - (-1000000001) < 7 from by omega)) lk_X4_59 ⟨rfl, hP0, (va_D_app hD).1.weaken (fun _ _ _ _ => trivial)⟩ (va_recv hK.1 hP0 (ci := 4) (q0 := 0) rfl rfl) rfl rfl rfl (Rm.of rfl) rfl rfl dX4_haste_32) hP hD hS hA (fun x9 _ H locs hw hP hD hS => ?_)
      obtain rfl : x9 = iI (-1000000001) := hw
      have hP : va_P g.1 vwCl (wX g a b d fo tp sh (fb (-1000000000 - (-1000000001)) f1) f20 ++ (wF g fo b tr o1 ++ (wLs g b e1 e10 e11 ++ (wLs g tr t1 t10 t11)))) H := hP
      have hD : va_D (va_A (wX g a b d fo tp sh f1 f20 ++ (wF g fo b tr o1 ++ (wLs g b e1 e10 e11 ++ (wLs g tr t1 t10 t11)))) s.heap.size) (wX g a b d fo tp sh (fb (-1000000000 - (-1000000001)) f1) f20 ++ (wF g fo b tr o1 ++ (wLs g b e1 e10 e11 ++ (wLs g tr t1 t10 t11)))) := hD
      obtain ⟨hP0, hPr0⟩ := va_P_app.mp hP
      obtain ⟨hP1, hPr1⟩ := va_P_app.mp hPr0
      obtain ⟨hP2, hP3⟩ := va_P_app.mp hPr1
      have hf : fHst e1 r d9 n = 1 := by unfold fHst; (repeat (first | rw [if_pos (by omega)] | rw [if_neg (by omega)])); first | done | (exfalso; omega)
      have he13 : (fb (-1000000000 - (-1000000001)) f1) = (fb (fHst e1 r d9 n) f1) := by rw [hf]; rfl
      have hP := Eq.mp (congrArg (fun z9 => va_P g.1 vwCl (wX g a b d fo tp sh z9 f20 ++ (wF g fo b tr o1 ++ (wLs g b e1 e10 e11 ++ (wLs g tr t1 t10 t11)))) H) he13) hP
      have hD := Eq.mp (congrArg (fun z9 => va_D (va_A (wX g a b d fo tp sh f1 f20 ++ (wF g fo b tr o1 ++ (wLs g b e1 e10 e11 ++ (wLs g tr t1 t10 t11)))) s.heap.size) (wX g a b d fo tp sh z9 f20 ++ (wF g fo b tr o1 ++ (wLs g b e1 e10 e11 ++ (wLs g tr t1 t10 t11))))) he13) hD
      obtain ⟨hP0, hPr0⟩ := va_P_app.mp hP
      obtain ⟨hP1, hPr1⟩ := va_P_app.mp hPr0
      obtain ⟨hP2, hP3⟩ := va_P_app.mp hPr1
      have hP : va_P g.1 vwCl (wX g a b d fo tp sh (fb (fHst e1 r d9 n) f1) f20 ++ (wF g fo b tr o1 ++ (wLs g b e1 e10 e11 ++ (wLs g tr ((su (su (su (fun _ _ => 0) 301 t1) 310 t10) 311 t11) 301) ((su (su (su (fun _ _ => 0) 301 t1) 310 t10) 311 t11) 310) ((su (su (su (fun _ _ => 0) 301 t1) 310 t10) 311 t11) 311))))) H := hP
      have hD : va_D (va_A (wX g a b d fo tp sh f1 f20 ++ (wF g fo b tr o1 ++ (wLs g b e1 e10 e11 ++ (wLs g tr t1 t10 t11)))) s.heap.size) (wX g a b d fo tp sh (fb (fHst e1 r d9 n) f1) f20 ++ (wF g fo b tr o1 ++ (wLs g b e1 e10 e11 ++ (wLs g tr ((su (su (su (fun _ _ => 0) 301 t1) 310 t10) 311 t11) 301) ((su (su (su (fun _ _ => 0) 301 t1) 310 t10) 311 t11) 310) ((su (su (su (fun _ _ => 0) 301 t1) 310 t10) 311 t11) 311))))) := hD
      exact W.iret hx hb hr (fun t ht hW => ⟨⟨_, (su (su (su (fun _ _ => 0) 301 t1) 310 t10) 311 t11), rfl, by rw [hf]; rfl, by rw [ht]; exact hP, hD⟩, hS.F ht⟩) hS.2.2 dX4_haste_35
  · refine xi_zt_eq (tgt := 29) hx hb ⟨by decide, by decide⟩ (by decide) dX4_haste_5 (by decide) ?_
    refine lv_aload_n hx hb dX4_haste_29 rfl (lv_at hl 0 rfl) ?_
    refine xi_ldc hx hb hown hts kk_X4_58 dX4_haste_30 ?_
    refine xmF_i (rV (rest := []) hx hb hml hown hts hK hl (c_X4_finding l g b d fo tp sh a f1 f20 (-1000000001) (s.heap).size (show 0 ≤ -1000000001 - (-1000000001) ∧ -1000000001 - (-1000000001) < 7 from by omega)) lk_X4_59 ⟨rfl, hP0, (va_D_app hD).1.weaken (fun _ _ _ _ => trivial)⟩ (va_recv hK.1 hP0 (ci := 4) (q0 := 0) rfl rfl) rfl rfl rfl (Rm.of rfl) rfl rfl dX4_haste_32) hP hD hS hA (fun x9 _ H locs hw hP hD hS => ?_)
    obtain rfl : x9 = iI (-1000000001) := hw
    have hP : va_P g.1 vwCl (wX g a b d fo tp sh (fb (-1000000000 - (-1000000001)) f1) f20 ++ (wF g fo b tr o1 ++ (wLs g b e1 e10 e11 ++ (wLs g tr t1 t10 t11)))) H := hP
    have hD : va_D (va_A (wX g a b d fo tp sh f1 f20 ++ (wF g fo b tr o1 ++ (wLs g b e1 e10 e11 ++ (wLs g tr t1 t10 t11)))) s.heap.size) (wX g a b d fo tp sh (fb (-1000000000 - (-1000000001)) f1) f20 ++ (wF g fo b tr o1 ++ (wLs g b e1 e10 e11 ++ (wLs g tr t1 t10 t11)))) := hD
    obtain ⟨hP0, hPr0⟩ := va_P_app.mp hP
    obtain ⟨hP1, hPr1⟩ := va_P_app.mp hPr0
    obtain ⟨hP2, hP3⟩ := va_P_app.mp hPr1
    have hf : fHst e1 r d9 n = 1 := by unfold fHst; (repeat (first | rw [if_pos (by omega)] | rw [if_neg (by omega)])); first | done | (exfalso; omega)
    have he15 : (fb (-1000000000 - (-1000000001)) f1) = (fb (fHst e1 r d9 n) f1) := by rw [hf]; rfl
    have hP := Eq.mp (congrArg (fun z9 => va_P g.1 vwCl (wX g a b d fo tp sh z9 f20 ++ (wF g fo b tr o1 ++ (wLs g b e1 e10 e11 ++ (wLs g tr t1 t10 t11)))) H) he15) hP
    have hD := Eq.mp (congrArg (fun z9 => va_D (va_A (wX g a b d fo tp sh f1 f20 ++ (wF g fo b tr o1 ++ (wLs g b e1 e10 e11 ++ (wLs g tr t1 t10 t11)))) s.heap.size) (wX g a b d fo tp sh z9 f20 ++ (wF g fo b tr o1 ++ (wLs g b e1 e10 e11 ++ (wLs g tr t1 t10 t11))))) he15) hD
    obtain ⟨hP0, hPr0⟩ := va_P_app.mp hP
    obtain ⟨hP1, hPr1⟩ := va_P_app.mp hPr0
    obtain ⟨hP2, hP3⟩ := va_P_app.mp hPr1
    have hP : va_P g.1 vwCl (wX g a b d fo tp sh (fb (fHst e1 r d9 n) f1) f20 ++ (wF g fo b tr o1 ++ (wLs g b e1 e10 e11 ++ (wLs g tr ((su (su (su (fun _ _ => 0) 301 t1) 310 t10) 311 t11) 301) ((su (su (su (fun _ _ => 0) 301 t1) 310 t10) 311 t11) 310) ((su (su (su (fun _ _ => 0) 301 t1) 310 t10) 311 t11) 311))))) H := hP
    have hD : va_D (va_A (wX g a b d fo tp sh f1 f20 ++ (wF g fo b tr o1 ++ (wLs g b e1 e10 e11 ++ (wLs g tr t1 t10 t11)))) s.heap.size) (wX g a b d fo tp sh (fb (fHst e1 r d9 n) f1) f20 ++ (wF g fo b tr o1 ++ (wLs g b e1 e10 e11 ++ (wLs g tr ((su (su (su (fun _ _ => 0) 301 t1) 310 t10) 311 t11) 301) ((su (su (su (fun _ _ => 0) 301 t1) 310 t10) 311 t11) 310) ((su (su (su (fun _ _ => 0) 301 t1) 310 t10) 311 t11) 311))))) := hD
    exact W.iret hx hb hr (fun t ht hW => ⟨⟨_, (su (su (su (fun _ _ => 0) 301 t1) 310 t10) 311 t11), rfl, by rw [hf]; rfl, by rw [ht]; exact hP, hD⟩, hS.F ht⟩) hS.2.2 dX4_haste_35
abbrev rm_X4_best : Room := { frames := 5, cells := 0, slots := 0, locals := 126 }
set_option maxRecDepth 100000 in
set_option maxHeartbeats 4000000 in
theorem c_X4_best (l : Launch) (g : Gd) (d : Nat → Nat) (tp : Nat → Nat) (sh : Nat → Nat) (a : Nat → Nat) (f1 : Int → Int) (f20 : Int) (fo : Nat → Nat) (o1 : Int → Int) (b : Nat → Nat) (e1 : Int → Int) (e10 : Int → Int) (e11 : Int → Int) (tr : Nat → Nat) (t1 : Int → Int) (t10 : Int → Int) (t11 : Int → Int) (w : Int) (n : Int) (sz : Nat) (h1 : InvK 0 e1) (h2 : e1 0 ≤ 9999) (h3 : IR w) (h4 : IR n) : Met l yX4_best (wsOf yX4_best cX4_best 3 (some .int)) rm_X4_best (PX g (wP g (wX g a b d fo tp sh f1 f20 ++ (wF g fo b tr o1 ++ (wLs g b e1 e10 e11 ++ (wLs g tr t1 t10 t11)))) sz) [.ref (a 0), .int (iI w), .int (iI n)]) (QMi g (fun u9 : Nat → Int → Int => wX g a b d fo tp sh (fb (fBest w n) f1) f20 ++ (wF g fo b tr o1 ++ (wLs g b e1 e10 e11 ++ (wLs g tr (u9 301) (u9 310) (u9 311))))) (fun r9 _ => r9 = ab (fBest w n) (iI (bmT (beV e1 w n) (fun k => (k : Int) - 9) 19).1)) (va_A (wX g a b d fo tp sh f1 f20 ++ (wF g fo b tr o1 ++ (wLs g b e1 e10 e11 ++ (wLs g tr t1 t10 t11)))) sz)) 0 0 (va_A (wX g a b d fo tp sh f1 f20 ++ (wF g fo b tr o1 ++ (wLs g b e1 e10 e11 ++ (wLs g tr t1 t10 t11)))) sz) := by
  refine me (g := g) (by decide) rfl ?_
  intro pq eq s mq below meth cq C hnm hB ls hl
  obtain ⟨hx, hb, hr, hml, hown, hts, hlocks, hK⟩ := C
  have hown : s.vm.findClass RX4 = some mq.cls := hown
  have hl : lv_has ls 3 [(0, .ref (a 0)), (1, .int (iI w)), (2, .int (iI n))] := hl
  obtain ⟨hsz, hP, hD0⟩ := hB
  subst hsz
  have hD := hD0.self (sz := s.heap.size)
  have hA : ∀ q : Nat, s.heap.size ≤ q → va_A (wX g a b d fo tp sh f1 f20 ++ (wF g fo b tr o1 ++ (wLs g b e1 e10 e11 ++ (wLs g tr t1 t10 t11)))) s.heap.size q := fun q h => Or.inr h
  have hS : va_S (va_A (wX g a b d fo tp sh f1 f20 ++ (wF g fo b tr o1 ++ (wLs g b e1 e10 e11 ++ (wLs g tr t1 t10 t11)))) s.heap.size) s.heap s.heap [] := va_S.rf
  obtain ⟨hP0, hPr0⟩ := va_P_app.mp hP
  obtain ⟨hP1, hPr1⟩ := va_P_app.mp hPr0
  obtain ⟨hP2, hP3⟩ := va_P_app.mp hPr1
  have hI := h1
  have hI8 : Inv e1 := h1.mono (by omega)
  have hn := hI.num
  have hs := hI.sea
  have hv := hI.vil
  have q1 := h3.1
  have q3 := h4.1
  have q2 := h3.2
  have q4 := h4.2
  refine lv_iload_n hx hb dX4_best_0 rfl (lv_at hl 1 rfl) ?_
  refine lv_iconst (v := iI (0)) hx hb dX4_best_1 (by decide) ?_
  refine lv_iconst (v := iI (3)) hx hb dX4_best_2 (by decide) ?_
  refine xu_b (P := 0 ≤ w ∧ w ≤ 3) (rS (rest := []) hx hb hml hown hts hK hl (c_X4_isBetween l g w 0 3 (show IR w from ⟨by omega, by omega⟩) (show IR 0 from ⟨by omega, by omega⟩) (show IR 3 from ⟨by omega, by omega⟩)) lk_X4_99 trivial rfl rfl rfl (Rm.of rfl) rfl rfl dX4_best_3) (fun z1 => ?_) (fun z1 => ?_)
  · refine xi_zf_eq hx hb ⟨by decide, by decide⟩ (by decide) dX4_best_6 ⟨19, by decide⟩ ?_
    refine lv_iload_n hx hb dX4_best_9 rfl (lv_at hl 2 rfl) ?_
    refine lv_iconst (v := iI (0)) hx hb dX4_best_10 (by decide) ?_
    refine lv_bipush (v := iI (40)) hx hb dX4_best_11 (by decide) ?_
    refine xu_b (P := 0 ≤ n ∧ n ≤ 40) (rS (rest := []) hx hb hml hown hts hK hl (c_X4_isBetween l g n 0 40 (show IR n from ⟨by omega, by omega⟩) (show IR 0 from ⟨by omega, by omega⟩) (show IR 40 from ⟨by omega, by omega⟩)) lk_X4_99 trivial rfl rfl rfl (Rm.of rfl) rfl rfl dX4_best_13) (fun z2 => ?_) (fun z2 => ?_)
    · refine xi_zt_ne (tgt := 26) hx hb ⟨by decide, by decide⟩ (by decide) dX4_best_16 (by decide) ?_
      refine lv_aload_n hx hb dX4_best_26 rfl (lv_at hl 0 rfl) ?_
      refine xg_X4 hx hb hts hown hK hP0 0 rfl 2 (by decide) fk_X4_24 (v := .ref (fo 0)) rfl dX4_best_27 ?_
      refine lv_iload_n hx hb dX4_best_30 rfl (lv_at hl 1 rfl) ?_
      refine lv_iload_n hx hb dX4_best_31 rfl (lv_at hl 2 rfl) ?_
      have hD : va_D (va_A (wX g a b d fo tp sh f1 f20 ++ (wF g fo b tr o1 ++ (wLs g b e1 e10 e11 ++ (wLs g tr t1 t10 t11)))) s.heap.size) (wF g fo b tr o1 ++ (wX g a b d fo tp sh f1 f20 ++ (wLs g b e1 e10 e11 ++ (wLs g tr t1 t10 t11)))) := D_perm (List.perm_append_comm_assoc _ _ _) hD
      have hD : va_D (va_A (wX g a b d fo tp sh f1 f20 ++ (wF g fo b tr o1 ++ (wLs g b e1 e10 e11 ++ (wLs g tr t1 t10 t11)))) s.heap.size) (wF g fo b tr o1 ++ (wLs g b e1 e10 e11 ++ (wX g a b d fo tp sh f1 f20 ++ (wLs g tr t1 t10 t11)))) := D_perm (List.Perm.append_left _ (List.perm_append_comm_assoc _ _ _)) hD
      have hD : va_D (va_A (wX g a b d fo tp sh f1 f20 ++ (wF g fo b tr o1 ++ (wLs g b e1 e10 e11 ++ (wLs g tr t1 t10 t11)))) s.heap.size) (wF g fo b tr o1 ++ (wLs g b e1 e10 e11 ++ (wLs g tr t1 t10 t11 ++ (wX g a b d fo tp sh f1 f20)))) := D_perm (List.Perm.append_left _ (List.Perm.append_left _ (List.perm_append_comm))) hD
      have hP : va_P g.1 vwCl (wF g fo b tr o1 ++ (wLs g b e1 e10 e11 ++ (wLs g tr t1 t10 t11 ++ (wX g a b d fo tp sh f1 f20)))) s.heap := va_P_app.mpr ⟨hP1, va_P_app.mpr ⟨hP2, va_P_app.mpr ⟨hP3, hP0⟩⟩⟩
      have hP : va_P g.1 vwCl ((wF g fo b tr o1 ++ (wLs g b e1 e10 e11 ++ (wLs g tr t1 t10 t11))) ++ (wX g a b d fo tp sh f1 f20)) s.heap := by rw [List.append_assoc, List.append_assoc]; exact hP
      have hD : va_D (va_A (wX g a b d fo tp sh f1 f20 ++ (wF g fo b tr o1 ++ (wLs g b e1 e10 e11 ++ (wLs g tr t1 t10 t11)))) s.heap.size) ((wF g fo b tr o1 ++ (wLs g b e1 e10 e11 ++ (wLs g tr t1 t10 t11))) ++ (wX g a b d fo tp sh f1 f20)) := by rw [List.append_assoc, List.append_assoc]; exact hD
      refine xmF_i (rVN (rest := []) hx hb hml hown hts hK hl (c_X0_bestWeight l g fo o1 b e1 e10 e11 tr t1 t10 t11 w n (s.heap).size (show InvK 0 e1 from h1) (show e1 0 ≤ 9999 from by omega) (show 0 ≤ w ∧ w ≤ 3 from by omega) (show 0 ≤ n ∧ n ≤ 40 from by omega)) lk_X4_210 ⟨rfl, (va_P_app.mp hP).1, (va_D_app hD).1.weaken (fun _ _ _ _ => trivial)⟩ (va_recv hK.1 hP1 (ci := 0) (q0 := 0) rfl rfl) rfl rfl rfl (Rm.of rfl) rfl rfl dX4_best_32) hP hD hS hA (fun x9 u3 H locs hw hP hD hS => ?_)
      have hP : va_P g.1 vwCl ((wF g fo b tr o1 ++ (wLs g b e1 e10 e11 ++ (wLs g tr (u3 201) (u3 210) (u3 211)))) ++ (wX g a b d fo tp sh f1 f20)) H := hP
      have hD : va_D (va_A (wX g a b d fo tp sh f1 f20 ++ (wF g fo b tr o1 ++ (wLs g b e1 e10 e11 ++ (wLs g tr t1 t10 t11)))) s.heap.size) ((wF g fo b tr o1 ++ (wLs g b e1 e10 e11 ++ (wLs g tr (u3 201) (u3 210) (u3 211)))) ++ (wX g a b d fo tp sh f1 f20)) := hD
      rw [List.append_assoc, List.append_assoc] at hP hD
      obtain rfl : x9 = iI ((bmT (beV e1 w n) (fun k => (k : Int) - 9) 19).1) := hw
      have hP : va_P g.1 vwCl (wF g fo b tr o1 ++ (wLs g b e1 e10 e11 ++ (wLs g tr (u3 201) (u3 210) (u3 211) ++ (wX g a b d fo tp sh f1 f20)))) H := hP
      have hD : va_D (va_A (wX g a b d fo tp sh f1 f20 ++ (wF g fo b tr o1 ++ (wLs g b e1 e10 e11 ++ (wLs g tr t1 t10 t11)))) s.heap.size) (wF g fo b tr o1 ++ (wLs g b e1 e10 e11 ++ (wLs g tr (u3 201) (u3 210) (u3 211) ++ (wX g a b d fo tp sh f1 f20)))) := hD
      obtain ⟨hP1, hPr0⟩ := va_P_app.mp hP
      obtain ⟨hP2, hPr1⟩ := va_P_app.mp hPr0
      obtain ⟨hP3, hP0⟩ := va_P_app.mp hPr1
      have hD : va_D (va_A (wX g a b d fo tp sh f1 f20 ++ (wF g fo b tr o1 ++ (wLs g b e1 e10 e11 ++ (wLs g tr t1 t10 t11)))) s.heap.size) (wF g fo b tr o1 ++ (wLs g b e1 e10 e11 ++ (wX g a b d fo tp sh f1 f20 ++ (wLs g tr (u3 201) (u3 210) (u3 211))))) := D_perm (List.Perm.append_left _ (List.Perm.append_left _ (List.perm_append_comm))) hD
      have hD : va_D (va_A (wX g a b d fo tp sh f1 f20 ++ (wF g fo b tr o1 ++ (wLs g b e1 e10 e11 ++ (wLs g tr t1 t10 t11)))) s.heap.size) (wF g fo b tr o1 ++ (wX g a b d fo tp sh f1 f20 ++ (wLs g b e1 e10 e11 ++ (wLs g tr (u3 201) (u3 210) (u3 211))))) := D_perm (List.Perm.append_left _ (List.perm_append_comm_assoc _ _ _)) hD
      have hD : va_D (va_A (wX g a b d fo tp sh f1 f20 ++ (wF g fo b tr o1 ++ (wLs g b e1 e10 e11 ++ (wLs g tr t1 t10 t11)))) s.heap.size) (wX g a b d fo tp sh f1 f20 ++ (wF g fo b tr o1 ++ (wLs g b e1 e10 e11 ++ (wLs g tr (u3 201) (u3 210) (u3 211))))) := D_perm (List.perm_append_comm_assoc _ _ _) hD
      have hP : va_P g.1 vwCl (wX g a b d fo tp sh f1 f20 ++ (wF g fo b tr o1 ++ (wLs g b e1 e10 e11 ++ (wLs g tr (u3 201) (u3 210) (u3 211))))) H := va_P_app.mpr ⟨hP0, va_P_app.mpr ⟨hP1, va_P_app.mpr ⟨hP2, hP3⟩⟩⟩
      have hf : fBest w n = 0 := by unfold fBest; (repeat (first | rw [if_pos (by omega)] | rw [if_neg (by omega)])); first | done | (exfalso; omega)
      have he4 : f1 = (fb (fBest w n) f1) := by rw [hf]; rfl
      have hP := Eq.mp (congrArg (fun z9 => va_P g.1 vwCl (wX g a b d fo tp sh z9 f20 ++ (wF g fo b tr o1 ++ (wLs g b e1 e10 e11 ++ (wLs g tr (u3 201) (u3 210) (u3 211))))) H) he4) hP
      have hD := Eq.mp (congrArg (fun z9 => va_D (va_A (wX g a b d fo tp sh f1 f20 ++ (wF g fo b tr o1 ++ (wLs g b e1 e10 e11 ++ (wLs g tr t1 t10 t11)))) s.heap.size) (wX g a b d fo tp sh z9 f20 ++ (wF g fo b tr o1 ++ (wLs g b e1 e10 e11 ++ (wLs g tr (u3 201) (u3 210) (u3 211)))))) he4) hD
      obtain ⟨hP0, hPr0⟩ := va_P_app.mp hP
      obtain ⟨hP1, hPr1⟩ := va_P_app.mp hPr0
      obtain ⟨hP2, hP3⟩ := va_P_app.mp hPr1
      have hP : va_P g.1 vwCl (wX g a b d fo tp sh (fb (fBest w n) f1) f20 ++ (wF g fo b tr o1 ++ (wLs g b e1 e10 e11 ++ (wLs g tr ((su (su (su (fun _ _ => 0) 301 (u3 201)) 310 (u3 210)) 311 (u3 211)) 301) ((su (su (su (fun _ _ => 0) 301 (u3 201)) 310 (u3 210)) 311 (u3 211)) 310) ((su (su (su (fun _ _ => 0) 301 (u3 201)) 310 (u3 210)) 311 (u3 211)) 311))))) H := hP
      have hD : va_D (va_A (wX g a b d fo tp sh f1 f20 ++ (wF g fo b tr o1 ++ (wLs g b e1 e10 e11 ++ (wLs g tr t1 t10 t11)))) s.heap.size) (wX g a b d fo tp sh (fb (fBest w n) f1) f20 ++ (wF g fo b tr o1 ++ (wLs g b e1 e10 e11 ++ (wLs g tr ((su (su (su (fun _ _ => 0) 301 (u3 201)) 310 (u3 210)) 311 (u3 211)) 301) ((su (su (su (fun _ _ => 0) 301 (u3 201)) 310 (u3 210)) 311 (u3 211)) 310) ((su (su (su (fun _ _ => 0) 301 (u3 201)) 310 (u3 210)) 311 (u3 211)) 311))))) := hD
      exact W.iret hx hb hr (fun t ht hW => ⟨⟨_, (su (su (su (fun _ _ => 0) 301 (u3 201)) 310 (u3 210)) 311 (u3 211)), rfl, by rw [hf, ab_0], by rw [ht]; exact hP, hD⟩, hS.F ht⟩) hS.2.2 dX4_best_35
    · refine xi_zf_ne hx hb ⟨by decide, by decide⟩ (by decide) dX4_best_16 ⟨26, by decide⟩ ?_
      refine lv_aload_n hx hb dX4_best_19 rfl (lv_at hl 0 rfl) ?_
      refine xi_ldc hx hb hown hts kk_X4_58 dX4_best_20 ?_
      refine xmF_i (rV (rest := []) hx hb hml hown hts hK hl (c_X4_finding l g b d fo tp sh a f1 f20 (-1000000001) (s.heap).size (show 0 ≤ -1000000001 - (-1000000001) ∧ -1000000001 - (-1000000001) < 7 from by omega)) lk_X4_59 ⟨rfl, hP0, (va_D_app hD).1.weaken (fun _ _ _ _ => trivial)⟩ (va_recv hK.1 hP0 (ci := 4) (q0 := 0) rfl rfl) rfl rfl rfl (Rm.of rfl) rfl rfl dX4_best_22) hP hD hS hA (fun x9 _ H locs hw hP hD hS => ?_)
      obtain rfl : x9 = iI (-1000000001) := hw
      have hP : va_P g.1 vwCl (wX g a b d fo tp sh (fb (-1000000000 - (-1000000001)) f1) f20 ++ (wF g fo b tr o1 ++ (wLs g b e1 e10 e11 ++ (wLs g tr t1 t10 t11)))) H := hP
      have hD : va_D (va_A (wX g a b d fo tp sh f1 f20 ++ (wF g fo b tr o1 ++ (wLs g b e1 e10 e11 ++ (wLs g tr t1 t10 t11)))) s.heap.size) (wX g a b d fo tp sh (fb (-1000000000 - (-1000000001)) f1) f20 ++ (wF g fo b tr o1 ++ (wLs g b e1 e10 e11 ++ (wLs g tr t1 t10 t11)))) := hD
      obtain ⟨hP0, hPr0⟩ := va_P_app.mp hP
      obtain ⟨hP1, hPr1⟩ := va_P_app.mp hPr0
      obtain ⟨hP2, hP3⟩ := va_P_app.mp hPr1
      have hf : fBest w n = 1 := by unfold fBest; (repeat (first | rw [if_pos (by omega)] | rw [if_neg (by omega)])); first | done | (exfalso; omega)
      have he6 : (fb (-1000000000 - (-1000000001)) f1) = (fb (fBest w n) f1) := by rw [hf]; rfl
      have hP := Eq.mp (congrArg (fun z9 => va_P g.1 vwCl (wX g a b d fo tp sh z9 f20 ++ (wF g fo b tr o1 ++ (wLs g b e1 e10 e11 ++ (wLs g tr t1 t10 t11)))) H) he6) hP
      have hD := Eq.mp (congrArg (fun z9 => va_D (va_A (wX g a b d fo tp sh f1 f20 ++ (wF g fo b tr o1 ++ (wLs g b e1 e10 e11 ++ (wLs g tr t1 t10 t11)))) s.heap.size) (wX g a b d fo tp sh z9 f20 ++ (wF g fo b tr o1 ++ (wLs g b e1 e10 e11 ++ (wLs g tr t1 t10 t11))))) he6) hD
      obtain ⟨hP0, hPr0⟩ := va_P_app.mp hP
      obtain ⟨hP1, hPr1⟩ := va_P_app.mp hPr0
      obtain ⟨hP2, hP3⟩ := va_P_app.mp hPr1
      have hP : va_P g.1 vwCl (wX g a b d fo tp sh (fb (fBest w n) f1) f20 ++ (wF g fo b tr o1 ++ (wLs g b e1 e10 e11 ++ (wLs g tr ((su (su (su (fun _ _ => 0) 301 t1) 310 t10) 311 t11) 301) ((su (su (su (fun _ _ => 0) 301 t1) 310 t10) 311 t11) 310) ((su (su (su (fun _ _ => 0) 301 t1) 310 t10) 311 t11) 311))))) H := hP
      have hD : va_D (va_A (wX g a b d fo tp sh f1 f20 ++ (wF g fo b tr o1 ++ (wLs g b e1 e10 e11 ++ (wLs g tr t1 t10 t11)))) s.heap.size) (wX g a b d fo tp sh (fb (fBest w n) f1) f20 ++ (wF g fo b tr o1 ++ (wLs g b e1 e10 e11 ++ (wLs g tr ((su (su (su (fun _ _ => 0) 301 t1) 310 t10) 311 t11) 301) ((su (su (su (fun _ _ => 0) 301 t1) 310 t10) 311 t11) 310) ((su (su (su (fun _ _ => 0) 301 t1) 310 t10) 311 t11) 311))))) := hD
      exact W.iret hx hb hr (fun t ht hW => ⟨⟨_, (su (su (su (fun _ _ => 0) 301 t1) 310 t10) 311 t11), rfl, by rw [hf]; rfl, by rw [ht]; exact hP, hD⟩, hS.F ht⟩) hS.2.2 dX4_best_25
  · refine xi_zt_eq (tgt := 19) hx hb ⟨by decide, by decide⟩ (by decide) dX4_best_6 (by decide) ?_
    refine lv_aload_n hx hb dX4_best_19 rfl (lv_at hl 0 rfl) ?_
    refine xi_ldc hx hb hown hts kk_X4_58 dX4_best_20 ?_
    refine xmF_i (rV (rest := []) hx hb hml hown hts hK hl (c_X4_finding l g b d fo tp sh a f1 f20 (-1000000001) (s.heap).size (show 0 ≤ -1000000001 - (-1000000001) ∧ -1000000001 - (-1000000001) < 7 from by omega)) lk_X4_59 ⟨rfl, hP0, (va_D_app hD).1.weaken (fun _ _ _ _ => trivial)⟩ (va_recv hK.1 hP0 (ci := 4) (q0 := 0) rfl rfl) rfl rfl rfl (Rm.of rfl) rfl rfl dX4_best_22) hP hD hS hA (fun x9 _ H locs hw hP hD hS => ?_)
    obtain rfl : x9 = iI (-1000000001) := hw
    have hP : va_P g.1 vwCl (wX g a b d fo tp sh (fb (-1000000000 - (-1000000001)) f1) f20 ++ (wF g fo b tr o1 ++ (wLs g b e1 e10 e11 ++ (wLs g tr t1 t10 t11)))) H := hP
    have hD : va_D (va_A (wX g a b d fo tp sh f1 f20 ++ (wF g fo b tr o1 ++ (wLs g b e1 e10 e11 ++ (wLs g tr t1 t10 t11)))) s.heap.size) (wX g a b d fo tp sh (fb (-1000000000 - (-1000000001)) f1) f20 ++ (wF g fo b tr o1 ++ (wLs g b e1 e10 e11 ++ (wLs g tr t1 t10 t11)))) := hD
    obtain ⟨hP0, hPr0⟩ := va_P_app.mp hP
    obtain ⟨hP1, hPr1⟩ := va_P_app.mp hPr0
    obtain ⟨hP2, hP3⟩ := va_P_app.mp hPr1
    have hf : fBest w n = 1 := by unfold fBest; (repeat (first | rw [if_pos (by omega)] | rw [if_neg (by omega)])); first | done | (exfalso; omega)
    have he8 : (fb (-1000000000 - (-1000000001)) f1) = (fb (fBest w n) f1) := by rw [hf]; rfl
    have hP := Eq.mp (congrArg (fun z9 => va_P g.1 vwCl (wX g a b d fo tp sh z9 f20 ++ (wF g fo b tr o1 ++ (wLs g b e1 e10 e11 ++ (wLs g tr t1 t10 t11)))) H) he8) hP
    have hD := Eq.mp (congrArg (fun z9 => va_D (va_A (wX g a b d fo tp sh f1 f20 ++ (wF g fo b tr o1 ++ (wLs g b e1 e10 e11 ++ (wLs g tr t1 t10 t11)))) s.heap.size) (wX g a b d fo tp sh z9 f20 ++ (wF g fo b tr o1 ++ (wLs g b e1 e10 e11 ++ (wLs g tr t1 t10 t11))))) he8) hD
    obtain ⟨hP0, hPr0⟩ := va_P_app.mp hP
    obtain ⟨hP1, hPr1⟩ := va_P_app.mp hPr0
    obtain ⟨hP2, hP3⟩ := va_P_app.mp hPr1
    have hP : va_P g.1 vwCl (wX g a b d fo tp sh (fb (fBest w n) f1) f20 ++ (wF g fo b tr o1 ++ (wLs g b e1 e10 e11 ++ (wLs g tr ((su (su (su (fun _ _ => 0) 301 t1) 310 t10) 311 t11) 301) ((su (su (su (fun _ _ => 0) 301 t1) 310 t10) 311 t11) 310) ((su (su (su (fun _ _ => 0) 301 t1) 310 t10) 311 t11) 311))))) H := hP
    have hD : va_D (va_A (wX g a b d fo tp sh f1 f20 ++ (wF g fo b tr o1 ++ (wLs g b e1 e10 e11 ++ (wLs g tr t1 t10 t11)))) s.heap.size) (wX g a b d fo tp sh (fb (fBest w n) f1) f20 ++ (wF g fo b tr o1 ++ (wLs g b e1 e10 e11 ++ (wLs g tr ((su (su (su (fun _ _ => 0) 301 t1) 310 t10) 311 t11) 301) ((su (su (su (fun _ _ => 0) 301 t1) 310 t10) 311 t11) 310) ((su (su (su (fun _ _ => 0) 301 t1) 310 t10) 311 t11) 311))))) := hD
    exact W.iret hx hb hr (fun t ht hW => ⟨⟨_, (su (su (su (fun _ _ => 0) 301 t1) 310 t10) 311 t11), rfl, by rw [hf]; rfl, by rw [ht]; exact hP, hD⟩, hS.F ht⟩) hS.2.2 dX4_best_25
abbrev rm_X4_start : Room := { frames := 6, cells := 0, slots := 0, locals := 143 }
set_option maxRecDepth 100000 in
set_option maxHeartbeats 4000000 in
theorem c_X4_start (l : Launch) (g : Gd) (d : Nat → Nat) (tp : Nat → Nat) (sh : Nat → Nat) (a : Nat → Nat) (f1 : Int → Int) (f20 : Int) (fo : Nat → Nat) (o1 : Int → Int) (b : Nat → Nat) (e1 : Int → Int) (e10 : Int → Int) (e11 : Int → Int) (tr : Nat → Nat) (t1 : Int → Int) (t10 : Int → Int) (t11 : Int → Int) (r : Int) (n : Int) (sz : Nat) (h1 : InvK 0 e1) (h2 : e1 0 ≤ 9999) (h3 : IR r) (h4 : IR n) : Met l yX4_start (wsOf yX4_start cX4_start 3 (some .int)) rm_X4_start (PX g (wP g (wX g a b d fo tp sh f1 f20 ++ (wF g fo b tr o1 ++ (wLs g b e1 e10 e11 ++ (wLs g tr t1 t10 t11)))) sz) [.ref (a 0), .int (iI r), .int (iI n)]) (QMi g (fun u9 : Nat → Int → Int => wX g a b d fo tp sh (fb (fStart e1 r n) f1) f20 ++ (wF g fo b tr o1 ++ (wLs g b e1 e10 e11 ++ (wLs g tr (u9 301) (u9 310) (u9 311))))) (fun r9 _ => r9 = ab (fStart e1 r n) (iI (bmT (srV e1 r n) (fun k => (k : Int)) 24).1)) (va_A (wX g a b d fo tp sh f1 f20 ++ (wF g fo b tr o1 ++ (wLs g b e1 e10 e11 ++ (wLs g tr t1 t10 t11)))) sz)) 0 0 (va_A (wX g a b d fo tp sh f1 f20 ++ (wF g fo b tr o1 ++ (wLs g b e1 e10 e11 ++ (wLs g tr t1 t10 t11)))) sz) := by
  refine me (g := g) (by decide) rfl ?_
  intro pq eq s mq below meth cq C hnm hB ls hl
  obtain ⟨hx, hb, hr, hml, hown, hts, hlocks, hK⟩ := C
  have hown : s.vm.findClass RX4 = some mq.cls := hown
  have hl : lv_has ls 3 [(0, .ref (a 0)), (1, .int (iI r)), (2, .int (iI n))] := hl
  obtain ⟨hsz, hP, hD0⟩ := hB
  subst hsz
  have hD := hD0.self (sz := s.heap.size)
  have hA : ∀ q : Nat, s.heap.size ≤ q → va_A (wX g a b d fo tp sh f1 f20 ++ (wF g fo b tr o1 ++ (wLs g b e1 e10 e11 ++ (wLs g tr t1 t10 t11)))) s.heap.size q := fun q h => Or.inr h
  have hS : va_S (va_A (wX g a b d fo tp sh f1 f20 ++ (wF g fo b tr o1 ++ (wLs g b e1 e10 e11 ++ (wLs g tr t1 t10 t11)))) s.heap.size) s.heap s.heap [] := va_S.rf
  obtain ⟨hP0, hPr0⟩ := va_P_app.mp hP
  obtain ⟨hP1, hPr1⟩ := va_P_app.mp hPr0
  obtain ⟨hP2, hP3⟩ := va_P_app.mp hPr1
  have hI := h1
  have hI8 : Inv e1 := h1.mono (by omega)
  have hn := hI.num
  have hs := hI.sea
  have hv := hI.vil
  have q1 := h3.1
  have q3 := h4.1
  have q2 := h3.2
  have q4 := h4.2
  refine lv_aload_n hx hb dX4_start_0 rfl (lv_at hl 0 rfl) ?_
  refine lv_iload_n hx hb dX4_start_1 rfl (lv_at hl 1 rfl) ?_
  refine xu_b (P := 0 ≤ r ∧ r < e1 1) (rV (rest := []) hx hb hml hown hts hK hl (c_X4_isRange l g d fo tp sh a f1 f20 b e1 e10 e11 r (show IR r from ⟨by omega, by omega⟩) (show 0 ≤ e1 1 ∧ e1 1 ≤ 8 from by omega)) lk_X4_117 (va_P_app.mpr ⟨hP0, hP2⟩) (va_recv hK.1 hP0 (ci := 4) (q0 := 0) rfl rfl) rfl rfl rfl (Rm.of rfl) rfl rfl dX4_start_2) (fun z1 => ?_) (fun z1 => ?_)
  · refine xi_zf_eq hx hb ⟨by decide, by decide⟩ (by decide) dX4_start_5 ⟨18, by decide⟩ ?_
    refine lv_iload_n hx hb dX4_start_8 rfl (lv_at hl 2 rfl) ?_
    refine lv_iconst (v := iI (0)) hx hb dX4_start_9 (by decide) ?_
    refine lv_bipush (v := iI (40)) hx hb dX4_start_10 (by decide) ?_
    refine xu_b (P := 0 ≤ n ∧ n ≤ 40) (rS (rest := []) hx hb hml hown hts hK hl (c_X4_isBetween l g n 0 40 (show IR n from ⟨by omega, by omega⟩) (show IR 0 from ⟨by omega, by omega⟩) (show IR 40 from ⟨by omega, by omega⟩)) lk_X4_99 trivial rfl rfl rfl (Rm.of rfl) rfl rfl dX4_start_12) (fun z2 => ?_) (fun z2 => ?_)
    · refine xi_zt_ne (tgt := 25) hx hb ⟨by decide, by decide⟩ (by decide) dX4_start_15 (by decide) ?_
      refine lv_aload_n hx hb dX4_start_25 rfl (lv_at hl 0 rfl) ?_
      refine xg_X4 hx hb hts hown hK hP0 0 rfl 2 (by decide) fk_X4_24 (v := .ref (fo 0)) rfl dX4_start_26 ?_
      refine lv_iload_n hx hb dX4_start_29 rfl (lv_at hl 1 rfl) ?_
      refine lv_iload_n hx hb dX4_start_30 rfl (lv_at hl 2 rfl) ?_
      have hD : va_D (va_A (wX g a b d fo tp sh f1 f20 ++ (wF g fo b tr o1 ++ (wLs g b e1 e10 e11 ++ (wLs g tr t1 t10 t11)))) s.heap.size) (wF g fo b tr o1 ++ (wX g a b d fo tp sh f1 f20 ++ (wLs g b e1 e10 e11 ++ (wLs g tr t1 t10 t11)))) := D_perm (List.perm_append_comm_assoc _ _ _) hD
      have hD : va_D (va_A (wX g a b d fo tp sh f1 f20 ++ (wF g fo b tr o1 ++ (wLs g b e1 e10 e11 ++ (wLs g tr t1 t10 t11)))) s.heap.size) (wF g fo b tr o1 ++ (wLs g b e1 e10 e11 ++ (wX g a b d fo tp sh f1 f20 ++ (wLs g tr t1 t10 t11)))) := D_perm (List.Perm.append_left _ (List.perm_append_comm_assoc _ _ _)) hD
      have hD : va_D (va_A (wX g a b d fo tp sh f1 f20 ++ (wF g fo b tr o1 ++ (wLs g b e1 e10 e11 ++ (wLs g tr t1 t10 t11)))) s.heap.size) (wF g fo b tr o1 ++ (wLs g b e1 e10 e11 ++ (wLs g tr t1 t10 t11 ++ (wX g a b d fo tp sh f1 f20)))) := D_perm (List.Perm.append_left _ (List.Perm.append_left _ (List.perm_append_comm))) hD
      have hP : va_P g.1 vwCl (wF g fo b tr o1 ++ (wLs g b e1 e10 e11 ++ (wLs g tr t1 t10 t11 ++ (wX g a b d fo tp sh f1 f20)))) s.heap := va_P_app.mpr ⟨hP1, va_P_app.mpr ⟨hP2, va_P_app.mpr ⟨hP3, hP0⟩⟩⟩
      have hP : va_P g.1 vwCl ((wF g fo b tr o1 ++ (wLs g b e1 e10 e11 ++ (wLs g tr t1 t10 t11))) ++ (wX g a b d fo tp sh f1 f20)) s.heap := by rw [List.append_assoc, List.append_assoc]; exact hP
      have hD : va_D (va_A (wX g a b d fo tp sh f1 f20 ++ (wF g fo b tr o1 ++ (wLs g b e1 e10 e11 ++ (wLs g tr t1 t10 t11)))) s.heap.size) ((wF g fo b tr o1 ++ (wLs g b e1 e10 e11 ++ (wLs g tr t1 t10 t11))) ++ (wX g a b d fo tp sh f1 f20)) := by rw [List.append_assoc, List.append_assoc]; exact hD
      refine xmF_i (rVN (rest := []) hx hb hml hown hts hK hl (c_X0_bestCell l g fo o1 b e1 e10 e11 tr t1 t10 t11 r n (s.heap).size (show InvK 0 e1 from h1) (show e1 0 ≤ 9999 from by omega) (show 0 ≤ r ∧ r < e1 1 from by omega) (show 0 ≤ n ∧ n ≤ 40 from by omega)) lk_X4_213 ⟨rfl, (va_P_app.mp hP).1, (va_D_app hD).1.weaken (fun _ _ _ _ => trivial)⟩ (va_recv hK.1 hP1 (ci := 0) (q0 := 0) rfl rfl) rfl rfl rfl (Rm.of rfl) rfl rfl dX4_start_31) hP hD hS hA (fun x9 u3 H locs hw hP hD hS => ?_)
      have hP : va_P g.1 vwCl ((wF g fo b tr o1 ++ (wLs g b e1 e10 e11 ++ (wLs g tr (u3 201) (u3 210) (u3 211)))) ++ (wX g a b d fo tp sh f1 f20)) H := hP
      have hD : va_D (va_A (wX g a b d fo tp sh f1 f20 ++ (wF g fo b tr o1 ++ (wLs g b e1 e10 e11 ++ (wLs g tr t1 t10 t11)))) s.heap.size) ((wF g fo b tr o1 ++ (wLs g b e1 e10 e11 ++ (wLs g tr (u3 201) (u3 210) (u3 211)))) ++ (wX g a b d fo tp sh f1 f20)) := hD
      rw [List.append_assoc, List.append_assoc] at hP hD
      obtain rfl : x9 = iI ((bmT (srV e1 r n) (fun k => (k : Int)) 24).1) := hw
      have hP : va_P g.1 vwCl (wF g fo b tr o1 ++ (wLs g b e1 e10 e11 ++ (wLs g tr (u3 201) (u3 210) (u3 211) ++ (wX g a b d fo tp sh f1 f20)))) H := hP
      have hD : va_D (va_A (wX g a b d fo tp sh f1 f20 ++ (wF g fo b tr o1 ++ (wLs g b e1 e10 e11 ++ (wLs g tr t1 t10 t11)))) s.heap.size) (wF g fo b tr o1 ++ (wLs g b e1 e10 e11 ++ (wLs g tr (u3 201) (u3 210) (u3 211) ++ (wX g a b d fo tp sh f1 f20)))) := hD
      obtain ⟨hP1, hPr0⟩ := va_P_app.mp hP
      obtain ⟨hP2, hPr1⟩ := va_P_app.mp hPr0
      obtain ⟨hP3, hP0⟩ := va_P_app.mp hPr1
      have hD : va_D (va_A (wX g a b d fo tp sh f1 f20 ++ (wF g fo b tr o1 ++ (wLs g b e1 e10 e11 ++ (wLs g tr t1 t10 t11)))) s.heap.size) (wF g fo b tr o1 ++ (wLs g b e1 e10 e11 ++ (wX g a b d fo tp sh f1 f20 ++ (wLs g tr (u3 201) (u3 210) (u3 211))))) := D_perm (List.Perm.append_left _ (List.Perm.append_left _ (List.perm_append_comm))) hD
      have hD : va_D (va_A (wX g a b d fo tp sh f1 f20 ++ (wF g fo b tr o1 ++ (wLs g b e1 e10 e11 ++ (wLs g tr t1 t10 t11)))) s.heap.size) (wF g fo b tr o1 ++ (wX g a b d fo tp sh f1 f20 ++ (wLs g b e1 e10 e11 ++ (wLs g tr (u3 201) (u3 210) (u3 211))))) := D_perm (List.Perm.append_left _ (List.perm_append_comm_assoc _ _ _)) hD
      have hD : va_D (va_A (wX g a b d fo tp sh f1 f20 ++ (wF g fo b tr o1 ++ (wLs g b e1 e10 e11 ++ (wLs g tr t1 t10 t11)))) s.heap.size) (wX g a b d fo tp sh f1 f20 ++ (wF g fo b tr o1 ++ (wLs g b e1 e10 e11 ++ (wLs g tr (u3 201) (u3 210) (u3 211))))) := D_perm (List.perm_append_comm_assoc _ _ _) hD
      have hP : va_P g.1 vwCl (wX g a b d fo tp sh f1 f20 ++ (wF g fo b tr o1 ++ (wLs g b e1 e10 e11 ++ (wLs g tr (u3 201) (u3 210) (u3 211))))) H := va_P_app.mpr ⟨hP0, va_P_app.mpr ⟨hP1, va_P_app.mpr ⟨hP2, hP3⟩⟩⟩
      have hf : fStart e1 r n = 0 := by unfold fStart; (repeat (first | rw [if_pos (by omega)] | rw [if_neg (by omega)])); first | done | (exfalso; omega)
      have he4 : f1 = (fb (fStart e1 r n) f1) := by rw [hf]; rfl
      have hP := Eq.mp (congrArg (fun z9 => va_P g.1 vwCl (wX g a b d fo tp sh z9 f20 ++ (wF g fo b tr o1 ++ (wLs g b e1 e10 e11 ++ (wLs g tr (u3 201) (u3 210) (u3 211))))) H) he4) hP
      have hD := Eq.mp (congrArg (fun z9 => va_D (va_A (wX g a b d fo tp sh f1 f20 ++ (wF g fo b tr o1 ++ (wLs g b e1 e10 e11 ++ (wLs g tr t1 t10 t11)))) s.heap.size) (wX g a b d fo tp sh z9 f20 ++ (wF g fo b tr o1 ++ (wLs g b e1 e10 e11 ++ (wLs g tr (u3 201) (u3 210) (u3 211)))))) he4) hD
      obtain ⟨hP0, hPr0⟩ := va_P_app.mp hP
      obtain ⟨hP1, hPr1⟩ := va_P_app.mp hPr0
      obtain ⟨hP2, hP3⟩ := va_P_app.mp hPr1
      have hP : va_P g.1 vwCl (wX g a b d fo tp sh (fb (fStart e1 r n) f1) f20 ++ (wF g fo b tr o1 ++ (wLs g b e1 e10 e11 ++ (wLs g tr ((su (su (su (fun _ _ => 0) 301 (u3 201)) 310 (u3 210)) 311 (u3 211)) 301) ((su (su (su (fun _ _ => 0) 301 (u3 201)) 310 (u3 210)) 311 (u3 211)) 310) ((su (su (su (fun _ _ => 0) 301 (u3 201)) 310 (u3 210)) 311 (u3 211)) 311))))) H := hP
      have hD : va_D (va_A (wX g a b d fo tp sh f1 f20 ++ (wF g fo b tr o1 ++ (wLs g b e1 e10 e11 ++ (wLs g tr t1 t10 t11)))) s.heap.size) (wX g a b d fo tp sh (fb (fStart e1 r n) f1) f20 ++ (wF g fo b tr o1 ++ (wLs g b e1 e10 e11 ++ (wLs g tr ((su (su (su (fun _ _ => 0) 301 (u3 201)) 310 (u3 210)) 311 (u3 211)) 301) ((su (su (su (fun _ _ => 0) 301 (u3 201)) 310 (u3 210)) 311 (u3 211)) 310) ((su (su (su (fun _ _ => 0) 301 (u3 201)) 310 (u3 210)) 311 (u3 211)) 311))))) := hD
      exact W.iret hx hb hr (fun t ht hW => ⟨⟨_, (su (su (su (fun _ _ => 0) 301 (u3 201)) 310 (u3 210)) 311 (u3 211)), rfl, by rw [hf, ab_0], by rw [ht]; exact hP, hD⟩, hS.F ht⟩) hS.2.2 dX4_start_34
    · refine xi_zf_ne hx hb ⟨by decide, by decide⟩ (by decide) dX4_start_15 ⟨25, by decide⟩ ?_
      refine lv_aload_n hx hb dX4_start_18 rfl (lv_at hl 0 rfl) ?_
      refine xi_ldc hx hb hown hts kk_X4_58 dX4_start_19 ?_
      refine xmF_i (rV (rest := []) hx hb hml hown hts hK hl (c_X4_finding l g b d fo tp sh a f1 f20 (-1000000001) (s.heap).size (show 0 ≤ -1000000001 - (-1000000001) ∧ -1000000001 - (-1000000001) < 7 from by omega)) lk_X4_59 ⟨rfl, hP0, (va_D_app hD).1.weaken (fun _ _ _ _ => trivial)⟩ (va_recv hK.1 hP0 (ci := 4) (q0 := 0) rfl rfl) rfl rfl rfl (Rm.of rfl) rfl rfl dX4_start_21) hP hD hS hA (fun x9 _ H locs hw hP hD hS => ?_)
      obtain rfl : x9 = iI (-1000000001) := hw
      have hP : va_P g.1 vwCl (wX g a b d fo tp sh (fb (-1000000000 - (-1000000001)) f1) f20 ++ (wF g fo b tr o1 ++ (wLs g b e1 e10 e11 ++ (wLs g tr t1 t10 t11)))) H := hP
      have hD : va_D (va_A (wX g a b d fo tp sh f1 f20 ++ (wF g fo b tr o1 ++ (wLs g b e1 e10 e11 ++ (wLs g tr t1 t10 t11)))) s.heap.size) (wX g a b d fo tp sh (fb (-1000000000 - (-1000000001)) f1) f20 ++ (wF g fo b tr o1 ++ (wLs g b e1 e10 e11 ++ (wLs g tr t1 t10 t11)))) := hD
      obtain ⟨hP0, hPr0⟩ := va_P_app.mp hP
      obtain ⟨hP1, hPr1⟩ := va_P_app.mp hPr0
      obtain ⟨hP2, hP3⟩ := va_P_app.mp hPr1
      have hf : fStart e1 r n = 1 := by unfold fStart; (repeat (first | rw [if_pos (by omega)] | rw [if_neg (by omega)])); first | done | (exfalso; omega)
      have he6 : (fb (-1000000000 - (-1000000001)) f1) = (fb (fStart e1 r n) f1) := by rw [hf]; rfl
      have hP := Eq.mp (congrArg (fun z9 => va_P g.1 vwCl (wX g a b d fo tp sh z9 f20 ++ (wF g fo b tr o1 ++ (wLs g b e1 e10 e11 ++ (wLs g tr t1 t10 t11)))) H) he6) hP
      have hD := Eq.mp (congrArg (fun z9 => va_D (va_A (wX g a b d fo tp sh f1 f20 ++ (wF g fo b tr o1 ++ (wLs g b e1 e10 e11 ++ (wLs g tr t1 t10 t11)))) s.heap.size) (wX g a b d fo tp sh z9 f20 ++ (wF g fo b tr o1 ++ (wLs g b e1 e10 e11 ++ (wLs g tr t1 t10 t11))))) he6) hD
      obtain ⟨hP0, hPr0⟩ := va_P_app.mp hP
      obtain ⟨hP1, hPr1⟩ := va_P_app.mp hPr0
      obtain ⟨hP2, hP3⟩ := va_P_app.mp hPr1
      have hP : va_P g.1 vwCl (wX g a b d fo tp sh (fb (fStart e1 r n) f1) f20 ++ (wF g fo b tr o1 ++ (wLs g b e1 e10 e11 ++ (wLs g tr ((su (su (su (fun _ _ => 0) 301 t1) 310 t10) 311 t11) 301) ((su (su (su (fun _ _ => 0) 301 t1) 310 t10) 311 t11) 310) ((su (su (su (fun _ _ => 0) 301 t1) 310 t10) 311 t11) 311))))) H := hP
      have hD : va_D (va_A (wX g a b d fo tp sh f1 f20 ++ (wF g fo b tr o1 ++ (wLs g b e1 e10 e11 ++ (wLs g tr t1 t10 t11)))) s.heap.size) (wX g a b d fo tp sh (fb (fStart e1 r n) f1) f20 ++ (wF g fo b tr o1 ++ (wLs g b e1 e10 e11 ++ (wLs g tr ((su (su (su (fun _ _ => 0) 301 t1) 310 t10) 311 t11) 301) ((su (su (su (fun _ _ => 0) 301 t1) 310 t10) 311 t11) 310) ((su (su (su (fun _ _ => 0) 301 t1) 310 t10) 311 t11) 311))))) := hD
      exact W.iret hx hb hr (fun t ht hW => ⟨⟨_, (su (su (su (fun _ _ => 0) 301 t1) 310 t10) 311 t11), rfl, by rw [hf]; rfl, by rw [ht]; exact hP, hD⟩, hS.F ht⟩) hS.2.2 dX4_start_24
  · refine xi_zt_eq (tgt := 18) hx hb ⟨by decide, by decide⟩ (by decide) dX4_start_5 (by decide) ?_
    refine lv_aload_n hx hb dX4_start_18 rfl (lv_at hl 0 rfl) ?_
    refine xi_ldc hx hb hown hts kk_X4_58 dX4_start_19 ?_
    refine xmF_i (rV (rest := []) hx hb hml hown hts hK hl (c_X4_finding l g b d fo tp sh a f1 f20 (-1000000001) (s.heap).size (show 0 ≤ -1000000001 - (-1000000001) ∧ -1000000001 - (-1000000001) < 7 from by omega)) lk_X4_59 ⟨rfl, hP0, (va_D_app hD).1.weaken (fun _ _ _ _ => trivial)⟩ (va_recv hK.1 hP0 (ci := 4) (q0 := 0) rfl rfl) rfl rfl rfl (Rm.of rfl) rfl rfl dX4_start_21) hP hD hS hA (fun x9 _ H locs hw hP hD hS => ?_)
    obtain rfl : x9 = iI (-1000000001) := hw
    have hP : va_P g.1 vwCl (wX g a b d fo tp sh (fb (-1000000000 - (-1000000001)) f1) f20 ++ (wF g fo b tr o1 ++ (wLs g b e1 e10 e11 ++ (wLs g tr t1 t10 t11)))) H := hP
    have hD : va_D (va_A (wX g a b d fo tp sh f1 f20 ++ (wF g fo b tr o1 ++ (wLs g b e1 e10 e11 ++ (wLs g tr t1 t10 t11)))) s.heap.size) (wX g a b d fo tp sh (fb (-1000000000 - (-1000000001)) f1) f20 ++ (wF g fo b tr o1 ++ (wLs g b e1 e10 e11 ++ (wLs g tr t1 t10 t11)))) := hD
    obtain ⟨hP0, hPr0⟩ := va_P_app.mp hP
    obtain ⟨hP1, hPr1⟩ := va_P_app.mp hPr0
    obtain ⟨hP2, hP3⟩ := va_P_app.mp hPr1
    have hf : fStart e1 r n = 1 := by unfold fStart; (repeat (first | rw [if_pos (by omega)] | rw [if_neg (by omega)])); first | done | (exfalso; omega)
    have he8 : (fb (-1000000000 - (-1000000001)) f1) = (fb (fStart e1 r n) f1) := by rw [hf]; rfl
    have hP := Eq.mp (congrArg (fun z9 => va_P g.1 vwCl (wX g a b d fo tp sh z9 f20 ++ (wF g fo b tr o1 ++ (wLs g b e1 e10 e11 ++ (wLs g tr t1 t10 t11)))) H) he8) hP
    have hD := Eq.mp (congrArg (fun z9 => va_D (va_A (wX g a b d fo tp sh f1 f20 ++ (wF g fo b tr o1 ++ (wLs g b e1 e10 e11 ++ (wLs g tr t1 t10 t11)))) s.heap.size) (wX g a b d fo tp sh z9 f20 ++ (wF g fo b tr o1 ++ (wLs g b e1 e10 e11 ++ (wLs g tr t1 t10 t11))))) he8) hD
    obtain ⟨hP0, hPr0⟩ := va_P_app.mp hP
    obtain ⟨hP1, hPr1⟩ := va_P_app.mp hPr0
    obtain ⟨hP2, hP3⟩ := va_P_app.mp hPr1
    have hP : va_P g.1 vwCl (wX g a b d fo tp sh (fb (fStart e1 r n) f1) f20 ++ (wF g fo b tr o1 ++ (wLs g b e1 e10 e11 ++ (wLs g tr ((su (su (su (fun _ _ => 0) 301 t1) 310 t10) 311 t11) 301) ((su (su (su (fun _ _ => 0) 301 t1) 310 t10) 311 t11) 310) ((su (su (su (fun _ _ => 0) 301 t1) 310 t10) 311 t11) 311))))) H := hP
    have hD : va_D (va_A (wX g a b d fo tp sh f1 f20 ++ (wF g fo b tr o1 ++ (wLs g b e1 e10 e11 ++ (wLs g tr t1 t10 t11)))) s.heap.size) (wX g a b d fo tp sh (fb (fStart e1 r n) f1) f20 ++ (wF g fo b tr o1 ++ (wLs g b e1 e10 e11 ++ (wLs g tr ((su (su (su (fun _ _ => 0) 301 t1) 310 t10) 311 t11) 301) ((su (su (su (fun _ _ => 0) 301 t1) 310 t10) 311 t11) 310) ((su (su (su (fun _ _ => 0) 301 t1) 310 t10) 311 t11) 311))))) := hD
    exact W.iret hx hb hr (fun t ht hW => ⟨⟨_, (su (su (su (fun _ _ => 0) 301 t1) 310 t10) 311 t11), rfl, by rw [hf]; rfl, by rw [ht]; exact hP, hD⟩, hS.F ht⟩) hS.2.2 dX4_start_24
abbrev rm_X4_kind : Room := { frames := 6, cells := 0, slots := 0, locals := 142 }
set_option maxRecDepth 100000 in
set_option maxHeartbeats 4000000 in
theorem c_X4_kind (l : Launch) (g : Gd) (d : Nat → Nat) (tp : Nat → Nat) (sh : Nat → Nat) (a : Nat → Nat) (f1 : Int → Int) (f20 : Int) (fo : Nat → Nat) (o1 : Int → Int) (b : Nat → Nat) (e1 : Int → Int) (e10 : Int → Int) (e11 : Int → Int) (tr : Nat → Nat) (t1 : Int → Int) (t10 : Int → Int) (t11 : Int → Int) (r : Int) (n : Int) (sz : Nat) (h1 : InvK 0 e1) (h2 : e1 0 ≤ 9999) (h3 : IR r) (h4 : IR n) : Met l yX4_kind (wsOf yX4_kind cX4_kind 3 (some .int)) rm_X4_kind (PX g (wP g (wX g a b d fo tp sh f1 f20 ++ (wF g fo b tr o1 ++ (wLs g b e1 e10 e11 ++ (wLs g tr t1 t10 t11)))) sz) [.ref (a 0), .int (iI r), .int (iI n)]) (QMi g (fun u9 : Nat → Int → Int => wX g a b d fo tp sh (fb (fStart e1 r n) f1) f20 ++ (wF g fo b tr o1 ++ (wLs g b e1 e10 e11 ++ (wLs g tr (u9 301) (u9 310) (u9 311))))) (fun r9 _ => r9 = ab (fStart e1 r n) (iI (bmT (kiV e1 r n) (fun k => (k : Int)) 6).1)) (va_A (wX g a b d fo tp sh f1 f20 ++ (wF g fo b tr o1 ++ (wLs g b e1 e10 e11 ++ (wLs g tr t1 t10 t11)))) sz)) 0 0 (va_A (wX g a b d fo tp sh f1 f20 ++ (wF g fo b tr o1 ++ (wLs g b e1 e10 e11 ++ (wLs g tr t1 t10 t11)))) sz) := by
  refine me (g := g) (by decide) rfl ?_
  intro pq eq s mq below meth cq C hnm hB ls hl
  obtain ⟨hx, hb, hr, hml, hown, hts, hlocks, hK⟩ := C
  have hown : s.vm.findClass RX4 = some mq.cls := hown
  have hl : lv_has ls 3 [(0, .ref (a 0)), (1, .int (iI r)), (2, .int (iI n))] := hl
  obtain ⟨hsz, hP, hD0⟩ := hB
  subst hsz
  have hD := hD0.self (sz := s.heap.size)
  have hA : ∀ q : Nat, s.heap.size ≤ q → va_A (wX g a b d fo tp sh f1 f20 ++ (wF g fo b tr o1 ++ (wLs g b e1 e10 e11 ++ (wLs g tr t1 t10 t11)))) s.heap.size q := fun q h => Or.inr h
  have hS : va_S (va_A (wX g a b d fo tp sh f1 f20 ++ (wF g fo b tr o1 ++ (wLs g b e1 e10 e11 ++ (wLs g tr t1 t10 t11)))) s.heap.size) s.heap s.heap [] := va_S.rf
  obtain ⟨hP0, hPr0⟩ := va_P_app.mp hP
  obtain ⟨hP1, hPr1⟩ := va_P_app.mp hPr0
  obtain ⟨hP2, hP3⟩ := va_P_app.mp hPr1
  have hI := h1
  have hI8 : Inv e1 := h1.mono (by omega)
  have hn := hI.num
  have hs := hI.sea
  have hv := hI.vil
  have q1 := h3.1
  have q3 := h4.1
  have q2 := h3.2
  have q4 := h4.2
  refine lv_aload_n hx hb dX4_kind_0 rfl (lv_at hl 0 rfl) ?_
  refine lv_iload_n hx hb dX4_kind_1 rfl (lv_at hl 1 rfl) ?_
  refine xu_b (P := 0 ≤ r ∧ r < e1 1) (rV (rest := []) hx hb hml hown hts hK hl (c_X4_isRange l g d fo tp sh a f1 f20 b e1 e10 e11 r (show IR r from ⟨by omega, by omega⟩) (show 0 ≤ e1 1 ∧ e1 1 ≤ 8 from by omega)) lk_X4_117 (va_P_app.mpr ⟨hP0, hP2⟩) (va_recv hK.1 hP0 (ci := 4) (q0 := 0) rfl rfl) rfl rfl rfl (Rm.of rfl) rfl rfl dX4_kind_2) (fun z1 => ?_) (fun z1 => ?_)
  · refine xi_zf_eq hx hb ⟨by decide, by decide⟩ (by decide) dX4_kind_5 ⟨18, by decide⟩ ?_
    refine lv_iload_n hx hb dX4_kind_8 rfl (lv_at hl 2 rfl) ?_
    refine lv_iconst (v := iI (0)) hx hb dX4_kind_9 (by decide) ?_
    refine lv_bipush (v := iI (40)) hx hb dX4_kind_10 (by decide) ?_
    refine xu_b (P := 0 ≤ n ∧ n ≤ 40) (rS (rest := []) hx hb hml hown hts hK hl (c_X4_isBetween l g n 0 40 (show IR n from ⟨by omega, by omega⟩) (show IR 0 from ⟨by omega, by omega⟩) (show IR 40 from ⟨by omega, by omega⟩)) lk_X4_99 trivial rfl rfl rfl (Rm.of rfl) rfl rfl dX4_kind_12) (fun z2 => ?_) (fun z2 => ?_)
    · refine xi_zt_ne (tgt := 25) hx hb ⟨by decide, by decide⟩ (by decide) dX4_kind_15 (by decide) ?_
      refine lv_aload_n hx hb dX4_kind_25 rfl (lv_at hl 0 rfl) ?_
      refine xg_X4 hx hb hts hown hK hP0 0 rfl 2 (by decide) fk_X4_24 (v := .ref (fo 0)) rfl dX4_kind_26 ?_
      refine lv_iload_n hx hb dX4_kind_29 rfl (lv_at hl 1 rfl) ?_
      refine lv_iload_n hx hb dX4_kind_30 rfl (lv_at hl 2 rfl) ?_
      have hD : va_D (va_A (wX g a b d fo tp sh f1 f20 ++ (wF g fo b tr o1 ++ (wLs g b e1 e10 e11 ++ (wLs g tr t1 t10 t11)))) s.heap.size) (wF g fo b tr o1 ++ (wX g a b d fo tp sh f1 f20 ++ (wLs g b e1 e10 e11 ++ (wLs g tr t1 t10 t11)))) := D_perm (List.perm_append_comm_assoc _ _ _) hD
      have hD : va_D (va_A (wX g a b d fo tp sh f1 f20 ++ (wF g fo b tr o1 ++ (wLs g b e1 e10 e11 ++ (wLs g tr t1 t10 t11)))) s.heap.size) (wF g fo b tr o1 ++ (wLs g b e1 e10 e11 ++ (wX g a b d fo tp sh f1 f20 ++ (wLs g tr t1 t10 t11)))) := D_perm (List.Perm.append_left _ (List.perm_append_comm_assoc _ _ _)) hD
      have hD : va_D (va_A (wX g a b d fo tp sh f1 f20 ++ (wF g fo b tr o1 ++ (wLs g b e1 e10 e11 ++ (wLs g tr t1 t10 t11)))) s.heap.size) (wF g fo b tr o1 ++ (wLs g b e1 e10 e11 ++ (wLs g tr t1 t10 t11 ++ (wX g a b d fo tp sh f1 f20)))) := D_perm (List.Perm.append_left _ (List.Perm.append_left _ (List.perm_append_comm))) hD
      have hP : va_P g.1 vwCl (wF g fo b tr o1 ++ (wLs g b e1 e10 e11 ++ (wLs g tr t1 t10 t11 ++ (wX g a b d fo tp sh f1 f20)))) s.heap := va_P_app.mpr ⟨hP1, va_P_app.mpr ⟨hP2, va_P_app.mpr ⟨hP3, hP0⟩⟩⟩
      have hP : va_P g.1 vwCl ((wF g fo b tr o1 ++ (wLs g b e1 e10 e11 ++ (wLs g tr t1 t10 t11))) ++ (wX g a b d fo tp sh f1 f20)) s.heap := by rw [List.append_assoc, List.append_assoc]; exact hP
      have hD : va_D (va_A (wX g a b d fo tp sh f1 f20 ++ (wF g fo b tr o1 ++ (wLs g b e1 e10 e11 ++ (wLs g tr t1 t10 t11)))) s.heap.size) ((wF g fo b tr o1 ++ (wLs g b e1 e10 e11 ++ (wLs g tr t1 t10 t11))) ++ (wX g a b d fo tp sh f1 f20)) := by rw [List.append_assoc, List.append_assoc]; exact hD
      refine xmF_i (rVN (rest := []) hx hb hml hown hts hK hl (c_X0_bestKind l g fo o1 b e1 e10 e11 tr t1 t10 t11 r n (s.heap).size (show InvK 0 e1 from h1) (show e1 0 ≤ 9999 from by omega) (show 0 ≤ r ∧ r < e1 1 from by omega) (show 0 ≤ n ∧ n ≤ 40 from by omega)) lk_X4_216 ⟨rfl, (va_P_app.mp hP).1, (va_D_app hD).1.weaken (fun _ _ _ _ => trivial)⟩ (va_recv hK.1 hP1 (ci := 0) (q0 := 0) rfl rfl) rfl rfl rfl (Rm.of rfl) rfl rfl dX4_kind_31) hP hD hS hA (fun x9 u3 H locs hw hP hD hS => ?_)
      have hP : va_P g.1 vwCl ((wF g fo b tr o1 ++ (wLs g b e1 e10 e11 ++ (wLs g tr (u3 201) (u3 210) (u3 211)))) ++ (wX g a b d fo tp sh f1 f20)) H := hP
      have hD : va_D (va_A (wX g a b d fo tp sh f1 f20 ++ (wF g fo b tr o1 ++ (wLs g b e1 e10 e11 ++ (wLs g tr t1 t10 t11)))) s.heap.size) ((wF g fo b tr o1 ++ (wLs g b e1 e10 e11 ++ (wLs g tr (u3 201) (u3 210) (u3 211)))) ++ (wX g a b d fo tp sh f1 f20)) := hD
      rw [List.append_assoc, List.append_assoc] at hP hD
      obtain rfl : x9 = iI ((bmT (kiV e1 r n) (fun k => (k : Int)) 6).1) := hw
      have hP : va_P g.1 vwCl (wF g fo b tr o1 ++ (wLs g b e1 e10 e11 ++ (wLs g tr (u3 201) (u3 210) (u3 211) ++ (wX g a b d fo tp sh f1 f20)))) H := hP
      have hD : va_D (va_A (wX g a b d fo tp sh f1 f20 ++ (wF g fo b tr o1 ++ (wLs g b e1 e10 e11 ++ (wLs g tr t1 t10 t11)))) s.heap.size) (wF g fo b tr o1 ++ (wLs g b e1 e10 e11 ++ (wLs g tr (u3 201) (u3 210) (u3 211) ++ (wX g a b d fo tp sh f1 f20)))) := hD
      obtain ⟨hP1, hPr0⟩ := va_P_app.mp hP
      obtain ⟨hP2, hPr1⟩ := va_P_app.mp hPr0
      obtain ⟨hP3, hP0⟩ := va_P_app.mp hPr1
      have hD : va_D (va_A (wX g a b d fo tp sh f1 f20 ++ (wF g fo b tr o1 ++ (wLs g b e1 e10 e11 ++ (wLs g tr t1 t10 t11)))) s.heap.size) (wF g fo b tr o1 ++ (wLs g b e1 e10 e11 ++ (wX g a b d fo tp sh f1 f20 ++ (wLs g tr (u3 201) (u3 210) (u3 211))))) := D_perm (List.Perm.append_left _ (List.Perm.append_left _ (List.perm_append_comm))) hD
      have hD : va_D (va_A (wX g a b d fo tp sh f1 f20 ++ (wF g fo b tr o1 ++ (wLs g b e1 e10 e11 ++ (wLs g tr t1 t10 t11)))) s.heap.size) (wF g fo b tr o1 ++ (wX g a b d fo tp sh f1 f20 ++ (wLs g b e1 e10 e11 ++ (wLs g tr (u3 201) (u3 210) (u3 211))))) := D_perm (List.Perm.append_left _ (List.perm_append_comm_assoc _ _ _)) hD
      have hD : va_D (va_A (wX g a b d fo tp sh f1 f20 ++ (wF g fo b tr o1 ++ (wLs g b e1 e10 e11 ++ (wLs g tr t1 t10 t11)))) s.heap.size) (wX g a b d fo tp sh f1 f20 ++ (wF g fo b tr o1 ++ (wLs g b e1 e10 e11 ++ (wLs g tr (u3 201) (u3 210) (u3 211))))) := D_perm (List.perm_append_comm_assoc _ _ _) hD
      have hP : va_P g.1 vwCl (wX g a b d fo tp sh f1 f20 ++ (wF g fo b tr o1 ++ (wLs g b e1 e10 e11 ++ (wLs g tr (u3 201) (u3 210) (u3 211))))) H := va_P_app.mpr ⟨hP0, va_P_app.mpr ⟨hP1, va_P_app.mpr ⟨hP2, hP3⟩⟩⟩
      have hf : fStart e1 r n = 0 := by unfold fStart; (repeat (first | rw [if_pos (by omega)] | rw [if_neg (by omega)])); first | done | (exfalso; omega)
      have he4 : f1 = (fb (fStart e1 r n) f1) := by rw [hf]; rfl
      have hP := Eq.mp (congrArg (fun z9 => va_P g.1 vwCl (wX g a b d fo tp sh z9 f20 ++ (wF g fo b tr o1 ++ (wLs g b e1 e10 e11 ++ (wLs g tr (u3 201) (u3 210) (u3 211))))) H) he4) hP
      have hD := Eq.mp (congrArg (fun z9 => va_D (va_A (wX g a b d fo tp sh f1 f20 ++ (wF g fo b tr o1 ++ (wLs g b e1 e10 e11 ++ (wLs g tr t1 t10 t11)))) s.heap.size) (wX g a b d fo tp sh z9 f20 ++ (wF g fo b tr o1 ++ (wLs g b e1 e10 e11 ++ (wLs g tr (u3 201) (u3 210) (u3 211)))))) he4) hD
      obtain ⟨hP0, hPr0⟩ := va_P_app.mp hP
      obtain ⟨hP1, hPr1⟩ := va_P_app.mp hPr0
      obtain ⟨hP2, hP3⟩ := va_P_app.mp hPr1
      have hP : va_P g.1 vwCl (wX g a b d fo tp sh (fb (fStart e1 r n) f1) f20 ++ (wF g fo b tr o1 ++ (wLs g b e1 e10 e11 ++ (wLs g tr ((su (su (su (fun _ _ => 0) 301 (u3 201)) 310 (u3 210)) 311 (u3 211)) 301) ((su (su (su (fun _ _ => 0) 301 (u3 201)) 310 (u3 210)) 311 (u3 211)) 310) ((su (su (su (fun _ _ => 0) 301 (u3 201)) 310 (u3 210)) 311 (u3 211)) 311))))) H := hP
      have hD : va_D (va_A (wX g a b d fo tp sh f1 f20 ++ (wF g fo b tr o1 ++ (wLs g b e1 e10 e11 ++ (wLs g tr t1 t10 t11)))) s.heap.size) (wX g a b d fo tp sh (fb (fStart e1 r n) f1) f20 ++ (wF g fo b tr o1 ++ (wLs g b e1 e10 e11 ++ (wLs g tr ((su (su (su (fun _ _ => 0) 301 (u3 201)) 310 (u3 210)) 311 (u3 211)) 301) ((su (su (su (fun _ _ => 0) 301 (u3 201)) 310 (u3 210)) 311 (u3 211)) 310) ((su (su (su (fun _ _ => 0) 301 (u3 201)) 310 (u3 210)) 311 (u3 211)) 311))))) := hD
      exact W.iret hx hb hr (fun t ht hW => ⟨⟨_, (su (su (su (fun _ _ => 0) 301 (u3 201)) 310 (u3 210)) 311 (u3 211)), rfl, by rw [hf, ab_0], by rw [ht]; exact hP, hD⟩, hS.F ht⟩) hS.2.2 dX4_kind_34
    · refine xi_zf_ne hx hb ⟨by decide, by decide⟩ (by decide) dX4_kind_15 ⟨25, by decide⟩ ?_
      refine lv_aload_n hx hb dX4_kind_18 rfl (lv_at hl 0 rfl) ?_
      refine xi_ldc hx hb hown hts kk_X4_58 dX4_kind_19 ?_
      refine xmF_i (rV (rest := []) hx hb hml hown hts hK hl (c_X4_finding l g b d fo tp sh a f1 f20 (-1000000001) (s.heap).size (show 0 ≤ -1000000001 - (-1000000001) ∧ -1000000001 - (-1000000001) < 7 from by omega)) lk_X4_59 ⟨rfl, hP0, (va_D_app hD).1.weaken (fun _ _ _ _ => trivial)⟩ (va_recv hK.1 hP0 (ci := 4) (q0 := 0) rfl rfl) rfl rfl rfl (Rm.of rfl) rfl rfl dX4_kind_21) hP hD hS hA (fun x9 _ H locs hw hP hD hS => ?_)
      obtain rfl : x9 = iI (-1000000001) := hw
      have hP : va_P g.1 vwCl (wX g a b d fo tp sh (fb (-1000000000 - (-1000000001)) f1) f20 ++ (wF g fo b tr o1 ++ (wLs g b e1 e10 e11 ++ (wLs g tr t1 t10 t11)))) H := hP
      have hD : va_D (va_A (wX g a b d fo tp sh f1 f20 ++ (wF g fo b tr o1 ++ (wLs g b e1 e10 e11 ++ (wLs g tr t1 t10 t11)))) s.heap.size) (wX g a b d fo tp sh (fb (-1000000000 - (-1000000001)) f1) f20 ++ (wF g fo b tr o1 ++ (wLs g b e1 e10 e11 ++ (wLs g tr t1 t10 t11)))) := hD
      obtain ⟨hP0, hPr0⟩ := va_P_app.mp hP
      obtain ⟨hP1, hPr1⟩ := va_P_app.mp hPr0
      obtain ⟨hP2, hP3⟩ := va_P_app.mp hPr1
      have hf : fStart e1 r n = 1 := by unfold fStart; (repeat (first | rw [if_pos (by omega)] | rw [if_neg (by omega)])); first | done | (exfalso; omega)
      have he6 : (fb (-1000000000 - (-1000000001)) f1) = (fb (fStart e1 r n) f1) := by rw [hf]; rfl
      have hP := Eq.mp (congrArg (fun z9 => va_P g.1 vwCl (wX g a b d fo tp sh z9 f20 ++ (wF g fo b tr o1 ++ (wLs g b e1 e10 e11 ++ (wLs g tr t1 t10 t11)))) H) he6) hP
      have hD := Eq.mp (congrArg (fun z9 => va_D (va_A (wX g a b d fo tp sh f1 f20 ++ (wF g fo b tr o1 ++ (wLs g b e1 e10 e11 ++ (wLs g tr t1 t10 t11)))) s.heap.size) (wX g a b d fo tp sh z9 f20 ++ (wF g fo b tr o1 ++ (wLs g b e1 e10 e11 ++ (wLs g tr t1 t10 t11))))) he6) hD
      obtain ⟨hP0, hPr0⟩ := va_P_app.mp hP
      obtain ⟨hP1, hPr1⟩ := va_P_app.mp hPr0
      obtain ⟨hP2, hP3⟩ := va_P_app.mp hPr1
      have hP : va_P g.1 vwCl (wX g a b d fo tp sh (fb (fStart e1 r n) f1) f20 ++ (wF g fo b tr o1 ++ (wLs g b e1 e10 e11 ++ (wLs g tr ((su (su (su (fun _ _ => 0) 301 t1) 310 t10) 311 t11) 301) ((su (su (su (fun _ _ => 0) 301 t1) 310 t10) 311 t11) 310) ((su (su (su (fun _ _ => 0) 301 t1) 310 t10) 311 t11) 311))))) H := hP
      have hD : va_D (va_A (wX g a b d fo tp sh f1 f20 ++ (wF g fo b tr o1 ++ (wLs g b e1 e10 e11 ++ (wLs g tr t1 t10 t11)))) s.heap.size) (wX g a b d fo tp sh (fb (fStart e1 r n) f1) f20 ++ (wF g fo b tr o1 ++ (wLs g b e1 e10 e11 ++ (wLs g tr ((su (su (su (fun _ _ => 0) 301 t1) 310 t10) 311 t11) 301) ((su (su (su (fun _ _ => 0) 301 t1) 310 t10) 311 t11) 310) ((su (su (su (fun _ _ => 0) 301 t1) 310 t10) 311 t11) 311))))) := hD
      exact W.iret hx hb hr (fun t ht hW => ⟨⟨_, (su (su (su (fun _ _ => 0) 301 t1) 310 t10) 311 t11), rfl, by rw [hf]; rfl, by rw [ht]; exact hP, hD⟩, hS.F ht⟩) hS.2.2 dX4_kind_24
  · refine xi_zt_eq (tgt := 18) hx hb ⟨by decide, by decide⟩ (by decide) dX4_kind_5 (by decide) ?_
    refine lv_aload_n hx hb dX4_kind_18 rfl (lv_at hl 0 rfl) ?_
    refine xi_ldc hx hb hown hts kk_X4_58 dX4_kind_19 ?_
    refine xmF_i (rV (rest := []) hx hb hml hown hts hK hl (c_X4_finding l g b d fo tp sh a f1 f20 (-1000000001) (s.heap).size (show 0 ≤ -1000000001 - (-1000000001) ∧ -1000000001 - (-1000000001) < 7 from by omega)) lk_X4_59 ⟨rfl, hP0, (va_D_app hD).1.weaken (fun _ _ _ _ => trivial)⟩ (va_recv hK.1 hP0 (ci := 4) (q0 := 0) rfl rfl) rfl rfl rfl (Rm.of rfl) rfl rfl dX4_kind_21) hP hD hS hA (fun x9 _ H locs hw hP hD hS => ?_)
    obtain rfl : x9 = iI (-1000000001) := hw
    have hP : va_P g.1 vwCl (wX g a b d fo tp sh (fb (-1000000000 - (-1000000001)) f1) f20 ++ (wF g fo b tr o1 ++ (wLs g b e1 e10 e11 ++ (wLs g tr t1 t10 t11)))) H := hP
    have hD : va_D (va_A (wX g a b d fo tp sh f1 f20 ++ (wF g fo b tr o1 ++ (wLs g b e1 e10 e11 ++ (wLs g tr t1 t10 t11)))) s.heap.size) (wX g a b d fo tp sh (fb (-1000000000 - (-1000000001)) f1) f20 ++ (wF g fo b tr o1 ++ (wLs g b e1 e10 e11 ++ (wLs g tr t1 t10 t11)))) := hD
    obtain ⟨hP0, hPr0⟩ := va_P_app.mp hP
    obtain ⟨hP1, hPr1⟩ := va_P_app.mp hPr0
    obtain ⟨hP2, hP3⟩ := va_P_app.mp hPr1
    have hf : fStart e1 r n = 1 := by unfold fStart; (repeat (first | rw [if_pos (by omega)] | rw [if_neg (by omega)])); first | done | (exfalso; omega)
    have he8 : (fb (-1000000000 - (-1000000001)) f1) = (fb (fStart e1 r n) f1) := by rw [hf]; rfl
    have hP := Eq.mp (congrArg (fun z9 => va_P g.1 vwCl (wX g a b d fo tp sh z9 f20 ++ (wF g fo b tr o1 ++ (wLs g b e1 e10 e11 ++ (wLs g tr t1 t10 t11)))) H) he8) hP
    have hD := Eq.mp (congrArg (fun z9 => va_D (va_A (wX g a b d fo tp sh f1 f20 ++ (wF g fo b tr o1 ++ (wLs g b e1 e10 e11 ++ (wLs g tr t1 t10 t11)))) s.heap.size) (wX g a b d fo tp sh z9 f20 ++ (wF g fo b tr o1 ++ (wLs g b e1 e10 e11 ++ (wLs g tr t1 t10 t11))))) he8) hD
    obtain ⟨hP0, hPr0⟩ := va_P_app.mp hP
    obtain ⟨hP1, hPr1⟩ := va_P_app.mp hPr0
    obtain ⟨hP2, hP3⟩ := va_P_app.mp hPr1
    have hP : va_P g.1 vwCl (wX g a b d fo tp sh (fb (fStart e1 r n) f1) f20 ++ (wF g fo b tr o1 ++ (wLs g b e1 e10 e11 ++ (wLs g tr ((su (su (su (fun _ _ => 0) 301 t1) 310 t10) 311 t11) 301) ((su (su (su (fun _ _ => 0) 301 t1) 310 t10) 311 t11) 310) ((su (su (su (fun _ _ => 0) 301 t1) 310 t10) 311 t11) 311))))) H := hP
    have hD : va_D (va_A (wX g a b d fo tp sh f1 f20 ++ (wF g fo b tr o1 ++ (wLs g b e1 e10 e11 ++ (wLs g tr t1 t10 t11)))) s.heap.size) (wX g a b d fo tp sh (fb (fStart e1 r n) f1) f20 ++ (wF g fo b tr o1 ++ (wLs g b e1 e10 e11 ++ (wLs g tr ((su (su (su (fun _ _ => 0) 301 t1) 310 t10) 311 t11) 301) ((su (su (su (fun _ _ => 0) 301 t1) 310 t10) 311 t11) 310) ((su (su (su (fun _ _ => 0) 301 t1) 310 t10) 311 t11) 311))))) := hD
    exact W.iret hx hb hr (fun t ht hW => ⟨⟨_, (su (su (su (fun _ _ => 0) 301 t1) 310 t10) 311 t11), rfl, by rw [hf]; rfl, by rw [ht]; exact hP, hD⟩, hS.F ht⟩) hS.2.2 dX4_kind_24
abbrev rm_X4_swap : Room := { frames := 6, cells := 0, slots := 0, locals := 147 }
set_option maxRecDepth 100000 in
set_option maxHeartbeats 4000000 in
theorem c_X4_swap (l : Launch) (g : Gd) (d : Nat → Nat) (tp : Nat → Nat) (sh : Nat → Nat) (a : Nat → Nat) (f1 : Int → Int) (f20 : Int) (fo : Nat → Nat) (o1 : Int → Int) (b : Nat → Nat) (e1 : Int → Int) (e10 : Int → Int) (e11 : Int → Int) (tr : Nat → Nat) (t1 : Int → Int) (t10 : Int → Int) (t11 : Int → Int) (n : Int) (sz : Nat) (h1 : InvK 0 e1) (h2 : e1 0 ≤ 9999) (h3 : IR n) : Met l yX4_swap (wsOf yX4_swap cX4_swap 2 (some .int)) rm_X4_swap (PX g (wP g (wX g a b d fo tp sh f1 f20 ++ (wF g fo b tr o1 ++ (wLs g b e1 e10 e11 ++ (wLs g tr t1 t10 t11)))) sz) [.ref (a 0), .int (iI n)]) (QMi g (fun u9 : Nat → Int → Int => wX g a b d fo tp sh (fb (fSwap e1 n) f1) f20 ++ (wF g fo b tr o1 ++ (wLs g b e1 e10 e11 ++ (wLs g tr (u9 301) (u9 310) (u9 311))))) (fun r9 _ => r9 = ab (fSwap e1 n) (iI (swS e1 n).1)) (va_A (wX g a b d fo tp sh f1 f20 ++ (wF g fo b tr o1 ++ (wLs g b e1 e10 e11 ++ (wLs g tr t1 t10 t11)))) sz)) 0 0 (va_A (wX g a b d fo tp sh f1 f20 ++ (wF g fo b tr o1 ++ (wLs g b e1 e10 e11 ++ (wLs g tr t1 t10 t11)))) sz) := by
  refine me (g := g) (by decide) rfl ?_
  intro pq eq s mq below meth cq C hnm hB ls hl
  obtain ⟨hx, hb, hr, hml, hown, hts, hlocks, hK⟩ := C
  have hown : s.vm.findClass RX4 = some mq.cls := hown
  have hl : lv_has ls 2 [(0, .ref (a 0)), (1, .int (iI n))] := hl
  obtain ⟨hsz, hP, hD0⟩ := hB
  subst hsz
  have hD := hD0.self (sz := s.heap.size)
  have hA : ∀ q : Nat, s.heap.size ≤ q → va_A (wX g a b d fo tp sh f1 f20 ++ (wF g fo b tr o1 ++ (wLs g b e1 e10 e11 ++ (wLs g tr t1 t10 t11)))) s.heap.size q := fun q h => Or.inr h
  have hS : va_S (va_A (wX g a b d fo tp sh f1 f20 ++ (wF g fo b tr o1 ++ (wLs g b e1 e10 e11 ++ (wLs g tr t1 t10 t11)))) s.heap.size) s.heap s.heap [] := va_S.rf
  obtain ⟨hP0, hPr0⟩ := va_P_app.mp hP
  obtain ⟨hP1, hPr1⟩ := va_P_app.mp hPr0
  obtain ⟨hP2, hP3⟩ := va_P_app.mp hPr1
  have hI := h1
  have hI8 : Inv e1 := h1.mono (by omega)
  have hn := hI.num
  have hs := hI.sea
  have hv := hI.vil
  have q1 := h3.1
  have q2 := h3.2
  have hvb : ∀ p q : Nat, (p : Int) < e1 1 → (q : Int) < e1 1 → p ≠ q → 0 ≤ n → n ≤ 40 → 0 ≤ swV e1 n p q ∧ swV e1 n p q ≤ 21000000 := fun p q hp hq hpq n0 n1 => sumA_b (seaN_inv (hI.sw2 (p := (p : Int)) (q := (q : Int)) (by omega) hp (by omega) hq (by omega)) n.toNat (by unfold swp; rw [up_n (by omega), up_n (by omega)]; omega)).1
  have hob : 0 ≤ n → n ≤ 40 → -1 ≤ (swS e1 n).1 ∧ (swS e1 n).1 ≤ 100 := fun n0 n1 => (swO_b (v := swV e1 n) (n := (e1 1).toNat) (M := 21000000) (st := ((-1 : Int), sumA (seaN e1 n.toNat) 3)) (sumA_b (seaN_inv hI n.toNat (by omega)).1) ⟨by omega, by omega⟩ (by omega) (fun a b ha hb hab => hvb a b (by omega) (by omega) hab n0 n1) (e1 1).toNat (by omega)).2
  refine lv_iload_n hx hb dX4_swap_0 rfl (lv_at hl 1 rfl) ?_
  refine lv_iconst (v := iI (0)) hx hb dX4_swap_1 (by decide) ?_
  refine lv_bipush (v := iI (40)) hx hb dX4_swap_2 (by decide) ?_
  refine xu_b (P := 0 ≤ n ∧ n ≤ 40) (rS (rest := []) hx hb hml hown hts hK hl (c_X4_isBetween l g n 0 40 (show IR n from ⟨by omega, by omega⟩) (show IR 0 from ⟨by omega, by omega⟩) (show IR 40 from ⟨by omega, by omega⟩)) lk_X4_99 trivial rfl rfl rfl (Rm.of rfl) rfl rfl dX4_swap_4) (fun z1 => ?_) (fun z1 => ?_)
  · refine xi_zt_ne (tgt := 17) hx hb ⟨by decide, by decide⟩ (by decide) dX4_swap_7 (by decide) ?_
    refine lv_aload_n hx hb dX4_swap_17 rfl (lv_at hl 0 rfl) ?_
    refine lv_aload_n hx hb dX4_swap_18 rfl (lv_at hl 0 rfl) ?_
    refine xg_X4 hx hb hts hown hK hP0 0 rfl 2 (by decide) fk_X4_24 (v := .ref (fo 0)) rfl dX4_swap_19 ?_
    refine lv_iload_n hx hb dX4_swap_22 rfl (lv_at hl 1 rfl) ?_
    have hD : va_D (va_A (wX g a b d fo tp sh f1 f20 ++ (wF g fo b tr o1 ++ (wLs g b e1 e10 e11 ++ (wLs g tr t1 t10 t11)))) s.heap.size) (wF g fo b tr o1 ++ (wX g a b d fo tp sh f1 f20 ++ (wLs g b e1 e10 e11 ++ (wLs g tr t1 t10 t11)))) := D_perm (List.perm_append_comm_assoc _ _ _) hD
    have hD : va_D (va_A (wX g a b d fo tp sh f1 f20 ++ (wF g fo b tr o1 ++ (wLs g b e1 e10 e11 ++ (wLs g tr t1 t10 t11)))) s.heap.size) (wF g fo b tr o1 ++ (wLs g b e1 e10 e11 ++ (wX g a b d fo tp sh f1 f20 ++ (wLs g tr t1 t10 t11)))) := D_perm (List.Perm.append_left _ (List.perm_append_comm_assoc _ _ _)) hD
    have hD : va_D (va_A (wX g a b d fo tp sh f1 f20 ++ (wF g fo b tr o1 ++ (wLs g b e1 e10 e11 ++ (wLs g tr t1 t10 t11)))) s.heap.size) (wF g fo b tr o1 ++ (wLs g b e1 e10 e11 ++ (wLs g tr t1 t10 t11 ++ (wX g a b d fo tp sh f1 f20)))) := D_perm (List.Perm.append_left _ (List.Perm.append_left _ (List.perm_append_comm))) hD
    have hP : va_P g.1 vwCl (wF g fo b tr o1 ++ (wLs g b e1 e10 e11 ++ (wLs g tr t1 t10 t11 ++ (wX g a b d fo tp sh f1 f20)))) s.heap := va_P_app.mpr ⟨hP1, va_P_app.mpr ⟨hP2, va_P_app.mpr ⟨hP3, hP0⟩⟩⟩
    have hP : va_P g.1 vwCl ((wF g fo b tr o1 ++ (wLs g b e1 e10 e11 ++ (wLs g tr t1 t10 t11))) ++ (wX g a b d fo tp sh f1 f20)) s.heap := by rw [List.append_assoc, List.append_assoc]; exact hP
    have hD : va_D (va_A (wX g a b d fo tp sh f1 f20 ++ (wF g fo b tr o1 ++ (wLs g b e1 e10 e11 ++ (wLs g tr t1 t10 t11)))) s.heap.size) ((wF g fo b tr o1 ++ (wLs g b e1 e10 e11 ++ (wLs g tr t1 t10 t11))) ++ (wX g a b d fo tp sh f1 f20)) := by rw [List.append_assoc, List.append_assoc]; exact hD
    refine xmF_i (rVN (rest := [.ref (a 0)]) hx hb hml hown hts hK hl (c_X0_bestPair l g fo o1 b e1 e10 e11 tr t1 t10 t11 n (s.heap).size (show InvK 0 e1 from h1) (show e1 0 ≤ 9999 from by omega) (show 0 ≤ n ∧ n ≤ 40 from by omega)) lk_X4_219 ⟨rfl, (va_P_app.mp hP).1, (va_D_app hD).1.weaken (fun _ _ _ _ => trivial)⟩ (va_recv hK.1 hP1 (ci := 0) (q0 := 0) rfl rfl) rfl rfl rfl (Rm.of rfl) rfl rfl dX4_swap_23) hP hD hS hA (fun x9 u2 H locs hw hP hD hS => ?_)
    have hP : va_P g.1 vwCl ((wF g fo b tr o1 ++ (wLs g b e1 e10 e11 ++ (wLs g tr (u2 201) (u2 210) (u2 211)))) ++ (wX g a b d fo tp sh f1 f20)) H := hP
    have hD : va_D (va_A (wX g a b d fo tp sh f1 f20 ++ (wF g fo b tr o1 ++ (wLs g b e1 e10 e11 ++ (wLs g tr t1 t10 t11)))) s.heap.size) ((wF g fo b tr o1 ++ (wLs g b e1 e10 e11 ++ (wLs g tr (u2 201) (u2 210) (u2 211)))) ++ (wX g a b d fo tp sh f1 f20)) := hD
    rw [List.append_assoc, List.append_assoc] at hP hD
    obtain rfl : x9 = iI ((swS e1 n).1) := hw
    have hP : va_P g.1 vwCl (wF g fo b tr o1 ++ (wLs g b e1 e10 e11 ++ (wLs g tr (u2 201) (u2 210) (u2 211) ++ (wX g a b d fo tp sh f1 f20)))) H := hP
    have hD : va_D (va_A (wX g a b d fo tp sh f1 f20 ++ (wF g fo b tr o1 ++ (wLs g b e1 e10 e11 ++ (wLs g tr t1 t10 t11)))) s.heap.size) (wF g fo b tr o1 ++ (wLs g b e1 e10 e11 ++ (wLs g tr (u2 201) (u2 210) (u2 211) ++ (wX g a b d fo tp sh f1 f20)))) := hD
    obtain ⟨hP1, hPr0⟩ := va_P_app.mp hP
    obtain ⟨hP2, hPr1⟩ := va_P_app.mp hPr0
    obtain ⟨hP3, hP0⟩ := va_P_app.mp hPr1
    have hob9 := hob (by omega) (by omega)
    rcases (show (((swS e1 n).1) < 0) ∨ (0 ≤ ((swS e1 n).1)) from by omega) with z3 | z3
    · have hD : va_D (va_A (wX g a b d fo tp sh f1 f20 ++ (wF g fo b tr o1 ++ (wLs g b e1 e10 e11 ++ (wLs g tr t1 t10 t11)))) s.heap.size) (wF g fo b tr o1 ++ (wLs g b e1 e10 e11 ++ (wX g a b d fo tp sh f1 f20 ++ (wLs g tr (u2 201) (u2 210) (u2 211))))) := D_perm (List.Perm.append_left _ (List.Perm.append_left _ (List.perm_append_comm))) hD
      have hD : va_D (va_A (wX g a b d fo tp sh f1 f20 ++ (wF g fo b tr o1 ++ (wLs g b e1 e10 e11 ++ (wLs g tr t1 t10 t11)))) s.heap.size) (wF g fo b tr o1 ++ (wX g a b d fo tp sh f1 f20 ++ (wLs g b e1 e10 e11 ++ (wLs g tr (u2 201) (u2 210) (u2 211))))) := D_perm (List.Perm.append_left _ (List.perm_append_comm_assoc _ _ _)) hD
      have hD : va_D (va_A (wX g a b d fo tp sh f1 f20 ++ (wF g fo b tr o1 ++ (wLs g b e1 e10 e11 ++ (wLs g tr t1 t10 t11)))) s.heap.size) (wX g a b d fo tp sh f1 f20 ++ (wF g fo b tr o1 ++ (wLs g b e1 e10 e11 ++ (wLs g tr (u2 201) (u2 210) (u2 211))))) := D_perm (List.perm_append_comm_assoc _ _ _) hD
      have hP : va_P g.1 vwCl (wX g a b d fo tp sh f1 f20 ++ (wF g fo b tr o1 ++ (wLs g b e1 e10 e11 ++ (wLs g tr (u2 201) (u2 210) (u2 211))))) H := va_P_app.mpr ⟨hP0, va_P_app.mpr ⟨hP1, va_P_app.mpr ⟨hP2, hP3⟩⟩⟩
      refine xmF_i (rV (rest := []) hx hb hml hown hts hK hl (c_X4_orNoneN l g b d fo tp sh a f1 f20 ((swS e1 n).1) H.size (show IR ((swS e1 n).1) from ⟨by omega, by omega⟩) (show ((swS e1 n).1) < 0 from by omega)) lk_X4_189 ⟨rfl, hP0, (va_D_app hD).1.weaken (fun _ _ _ _ => trivial)⟩ (va_recv hK.1 hP0 (ci := 4) (q0 := 0) rfl rfl) rfl rfl rfl (Rm.of rfl) rfl rfl dX4_swap_26) hP hD hS hA (fun x9 _ H locs hw hP hD hS => ?_)
      obtain rfl : x9 = iI (-1000000004) := hw
      have hP : va_P g.1 vwCl (wX g a b d fo tp sh (fb (-1000000000 - (-1000000004)) f1) f20 ++ (wF g fo b tr o1 ++ (wLs g b e1 e10 e11 ++ (wLs g tr (u2 201) (u2 210) (u2 211))))) H := hP
      have hD : va_D (va_A (wX g a b d fo tp sh f1 f20 ++ (wF g fo b tr o1 ++ (wLs g b e1 e10 e11 ++ (wLs g tr t1 t10 t11)))) s.heap.size) (wX g a b d fo tp sh (fb (-1000000000 - (-1000000004)) f1) f20 ++ (wF g fo b tr o1 ++ (wLs g b e1 e10 e11 ++ (wLs g tr (u2 201) (u2 210) (u2 211))))) := hD
      obtain ⟨hP0, hPr0⟩ := va_P_app.mp hP
      obtain ⟨hP1, hPr1⟩ := va_P_app.mp hPr0
      obtain ⟨hP2, hP3⟩ := va_P_app.mp hPr1
      have hf : fSwap e1 n = 4 := by unfold fSwap; (repeat (first | rw [if_pos (by omega)] | rw [if_neg (by omega)])); first | done | (exfalso; omega)
      have he5 : (fb (-1000000000 - (-1000000004)) f1) = (fb (fSwap e1 n) f1) := by rw [hf]; rfl
      have hP := Eq.mp (congrArg (fun z9 => va_P g.1 vwCl (wX g a b d fo tp sh z9 f20 ++ (wF g fo b tr o1 ++ (wLs g b e1 e10 e11 ++ (wLs g tr (u2 201) (u2 210) (u2 211))))) H) he5) hP
      have hD := Eq.mp (congrArg (fun z9 => va_D (va_A (wX g a b d fo tp sh f1 f20 ++ (wF g fo b tr o1 ++ (wLs g b e1 e10 e11 ++ (wLs g tr t1 t10 t11)))) s.heap.size) (wX g a b d fo tp sh z9 f20 ++ (wF g fo b tr o1 ++ (wLs g b e1 e10 e11 ++ (wLs g tr (u2 201) (u2 210) (u2 211)))))) he5) hD
      obtain ⟨hP0, hPr0⟩ := va_P_app.mp hP
      obtain ⟨hP1, hPr1⟩ := va_P_app.mp hPr0
      obtain ⟨hP2, hP3⟩ := va_P_app.mp hPr1
      have hP : va_P g.1 vwCl (wX g a b d fo tp sh (fb (fSwap e1 n) f1) f20 ++ (wF g fo b tr o1 ++ (wLs g b e1 e10 e11 ++ (wLs g tr ((su (su (su (fun _ _ => 0) 301 (u2 201)) 310 (u2 210)) 311 (u2 211)) 301) ((su (su (su (fun _ _ => 0) 301 (u2 201)) 310 (u2 210)) 311 (u2 211)) 310) ((su (su (su (fun _ _ => 0) 301 (u2 201)) 310 (u2 210)) 311 (u2 211)) 311))))) H := hP
      have hD : va_D (va_A (wX g a b d fo tp sh f1 f20 ++ (wF g fo b tr o1 ++ (wLs g b e1 e10 e11 ++ (wLs g tr t1 t10 t11)))) s.heap.size) (wX g a b d fo tp sh (fb (fSwap e1 n) f1) f20 ++ (wF g fo b tr o1 ++ (wLs g b e1 e10 e11 ++ (wLs g tr ((su (su (su (fun _ _ => 0) 301 (u2 201)) 310 (u2 210)) 311 (u2 211)) 301) ((su (su (su (fun _ _ => 0) 301 (u2 201)) 310 (u2 210)) 311 (u2 211)) 310) ((su (su (su (fun _ _ => 0) 301 (u2 201)) 310 (u2 210)) 311 (u2 211)) 311))))) := hD
      exact W.iret hx hb hr (fun t ht hW => ⟨⟨_, (su (su (su (fun _ _ => 0) 301 (u2 201)) 310 (u2 210)) 311 (u2 211)), rfl, by rw [hf]; rfl, by rw [ht]; exact hP, hD⟩, hS.F ht⟩) hS.2.2 dX4_swap_29
    · have hD : va_D (va_A (wX g a b d fo tp sh f1 f20 ++ (wF g fo b tr o1 ++ (wLs g b e1 e10 e11 ++ (wLs g tr t1 t10 t11)))) s.heap.size) (wF g fo b tr o1 ++ (wLs g b e1 e10 e11 ++ (wX g a b d fo tp sh f1 f20 ++ (wLs g tr (u2 201) (u2 210) (u2 211))))) := D_perm (List.Perm.append_left _ (List.Perm.append_left _ (List.perm_append_comm))) hD
      have hD : va_D (va_A (wX g a b d fo tp sh f1 f20 ++ (wF g fo b tr o1 ++ (wLs g b e1 e10 e11 ++ (wLs g tr t1 t10 t11)))) s.heap.size) (wF g fo b tr o1 ++ (wX g a b d fo tp sh f1 f20 ++ (wLs g b e1 e10 e11 ++ (wLs g tr (u2 201) (u2 210) (u2 211))))) := D_perm (List.Perm.append_left _ (List.perm_append_comm_assoc _ _ _)) hD
      have hD : va_D (va_A (wX g a b d fo tp sh f1 f20 ++ (wF g fo b tr o1 ++ (wLs g b e1 e10 e11 ++ (wLs g tr t1 t10 t11)))) s.heap.size) (wX g a b d fo tp sh f1 f20 ++ (wF g fo b tr o1 ++ (wLs g b e1 e10 e11 ++ (wLs g tr (u2 201) (u2 210) (u2 211))))) := D_perm (List.perm_append_comm_assoc _ _ _) hD
      have hP : va_P g.1 vwCl (wX g a b d fo tp sh f1 f20 ++ (wF g fo b tr o1 ++ (wLs g b e1 e10 e11 ++ (wLs g tr (u2 201) (u2 210) (u2 211))))) H := va_P_app.mpr ⟨hP0, va_P_app.mpr ⟨hP1, va_P_app.mpr ⟨hP2, hP3⟩⟩⟩
      refine xmF_i (rV (rest := []) hx hb hml hown hts hK hl (c_X4_orNoneP l g b d fo tp sh a f1 f20 ((swS e1 n).1) H.size (show IR ((swS e1 n).1) from ⟨by omega, by omega⟩) (show 0 ≤ ((swS e1 n).1) from by omega)) lk_X4_189 ⟨rfl, hP0, (va_D_app hD).1.weaken (fun _ _ _ _ => trivial)⟩ (va_recv hK.1 hP0 (ci := 4) (q0 := 0) rfl rfl) rfl rfl rfl (Rm.of rfl) rfl rfl dX4_swap_26) hP hD hS hA (fun x9 _ H locs hw hP hD hS => ?_)
      obtain rfl : x9 = iI ((swS e1 n).1) := hw
      have hP : va_P g.1 vwCl (wX g a b d fo tp sh f1 f20 ++ (wF g fo b tr o1 ++ (wLs g b e1 e10 e11 ++ (wLs g tr (u2 201) (u2 210) (u2 211))))) H := hP
      have hD : va_D (va_A (wX g a b d fo tp sh f1 f20 ++ (wF g fo b tr o1 ++ (wLs g b e1 e10 e11 ++ (wLs g tr t1 t10 t11)))) s.heap.size) (wX g a b d fo tp sh f1 f20 ++ (wF g fo b tr o1 ++ (wLs g b e1 e10 e11 ++ (wLs g tr (u2 201) (u2 210) (u2 211))))) := hD
      obtain ⟨hP0, hPr0⟩ := va_P_app.mp hP
      obtain ⟨hP1, hPr1⟩ := va_P_app.mp hPr0
      obtain ⟨hP2, hP3⟩ := va_P_app.mp hPr1
      have hf : fSwap e1 n = 0 := by unfold fSwap; (repeat (first | rw [if_pos (by omega)] | rw [if_neg (by omega)])); first | done | (exfalso; omega)
      have he7 : f1 = (fb (fSwap e1 n) f1) := by rw [hf]; rfl
      have hP := Eq.mp (congrArg (fun z9 => va_P g.1 vwCl (wX g a b d fo tp sh z9 f20 ++ (wF g fo b tr o1 ++ (wLs g b e1 e10 e11 ++ (wLs g tr (u2 201) (u2 210) (u2 211))))) H) he7) hP
      have hD := Eq.mp (congrArg (fun z9 => va_D (va_A (wX g a b d fo tp sh f1 f20 ++ (wF g fo b tr o1 ++ (wLs g b e1 e10 e11 ++ (wLs g tr t1 t10 t11)))) s.heap.size) (wX g a b d fo tp sh z9 f20 ++ (wF g fo b tr o1 ++ (wLs g b e1 e10 e11 ++ (wLs g tr (u2 201) (u2 210) (u2 211)))))) he7) hD
      obtain ⟨hP0, hPr0⟩ := va_P_app.mp hP
      obtain ⟨hP1, hPr1⟩ := va_P_app.mp hPr0
      obtain ⟨hP2, hP3⟩ := va_P_app.mp hPr1
      have hP : va_P g.1 vwCl (wX g a b d fo tp sh (fb (fSwap e1 n) f1) f20 ++ (wF g fo b tr o1 ++ (wLs g b e1 e10 e11 ++ (wLs g tr ((su (su (su (fun _ _ => 0) 301 (u2 201)) 310 (u2 210)) 311 (u2 211)) 301) ((su (su (su (fun _ _ => 0) 301 (u2 201)) 310 (u2 210)) 311 (u2 211)) 310) ((su (su (su (fun _ _ => 0) 301 (u2 201)) 310 (u2 210)) 311 (u2 211)) 311))))) H := hP
      have hD : va_D (va_A (wX g a b d fo tp sh f1 f20 ++ (wF g fo b tr o1 ++ (wLs g b e1 e10 e11 ++ (wLs g tr t1 t10 t11)))) s.heap.size) (wX g a b d fo tp sh (fb (fSwap e1 n) f1) f20 ++ (wF g fo b tr o1 ++ (wLs g b e1 e10 e11 ++ (wLs g tr ((su (su (su (fun _ _ => 0) 301 (u2 201)) 310 (u2 210)) 311 (u2 211)) 301) ((su (su (su (fun _ _ => 0) 301 (u2 201)) 310 (u2 210)) 311 (u2 211)) 310) ((su (su (su (fun _ _ => 0) 301 (u2 201)) 310 (u2 210)) 311 (u2 211)) 311))))) := hD
      exact W.iret hx hb hr (fun t ht hW => ⟨⟨_, (su (su (su (fun _ _ => 0) 301 (u2 201)) 310 (u2 210)) 311 (u2 211)), rfl, by rw [hf, ab_0], by rw [ht]; exact hP, hD⟩, hS.F ht⟩) hS.2.2 dX4_swap_29
  · refine xi_zf_ne hx hb ⟨by decide, by decide⟩ (by decide) dX4_swap_7 ⟨17, by decide⟩ ?_
    refine lv_aload_n hx hb dX4_swap_10 rfl (lv_at hl 0 rfl) ?_
    refine xi_ldc hx hb hown hts kk_X4_58 dX4_swap_11 ?_
    refine xmF_i (rV (rest := []) hx hb hml hown hts hK hl (c_X4_finding l g b d fo tp sh a f1 f20 (-1000000001) (s.heap).size (show 0 ≤ -1000000001 - (-1000000001) ∧ -1000000001 - (-1000000001) < 7 from by omega)) lk_X4_59 ⟨rfl, hP0, (va_D_app hD).1.weaken (fun _ _ _ _ => trivial)⟩ (va_recv hK.1 hP0 (ci := 4) (q0 := 0) rfl rfl) rfl rfl rfl (Rm.of rfl) rfl rfl dX4_swap_13) hP hD hS hA (fun x9 _ H locs hw hP hD hS => ?_)
    obtain rfl : x9 = iI (-1000000001) := hw
    have hP : va_P g.1 vwCl (wX g a b d fo tp sh (fb (-1000000000 - (-1000000001)) f1) f20 ++ (wF g fo b tr o1 ++ (wLs g b e1 e10 e11 ++ (wLs g tr t1 t10 t11)))) H := hP
    have hD : va_D (va_A (wX g a b d fo tp sh f1 f20 ++ (wF g fo b tr o1 ++ (wLs g b e1 e10 e11 ++ (wLs g tr t1 t10 t11)))) s.heap.size) (wX g a b d fo tp sh (fb (-1000000000 - (-1000000001)) f1) f20 ++ (wF g fo b tr o1 ++ (wLs g b e1 e10 e11 ++ (wLs g tr t1 t10 t11)))) := hD
    obtain ⟨hP0, hPr0⟩ := va_P_app.mp hP
    obtain ⟨hP1, hPr1⟩ := va_P_app.mp hPr0
    obtain ⟨hP2, hP3⟩ := va_P_app.mp hPr1
    have hf : fSwap e1 n = 1 := by unfold fSwap; (repeat (first | rw [if_pos (by omega)] | rw [if_neg (by omega)])); first | done | (exfalso; omega)
    have he9 : (fb (-1000000000 - (-1000000001)) f1) = (fb (fSwap e1 n) f1) := by rw [hf]; rfl
    have hP := Eq.mp (congrArg (fun z9 => va_P g.1 vwCl (wX g a b d fo tp sh z9 f20 ++ (wF g fo b tr o1 ++ (wLs g b e1 e10 e11 ++ (wLs g tr t1 t10 t11)))) H) he9) hP
    have hD := Eq.mp (congrArg (fun z9 => va_D (va_A (wX g a b d fo tp sh f1 f20 ++ (wF g fo b tr o1 ++ (wLs g b e1 e10 e11 ++ (wLs g tr t1 t10 t11)))) s.heap.size) (wX g a b d fo tp sh z9 f20 ++ (wF g fo b tr o1 ++ (wLs g b e1 e10 e11 ++ (wLs g tr t1 t10 t11))))) he9) hD
    obtain ⟨hP0, hPr0⟩ := va_P_app.mp hP
    obtain ⟨hP1, hPr1⟩ := va_P_app.mp hPr0
    obtain ⟨hP2, hP3⟩ := va_P_app.mp hPr1
    have hP : va_P g.1 vwCl (wX g a b d fo tp sh (fb (fSwap e1 n) f1) f20 ++ (wF g fo b tr o1 ++ (wLs g b e1 e10 e11 ++ (wLs g tr ((su (su (su (fun _ _ => 0) 301 t1) 310 t10) 311 t11) 301) ((su (su (su (fun _ _ => 0) 301 t1) 310 t10) 311 t11) 310) ((su (su (su (fun _ _ => 0) 301 t1) 310 t10) 311 t11) 311))))) H := hP
    have hD : va_D (va_A (wX g a b d fo tp sh f1 f20 ++ (wF g fo b tr o1 ++ (wLs g b e1 e10 e11 ++ (wLs g tr t1 t10 t11)))) s.heap.size) (wX g a b d fo tp sh (fb (fSwap e1 n) f1) f20 ++ (wF g fo b tr o1 ++ (wLs g b e1 e10 e11 ++ (wLs g tr ((su (su (su (fun _ _ => 0) 301 t1) 310 t10) 311 t11) 301) ((su (su (su (fun _ _ => 0) 301 t1) 310 t10) 311 t11) 310) ((su (su (su (fun _ _ => 0) 301 t1) 310 t10) 311 t11) 311))))) := hD
    exact W.iret hx hb hr (fun t ht hW => ⟨⟨_, (su (su (su (fun _ _ => 0) 301 t1) 310 t10) 311 t11), rfl, by rw [hf]; rfl, by rw [ht]; exact hP, hD⟩, hS.F ht⟩) hS.2.2 dX4_swap_16
abbrev rm_X4_journey : Room := { frames := 5, cells := 0, slots := 0, locals := 145 }
set_option maxRecDepth 100000 in
set_option maxHeartbeats 4000000 in
theorem c_X4_journey (l : Launch) (g : Gd) (d : Nat → Nat) (tp : Nat → Nat) (sh : Nat → Nat) (a : Nat → Nat) (f1 : Int → Int) (f20 : Int) (fo : Nat → Nat) (o1 : Int → Int) (b : Nat → Nat) (e1 : Int → Int) (e10 : Int → Int) (e11 : Int → Int) (tr : Nat → Nat) (t1 : Int → Int) (t10 : Int → Int) (t11 : Int → Int) (x : Int) (y : Int) (sz : Nat) (h1 : InvK 0 e1) (h2 : e1 0 ≤ 9999) (h3 : IR x) (h4 : IR y) : Met l yX4_journey (wsOf yX4_journey cX4_journey 3 (some .int)) rm_X4_journey (PX g (wP g (wX g a b d fo tp sh f1 f20 ++ (wF g fo b tr o1 ++ (wLs g b e1 e10 e11 ++ (wLs g tr t1 t10 t11)))) sz) [.ref (a 0), .int (iI x), .int (iI y)]) (QMi g (fun u9 : Nat → Int → Int => wX g a b d fo tp sh (fb (fJrn e1 x y) f1) f20 ++ (wF g fo b tr (u9 101) ++ (wLs g b e1 e10 e11 ++ (wLs g tr (u9 301) (u9 310) (u9 311))))) (fun r9 _ => r9 = ab (fJrn e1 x y) (iI (wlk e1 x y))) (va_A (wX g a b d fo tp sh f1 f20 ++ (wF g fo b tr o1 ++ (wLs g b e1 e10 e11 ++ (wLs g tr t1 t10 t11)))) sz)) 0 0 (va_A (wX g a b d fo tp sh f1 f20 ++ (wF g fo b tr o1 ++ (wLs g b e1 e10 e11 ++ (wLs g tr t1 t10 t11)))) sz) := by
  refine me (g := g) (by decide) rfl ?_
  intro pq eq s mq below meth cq C hnm hB ls hl
  obtain ⟨hx, hb, hr, hml, hown, hts, hlocks, hK⟩ := C
  have hown : s.vm.findClass RX4 = some mq.cls := hown
  have hl : lv_has ls 3 [(0, .ref (a 0)), (1, .int (iI x)), (2, .int (iI y))] := hl
  obtain ⟨hsz, hP, hD0⟩ := hB
  subst hsz
  have hD := hD0.self (sz := s.heap.size)
  have hA : ∀ q : Nat, s.heap.size ≤ q → va_A (wX g a b d fo tp sh f1 f20 ++ (wF g fo b tr o1 ++ (wLs g b e1 e10 e11 ++ (wLs g tr t1 t10 t11)))) s.heap.size q := fun q h => Or.inr h
  have hS : va_S (va_A (wX g a b d fo tp sh f1 f20 ++ (wF g fo b tr o1 ++ (wLs g b e1 e10 e11 ++ (wLs g tr t1 t10 t11)))) s.heap.size) s.heap s.heap [] := va_S.rf
  obtain ⟨hP0, hPr0⟩ := va_P_app.mp hP
  obtain ⟨hP1, hPr1⟩ := va_P_app.mp hPr0
  obtain ⟨hP2, hP3⟩ := va_P_app.mp hPr1
  have hI := h1
  have hI8 : Inv e1 := h1.mono (by omega)
  have hn := hI.num
  have hs := hI.sea
  have hv := hI.vil
  have q1 := h3.1
  have q3 := h4.1
  have q2 := h3.2
  have q4 := h4.2
  have hwk := wkT_b y 80 e1 x 0 (by omega)
  have hwl : wlk e1 x y = wkT y 80 e1 x 0 := rfl
  refine lv_iload_n hx hb dX4_journey_0 rfl (lv_at hl 1 rfl) ?_
  refine xu_b (P := 0 ≤ x ∧ x ≤ 23) (rS (rest := []) hx hb hml hown hts hK hl (c_X4_isCell l g x (show IR x from ⟨by omega, by omega⟩)) lk_X4_50 trivial rfl rfl rfl (Rm.of rfl) rfl rfl dX4_journey_1) (fun z1 => ?_) (fun z1 => ?_)
  · refine xi_zf_eq hx hb ⟨by decide, by decide⟩ (by decide) dX4_journey_4 ⟨14, by decide⟩ ?_
    refine lv_iload_n hx hb dX4_journey_7 rfl (lv_at hl 2 rfl) ?_
    refine xu_b (P := 0 ≤ y ∧ y ≤ 23) (rS (rest := []) hx hb hml hown hts hK hl (c_X4_isCell l g y (show IR y from ⟨by omega, by omega⟩)) lk_X4_50 trivial rfl rfl rfl (Rm.of rfl) rfl rfl dX4_journey_8) (fun z2 => ?_) (fun z2 => ?_)
    · refine xi_zt_ne (tgt := 21) hx hb ⟨by decide, by decide⟩ (by decide) dX4_journey_11 (by decide) ?_
      refine lv_aload_n hx hb dX4_journey_21 rfl (lv_at hl 0 rfl) ?_
      refine lv_aload_n hx hb dX4_journey_22 rfl (lv_at hl 0 rfl) ?_
      refine xg_X4 hx hb hts hown hK hP0 0 rfl 2 (by decide) fk_X4_24 (v := .ref (fo 0)) rfl dX4_journey_23 ?_
      refine lv_iload_n hx hb dX4_journey_26 rfl (lv_at hl 1 rfl) ?_
      refine lv_iload_n hx hb dX4_journey_27 rfl (lv_at hl 2 rfl) ?_
      have hD : va_D (va_A (wX g a b d fo tp sh f1 f20 ++ (wF g fo b tr o1 ++ (wLs g b e1 e10 e11 ++ (wLs g tr t1 t10 t11)))) s.heap.size) (wF g fo b tr o1 ++ (wX g a b d fo tp sh f1 f20 ++ (wLs g b e1 e10 e11 ++ (wLs g tr t1 t10 t11)))) := D_perm (List.perm_append_comm_assoc _ _ _) hD
      have hD : va_D (va_A (wX g a b d fo tp sh f1 f20 ++ (wF g fo b tr o1 ++ (wLs g b e1 e10 e11 ++ (wLs g tr t1 t10 t11)))) s.heap.size) (wF g fo b tr o1 ++ (wLs g b e1 e10 e11 ++ (wX g a b d fo tp sh f1 f20 ++ (wLs g tr t1 t10 t11)))) := D_perm (List.Perm.append_left _ (List.perm_append_comm_assoc _ _ _)) hD
      have hD : va_D (va_A (wX g a b d fo tp sh f1 f20 ++ (wF g fo b tr o1 ++ (wLs g b e1 e10 e11 ++ (wLs g tr t1 t10 t11)))) s.heap.size) (wF g fo b tr o1 ++ (wLs g b e1 e10 e11 ++ (wLs g tr t1 t10 t11 ++ (wX g a b d fo tp sh f1 f20)))) := D_perm (List.Perm.append_left _ (List.Perm.append_left _ (List.perm_append_comm))) hD
      have hP : va_P g.1 vwCl (wF g fo b tr o1 ++ (wLs g b e1 e10 e11 ++ (wLs g tr t1 t10 t11 ++ (wX g a b d fo tp sh f1 f20)))) s.heap := va_P_app.mpr ⟨hP1, va_P_app.mpr ⟨hP2, va_P_app.mpr ⟨hP3, hP0⟩⟩⟩
      have hP : va_P g.1 vwCl ((wF g fo b tr o1 ++ (wLs g b e1 e10 e11 ++ (wLs g tr t1 t10 t11))) ++ (wX g a b d fo tp sh f1 f20)) s.heap := by rw [List.append_assoc, List.append_assoc]; exact hP
      have hD : va_D (va_A (wX g a b d fo tp sh f1 f20 ++ (wF g fo b tr o1 ++ (wLs g b e1 e10 e11 ++ (wLs g tr t1 t10 t11)))) s.heap.size) ((wF g fo b tr o1 ++ (wLs g b e1 e10 e11 ++ (wLs g tr t1 t10 t11))) ++ (wX g a b d fo tp sh f1 f20)) := by rw [List.append_assoc, List.append_assoc]; exact hD
      refine xmF_i (rVN (rest := [.ref (a 0)]) hx hb hml hown hts hK hl (c_X0_journeyLength l g fo o1 b e1 e10 e11 tr t1 t10 t11 x y (s.heap).size (show InvK 0 e1 from h1) (show e1 0 ≤ 9999 from by omega) (show 0 ≤ x ∧ x ≤ 23 from by omega) (show 0 ≤ y ∧ y ≤ 23 from by omega)) lk_X4_222 ⟨rfl, (va_P_app.mp hP).1, (va_D_app hD).1.weaken (fun _ _ _ _ => trivial)⟩ (va_recv hK.1 hP1 (ci := 0) (q0 := 0) rfl rfl) rfl rfl rfl (Rm.of rfl) rfl rfl dX4_journey_28) hP hD hS hA (fun x9 u3 H locs hw hP hD hS => ?_)
      have hP : va_P g.1 vwCl ((wF g fo b tr (u3 1) ++ (wLs g b e1 e10 e11 ++ (wLs g tr (u3 201) (u3 210) (u3 211)))) ++ (wX g a b d fo tp sh f1 f20)) H := hP
      have hD : va_D (va_A (wX g a b d fo tp sh f1 f20 ++ (wF g fo b tr o1 ++ (wLs g b e1 e10 e11 ++ (wLs g tr t1 t10 t11)))) s.heap.size) ((wF g fo b tr (u3 1) ++ (wLs g b e1 e10 e11 ++ (wLs g tr (u3 201) (u3 210) (u3 211)))) ++ (wX g a b d fo tp sh f1 f20)) := hD
      rw [List.append_assoc, List.append_assoc] at hP hD
      obtain rfl : x9 = iI (wlk e1 x y) := hw
      have hP : va_P g.1 vwCl (wF g fo b tr (u3 1) ++ (wLs g b e1 e10 e11 ++ (wLs g tr (u3 201) (u3 210) (u3 211) ++ (wX g a b d fo tp sh f1 f20)))) H := hP
      have hD : va_D (va_A (wX g a b d fo tp sh f1 f20 ++ (wF g fo b tr o1 ++ (wLs g b e1 e10 e11 ++ (wLs g tr t1 t10 t11)))) s.heap.size) (wF g fo b tr (u3 1) ++ (wLs g b e1 e10 e11 ++ (wLs g tr (u3 201) (u3 210) (u3 211) ++ (wX g a b d fo tp sh f1 f20)))) := hD
      obtain ⟨hP1, hPr0⟩ := va_P_app.mp hP
      obtain ⟨hP2, hPr1⟩ := va_P_app.mp hPr0
      obtain ⟨hP3, hP0⟩ := va_P_app.mp hPr1
      rcases (show ((wlk e1 x y) < 0) ∨ (0 ≤ (wlk e1 x y)) from by omega) with z4 | z4
      · have hD : va_D (va_A (wX g a b d fo tp sh f1 f20 ++ (wF g fo b tr o1 ++ (wLs g b e1 e10 e11 ++ (wLs g tr t1 t10 t11)))) s.heap.size) (wF g fo b tr (u3 1) ++ (wLs g b e1 e10 e11 ++ (wX g a b d fo tp sh f1 f20 ++ (wLs g tr (u3 201) (u3 210) (u3 211))))) := D_perm (List.Perm.append_left _ (List.Perm.append_left _ (List.perm_append_comm))) hD
        have hD : va_D (va_A (wX g a b d fo tp sh f1 f20 ++ (wF g fo b tr o1 ++ (wLs g b e1 e10 e11 ++ (wLs g tr t1 t10 t11)))) s.heap.size) (wF g fo b tr (u3 1) ++ (wX g a b d fo tp sh f1 f20 ++ (wLs g b e1 e10 e11 ++ (wLs g tr (u3 201) (u3 210) (u3 211))))) := D_perm (List.Perm.append_left _ (List.perm_append_comm_assoc _ _ _)) hD
        have hD : va_D (va_A (wX g a b d fo tp sh f1 f20 ++ (wF g fo b tr o1 ++ (wLs g b e1 e10 e11 ++ (wLs g tr t1 t10 t11)))) s.heap.size) (wX g a b d fo tp sh f1 f20 ++ (wF g fo b tr (u3 1) ++ (wLs g b e1 e10 e11 ++ (wLs g tr (u3 201) (u3 210) (u3 211))))) := D_perm (List.perm_append_comm_assoc _ _ _) hD
        have hP : va_P g.1 vwCl (wX g a b d fo tp sh f1 f20 ++ (wF g fo b tr (u3 1) ++ (wLs g b e1 e10 e11 ++ (wLs g tr (u3 201) (u3 210) (u3 211))))) H := va_P_app.mpr ⟨hP0, va_P_app.mpr ⟨hP1, va_P_app.mpr ⟨hP2, hP3⟩⟩⟩
        refine xmF_i (rV (rest := []) hx hb hml hown hts hK hl (c_X4_orNoneN l g b d fo tp sh a f1 f20 (wlk e1 x y) H.size (show IR (wlk e1 x y) from ⟨by omega, by omega⟩) (show (wlk e1 x y) < 0 from by omega)) lk_X4_189 ⟨rfl, hP0, (va_D_app hD).1.weaken (fun _ _ _ _ => trivial)⟩ (va_recv hK.1 hP0 (ci := 4) (q0 := 0) rfl rfl) rfl rfl rfl (Rm.of rfl) rfl rfl dX4_journey_31) hP hD hS hA (fun x9 _ H locs hw hP hD hS => ?_)
        obtain rfl : x9 = iI (-1000000004) := hw
        have hP : va_P g.1 vwCl (wX g a b d fo tp sh (fb (-1000000000 - (-1000000004)) f1) f20 ++ (wF g fo b tr (u3 1) ++ (wLs g b e1 e10 e11 ++ (wLs g tr (u3 201) (u3 210) (u3 211))))) H := hP
        have hD : va_D (va_A (wX g a b d fo tp sh f1 f20 ++ (wF g fo b tr o1 ++ (wLs g b e1 e10 e11 ++ (wLs g tr t1 t10 t11)))) s.heap.size) (wX g a b d fo tp sh (fb (-1000000000 - (-1000000004)) f1) f20 ++ (wF g fo b tr (u3 1) ++ (wLs g b e1 e10 e11 ++ (wLs g tr (u3 201) (u3 210) (u3 211))))) := hD
        obtain ⟨hP0, hPr0⟩ := va_P_app.mp hP
        obtain ⟨hP1, hPr1⟩ := va_P_app.mp hPr0
        obtain ⟨hP2, hP3⟩ := va_P_app.mp hPr1
        have hf : fJrn e1 x y = 4 := by unfold fJrn; (repeat (first | rw [if_pos (by omega)] | rw [if_neg (by omega)])); first | done | (exfalso; omega)
        have he6 : (fb (-1000000000 - (-1000000004)) f1) = (fb (fJrn e1 x y) f1) := by rw [hf]; rfl
        have hP := Eq.mp (congrArg (fun z9 => va_P g.1 vwCl (wX g a b d fo tp sh z9 f20 ++ (wF g fo b tr (u3 1) ++ (wLs g b e1 e10 e11 ++ (wLs g tr (u3 201) (u3 210) (u3 211))))) H) he6) hP
        have hD := Eq.mp (congrArg (fun z9 => va_D (va_A (wX g a b d fo tp sh f1 f20 ++ (wF g fo b tr o1 ++ (wLs g b e1 e10 e11 ++ (wLs g tr t1 t10 t11)))) s.heap.size) (wX g a b d fo tp sh z9 f20 ++ (wF g fo b tr (u3 1) ++ (wLs g b e1 e10 e11 ++ (wLs g tr (u3 201) (u3 210) (u3 211)))))) he6) hD
        obtain ⟨hP0, hPr0⟩ := va_P_app.mp hP
        obtain ⟨hP1, hPr1⟩ := va_P_app.mp hPr0
        obtain ⟨hP2, hP3⟩ := va_P_app.mp hPr1
        have hP : va_P g.1 vwCl (wX g a b d fo tp sh (fb (fJrn e1 x y) f1) f20 ++ (wF g fo b tr ((su (su (su (su (fun _ _ => 0) 101 (u3 1)) 301 (u3 201)) 310 (u3 210)) 311 (u3 211)) 101) ++ (wLs g b e1 e10 e11 ++ (wLs g tr ((su (su (su (su (fun _ _ => 0) 101 (u3 1)) 301 (u3 201)) 310 (u3 210)) 311 (u3 211)) 301) ((su (su (su (su (fun _ _ => 0) 101 (u3 1)) 301 (u3 201)) 310 (u3 210)) 311 (u3 211)) 310) ((su (su (su (su (fun _ _ => 0) 101 (u3 1)) 301 (u3 201)) 310 (u3 210)) 311 (u3 211)) 311))))) H := hP
        have hD : va_D (va_A (wX g a b d fo tp sh f1 f20 ++ (wF g fo b tr o1 ++ (wLs g b e1 e10 e11 ++ (wLs g tr t1 t10 t11)))) s.heap.size) (wX g a b d fo tp sh (fb (fJrn e1 x y) f1) f20 ++ (wF g fo b tr ((su (su (su (su (fun _ _ => 0) 101 (u3 1)) 301 (u3 201)) 310 (u3 210)) 311 (u3 211)) 101) ++ (wLs g b e1 e10 e11 ++ (wLs g tr ((su (su (su (su (fun _ _ => 0) 101 (u3 1)) 301 (u3 201)) 310 (u3 210)) 311 (u3 211)) 301) ((su (su (su (su (fun _ _ => 0) 101 (u3 1)) 301 (u3 201)) 310 (u3 210)) 311 (u3 211)) 310) ((su (su (su (su (fun _ _ => 0) 101 (u3 1)) 301 (u3 201)) 310 (u3 210)) 311 (u3 211)) 311))))) := hD
        exact W.iret hx hb hr (fun t ht hW => ⟨⟨_, (su (su (su (su (fun _ _ => 0) 101 (u3 1)) 301 (u3 201)) 310 (u3 210)) 311 (u3 211)), rfl, by rw [hf]; rfl, by rw [ht]; exact hP, hD⟩, hS.F ht⟩) hS.2.2 dX4_journey_34
      · have hD : va_D (va_A (wX g a b d fo tp sh f1 f20 ++ (wF g fo b tr o1 ++ (wLs g b e1 e10 e11 ++ (wLs g tr t1 t10 t11)))) s.heap.size) (wF g fo b tr (u3 1) ++ (wLs g b e1 e10 e11 ++ (wX g a b d fo tp sh f1 f20 ++ (wLs g tr (u3 201) (u3 210) (u3 211))))) := D_perm (List.Perm.append_left _ (List.Perm.append_left _ (List.perm_append_comm))) hD
        have hD : va_D (va_A (wX g a b d fo tp sh f1 f20 ++ (wF g fo b tr o1 ++ (wLs g b e1 e10 e11 ++ (wLs g tr t1 t10 t11)))) s.heap.size) (wF g fo b tr (u3 1) ++ (wX g a b d fo tp sh f1 f20 ++ (wLs g b e1 e10 e11 ++ (wLs g tr (u3 201) (u3 210) (u3 211))))) := D_perm (List.Perm.append_left _ (List.perm_append_comm_assoc _ _ _)) hD
        have hD : va_D (va_A (wX g a b d fo tp sh f1 f20 ++ (wF g fo b tr o1 ++ (wLs g b e1 e10 e11 ++ (wLs g tr t1 t10 t11)))) s.heap.size) (wX g a b d fo tp sh f1 f20 ++ (wF g fo b tr (u3 1) ++ (wLs g b e1 e10 e11 ++ (wLs g tr (u3 201) (u3 210) (u3 211))))) := D_perm (List.perm_append_comm_assoc _ _ _) hD
        have hP : va_P g.1 vwCl (wX g a b d fo tp sh f1 f20 ++ (wF g fo b tr (u3 1) ++ (wLs g b e1 e10 e11 ++ (wLs g tr (u3 201) (u3 210) (u3 211))))) H := va_P_app.mpr ⟨hP0, va_P_app.mpr ⟨hP1, va_P_app.mpr ⟨hP2, hP3⟩⟩⟩
        refine xmF_i (rV (rest := []) hx hb hml hown hts hK hl (c_X4_orNoneP l g b d fo tp sh a f1 f20 (wlk e1 x y) H.size (show IR (wlk e1 x y) from ⟨by omega, by omega⟩) (show 0 ≤ (wlk e1 x y) from by omega)) lk_X4_189 ⟨rfl, hP0, (va_D_app hD).1.weaken (fun _ _ _ _ => trivial)⟩ (va_recv hK.1 hP0 (ci := 4) (q0 := 0) rfl rfl) rfl rfl rfl (Rm.of rfl) rfl rfl dX4_journey_31) hP hD hS hA (fun x9 _ H locs hw hP hD hS => ?_)
        obtain rfl : x9 = iI (wlk e1 x y) := hw
        have hP : va_P g.1 vwCl (wX g a b d fo tp sh f1 f20 ++ (wF g fo b tr (u3 1) ++ (wLs g b e1 e10 e11 ++ (wLs g tr (u3 201) (u3 210) (u3 211))))) H := hP
        have hD : va_D (va_A (wX g a b d fo tp sh f1 f20 ++ (wF g fo b tr o1 ++ (wLs g b e1 e10 e11 ++ (wLs g tr t1 t10 t11)))) s.heap.size) (wX g a b d fo tp sh f1 f20 ++ (wF g fo b tr (u3 1) ++ (wLs g b e1 e10 e11 ++ (wLs g tr (u3 201) (u3 210) (u3 211))))) := hD
        obtain ⟨hP0, hPr0⟩ := va_P_app.mp hP
        obtain ⟨hP1, hPr1⟩ := va_P_app.mp hPr0
        obtain ⟨hP2, hP3⟩ := va_P_app.mp hPr1
        have hf : fJrn e1 x y = 0 := by unfold fJrn; (repeat (first | rw [if_pos (by omega)] | rw [if_neg (by omega)])); first | done | (exfalso; omega)
        have he8 : f1 = (fb (fJrn e1 x y) f1) := by rw [hf]; rfl
        have hP := Eq.mp (congrArg (fun z9 => va_P g.1 vwCl (wX g a b d fo tp sh z9 f20 ++ (wF g fo b tr (u3 1) ++ (wLs g b e1 e10 e11 ++ (wLs g tr (u3 201) (u3 210) (u3 211))))) H) he8) hP
        have hD := Eq.mp (congrArg (fun z9 => va_D (va_A (wX g a b d fo tp sh f1 f20 ++ (wF g fo b tr o1 ++ (wLs g b e1 e10 e11 ++ (wLs g tr t1 t10 t11)))) s.heap.size) (wX g a b d fo tp sh z9 f20 ++ (wF g fo b tr (u3 1) ++ (wLs g b e1 e10 e11 ++ (wLs g tr (u3 201) (u3 210) (u3 211)))))) he8) hD
        obtain ⟨hP0, hPr0⟩ := va_P_app.mp hP
        obtain ⟨hP1, hPr1⟩ := va_P_app.mp hPr0
        obtain ⟨hP2, hP3⟩ := va_P_app.mp hPr1
        have hP : va_P g.1 vwCl (wX g a b d fo tp sh (fb (fJrn e1 x y) f1) f20 ++ (wF g fo b tr ((su (su (su (su (fun _ _ => 0) 101 (u3 1)) 301 (u3 201)) 310 (u3 210)) 311 (u3 211)) 101) ++ (wLs g b e1 e10 e11 ++ (wLs g tr ((su (su (su (su (fun _ _ => 0) 101 (u3 1)) 301 (u3 201)) 310 (u3 210)) 311 (u3 211)) 301) ((su (su (su (su (fun _ _ => 0) 101 (u3 1)) 301 (u3 201)) 310 (u3 210)) 311 (u3 211)) 310) ((su (su (su (su (fun _ _ => 0) 101 (u3 1)) 301 (u3 201)) 310 (u3 210)) 311 (u3 211)) 311))))) H := hP
        have hD : va_D (va_A (wX g a b d fo tp sh f1 f20 ++ (wF g fo b tr o1 ++ (wLs g b e1 e10 e11 ++ (wLs g tr t1 t10 t11)))) s.heap.size) (wX g a b d fo tp sh (fb (fJrn e1 x y) f1) f20 ++ (wF g fo b tr ((su (su (su (su (fun _ _ => 0) 101 (u3 1)) 301 (u3 201)) 310 (u3 210)) 311 (u3 211)) 101) ++ (wLs g b e1 e10 e11 ++ (wLs g tr ((su (su (su (su (fun _ _ => 0) 101 (u3 1)) 301 (u3 201)) 310 (u3 210)) 311 (u3 211)) 301) ((su (su (su (su (fun _ _ => 0) 101 (u3 1)) 301 (u3 201)) 310 (u3 210)) 311 (u3 211)) 310) ((su (su (su (su (fun _ _ => 0) 101 (u3 1)) 301 (u3 201)) 310 (u3 210)) 311 (u3 211)) 311))))) := hD
        exact W.iret hx hb hr (fun t ht hW => ⟨⟨_, (su (su (su (su (fun _ _ => 0) 101 (u3 1)) 301 (u3 201)) 310 (u3 210)) 311 (u3 211)), rfl, by rw [hf, ab_0], by rw [ht]; exact hP, hD⟩, hS.F ht⟩) hS.2.2 dX4_journey_34
    · refine xi_zf_ne hx hb ⟨by decide, by decide⟩ (by decide) dX4_journey_11 ⟨21, by decide⟩ ?_
      refine lv_aload_n hx hb dX4_journey_14 rfl (lv_at hl 0 rfl) ?_
      refine xi_ldc hx hb hown hts kk_X4_58 dX4_journey_15 ?_
      refine xmF_i (rV (rest := []) hx hb hml hown hts hK hl (c_X4_finding l g b d fo tp sh a f1 f20 (-1000000001) (s.heap).size (show 0 ≤ -1000000001 - (-1000000001) ∧ -1000000001 - (-1000000001) < 7 from by omega)) lk_X4_59 ⟨rfl, hP0, (va_D_app hD).1.weaken (fun _ _ _ _ => trivial)⟩ (va_recv hK.1 hP0 (ci := 4) (q0 := 0) rfl rfl) rfl rfl rfl (Rm.of rfl) rfl rfl dX4_journey_17) hP hD hS hA (fun x9 _ H locs hw hP hD hS => ?_)
      obtain rfl : x9 = iI (-1000000001) := hw
      have hP : va_P g.1 vwCl (wX g a b d fo tp sh (fb (-1000000000 - (-1000000001)) f1) f20 ++ (wF g fo b tr o1 ++ (wLs g b e1 e10 e11 ++ (wLs g tr t1 t10 t11)))) H := hP
      have hD : va_D (va_A (wX g a b d fo tp sh f1 f20 ++ (wF g fo b tr o1 ++ (wLs g b e1 e10 e11 ++ (wLs g tr t1 t10 t11)))) s.heap.size) (wX g a b d fo tp sh (fb (-1000000000 - (-1000000001)) f1) f20 ++ (wF g fo b tr o1 ++ (wLs g b e1 e10 e11 ++ (wLs g tr t1 t10 t11)))) := hD
      obtain ⟨hP0, hPr0⟩ := va_P_app.mp hP
      obtain ⟨hP1, hPr1⟩ := va_P_app.mp hPr0
      obtain ⟨hP2, hP3⟩ := va_P_app.mp hPr1
      have hf : fJrn e1 x y = 1 := by unfold fJrn; (repeat (first | rw [if_pos (by omega)] | rw [if_neg (by omega)])); first | done | (exfalso; omega)
      have he10 : (fb (-1000000000 - (-1000000001)) f1) = (fb (fJrn e1 x y) f1) := by rw [hf]; rfl
      have hP := Eq.mp (congrArg (fun z9 => va_P g.1 vwCl (wX g a b d fo tp sh z9 f20 ++ (wF g fo b tr o1 ++ (wLs g b e1 e10 e11 ++ (wLs g tr t1 t10 t11)))) H) he10) hP
      have hD := Eq.mp (congrArg (fun z9 => va_D (va_A (wX g a b d fo tp sh f1 f20 ++ (wF g fo b tr o1 ++ (wLs g b e1 e10 e11 ++ (wLs g tr t1 t10 t11)))) s.heap.size) (wX g a b d fo tp sh z9 f20 ++ (wF g fo b tr o1 ++ (wLs g b e1 e10 e11 ++ (wLs g tr t1 t10 t11))))) he10) hD
      obtain ⟨hP0, hPr0⟩ := va_P_app.mp hP
      obtain ⟨hP1, hPr1⟩ := va_P_app.mp hPr0
      obtain ⟨hP2, hP3⟩ := va_P_app.mp hPr1
      have hP : va_P g.1 vwCl (wX g a b d fo tp sh (fb (fJrn e1 x y) f1) f20 ++ (wF g fo b tr ((su (su (su (su (fun _ _ => 0) 101 o1) 301 t1) 310 t10) 311 t11) 101) ++ (wLs g b e1 e10 e11 ++ (wLs g tr ((su (su (su (su (fun _ _ => 0) 101 o1) 301 t1) 310 t10) 311 t11) 301) ((su (su (su (su (fun _ _ => 0) 101 o1) 301 t1) 310 t10) 311 t11) 310) ((su (su (su (su (fun _ _ => 0) 101 o1) 301 t1) 310 t10) 311 t11) 311))))) H := hP
      have hD : va_D (va_A (wX g a b d fo tp sh f1 f20 ++ (wF g fo b tr o1 ++ (wLs g b e1 e10 e11 ++ (wLs g tr t1 t10 t11)))) s.heap.size) (wX g a b d fo tp sh (fb (fJrn e1 x y) f1) f20 ++ (wF g fo b tr ((su (su (su (su (fun _ _ => 0) 101 o1) 301 t1) 310 t10) 311 t11) 101) ++ (wLs g b e1 e10 e11 ++ (wLs g tr ((su (su (su (su (fun _ _ => 0) 101 o1) 301 t1) 310 t10) 311 t11) 301) ((su (su (su (su (fun _ _ => 0) 101 o1) 301 t1) 310 t10) 311 t11) 310) ((su (su (su (su (fun _ _ => 0) 101 o1) 301 t1) 310 t10) 311 t11) 311))))) := hD
      exact W.iret hx hb hr (fun t ht hW => ⟨⟨_, (su (su (su (su (fun _ _ => 0) 101 o1) 301 t1) 310 t10) 311 t11), rfl, by rw [hf]; rfl, by rw [ht]; exact hP, hD⟩, hS.F ht⟩) hS.2.2 dX4_journey_20
  · refine xi_zt_eq (tgt := 14) hx hb ⟨by decide, by decide⟩ (by decide) dX4_journey_4 (by decide) ?_
    refine lv_aload_n hx hb dX4_journey_14 rfl (lv_at hl 0 rfl) ?_
    refine xi_ldc hx hb hown hts kk_X4_58 dX4_journey_15 ?_
    refine xmF_i (rV (rest := []) hx hb hml hown hts hK hl (c_X4_finding l g b d fo tp sh a f1 f20 (-1000000001) (s.heap).size (show 0 ≤ -1000000001 - (-1000000001) ∧ -1000000001 - (-1000000001) < 7 from by omega)) lk_X4_59 ⟨rfl, hP0, (va_D_app hD).1.weaken (fun _ _ _ _ => trivial)⟩ (va_recv hK.1 hP0 (ci := 4) (q0 := 0) rfl rfl) rfl rfl rfl (Rm.of rfl) rfl rfl dX4_journey_17) hP hD hS hA (fun x9 _ H locs hw hP hD hS => ?_)
    obtain rfl : x9 = iI (-1000000001) := hw
    have hP : va_P g.1 vwCl (wX g a b d fo tp sh (fb (-1000000000 - (-1000000001)) f1) f20 ++ (wF g fo b tr o1 ++ (wLs g b e1 e10 e11 ++ (wLs g tr t1 t10 t11)))) H := hP
    have hD : va_D (va_A (wX g a b d fo tp sh f1 f20 ++ (wF g fo b tr o1 ++ (wLs g b e1 e10 e11 ++ (wLs g tr t1 t10 t11)))) s.heap.size) (wX g a b d fo tp sh (fb (-1000000000 - (-1000000001)) f1) f20 ++ (wF g fo b tr o1 ++ (wLs g b e1 e10 e11 ++ (wLs g tr t1 t10 t11)))) := hD
    obtain ⟨hP0, hPr0⟩ := va_P_app.mp hP
    obtain ⟨hP1, hPr1⟩ := va_P_app.mp hPr0
    obtain ⟨hP2, hP3⟩ := va_P_app.mp hPr1
    have hf : fJrn e1 x y = 1 := by unfold fJrn; (repeat (first | rw [if_pos (by omega)] | rw [if_neg (by omega)])); first | done | (exfalso; omega)
    have he12 : (fb (-1000000000 - (-1000000001)) f1) = (fb (fJrn e1 x y) f1) := by rw [hf]; rfl
    have hP := Eq.mp (congrArg (fun z9 => va_P g.1 vwCl (wX g a b d fo tp sh z9 f20 ++ (wF g fo b tr o1 ++ (wLs g b e1 e10 e11 ++ (wLs g tr t1 t10 t11)))) H) he12) hP
    have hD := Eq.mp (congrArg (fun z9 => va_D (va_A (wX g a b d fo tp sh f1 f20 ++ (wF g fo b tr o1 ++ (wLs g b e1 e10 e11 ++ (wLs g tr t1 t10 t11)))) s.heap.size) (wX g a b d fo tp sh z9 f20 ++ (wF g fo b tr o1 ++ (wLs g b e1 e10 e11 ++ (wLs g tr t1 t10 t11))))) he12) hD
    obtain ⟨hP0, hPr0⟩ := va_P_app.mp hP
    obtain ⟨hP1, hPr1⟩ := va_P_app.mp hPr0
    obtain ⟨hP2, hP3⟩ := va_P_app.mp hPr1
    have hP : va_P g.1 vwCl (wX g a b d fo tp sh (fb (fJrn e1 x y) f1) f20 ++ (wF g fo b tr ((su (su (su (su (fun _ _ => 0) 101 o1) 301 t1) 310 t10) 311 t11) 101) ++ (wLs g b e1 e10 e11 ++ (wLs g tr ((su (su (su (su (fun _ _ => 0) 101 o1) 301 t1) 310 t10) 311 t11) 301) ((su (su (su (su (fun _ _ => 0) 101 o1) 301 t1) 310 t10) 311 t11) 310) ((su (su (su (su (fun _ _ => 0) 101 o1) 301 t1) 310 t10) 311 t11) 311))))) H := hP
    have hD : va_D (va_A (wX g a b d fo tp sh f1 f20 ++ (wF g fo b tr o1 ++ (wLs g b e1 e10 e11 ++ (wLs g tr t1 t10 t11)))) s.heap.size) (wX g a b d fo tp sh (fb (fJrn e1 x y) f1) f20 ++ (wF g fo b tr ((su (su (su (su (fun _ _ => 0) 101 o1) 301 t1) 310 t10) 311 t11) 101) ++ (wLs g b e1 e10 e11 ++ (wLs g tr ((su (su (su (su (fun _ _ => 0) 101 o1) 301 t1) 310 t10) 311 t11) 301) ((su (su (su (su (fun _ _ => 0) 101 o1) 301 t1) 310 t10) 311 t11) 310) ((su (su (su (su (fun _ _ => 0) 101 o1) 301 t1) 310 t10) 311 t11) 311))))) := hD
    exact W.iret hx hb hr (fun t ht hW => ⟨⟨_, (su (su (su (su (fun _ _ => 0) 101 o1) 301 t1) 310 t10) 311 t11), rfl, by rw [hf]; rfl, by rw [ht]; exact hP, hD⟩, hS.F ht⟩) hS.2.2 dX4_journey_20
abbrev rm_X4_sets : Room := { frames := 5, cells := 0, slots := 0, locals := 149 }
set_option maxRecDepth 100000 in
set_option maxHeartbeats 4000000 in
theorem c_X4_sets (l : Launch) (g : Gd) (d : Nat → Nat) (tp : Nat → Nat) (sh : Nat → Nat) (a : Nat → Nat) (f1 : Int → Int) (f20 : Int) (fo : Nat → Nat) (o1 : Int → Int) (b : Nat → Nat) (e1 : Int → Int) (e10 : Int → Int) (e11 : Int → Int) (tr : Nat → Nat) (t1 : Int → Int) (t10 : Int → Int) (t11 : Int → Int) (x : Int) (y : Int) (sz : Nat) (h1 : InvK 0 e1) (h2 : e1 0 ≤ 9999) (h3 : IR x) (h4 : IR y) : Met l yX4_sets (wsOf yX4_sets cX4_sets 3 (some .int)) rm_X4_sets (PX g (wP g (wX g a b d fo tp sh f1 f20 ++ (wF g fo b tr o1 ++ (wLs g b e1 e10 e11 ++ (wLs g tr t1 t10 t11)))) sz) [.ref (a 0), .int (iI x), .int (iI y)]) (QMi g (fun u9 : Nat → Int → Int => wX g a b d fo tp sh (fb (fSets e1 x y) f1) f20 ++ (wF g fo b tr (u9 101) ++ (wLs g b e1 e10 e11 ++ (wLs g tr (u9 301) (u9 310) (u9 311))))) (fun r9 _ => r9 = ab (fSets e1 x y) (iI (bdT (bdV e1 x y) 21).1)) (va_A (wX g a b d fo tp sh f1 f20 ++ (wF g fo b tr o1 ++ (wLs g b e1 e10 e11 ++ (wLs g tr t1 t10 t11)))) sz)) 0 0 (va_A (wX g a b d fo tp sh f1 f20 ++ (wF g fo b tr o1 ++ (wLs g b e1 e10 e11 ++ (wLs g tr t1 t10 t11)))) sz) := by
  refine me (g := g) (by decide) rfl ?_
  intro pq eq s mq below meth cq C hnm hB ls hl
  obtain ⟨hx, hb, hr, hml, hown, hts, hlocks, hK⟩ := C
  have hown : s.vm.findClass RX4 = some mq.cls := hown
  have hl : lv_has ls 3 [(0, .ref (a 0)), (1, .int (iI x)), (2, .int (iI y))] := hl
  obtain ⟨hsz, hP, hD0⟩ := hB
  subst hsz
  have hD := hD0.self (sz := s.heap.size)
  have hA : ∀ q : Nat, s.heap.size ≤ q → va_A (wX g a b d fo tp sh f1 f20 ++ (wF g fo b tr o1 ++ (wLs g b e1 e10 e11 ++ (wLs g tr t1 t10 t11)))) s.heap.size q := fun q h => Or.inr h
  have hS : va_S (va_A (wX g a b d fo tp sh f1 f20 ++ (wF g fo b tr o1 ++ (wLs g b e1 e10 e11 ++ (wLs g tr t1 t10 t11)))) s.heap.size) s.heap s.heap [] := va_S.rf
  obtain ⟨hP0, hPr0⟩ := va_P_app.mp hP
  obtain ⟨hP1, hPr1⟩ := va_P_app.mp hPr0
  obtain ⟨hP2, hP3⟩ := va_P_app.mp hPr1
  have hI := h1
  have hI8 : Inv e1 := h1.mono (by omega)
  have hn := hI.num
  have hs := hI.sea
  have hv := hI.vil
  have q1 := h3.1
  have q3 := h4.1
  have q2 := h3.2
  have q4 := h4.2
  have hbd := bdT_b (v := bdV e1 x y) (M := 80) (by omega) 21 (fun j hj => (wkT_b y 80 (seaN e1 j) x 0 (by omega)).2)
  refine lv_iload_n hx hb dX4_sets_0 rfl (lv_at hl 1 rfl) ?_
  refine xu_b (P := 0 ≤ x ∧ x ≤ 23) (rS (rest := []) hx hb hml hown hts hK hl (c_X4_isCell l g x (show IR x from ⟨by omega, by omega⟩)) lk_X4_50 trivial rfl rfl rfl (Rm.of rfl) rfl rfl dX4_sets_1) (fun z1 => ?_) (fun z1 => ?_)
  · refine xi_zf_eq hx hb ⟨by decide, by decide⟩ (by decide) dX4_sets_4 ⟨14, by decide⟩ ?_
    refine lv_iload_n hx hb dX4_sets_7 rfl (lv_at hl 2 rfl) ?_
    refine xu_b (P := 0 ≤ y ∧ y ≤ 23) (rS (rest := []) hx hb hml hown hts hK hl (c_X4_isCell l g y (show IR y from ⟨by omega, by omega⟩)) lk_X4_50 trivial rfl rfl rfl (Rm.of rfl) rfl rfl dX4_sets_8) (fun z2 => ?_) (fun z2 => ?_)
    · refine xi_zt_ne (tgt := 21) hx hb ⟨by decide, by decide⟩ (by decide) dX4_sets_11 (by decide) ?_
      refine lv_aload_n hx hb dX4_sets_21 rfl (lv_at hl 0 rfl) ?_
      refine lv_aload_n hx hb dX4_sets_22 rfl (lv_at hl 0 rfl) ?_
      refine xg_X4 hx hb hts hown hK hP0 0 rfl 2 (by decide) fk_X4_24 (v := .ref (fo 0)) rfl dX4_sets_23 ?_
      refine lv_iload_n hx hb dX4_sets_26 rfl (lv_at hl 1 rfl) ?_
      refine lv_iload_n hx hb dX4_sets_27 rfl (lv_at hl 2 rfl) ?_
      have hD : va_D (va_A (wX g a b d fo tp sh f1 f20 ++ (wF g fo b tr o1 ++ (wLs g b e1 e10 e11 ++ (wLs g tr t1 t10 t11)))) s.heap.size) (wF g fo b tr o1 ++ (wX g a b d fo tp sh f1 f20 ++ (wLs g b e1 e10 e11 ++ (wLs g tr t1 t10 t11)))) := D_perm (List.perm_append_comm_assoc _ _ _) hD
      have hD : va_D (va_A (wX g a b d fo tp sh f1 f20 ++ (wF g fo b tr o1 ++ (wLs g b e1 e10 e11 ++ (wLs g tr t1 t10 t11)))) s.heap.size) (wF g fo b tr o1 ++ (wLs g b e1 e10 e11 ++ (wX g a b d fo tp sh f1 f20 ++ (wLs g tr t1 t10 t11)))) := D_perm (List.Perm.append_left _ (List.perm_append_comm_assoc _ _ _)) hD
      have hD : va_D (va_A (wX g a b d fo tp sh f1 f20 ++ (wF g fo b tr o1 ++ (wLs g b e1 e10 e11 ++ (wLs g tr t1 t10 t11)))) s.heap.size) (wF g fo b tr o1 ++ (wLs g b e1 e10 e11 ++ (wLs g tr t1 t10 t11 ++ (wX g a b d fo tp sh f1 f20)))) := D_perm (List.Perm.append_left _ (List.Perm.append_left _ (List.perm_append_comm))) hD
      have hP : va_P g.1 vwCl (wF g fo b tr o1 ++ (wLs g b e1 e10 e11 ++ (wLs g tr t1 t10 t11 ++ (wX g a b d fo tp sh f1 f20)))) s.heap := va_P_app.mpr ⟨hP1, va_P_app.mpr ⟨hP2, va_P_app.mpr ⟨hP3, hP0⟩⟩⟩
      have hP : va_P g.1 vwCl ((wF g fo b tr o1 ++ (wLs g b e1 e10 e11 ++ (wLs g tr t1 t10 t11))) ++ (wX g a b d fo tp sh f1 f20)) s.heap := by rw [List.append_assoc, List.append_assoc]; exact hP
      have hD : va_D (va_A (wX g a b d fo tp sh f1 f20 ++ (wF g fo b tr o1 ++ (wLs g b e1 e10 e11 ++ (wLs g tr t1 t10 t11)))) s.heap.size) ((wF g fo b tr o1 ++ (wLs g b e1 e10 e11 ++ (wLs g tr t1 t10 t11))) ++ (wX g a b d fo tp sh f1 f20)) := by rw [List.append_assoc, List.append_assoc]; exact hD
      refine xmF_i (rVN (rest := [.ref (a 0)]) hx hb hml hown hts hK hl (c_X0_bestDelay l g fo o1 b e1 e10 e11 tr t1 t10 t11 x y (s.heap).size (show InvK 0 e1 from h1) (show e1 0 ≤ 9999 from by omega) (show 0 ≤ x ∧ x ≤ 23 from by omega) (show 0 ≤ y ∧ y ≤ 23 from by omega)) lk_X4_225 ⟨rfl, (va_P_app.mp hP).1, (va_D_app hD).1.weaken (fun _ _ _ _ => trivial)⟩ (va_recv hK.1 hP1 (ci := 0) (q0 := 0) rfl rfl) rfl rfl rfl (Rm.of rfl) rfl rfl dX4_sets_28) hP hD hS hA (fun x9 u3 H locs hw hP hD hS => ?_)
      have hP : va_P g.1 vwCl ((wF g fo b tr (u3 1) ++ (wLs g b e1 e10 e11 ++ (wLs g tr (u3 201) (u3 210) (u3 211)))) ++ (wX g a b d fo tp sh f1 f20)) H := hP
      have hD : va_D (va_A (wX g a b d fo tp sh f1 f20 ++ (wF g fo b tr o1 ++ (wLs g b e1 e10 e11 ++ (wLs g tr t1 t10 t11)))) s.heap.size) ((wF g fo b tr (u3 1) ++ (wLs g b e1 e10 e11 ++ (wLs g tr (u3 201) (u3 210) (u3 211)))) ++ (wX g a b d fo tp sh f1 f20)) := hD
      rw [List.append_assoc, List.append_assoc] at hP hD
      obtain rfl : x9 = iI ((bdT (bdV e1 x y) 21).1) := hw
      have hP : va_P g.1 vwCl (wF g fo b tr (u3 1) ++ (wLs g b e1 e10 e11 ++ (wLs g tr (u3 201) (u3 210) (u3 211) ++ (wX g a b d fo tp sh f1 f20)))) H := hP
      have hD : va_D (va_A (wX g a b d fo tp sh f1 f20 ++ (wF g fo b tr o1 ++ (wLs g b e1 e10 e11 ++ (wLs g tr t1 t10 t11)))) s.heap.size) (wF g fo b tr (u3 1) ++ (wLs g b e1 e10 e11 ++ (wLs g tr (u3 201) (u3 210) (u3 211) ++ (wX g a b d fo tp sh f1 f20)))) := hD
      obtain ⟨hP1, hPr0⟩ := va_P_app.mp hP
      obtain ⟨hP2, hPr1⟩ := va_P_app.mp hPr0
      obtain ⟨hP3, hP0⟩ := va_P_app.mp hPr1
      rcases (show (((bdT (bdV e1 x y) 21).1) < 0) ∨ (0 ≤ ((bdT (bdV e1 x y) 21).1)) from by omega) with z4 | z4
      · have hD : va_D (va_A (wX g a b d fo tp sh f1 f20 ++ (wF g fo b tr o1 ++ (wLs g b e1 e10 e11 ++ (wLs g tr t1 t10 t11)))) s.heap.size) (wF g fo b tr (u3 1) ++ (wLs g b e1 e10 e11 ++ (wX g a b d fo tp sh f1 f20 ++ (wLs g tr (u3 201) (u3 210) (u3 211))))) := D_perm (List.Perm.append_left _ (List.Perm.append_left _ (List.perm_append_comm))) hD
        have hD : va_D (va_A (wX g a b d fo tp sh f1 f20 ++ (wF g fo b tr o1 ++ (wLs g b e1 e10 e11 ++ (wLs g tr t1 t10 t11)))) s.heap.size) (wF g fo b tr (u3 1) ++ (wX g a b d fo tp sh f1 f20 ++ (wLs g b e1 e10 e11 ++ (wLs g tr (u3 201) (u3 210) (u3 211))))) := D_perm (List.Perm.append_left _ (List.perm_append_comm_assoc _ _ _)) hD
        have hD : va_D (va_A (wX g a b d fo tp sh f1 f20 ++ (wF g fo b tr o1 ++ (wLs g b e1 e10 e11 ++ (wLs g tr t1 t10 t11)))) s.heap.size) (wX g a b d fo tp sh f1 f20 ++ (wF g fo b tr (u3 1) ++ (wLs g b e1 e10 e11 ++ (wLs g tr (u3 201) (u3 210) (u3 211))))) := D_perm (List.perm_append_comm_assoc _ _ _) hD
        have hP : va_P g.1 vwCl (wX g a b d fo tp sh f1 f20 ++ (wF g fo b tr (u3 1) ++ (wLs g b e1 e10 e11 ++ (wLs g tr (u3 201) (u3 210) (u3 211))))) H := va_P_app.mpr ⟨hP0, va_P_app.mpr ⟨hP1, va_P_app.mpr ⟨hP2, hP3⟩⟩⟩
        refine xmF_i (rV (rest := []) hx hb hml hown hts hK hl (c_X4_orNoneN l g b d fo tp sh a f1 f20 ((bdT (bdV e1 x y) 21).1) H.size (show IR ((bdT (bdV e1 x y) 21).1) from ⟨by omega, by omega⟩) (show ((bdT (bdV e1 x y) 21).1) < 0 from by omega)) lk_X4_189 ⟨rfl, hP0, (va_D_app hD).1.weaken (fun _ _ _ _ => trivial)⟩ (va_recv hK.1 hP0 (ci := 4) (q0 := 0) rfl rfl) rfl rfl rfl (Rm.of rfl) rfl rfl dX4_sets_31) hP hD hS hA (fun x9 _ H locs hw hP hD hS => ?_)
        obtain rfl : x9 = iI (-1000000004) := hw
        have hP : va_P g.1 vwCl (wX g a b d fo tp sh (fb (-1000000000 - (-1000000004)) f1) f20 ++ (wF g fo b tr (u3 1) ++ (wLs g b e1 e10 e11 ++ (wLs g tr (u3 201) (u3 210) (u3 211))))) H := hP
        have hD : va_D (va_A (wX g a b d fo tp sh f1 f20 ++ (wF g fo b tr o1 ++ (wLs g b e1 e10 e11 ++ (wLs g tr t1 t10 t11)))) s.heap.size) (wX g a b d fo tp sh (fb (-1000000000 - (-1000000004)) f1) f20 ++ (wF g fo b tr (u3 1) ++ (wLs g b e1 e10 e11 ++ (wLs g tr (u3 201) (u3 210) (u3 211))))) := hD
        obtain ⟨hP0, hPr0⟩ := va_P_app.mp hP
        obtain ⟨hP1, hPr1⟩ := va_P_app.mp hPr0
        obtain ⟨hP2, hP3⟩ := va_P_app.mp hPr1
        have hf : fSets e1 x y = 4 := by unfold fSets; (repeat (first | rw [if_pos (by omega)] | rw [if_neg (by omega)])); first | done | (exfalso; omega)
        have he6 : (fb (-1000000000 - (-1000000004)) f1) = (fb (fSets e1 x y) f1) := by rw [hf]; rfl
        have hP := Eq.mp (congrArg (fun z9 => va_P g.1 vwCl (wX g a b d fo tp sh z9 f20 ++ (wF g fo b tr (u3 1) ++ (wLs g b e1 e10 e11 ++ (wLs g tr (u3 201) (u3 210) (u3 211))))) H) he6) hP
        have hD := Eq.mp (congrArg (fun z9 => va_D (va_A (wX g a b d fo tp sh f1 f20 ++ (wF g fo b tr o1 ++ (wLs g b e1 e10 e11 ++ (wLs g tr t1 t10 t11)))) s.heap.size) (wX g a b d fo tp sh z9 f20 ++ (wF g fo b tr (u3 1) ++ (wLs g b e1 e10 e11 ++ (wLs g tr (u3 201) (u3 210) (u3 211)))))) he6) hD
        obtain ⟨hP0, hPr0⟩ := va_P_app.mp hP
        obtain ⟨hP1, hPr1⟩ := va_P_app.mp hPr0
        obtain ⟨hP2, hP3⟩ := va_P_app.mp hPr1
        have hP : va_P g.1 vwCl (wX g a b d fo tp sh (fb (fSets e1 x y) f1) f20 ++ (wF g fo b tr ((su (su (su (su (fun _ _ => 0) 101 (u3 1)) 301 (u3 201)) 310 (u3 210)) 311 (u3 211)) 101) ++ (wLs g b e1 e10 e11 ++ (wLs g tr ((su (su (su (su (fun _ _ => 0) 101 (u3 1)) 301 (u3 201)) 310 (u3 210)) 311 (u3 211)) 301) ((su (su (su (su (fun _ _ => 0) 101 (u3 1)) 301 (u3 201)) 310 (u3 210)) 311 (u3 211)) 310) ((su (su (su (su (fun _ _ => 0) 101 (u3 1)) 301 (u3 201)) 310 (u3 210)) 311 (u3 211)) 311))))) H := hP
        have hD : va_D (va_A (wX g a b d fo tp sh f1 f20 ++ (wF g fo b tr o1 ++ (wLs g b e1 e10 e11 ++ (wLs g tr t1 t10 t11)))) s.heap.size) (wX g a b d fo tp sh (fb (fSets e1 x y) f1) f20 ++ (wF g fo b tr ((su (su (su (su (fun _ _ => 0) 101 (u3 1)) 301 (u3 201)) 310 (u3 210)) 311 (u3 211)) 101) ++ (wLs g b e1 e10 e11 ++ (wLs g tr ((su (su (su (su (fun _ _ => 0) 101 (u3 1)) 301 (u3 201)) 310 (u3 210)) 311 (u3 211)) 301) ((su (su (su (su (fun _ _ => 0) 101 (u3 1)) 301 (u3 201)) 310 (u3 210)) 311 (u3 211)) 310) ((su (su (su (su (fun _ _ => 0) 101 (u3 1)) 301 (u3 201)) 310 (u3 210)) 311 (u3 211)) 311))))) := hD
        exact W.iret hx hb hr (fun t ht hW => ⟨⟨_, (su (su (su (su (fun _ _ => 0) 101 (u3 1)) 301 (u3 201)) 310 (u3 210)) 311 (u3 211)), rfl, by rw [hf]; rfl, by rw [ht]; exact hP, hD⟩, hS.F ht⟩) hS.2.2 dX4_sets_34
      · have hD : va_D (va_A (wX g a b d fo tp sh f1 f20 ++ (wF g fo b tr o1 ++ (wLs g b e1 e10 e11 ++ (wLs g tr t1 t10 t11)))) s.heap.size) (wF g fo b tr (u3 1) ++ (wLs g b e1 e10 e11 ++ (wX g a b d fo tp sh f1 f20 ++ (wLs g tr (u3 201) (u3 210) (u3 211))))) := D_perm (List.Perm.append_left _ (List.Perm.append_left _ (List.perm_append_comm))) hD
        have hD : va_D (va_A (wX g a b d fo tp sh f1 f20 ++ (wF g fo b tr o1 ++ (wLs g b e1 e10 e11 ++ (wLs g tr t1 t10 t11)))) s.heap.size) (wF g fo b tr (u3 1) ++ (wX g a b d fo tp sh f1 f20 ++ (wLs g b e1 e10 e11 ++ (wLs g tr (u3 201) (u3 210) (u3 211))))) := D_perm (List.Perm.append_left _ (List.perm_append_comm_assoc _ _ _)) hD
        have hD : va_D (va_A (wX g a b d fo tp sh f1 f20 ++ (wF g fo b tr o1 ++ (wLs g b e1 e10 e11 ++ (wLs g tr t1 t10 t11)))) s.heap.size) (wX g a b d fo tp sh f1 f20 ++ (wF g fo b tr (u3 1) ++ (wLs g b e1 e10 e11 ++ (wLs g tr (u3 201) (u3 210) (u3 211))))) := D_perm (List.perm_append_comm_assoc _ _ _) hD
        have hP : va_P g.1 vwCl (wX g a b d fo tp sh f1 f20 ++ (wF g fo b tr (u3 1) ++ (wLs g b e1 e10 e11 ++ (wLs g tr (u3 201) (u3 210) (u3 211))))) H := va_P_app.mpr ⟨hP0, va_P_app.mpr ⟨hP1, va_P_app.mpr ⟨hP2, hP3⟩⟩⟩
        refine xmF_i (rV (rest := []) hx hb hml hown hts hK hl (c_X4_orNoneP l g b d fo tp sh a f1 f20 ((bdT (bdV e1 x y) 21).1) H.size (show IR ((bdT (bdV e1 x y) 21).1) from ⟨by omega, by omega⟩) (show 0 ≤ ((bdT (bdV e1 x y) 21).1) from by omega)) lk_X4_189 ⟨rfl, hP0, (va_D_app hD).1.weaken (fun _ _ _ _ => trivial)⟩ (va_recv hK.1 hP0 (ci := 4) (q0 := 0) rfl rfl) rfl rfl rfl (Rm.of rfl) rfl rfl dX4_sets_31) hP hD hS hA (fun x9 _ H locs hw hP hD hS => ?_)
        obtain rfl : x9 = iI ((bdT (bdV e1 x y) 21).1) := hw
        have hP : va_P g.1 vwCl (wX g a b d fo tp sh f1 f20 ++ (wF g fo b tr (u3 1) ++ (wLs g b e1 e10 e11 ++ (wLs g tr (u3 201) (u3 210) (u3 211))))) H := hP
        have hD : va_D (va_A (wX g a b d fo tp sh f1 f20 ++ (wF g fo b tr o1 ++ (wLs g b e1 e10 e11 ++ (wLs g tr t1 t10 t11)))) s.heap.size) (wX g a b d fo tp sh f1 f20 ++ (wF g fo b tr (u3 1) ++ (wLs g b e1 e10 e11 ++ (wLs g tr (u3 201) (u3 210) (u3 211))))) := hD
        obtain ⟨hP0, hPr0⟩ := va_P_app.mp hP
        obtain ⟨hP1, hPr1⟩ := va_P_app.mp hPr0
        obtain ⟨hP2, hP3⟩ := va_P_app.mp hPr1
        have hf : fSets e1 x y = 0 := by unfold fSets; (repeat (first | rw [if_pos (by omega)] | rw [if_neg (by omega)])); first | done | (exfalso; omega)
        have he8 : f1 = (fb (fSets e1 x y) f1) := by rw [hf]; rfl
        have hP := Eq.mp (congrArg (fun z9 => va_P g.1 vwCl (wX g a b d fo tp sh z9 f20 ++ (wF g fo b tr (u3 1) ++ (wLs g b e1 e10 e11 ++ (wLs g tr (u3 201) (u3 210) (u3 211))))) H) he8) hP
        have hD := Eq.mp (congrArg (fun z9 => va_D (va_A (wX g a b d fo tp sh f1 f20 ++ (wF g fo b tr o1 ++ (wLs g b e1 e10 e11 ++ (wLs g tr t1 t10 t11)))) s.heap.size) (wX g a b d fo tp sh z9 f20 ++ (wF g fo b tr (u3 1) ++ (wLs g b e1 e10 e11 ++ (wLs g tr (u3 201) (u3 210) (u3 211)))))) he8) hD
        obtain ⟨hP0, hPr0⟩ := va_P_app.mp hP
        obtain ⟨hP1, hPr1⟩ := va_P_app.mp hPr0
        obtain ⟨hP2, hP3⟩ := va_P_app.mp hPr1
        have hP : va_P g.1 vwCl (wX g a b d fo tp sh (fb (fSets e1 x y) f1) f20 ++ (wF g fo b tr ((su (su (su (su (fun _ _ => 0) 101 (u3 1)) 301 (u3 201)) 310 (u3 210)) 311 (u3 211)) 101) ++ (wLs g b e1 e10 e11 ++ (wLs g tr ((su (su (su (su (fun _ _ => 0) 101 (u3 1)) 301 (u3 201)) 310 (u3 210)) 311 (u3 211)) 301) ((su (su (su (su (fun _ _ => 0) 101 (u3 1)) 301 (u3 201)) 310 (u3 210)) 311 (u3 211)) 310) ((su (su (su (su (fun _ _ => 0) 101 (u3 1)) 301 (u3 201)) 310 (u3 210)) 311 (u3 211)) 311))))) H := hP
        have hD : va_D (va_A (wX g a b d fo tp sh f1 f20 ++ (wF g fo b tr o1 ++ (wLs g b e1 e10 e11 ++ (wLs g tr t1 t10 t11)))) s.heap.size) (wX g a b d fo tp sh (fb (fSets e1 x y) f1) f20 ++ (wF g fo b tr ((su (su (su (su (fun _ _ => 0) 101 (u3 1)) 301 (u3 201)) 310 (u3 210)) 311 (u3 211)) 101) ++ (wLs g b e1 e10 e11 ++ (wLs g tr ((su (su (su (su (fun _ _ => 0) 101 (u3 1)) 301 (u3 201)) 310 (u3 210)) 311 (u3 211)) 301) ((su (su (su (su (fun _ _ => 0) 101 (u3 1)) 301 (u3 201)) 310 (u3 210)) 311 (u3 211)) 310) ((su (su (su (su (fun _ _ => 0) 101 (u3 1)) 301 (u3 201)) 310 (u3 210)) 311 (u3 211)) 311))))) := hD
        exact W.iret hx hb hr (fun t ht hW => ⟨⟨_, (su (su (su (su (fun _ _ => 0) 101 (u3 1)) 301 (u3 201)) 310 (u3 210)) 311 (u3 211)), rfl, by rw [hf, ab_0], by rw [ht]; exact hP, hD⟩, hS.F ht⟩) hS.2.2 dX4_sets_34
    · refine xi_zf_ne hx hb ⟨by decide, by decide⟩ (by decide) dX4_sets_11 ⟨21, by decide⟩ ?_
      refine lv_aload_n hx hb dX4_sets_14 rfl (lv_at hl 0 rfl) ?_
      refine xi_ldc hx hb hown hts kk_X4_58 dX4_sets_15 ?_
      refine xmF_i (rV (rest := []) hx hb hml hown hts hK hl (c_X4_finding l g b d fo tp sh a f1 f20 (-1000000001) (s.heap).size (show 0 ≤ -1000000001 - (-1000000001) ∧ -1000000001 - (-1000000001) < 7 from by omega)) lk_X4_59 ⟨rfl, hP0, (va_D_app hD).1.weaken (fun _ _ _ _ => trivial)⟩ (va_recv hK.1 hP0 (ci := 4) (q0 := 0) rfl rfl) rfl rfl rfl (Rm.of rfl) rfl rfl dX4_sets_17) hP hD hS hA (fun x9 _ H locs hw hP hD hS => ?_)
      obtain rfl : x9 = iI (-1000000001) := hw
      have hP : va_P g.1 vwCl (wX g a b d fo tp sh (fb (-1000000000 - (-1000000001)) f1) f20 ++ (wF g fo b tr o1 ++ (wLs g b e1 e10 e11 ++ (wLs g tr t1 t10 t11)))) H := hP
      have hD : va_D (va_A (wX g a b d fo tp sh f1 f20 ++ (wF g fo b tr o1 ++ (wLs g b e1 e10 e11 ++ (wLs g tr t1 t10 t11)))) s.heap.size) (wX g a b d fo tp sh (fb (-1000000000 - (-1000000001)) f1) f20 ++ (wF g fo b tr o1 ++ (wLs g b e1 e10 e11 ++ (wLs g tr t1 t10 t11)))) := hD
      obtain ⟨hP0, hPr0⟩ := va_P_app.mp hP
      obtain ⟨hP1, hPr1⟩ := va_P_app.mp hPr0
      obtain ⟨hP2, hP3⟩ := va_P_app.mp hPr1
      have hf : fSets e1 x y = 1 := by unfold fSets; (repeat (first | rw [if_pos (by omega)] | rw [if_neg (by omega)])); first | done | (exfalso; omega)
      have he10 : (fb (-1000000000 - (-1000000001)) f1) = (fb (fSets e1 x y) f1) := by rw [hf]; rfl
      have hP := Eq.mp (congrArg (fun z9 => va_P g.1 vwCl (wX g a b d fo tp sh z9 f20 ++ (wF g fo b tr o1 ++ (wLs g b e1 e10 e11 ++ (wLs g tr t1 t10 t11)))) H) he10) hP
      have hD := Eq.mp (congrArg (fun z9 => va_D (va_A (wX g a b d fo tp sh f1 f20 ++ (wF g fo b tr o1 ++ (wLs g b e1 e10 e11 ++ (wLs g tr t1 t10 t11)))) s.heap.size) (wX g a b d fo tp sh z9 f20 ++ (wF g fo b tr o1 ++ (wLs g b e1 e10 e11 ++ (wLs g tr t1 t10 t11))))) he10) hD
      obtain ⟨hP0, hPr0⟩ := va_P_app.mp hP
      obtain ⟨hP1, hPr1⟩ := va_P_app.mp hPr0
      obtain ⟨hP2, hP3⟩ := va_P_app.mp hPr1
      have hP : va_P g.1 vwCl (wX g a b d fo tp sh (fb (fSets e1 x y) f1) f20 ++ (wF g fo b tr ((su (su (su (su (fun _ _ => 0) 101 o1) 301 t1) 310 t10) 311 t11) 101) ++ (wLs g b e1 e10 e11 ++ (wLs g tr ((su (su (su (su (fun _ _ => 0) 101 o1) 301 t1) 310 t10) 311 t11) 301) ((su (su (su (su (fun _ _ => 0) 101 o1) 301 t1) 310 t10) 311 t11) 310) ((su (su (su (su (fun _ _ => 0) 101 o1) 301 t1) 310 t10) 311 t11) 311))))) H := hP
      have hD : va_D (va_A (wX g a b d fo tp sh f1 f20 ++ (wF g fo b tr o1 ++ (wLs g b e1 e10 e11 ++ (wLs g tr t1 t10 t11)))) s.heap.size) (wX g a b d fo tp sh (fb (fSets e1 x y) f1) f20 ++ (wF g fo b tr ((su (su (su (su (fun _ _ => 0) 101 o1) 301 t1) 310 t10) 311 t11) 101) ++ (wLs g b e1 e10 e11 ++ (wLs g tr ((su (su (su (su (fun _ _ => 0) 101 o1) 301 t1) 310 t10) 311 t11) 301) ((su (su (su (su (fun _ _ => 0) 101 o1) 301 t1) 310 t10) 311 t11) 310) ((su (su (su (su (fun _ _ => 0) 101 o1) 301 t1) 310 t10) 311 t11) 311))))) := hD
      exact W.iret hx hb hr (fun t ht hW => ⟨⟨_, (su (su (su (su (fun _ _ => 0) 101 o1) 301 t1) 310 t10) 311 t11), rfl, by rw [hf]; rfl, by rw [ht]; exact hP, hD⟩, hS.F ht⟩) hS.2.2 dX4_sets_20
  · refine xi_zt_eq (tgt := 14) hx hb ⟨by decide, by decide⟩ (by decide) dX4_sets_4 (by decide) ?_
    refine lv_aload_n hx hb dX4_sets_14 rfl (lv_at hl 0 rfl) ?_
    refine xi_ldc hx hb hown hts kk_X4_58 dX4_sets_15 ?_
    refine xmF_i (rV (rest := []) hx hb hml hown hts hK hl (c_X4_finding l g b d fo tp sh a f1 f20 (-1000000001) (s.heap).size (show 0 ≤ -1000000001 - (-1000000001) ∧ -1000000001 - (-1000000001) < 7 from by omega)) lk_X4_59 ⟨rfl, hP0, (va_D_app hD).1.weaken (fun _ _ _ _ => trivial)⟩ (va_recv hK.1 hP0 (ci := 4) (q0 := 0) rfl rfl) rfl rfl rfl (Rm.of rfl) rfl rfl dX4_sets_17) hP hD hS hA (fun x9 _ H locs hw hP hD hS => ?_)
    obtain rfl : x9 = iI (-1000000001) := hw
    have hP : va_P g.1 vwCl (wX g a b d fo tp sh (fb (-1000000000 - (-1000000001)) f1) f20 ++ (wF g fo b tr o1 ++ (wLs g b e1 e10 e11 ++ (wLs g tr t1 t10 t11)))) H := hP
    have hD : va_D (va_A (wX g a b d fo tp sh f1 f20 ++ (wF g fo b tr o1 ++ (wLs g b e1 e10 e11 ++ (wLs g tr t1 t10 t11)))) s.heap.size) (wX g a b d fo tp sh (fb (-1000000000 - (-1000000001)) f1) f20 ++ (wF g fo b tr o1 ++ (wLs g b e1 e10 e11 ++ (wLs g tr t1 t10 t11)))) := hD
    obtain ⟨hP0, hPr0⟩ := va_P_app.mp hP
    obtain ⟨hP1, hPr1⟩ := va_P_app.mp hPr0
    obtain ⟨hP2, hP3⟩ := va_P_app.mp hPr1
    have hf : fSets e1 x y = 1 := by unfold fSets; (repeat (first | rw [if_pos (by omega)] | rw [if_neg (by omega)])); first | done | (exfalso; omega)
    have he12 : (fb (-1000000000 - (-1000000001)) f1) = (fb (fSets e1 x y) f1) := by rw [hf]; rfl
    have hP := Eq.mp (congrArg (fun z9 => va_P g.1 vwCl (wX g a b d fo tp sh z9 f20 ++ (wF g fo b tr o1 ++ (wLs g b e1 e10 e11 ++ (wLs g tr t1 t10 t11)))) H) he12) hP
    have hD := Eq.mp (congrArg (fun z9 => va_D (va_A (wX g a b d fo tp sh f1 f20 ++ (wF g fo b tr o1 ++ (wLs g b e1 e10 e11 ++ (wLs g tr t1 t10 t11)))) s.heap.size) (wX g a b d fo tp sh z9 f20 ++ (wF g fo b tr o1 ++ (wLs g b e1 e10 e11 ++ (wLs g tr t1 t10 t11))))) he12) hD
    obtain ⟨hP0, hPr0⟩ := va_P_app.mp hP
    obtain ⟨hP1, hPr1⟩ := va_P_app.mp hPr0
    obtain ⟨hP2, hP3⟩ := va_P_app.mp hPr1
    have hP : va_P g.1 vwCl (wX g a b d fo tp sh (fb (fSets e1 x y) f1) f20 ++ (wF g fo b tr ((su (su (su (su (fun _ _ => 0) 101 o1) 301 t1) 310 t10) 311 t11) 101) ++ (wLs g b e1 e10 e11 ++ (wLs g tr ((su (su (su (su (fun _ _ => 0) 101 o1) 301 t1) 310 t10) 311 t11) 301) ((su (su (su (su (fun _ _ => 0) 101 o1) 301 t1) 310 t10) 311 t11) 310) ((su (su (su (su (fun _ _ => 0) 101 o1) 301 t1) 310 t10) 311 t11) 311))))) H := hP
    have hD : va_D (va_A (wX g a b d fo tp sh f1 f20 ++ (wF g fo b tr o1 ++ (wLs g b e1 e10 e11 ++ (wLs g tr t1 t10 t11)))) s.heap.size) (wX g a b d fo tp sh (fb (fSets e1 x y) f1) f20 ++ (wF g fo b tr ((su (su (su (su (fun _ _ => 0) 101 o1) 301 t1) 310 t10) 311 t11) 101) ++ (wLs g b e1 e10 e11 ++ (wLs g tr ((su (su (su (su (fun _ _ => 0) 101 o1) 301 t1) 310 t10) 311 t11) 301) ((su (su (su (su (fun _ _ => 0) 101 o1) 301 t1) 310 t10) 311 t11) 310) ((su (su (su (su (fun _ _ => 0) 101 o1) 301 t1) 310 t10) 311 t11) 311))))) := hD
    exact W.iret hx hb hr (fun t ht hW => ⟨⟨_, (su (su (su (su (fun _ _ => 0) 101 o1) 301 t1) 310 t10) 311 t11), rfl, by rw [hf]; rfl, by rw [ht]; exact hP, hD⟩, hS.F ht⟩) hS.2.2 dX4_sets_20
abbrev rm_X3_append : Room := { frames := 0, cells := 0, slots := 0, locals := 0 }
set_option maxRecDepth 100000 in
set_option maxHeartbeats 4000000 in
theorem c_X3_append (l : Launch) (g : Gd) (a : Nat → Nat) (f1 : Int → Int) (f20 : Int) (f21 : Int) (f22 : Int) (f23 : Int) (f24 : Int) (b : Int) (n : Int) (sz : Nat) (h1 : 1 ≤ n ∧ n ≤ 4) (h2 : 0 ≤ f20 ∧ f20 + n ≤ 120) : Met l yX3_append (wsOf yX3_append cX3_append 4 none) rm_X3_append (PX g (wP g (wT g a f1 f20 f21 f22 f23 f24) sz) [.ref (a 0), .int (iI b), .int (iI n)]) (QMv g (fun _ : Unit => wT g a (fdT f1 f20 b n n) (f20 + n) f21 f22 f23 f24) (fun _ => True) (va_A (wT g a f1 f20 f21 f22 f23 f24) sz)) 0 0 (va_A (wT g a f1 f20 f21 f22 f23 f24) sz) := by
  refine me (g := g) (by decide) rfl ?_
  intro pq eq s mq below meth cq C hnm hB ls hl
  obtain ⟨hx, hb, hr, hml, hown, hts, hlocks, hK⟩ := C
  have hown : s.vm.findClass RX3 = some mq.cls := hown
  have hl : lv_has ls 4 [(0, .ref (a 0)), (1, .int (iI b)), (2, .int (iI n))] := hl
  obtain ⟨hsz, hP, hD0⟩ := hB
  subst hsz
  have hD := hD0.self (sz := s.heap.size)
  have hA : ∀ q : Nat, s.heap.size ≤ q → va_A (wT g a f1 f20 f21 f22 f23 f24) s.heap.size q := fun q h => Or.inr h
  have hS : va_S (va_A (wT g a f1 f20 f21 f22 f23 f24) s.heap.size) s.heap s.heap [] := va_S.rf
  refine lv_iload_n hx hb dX3_append_0 rfl (lv_at hl 2 rfl) ?_
  refine lv_iconst (v := iI (1)) hx hb dX3_append_1 (by decide) ?_
  refine xi_sub hx hb dX3_append_2 ?_
  refine lv_istore_n (lv' := [(3, .int (iI (n - 1))), (0, .ref (a 0)), (1, .int (iI b)), (2, .int (iI n))]) hx hb dX3_append_3 rfl hl (by decide) rfl (fun ls hl => ?_)
  have lp4 : ∀ (n4 : Nat) (i : Int), (0 ≤ i ∧ i ≤ n) → (n - i).toNat < n4 → ∀ ls : Array Slot, lv_has ls 4 [(3, .int (iI (n - 1 - i))), (0, .ref (a 0)), (1, .int (iI b)), (2, .int (iI n))] → ∀ (H : Heap) (locs : List Loc), va_P g.1 vwCl (wT g a (fdT f1 f20 b n i) (f20 + i) f21 f22 f23 f24) H → va_D (va_A (wT g a f1 f20 f21 f22 f23 f24) s.heap.size) (wT g a (fdT f1 f20 b n i) (f20 + i) f21 f22 f23 f24) → va_S (va_A (wT g a f1 f20 f21 f22 f23 f24) s.heap.size) s.heap H locs → W pq l eq rm_X3_append s mq [.ref (a 0), .int (iI b), .int (iI n)].toArray below meth cq H locs 0 0 (MQ below (QMv g (fun _ : Unit => wT g a (fdT f1 f20 b n n) (f20 + n) f21 f22 f23 f24) (fun _ => True) (va_A (wT g a f1 f20 f21 f22 f23 f24) s.heap.size)) [.ref (a 0), .int (iI b), .int (iI n)].toArray s 0 0 (va_A (wT g a f1 f20 f21 f22 f23 f24) s.heap.size)) (F0 mq 4 ls []) := by
    intro n4
    induction n4 with
    | zero => intro i i4_1 hm; exact absurd hm (Nat.not_lt_zero _)
    | succ n4 ih4 =>
      intro i i4_1 hm4 ls hl H locs hP hD hS
      refine lv_iload_n hx hb dX3_append_4 rfl (lv_at hl 0 rfl) ?_
      refine xi_z_lt (tgt := 52) hx hb ⟨by omega, by omega⟩ dX3_append_5 (by decide) (fun z1 => ?_) (fun z1 => ?_)
      · have he2 : (fdT f1 f20 b n i) = (fdT f1 f20 b n n) := by rw [show i = n by omega]
        have hP := Eq.mp (congrArg (fun z9 => va_P g.1 vwCl (wT g a z9 (f20 + i) f21 f22 f23 f24) H) he2) hP
        have hD := Eq.mp (congrArg (fun z9 => va_D (va_A (wT g a f1 f20 f21 f22 f23 f24) s.heap.size) (wT g a z9 (f20 + i) f21 f22 f23 f24)) he2) hD
        have he3 : (f20 + i) = (f20 + n) := by omega
        have hP := Eq.mp (congrArg (fun z9 => va_P g.1 vwCl (wT g a (fdT f1 f20 b n n) z9 f21 f22 f23 f24) H) he3) hP
        have hD := Eq.mp (congrArg (fun z9 => va_D (va_A (wT g a f1 f20 f21 f22 f23 f24) s.heap.size) (wT g a (fdT f1 f20 b n n) z9 f21 f22 f23 f24)) he3) hD
        have hP : va_P g.1 vwCl (wT g a (fdT f1 f20 b n n) (f20 + n) f21 f22 f23 f24) H := hP
        have hD : va_D (va_A (wT g a f1 f20 f21 f22 f23 f24) s.heap.size) (wT g a (fdT f1 f20 b n n) (f20 + n) f21 f22 f23 f24) := hD
        exact W.vret hx hb hr (fun t ht hW => ⟨⟨(), rfl, trivial, by rw [ht]; exact hP, hD⟩, hS.F ht⟩) hS.2.2 dX3_append_52
      · refine lv_aload_n hx hb dX3_append_8 rfl (lv_at hl 1 rfl) ?_
        refine xg_X3 hx hb hts hown hK hP 0 rfl 1 (by decide) fk_X3_15 (v := .int (iI (f20 + i))) rfl dX3_append_9 ?_
        refine lv_bipush (v := iI (120)) hx hb dX3_append_12 (by decide) ?_
        refine xi_c_ge (tgt := 52) hx hb ⟨by omega, by omega⟩ ⟨by decide, by decide⟩ dX3_append_14 (by decide) (fun z4 => ?_) (fun z4 => ?_)
        · have he5 : (fdT f1 f20 b n i) = (fdT f1 f20 b n n) := by rw [show i = n by omega]
          have hP := Eq.mp (congrArg (fun z9 => va_P g.1 vwCl (wT g a z9 (f20 + i) f21 f22 f23 f24) H) he5) hP
          have hD := Eq.mp (congrArg (fun z9 => va_D (va_A (wT g a f1 f20 f21 f22 f23 f24) s.heap.size) (wT g a z9 (f20 + i) f21 f22 f23 f24)) he5) hD
          have he6 : (f20 + i) = (f20 + n) := by omega
          have hP := Eq.mp (congrArg (fun z9 => va_P g.1 vwCl (wT g a (fdT f1 f20 b n n) z9 f21 f22 f23 f24) H) he6) hP
          have hD := Eq.mp (congrArg (fun z9 => va_D (va_A (wT g a f1 f20 f21 f22 f23 f24) s.heap.size) (wT g a (fdT f1 f20 b n n) z9 f21 f22 f23 f24)) he6) hD
          have hP : va_P g.1 vwCl (wT g a (fdT f1 f20 b n n) (f20 + n) f21 f22 f23 f24) H := hP
          have hD : va_D (va_A (wT g a f1 f20 f21 f22 f23 f24) s.heap.size) (wT g a (fdT f1 f20 b n n) (f20 + n) f21 f22 f23 f24) := hD
          exact W.vret hx hb hr (fun t ht hW => ⟨⟨(), rfl, trivial, by rw [ht]; exact hP, hD⟩, hS.F ht⟩) hS.2.2 dX3_append_52
        · refine lv_aload_n hx hb dX3_append_17 rfl (lv_at hl 1 rfl) ?_
          refine xg_X3 hx hb hts hown hK hP 0 rfl 0 (by decide) fk_X3_9 (v := .ref (a 1)) rfl dX3_append_18 ?_
          refine lv_aload_n hx hb dX3_append_21 rfl (lv_at hl 1 rfl) ?_
          refine xg_X3 hx hb hts hown hK hP 0 rfl 1 (by decide) fk_X3_15 (v := .int (iI (f20 + i))) rfl dX3_append_22 ?_
          refine lv_iload_n hx hb dX3_append_25 rfl (lv_at hl 2 rfl) ?_
          refine lv_bipush (v := iI (8)) hx hb dX3_append_26 (by decide) ?_
          refine lv_iload_n hx hb dX3_append_28 rfl (lv_at hl 0 rfl) ?_
          refine xi_mul hx hb dX3_append_29 ?_
          refine lv_ishr hx hb dX3_append_30 ?_
          refine lv_sipush (v := iI (255)) hx hb dX3_append_31 (by decide) ?_
          refine lv_iand hx hb dX3_append_34 ?_
          refine xi_raw hx hb ?_
          refine xi_ast hx hb hK hP hD hS 1 (f := fdT f1 f20 b n i) rfl (i := f20 + i) (v := Int32.toInt ((((iI b) >>> ((iI (8 * (n - 1 - i))) &&& 31))) &&& (iI 255))) ⟨by omega, by omega⟩ rfl dX3_append_35 (fun H locs hP hD hS => ?_)
          have hP : va_P g.1 vwCl (wT g a (up (fdT f1 f20 b n i) (f20 + i) (Int32.toInt ((((iI b) >>> ((iI (8 * (n - 1 - i))) &&& 31))) &&& (iI 255)))) (f20 + i) f21 f22 f23 f24) H := hP
          have hD : va_D (va_A (wT g a f1 f20 f21 f22 f23 f24) s.heap.size) (wT g a (up (fdT f1 f20 b n i) (f20 + i) (Int32.toInt ((((iI b) >>> ((iI (8 * (n - 1 - i))) &&& 31))) &&& (iI 255)))) (f20 + i) f21 f22 f23 f24) := hD
          refine lv_aload_n hx hb dX3_append_36 rfl (lv_at hl 1 rfl) ?_
          refine lv_dup hx hb dX3_append_37 rfl ?_
          refine xg_X3 hx hb hts hown hK hP 0 rfl 1 (by decide) fk_X3_15 (v := .int (iI (f20 + i))) rfl dX3_append_38 ?_
          refine lv_iconst (v := iI (1)) hx hb dX3_append_41 (by decide) ?_
          refine xi_add hx hb dX3_append_42 ?_
          refine xp_X3 hx hb hts hown hK hP hD hS 0 rfl 1 (by decide) fk_X3_15 rfl (v := .int (iI (f20 + i + 1))) rfl rfl (Nat.le_of_ble_eq_true rfl) dX3_append_43 (fun H locs hP hD hS => ?_)
          have hP : va_P g.1 vwCl (wT g a (up (fdT f1 f20 b n i) (f20 + i) (Int32.toInt ((((iI b) >>> ((iI (8 * (n - 1 - i))) &&& 31))) &&& (iI 255)))) (f20 + i + 1) f21 f22 f23 f24) H := hP
          have hD : va_D (va_A (wT g a f1 f20 f21 f22 f23 f24) s.heap.size) (wT g a (up (fdT f1 f20 b n i) (f20 + i) (Int32.toInt ((((iI b) >>> ((iI (8 * (n - 1 - i))) &&& 31))) &&& (iI 255)))) (f20 + i + 1) f21 f22 f23 f24) := hD
          refine xi_inc (lv' := [(3, .int (iI (n - 1 - i + (-1)))), (0, .ref (a 0)), (1, .int (iI b)), (2, .int (iI n))]) hx hb dX3_append_46 hl (k := 0) rfl (by decide) rfl (fun ls hl => ?_)
          refine lv_goto (tgt := 4) hx hb dX3_append_49 (by decide) ?_
          have hq7 : (n - 1 - i + (-1)) = (n - 1 - (i + 1)) := by omega
          have hl : lv_has ls 4 [(3, .int (iI (n - 1 - i + (-1)))), (0, .ref (a 0)), (1, .int (iI b)), (2, .int (iI n))] := lv_sub hl [0, 1, 2, 3] rfl
          have hl := Eq.mp (congrArg (fun z9 => lv_has ls 4 [(3, .int (iI z9)), (0, .ref (a 0)), (1, .int (iI b)), (2, .int (iI n))]) hq7) hl
          have hq8 : (up (fdT f1 f20 b n i) (f20 + i) (Int32.toInt ((((iI b) >>> ((iI (8 * (n - 1 - i))) &&& 31))) &&& (iI 255)))) = (fdT f1 f20 b n (i + 1)) := fdT_S f1 f20 b n i4_1.1
          have hP := Eq.mp (congrArg (fun z9 => va_P g.1 vwCl (wT g a z9 (f20 + i + 1) f21 f22 f23 f24) H) hq8) hP
          have hD := Eq.mp (congrArg (fun z9 => va_D (va_A (wT g a f1 f20 f21 f22 f23 f24) s.heap.size) (wT g a z9 (f20 + i + 1) f21 f22 f23 f24)) hq8) hD
          have hq9 : (f20 + i + 1) = (f20 + (i + 1)) := by omega
          have hP := Eq.mp (congrArg (fun z9 => va_P g.1 vwCl (wT g a (fdT f1 f20 b n (i + 1)) z9 f21 f22 f23 f24) H) hq9) hP
          have hD := Eq.mp (congrArg (fun z9 => va_D (va_A (wT g a f1 f20 f21 f22 f23 f24) s.heap.size) (wT g a (fdT f1 f20 b n (i + 1)) z9 f21 f22 f23 f24)) hq9) hD
          exact ih4 (i + 1) (by omega) (by omega) ls hl H locs hP hD hS
  have hq10 : (n - 1) = (n - 1 - 0) := by omega
  have hl : lv_has ls 4 [(3, .int (iI (n - 1))), (0, .ref (a 0)), (1, .int (iI b)), (2, .int (iI n))] := lv_sub hl [0, 1, 2, 3] rfl
  have hl := Eq.mp (congrArg (fun z9 => lv_has ls 4 [(3, .int (iI z9)), (0, .ref (a 0)), (1, .int (iI b)), (2, .int (iI n))]) hq10) hl
  have hq11 : f1 = (fdT f1 f20 b n 0) := fdT_0 f1 f20 b n
  have hP := Eq.mp (congrArg (fun z9 => va_P g.1 vwCl (wT g a z9 f20 f21 f22 f23 f24) s.heap) hq11) hP
  have hD := Eq.mp (congrArg (fun z9 => va_D (va_A (wT g a f1 f20 f21 f22 f23 f24) s.heap.size) (wT g a z9 f20 f21 f22 f23 f24)) hq11) hD
  have hq12 : f20 = (f20 + 0) := by omega
  have hP := Eq.mp (congrArg (fun z9 => va_P g.1 vwCl (wT g a (fdT f1 f20 b n 0) z9 f21 f22 f23 f24) s.heap) hq12) hP
  have hD := Eq.mp (congrArg (fun z9 => va_D (va_A (wT g a f1 f20 f21 f22 f23 f24) s.heap.size) (wT g a (fdT f1 f20 b n 0) z9 f21 f22 f23 f24)) hq12) hD
  exact lp4 (4 + 1) 0 (by omega) (by omega) ls hl s.heap [] hP hD hS
abbrev rm_X4_feed : Room := { frames := 1, cells := 0, slots := 0, locals := 23 }
set_option maxRecDepth 100000 in
set_option maxHeartbeats 4000000 in
theorem c_X4_feed (l : Launch) (g : Gd) (d : Nat → Nat) (fo : Nat → Nat) (sh : Nat → Nat) (a : Nat → Nat) (f1 : Int → Int) (f20 : Int) (b : Nat → Nat) (e1 : Int → Int) (e10 : Int → Int) (e11 : Int → Int) (tp : Nat → Nat) (p1 : Int → Int) (p20 : Int) (p21 : Int) (p22 : Int) (p23 : Int) (p24 : Int) (bb : Int) (n : Int) (sz : Nat) (h1 : InvK 0 e1) (h2 : e1 0 ≤ 9999) (h3 : IR bb) (h4 : IR n) (h5 : 0 ≤ p20 ∧ p20 ≤ 120) : Met l yX4_feed (wsOf yX4_feed cX4_feed 3 (some .int)) rm_X4_feed (PX g (wP g (wX g a b d fo tp sh f1 f20 ++ (wLs g b e1 e10 e11 ++ (wT g tp p1 p20 p21 p22 p23 p24))) sz) [.ref (a 0), .int (iI bb), .int (iI n)]) (QMi g (fun _ : Unit => wX g a b d fo tp sh (fb (fFed p20 n) f1) f20 ++ (wLs g b e1 e10 e11 ++ (wT g tp (if fFed p20 n = 0 then fdT p1 p20 bb n n else p1) (if fFed p20 n = 0 then p20 + n else p20) p21 p22 p23 p24))) (fun r9 _ => r9 = ab (fFed p20 n) (iI (p20 + n))) (va_A (wX g a b d fo tp sh f1 f20 ++ (wLs g b e1 e10 e11 ++ (wT g tp p1 p20 p21 p22 p23 p24))) sz)) 0 0 (va_A (wX g a b d fo tp sh f1 f20 ++ (wLs g b e1 e10 e11 ++ (wT g tp p1 p20 p21 p22 p23 p24))) sz) := by
  refine me (g := g) (by decide) rfl ?_
  intro pq eq s mq below meth cq C hnm hB ls hl
  obtain ⟨hx, hb, hr, hml, hown, hts, hlocks, hK⟩ := C
  have hown : s.vm.findClass RX4 = some mq.cls := hown
  have hl : lv_has ls 3 [(0, .ref (a 0)), (1, .int (iI bb)), (2, .int (iI n))] := hl
  obtain ⟨hsz, hP, hD0⟩ := hB
  subst hsz
  have hD := hD0.self (sz := s.heap.size)
  have hA : ∀ q : Nat, s.heap.size ≤ q → va_A (wX g a b d fo tp sh f1 f20 ++ (wLs g b e1 e10 e11 ++ (wT g tp p1 p20 p21 p22 p23 p24))) s.heap.size q := fun q h => Or.inr h
  have hS : va_S (va_A (wX g a b d fo tp sh f1 f20 ++ (wLs g b e1 e10 e11 ++ (wT g tp p1 p20 p21 p22 p23 p24))) s.heap.size) s.heap s.heap [] := va_S.rf
  obtain ⟨hP0, hPr0⟩ := va_P_app.mp hP
  obtain ⟨hP1, hP2⟩ := va_P_app.mp hPr0
  have hI := h1
  have hI8 : Inv e1 := h1.mono (by omega)
  have hn := hI.num
  have hs := hI.sea
  have hv := hI.vil
  have q1 := h3.1
  have q3 := h4.1
  have q2 := h3.2
  have q4 := h4.2
  refine lv_iload_n hx hb dX4_feed_0 rfl (lv_at hl 2 rfl) ?_
  refine lv_iconst (v := iI (1)) hx hb dX4_feed_1 (by decide) ?_
  refine lv_iconst (v := iI (4)) hx hb dX4_feed_2 (by decide) ?_
  refine xu_b (P := 1 ≤ n ∧ n ≤ 4) (rS (rest := []) hx hb hml hown hts hK hl (c_X4_isBetween l g n 1 4 (show IR n from ⟨by omega, by omega⟩) (show IR 1 from ⟨by omega, by omega⟩) (show IR 4 from ⟨by omega, by omega⟩)) lk_X4_99 trivial rfl rfl rfl (Rm.of rfl) rfl rfl dX4_feed_3) (fun z1 => ?_) (fun z1 => ?_)
  · refine xi_zt_ne (tgt := 16) hx hb ⟨by decide, by decide⟩ (by decide) dX4_feed_6 (by decide) ?_
    refine lv_aload_n hx hb dX4_feed_16 rfl (lv_at hl 0 rfl) ?_
    refine xg_X4 hx hb hts hown hK hP0 0 rfl 3 (by decide) fk_X4_31 (v := .ref (tp 0)) rfl dX4_feed_17 ?_
    refine xgN_X3 hx hb hts hown hK hP2 0 rfl 1 (by decide) fk_X4_228 (v := .int (iI p20)) rfl dX4_feed_20 ?_
    refine lv_iload_n hx hb dX4_feed_23 rfl (lv_at hl 2 rfl) ?_
    refine xi_add hx hb dX4_feed_24 ?_
    refine lv_bipush (v := iI (120)) hx hb dX4_feed_25 (by decide) ?_
    refine xi_c_le (tgt := 37) hx hb ⟨by omega, by omega⟩ ⟨by decide, by decide⟩ dX4_feed_27 (by decide) (fun z2 => ?_) (fun z2 => ?_)
    · refine lv_aload_n hx hb dX4_feed_37 rfl (lv_at hl 0 rfl) ?_
      refine xg_X4 hx hb hts hown hK hP0 0 rfl 3 (by decide) fk_X4_31 (v := .ref (tp 0)) rfl dX4_feed_38 ?_
      refine lv_iload_n hx hb dX4_feed_41 rfl (lv_at hl 1 rfl) ?_
      refine lv_iload_n hx hb dX4_feed_42 rfl (lv_at hl 2 rfl) ?_
      have hD : va_D (va_A (wX g a b d fo tp sh f1 f20 ++ (wLs g b e1 e10 e11 ++ (wT g tp p1 p20 p21 p22 p23 p24))) s.heap.size) (wX g a b d fo tp sh f1 f20 ++ (wT g tp p1 p20 p21 p22 p23 p24 ++ (wLs g b e1 e10 e11))) := D_perm (List.Perm.append_left _ (List.perm_append_comm)) hD
      have hD : va_D (va_A (wX g a b d fo tp sh f1 f20 ++ (wLs g b e1 e10 e11 ++ (wT g tp p1 p20 p21 p22 p23 p24))) s.heap.size) (wT g tp p1 p20 p21 p22 p23 p24 ++ (wX g a b d fo tp sh f1 f20 ++ (wLs g b e1 e10 e11))) := D_perm (List.perm_append_comm_assoc _ _ _) hD
      have hP : va_P g.1 vwCl (wT g tp p1 p20 p21 p22 p23 p24 ++ (wX g a b d fo tp sh f1 f20 ++ (wLs g b e1 e10 e11))) s.heap := va_P_app.mpr ⟨hP2, va_P_app.mpr ⟨hP0, hP1⟩⟩
      refine xmF_v (rVN (rest := []) hx hb hml hown hts hK hl (c_X3_append l g tp p1 p20 p21 p22 p23 p24 bb n (s.heap).size (show 1 ≤ n ∧ n ≤ 4 from by omega) (show 0 ≤ p20 ∧ p20 + n ≤ 120 from by omega)) lk_X4_231 ⟨rfl, hP2, (va_D_app hD).1.weaken (fun _ _ _ _ => trivial)⟩ (va_recv hK.1 hP2 (ci := 3) (q0 := 0) rfl rfl) rfl rfl rfl (Rm.of rfl) rfl rfl dX4_feed_43) hP hD hS hA (fun _ H locs hw hP hD hS => ?_)
      have hP : va_P g.1 vwCl (wT g tp (fdT p1 p20 bb n n) (p20 + n) p21 p22 p23 p24 ++ (wX g a b d fo tp sh f1 f20 ++ (wLs g b e1 e10 e11))) H := hP
      have hD : va_D (va_A (wX g a b d fo tp sh f1 f20 ++ (wLs g b e1 e10 e11 ++ (wT g tp p1 p20 p21 p22 p23 p24))) s.heap.size) (wT g tp (fdT p1 p20 bb n n) (p20 + n) p21 p22 p23 p24 ++ (wX g a b d fo tp sh f1 f20 ++ (wLs g b e1 e10 e11))) := hD
      obtain ⟨hP2, hPr0⟩ := va_P_app.mp hP
      obtain ⟨hP0, hP1⟩ := va_P_app.mp hPr0
      refine lv_aload_n hx hb dX4_feed_46 rfl (lv_at hl 0 rfl) ?_
      refine xg_X4 hx hb hts hown hK hP0 0 rfl 3 (by decide) fk_X4_31 (v := .ref (tp 0)) rfl dX4_feed_47 ?_
      refine xgN_X3 hx hb hts hown hK hP2 0 rfl 1 (by decide) fk_X4_228 (v := .int (iI (p20 + n))) rfl dX4_feed_50 ?_
      have hD : va_D (va_A (wX g a b d fo tp sh f1 f20 ++ (wLs g b e1 e10 e11 ++ (wT g tp p1 p20 p21 p22 p23 p24))) s.heap.size) (wX g a b d fo tp sh f1 f20 ++ (wT g tp (fdT p1 p20 bb n n) (p20 + n) p21 p22 p23 p24 ++ (wLs g b e1 e10 e11))) := D_perm (List.perm_append_comm_assoc _ _ _) hD
      have hD : va_D (va_A (wX g a b d fo tp sh f1 f20 ++ (wLs g b e1 e10 e11 ++ (wT g tp p1 p20 p21 p22 p23 p24))) s.heap.size) (wX g a b d fo tp sh f1 f20 ++ (wLs g b e1 e10 e11 ++ (wT g tp (fdT p1 p20 bb n n) (p20 + n) p21 p22 p23 p24))) := D_perm (List.Perm.append_left _ (List.perm_append_comm)) hD
      have hP : va_P g.1 vwCl (wX g a b d fo tp sh f1 f20 ++ (wLs g b e1 e10 e11 ++ (wT g tp (fdT p1 p20 bb n n) (p20 + n) p21 p22 p23 p24))) H := va_P_app.mpr ⟨hP0, va_P_app.mpr ⟨hP1, hP2⟩⟩
      have hf : fFed p20 n = 0 := by unfold fFed; (repeat (first | rw [if_pos (by omega)] | rw [if_neg (by omega)])); first | done | (exfalso; omega)
      have he4 : f1 = (fb (fFed p20 n) f1) := by rw [hf]; rfl
      have hP := Eq.mp (congrArg (fun z9 => va_P g.1 vwCl (wX g a b d fo tp sh z9 f20 ++ (wLs g b e1 e10 e11 ++ (wT g tp (fdT p1 p20 bb n n) (p20 + n) p21 p22 p23 p24))) H) he4) hP
      have hD := Eq.mp (congrArg (fun z9 => va_D (va_A (wX g a b d fo tp sh f1 f20 ++ (wLs g b e1 e10 e11 ++ (wT g tp p1 p20 p21 p22 p23 p24))) s.heap.size) (wX g a b d fo tp sh z9 f20 ++ (wLs g b e1 e10 e11 ++ (wT g tp (fdT p1 p20 bb n n) (p20 + n) p21 p22 p23 p24)))) he4) hD
      obtain ⟨hP0, hPr0⟩ := va_P_app.mp hP
      obtain ⟨hP1, hP2⟩ := va_P_app.mp hPr0
      have he5 : (fdT p1 p20 bb n n) = (if fFed p20 n = 0 then fdT p1 p20 bb n n else p1) := by rw [hf]; rfl
      have hP := Eq.mp (congrArg (fun z9 => va_P g.1 vwCl (wX g a b d fo tp sh (fb (fFed p20 n) f1) f20 ++ (wLs g b e1 e10 e11 ++ (wT g tp z9 (p20 + n) p21 p22 p23 p24))) H) he5) hP
      have hD := Eq.mp (congrArg (fun z9 => va_D (va_A (wX g a b d fo tp sh f1 f20 ++ (wLs g b e1 e10 e11 ++ (wT g tp p1 p20 p21 p22 p23 p24))) s.heap.size) (wX g a b d fo tp sh (fb (fFed p20 n) f1) f20 ++ (wLs g b e1 e10 e11 ++ (wT g tp z9 (p20 + n) p21 p22 p23 p24)))) he5) hD
      obtain ⟨hP0, hPr0⟩ := va_P_app.mp hP
      obtain ⟨hP1, hP2⟩ := va_P_app.mp hPr0
      have he6 : (p20 + n) = (if fFed p20 n = 0 then p20 + n else p20) := by rw [hf]; rfl
      have hP := Eq.mp (congrArg (fun z9 => va_P g.1 vwCl (wX g a b d fo tp sh (fb (fFed p20 n) f1) f20 ++ (wLs g b e1 e10 e11 ++ (wT g tp (if fFed p20 n = 0 then fdT p1 p20 bb n n else p1) z9 p21 p22 p23 p24))) H) he6) hP
      have hD := Eq.mp (congrArg (fun z9 => va_D (va_A (wX g a b d fo tp sh f1 f20 ++ (wLs g b e1 e10 e11 ++ (wT g tp p1 p20 p21 p22 p23 p24))) s.heap.size) (wX g a b d fo tp sh (fb (fFed p20 n) f1) f20 ++ (wLs g b e1 e10 e11 ++ (wT g tp (if fFed p20 n = 0 then fdT p1 p20 bb n n else p1) z9 p21 p22 p23 p24)))) he6) hD
      obtain ⟨hP0, hPr0⟩ := va_P_app.mp hP
      obtain ⟨hP1, hP2⟩ := va_P_app.mp hPr0
      have hP : va_P g.1 vwCl (wX g a b d fo tp sh (fb (fFed p20 n) f1) f20 ++ (wLs g b e1 e10 e11 ++ (wT g tp (if fFed p20 n = 0 then fdT p1 p20 bb n n else p1) (if fFed p20 n = 0 then p20 + n else p20) p21 p22 p23 p24))) H := hP
      have hD : va_D (va_A (wX g a b d fo tp sh f1 f20 ++ (wLs g b e1 e10 e11 ++ (wT g tp p1 p20 p21 p22 p23 p24))) s.heap.size) (wX g a b d fo tp sh (fb (fFed p20 n) f1) f20 ++ (wLs g b e1 e10 e11 ++ (wT g tp (if fFed p20 n = 0 then fdT p1 p20 bb n n else p1) (if fFed p20 n = 0 then p20 + n else p20) p21 p22 p23 p24))) := hD
      exact W.iret hx hb hr (fun t ht hW => ⟨⟨_, (), rfl, by rw [hf, ab_0], by rw [ht]; exact hP, hD⟩, hS.F ht⟩) hS.2.2 dX4_feed_53
    · refine lv_aload_n hx hb dX4_feed_30 rfl (lv_at hl 0 rfl) ?_
      refine xi_ldc hx hb hown hts kk_X4_86 dX4_feed_31 ?_
      refine xmF_i (rV (rest := []) hx hb hml hown hts hK hl (c_X4_finding l g b d fo tp sh a f1 f20 (-1000000002) (s.heap).size (show 0 ≤ -1000000001 - (-1000000002) ∧ -1000000001 - (-1000000002) < 7 from by omega)) lk_X4_59 ⟨rfl, hP0, (va_D_app hD).1.weaken (fun _ _ _ _ => trivial)⟩ (va_recv hK.1 hP0 (ci := 4) (q0 := 0) rfl rfl) rfl rfl rfl (Rm.of rfl) rfl rfl dX4_feed_33) hP hD hS hA (fun x9 _ H locs hw hP hD hS => ?_)
      obtain rfl : x9 = iI (-1000000002) := hw
      have hP : va_P g.1 vwCl (wX g a b d fo tp sh (fb (-1000000000 - (-1000000002)) f1) f20 ++ (wLs g b e1 e10 e11 ++ (wT g tp p1 p20 p21 p22 p23 p24))) H := hP
      have hD : va_D (va_A (wX g a b d fo tp sh f1 f20 ++ (wLs g b e1 e10 e11 ++ (wT g tp p1 p20 p21 p22 p23 p24))) s.heap.size) (wX g a b d fo tp sh (fb (-1000000000 - (-1000000002)) f1) f20 ++ (wLs g b e1 e10 e11 ++ (wT g tp p1 p20 p21 p22 p23 p24))) := hD
      obtain ⟨hP0, hPr0⟩ := va_P_app.mp hP
      obtain ⟨hP1, hP2⟩ := va_P_app.mp hPr0
      have hf : fFed p20 n = 2 := by unfold fFed; (repeat (first | rw [if_pos (by omega)] | rw [if_neg (by omega)])); first | done | (exfalso; omega)
      have he8 : (fb (-1000000000 - (-1000000002)) f1) = (fb (fFed p20 n) f1) := by rw [hf]; rfl
      have hP := Eq.mp (congrArg (fun z9 => va_P g.1 vwCl (wX g a b d fo tp sh z9 f20 ++ (wLs g b e1 e10 e11 ++ (wT g tp p1 p20 p21 p22 p23 p24))) H) he8) hP
      have hD := Eq.mp (congrArg (fun z9 => va_D (va_A (wX g a b d fo tp sh f1 f20 ++ (wLs g b e1 e10 e11 ++ (wT g tp p1 p20 p21 p22 p23 p24))) s.heap.size) (wX g a b d fo tp sh z9 f20 ++ (wLs g b e1 e10 e11 ++ (wT g tp p1 p20 p21 p22 p23 p24)))) he8) hD
      obtain ⟨hP0, hPr0⟩ := va_P_app.mp hP
      obtain ⟨hP1, hP2⟩ := va_P_app.mp hPr0
      have he9 : p1 = (if fFed p20 n = 0 then fdT p1 p20 bb n n else p1) := by rw [hf]; rfl
      have hP := Eq.mp (congrArg (fun z9 => va_P g.1 vwCl (wX g a b d fo tp sh (fb (fFed p20 n) f1) f20 ++ (wLs g b e1 e10 e11 ++ (wT g tp z9 p20 p21 p22 p23 p24))) H) he9) hP
      have hD := Eq.mp (congrArg (fun z9 => va_D (va_A (wX g a b d fo tp sh f1 f20 ++ (wLs g b e1 e10 e11 ++ (wT g tp p1 p20 p21 p22 p23 p24))) s.heap.size) (wX g a b d fo tp sh (fb (fFed p20 n) f1) f20 ++ (wLs g b e1 e10 e11 ++ (wT g tp z9 p20 p21 p22 p23 p24)))) he9) hD
      obtain ⟨hP0, hPr0⟩ := va_P_app.mp hP
      obtain ⟨hP1, hP2⟩ := va_P_app.mp hPr0
      have he10 : p20 = (if fFed p20 n = 0 then p20 + n else p20) := by rw [hf]; rfl
      have hP := Eq.mp (congrArg (fun z9 => va_P g.1 vwCl (wX g a b d fo tp sh (fb (fFed p20 n) f1) f20 ++ (wLs g b e1 e10 e11 ++ (wT g tp (if fFed p20 n = 0 then fdT p1 p20 bb n n else p1) z9 p21 p22 p23 p24))) H) he10) hP
      have hD := Eq.mp (congrArg (fun z9 => va_D (va_A (wX g a b d fo tp sh f1 f20 ++ (wLs g b e1 e10 e11 ++ (wT g tp p1 p20 p21 p22 p23 p24))) s.heap.size) (wX g a b d fo tp sh (fb (fFed p20 n) f1) f20 ++ (wLs g b e1 e10 e11 ++ (wT g tp (if fFed p20 n = 0 then fdT p1 p20 bb n n else p1) z9 p21 p22 p23 p24)))) he10) hD
      obtain ⟨hP0, hPr0⟩ := va_P_app.mp hP
      obtain ⟨hP1, hP2⟩ := va_P_app.mp hPr0
      have hP : va_P g.1 vwCl (wX g a b d fo tp sh (fb (fFed p20 n) f1) f20 ++ (wLs g b e1 e10 e11 ++ (wT g tp (if fFed p20 n = 0 then fdT p1 p20 bb n n else p1) (if fFed p20 n = 0 then p20 + n else p20) p21 p22 p23 p24))) H := hP
      have hD : va_D (va_A (wX g a b d fo tp sh f1 f20 ++ (wLs g b e1 e10 e11 ++ (wT g tp p1 p20 p21 p22 p23 p24))) s.heap.size) (wX g a b d fo tp sh (fb (fFed p20 n) f1) f20 ++ (wLs g b e1 e10 e11 ++ (wT g tp (if fFed p20 n = 0 then fdT p1 p20 bb n n else p1) (if fFed p20 n = 0 then p20 + n else p20) p21 p22 p23 p24))) := hD
      exact W.iret hx hb hr (fun t ht hW => ⟨⟨_, (), rfl, by rw [hf]; rfl, by rw [ht]; exact hP, hD⟩, hS.F ht⟩) hS.2.2 dX4_feed_36
  · refine xi_zf_ne hx hb ⟨by decide, by decide⟩ (by decide) dX4_feed_6 ⟨16, by decide⟩ ?_
    refine lv_aload_n hx hb dX4_feed_9 rfl (lv_at hl 0 rfl) ?_
    refine xi_ldc hx hb hown hts kk_X4_58 dX4_feed_10 ?_
    refine xmF_i (rV (rest := []) hx hb hml hown hts hK hl (c_X4_finding l g b d fo tp sh a f1 f20 (-1000000001) (s.heap).size (show 0 ≤ -1000000001 - (-1000000001) ∧ -1000000001 - (-1000000001) < 7 from by omega)) lk_X4_59 ⟨rfl, hP0, (va_D_app hD).1.weaken (fun _ _ _ _ => trivial)⟩ (va_recv hK.1 hP0 (ci := 4) (q0 := 0) rfl rfl) rfl rfl rfl (Rm.of rfl) rfl rfl dX4_feed_12) hP hD hS hA (fun x9 _ H locs hw hP hD hS => ?_)
    obtain rfl : x9 = iI (-1000000001) := hw
    have hP : va_P g.1 vwCl (wX g a b d fo tp sh (fb (-1000000000 - (-1000000001)) f1) f20 ++ (wLs g b e1 e10 e11 ++ (wT g tp p1 p20 p21 p22 p23 p24))) H := hP
    have hD : va_D (va_A (wX g a b d fo tp sh f1 f20 ++ (wLs g b e1 e10 e11 ++ (wT g tp p1 p20 p21 p22 p23 p24))) s.heap.size) (wX g a b d fo tp sh (fb (-1000000000 - (-1000000001)) f1) f20 ++ (wLs g b e1 e10 e11 ++ (wT g tp p1 p20 p21 p22 p23 p24))) := hD
    obtain ⟨hP0, hPr0⟩ := va_P_app.mp hP
    obtain ⟨hP1, hP2⟩ := va_P_app.mp hPr0
    have hf : fFed p20 n = 1 := by unfold fFed; (repeat (first | rw [if_pos (by omega)] | rw [if_neg (by omega)])); first | done | (exfalso; omega)
    have he12 : (fb (-1000000000 - (-1000000001)) f1) = (fb (fFed p20 n) f1) := by rw [hf]; rfl
    have hP := Eq.mp (congrArg (fun z9 => va_P g.1 vwCl (wX g a b d fo tp sh z9 f20 ++ (wLs g b e1 e10 e11 ++ (wT g tp p1 p20 p21 p22 p23 p24))) H) he12) hP
    have hD := Eq.mp (congrArg (fun z9 => va_D (va_A (wX g a b d fo tp sh f1 f20 ++ (wLs g b e1 e10 e11 ++ (wT g tp p1 p20 p21 p22 p23 p24))) s.heap.size) (wX g a b d fo tp sh z9 f20 ++ (wLs g b e1 e10 e11 ++ (wT g tp p1 p20 p21 p22 p23 p24)))) he12) hD
    obtain ⟨hP0, hPr0⟩ := va_P_app.mp hP
    obtain ⟨hP1, hP2⟩ := va_P_app.mp hPr0
    have he13 : p1 = (if fFed p20 n = 0 then fdT p1 p20 bb n n else p1) := by rw [hf]; rfl
    have hP := Eq.mp (congrArg (fun z9 => va_P g.1 vwCl (wX g a b d fo tp sh (fb (fFed p20 n) f1) f20 ++ (wLs g b e1 e10 e11 ++ (wT g tp z9 p20 p21 p22 p23 p24))) H) he13) hP
    have hD := Eq.mp (congrArg (fun z9 => va_D (va_A (wX g a b d fo tp sh f1 f20 ++ (wLs g b e1 e10 e11 ++ (wT g tp p1 p20 p21 p22 p23 p24))) s.heap.size) (wX g a b d fo tp sh (fb (fFed p20 n) f1) f20 ++ (wLs g b e1 e10 e11 ++ (wT g tp z9 p20 p21 p22 p23 p24)))) he13) hD
    obtain ⟨hP0, hPr0⟩ := va_P_app.mp hP
    obtain ⟨hP1, hP2⟩ := va_P_app.mp hPr0
    have he14 : p20 = (if fFed p20 n = 0 then p20 + n else p20) := by rw [hf]; rfl
    have hP := Eq.mp (congrArg (fun z9 => va_P g.1 vwCl (wX g a b d fo tp sh (fb (fFed p20 n) f1) f20 ++ (wLs g b e1 e10 e11 ++ (wT g tp (if fFed p20 n = 0 then fdT p1 p20 bb n n else p1) z9 p21 p22 p23 p24))) H) he14) hP
    have hD := Eq.mp (congrArg (fun z9 => va_D (va_A (wX g a b d fo tp sh f1 f20 ++ (wLs g b e1 e10 e11 ++ (wT g tp p1 p20 p21 p22 p23 p24))) s.heap.size) (wX g a b d fo tp sh (fb (fFed p20 n) f1) f20 ++ (wLs g b e1 e10 e11 ++ (wT g tp (if fFed p20 n = 0 then fdT p1 p20 bb n n else p1) z9 p21 p22 p23 p24)))) he14) hD
    obtain ⟨hP0, hPr0⟩ := va_P_app.mp hP
    obtain ⟨hP1, hP2⟩ := va_P_app.mp hPr0
    have hP : va_P g.1 vwCl (wX g a b d fo tp sh (fb (fFed p20 n) f1) f20 ++ (wLs g b e1 e10 e11 ++ (wT g tp (if fFed p20 n = 0 then fdT p1 p20 bb n n else p1) (if fFed p20 n = 0 then p20 + n else p20) p21 p22 p23 p24))) H := hP
    have hD : va_D (va_A (wX g a b d fo tp sh f1 f20 ++ (wLs g b e1 e10 e11 ++ (wT g tp p1 p20 p21 p22 p23 p24))) s.heap.size) (wX g a b d fo tp sh (fb (fFed p20 n) f1) f20 ++ (wLs g b e1 e10 e11 ++ (wT g tp (if fFed p20 n = 0 then fdT p1 p20 bb n n else p1) (if fFed p20 n = 0 then p20 + n else p20) p21 p22 p23 p24))) := hD
    exact W.iret hx hb hr (fun t ht hW => ⟨⟨_, (), rfl, by rw [hf]; rfl, by rw [ht]; exact hP, hD⟩, hS.F ht⟩) hS.2.2 dX4_feed_15
abbrev rm_X4_wipe : Room := { frames := 0, cells := 0, slots := 0, locals := 0 }
set_option maxRecDepth 100000 in
set_option maxHeartbeats 4000000 in
theorem c_X4_wipe (l : Launch) (g : Gd) (b : Nat → Nat) (d : Nat → Nat) (fo : Nat → Nat) (sh : Nat → Nat) (a : Nat → Nat) (f1 : Int → Int) (f20 : Int) (tp : Nat → Nat) (p1 : Int → Int) (p20 : Int) (p21 : Int) (p22 : Int) (p23 : Int) (p24 : Int) (sz : Nat)  : Met l yX4_wipe (wsOf yX4_wipe cX4_wipe 2 (some .int)) rm_X4_wipe (PX g (wP g (wX g a b d fo tp sh f1 f20 ++ (wT g tp p1 p20 p21 p22 p23 p24)) sz) [.ref (a 0)]) (QMi g (fun _ : Unit => wX g a b d fo tp sh f1 f20 ++ (wT g tp p1 0 p21 p22 p23 p24)) (fun r9 _ => r9 = iI p20) (va_A (wX g a b d fo tp sh f1 f20 ++ (wT g tp p1 p20 p21 p22 p23 p24)) sz)) 0 0 (va_A (wX g a b d fo tp sh f1 f20 ++ (wT g tp p1 p20 p21 p22 p23 p24)) sz) := by
  refine me (g := g) (by decide) rfl ?_
  intro pq eq s mq below meth cq C hnm hB ls hl
  obtain ⟨hx, hb, hr, hml, hown, hts, hlocks, hK⟩ := C
  have hown : s.vm.findClass RX4 = some mq.cls := hown
  have hl : lv_has ls 2 [(0, .ref (a 0))] := hl
  obtain ⟨hsz, hP, hD0⟩ := hB
  subst hsz
  have hD := hD0.self (sz := s.heap.size)
  have hA : ∀ q : Nat, s.heap.size ≤ q → va_A (wX g a b d fo tp sh f1 f20 ++ (wT g tp p1 p20 p21 p22 p23 p24)) s.heap.size q := fun q h => Or.inr h
  have hS : va_S (va_A (wX g a b d fo tp sh f1 f20 ++ (wT g tp p1 p20 p21 p22 p23 p24)) s.heap.size) s.heap s.heap [] := va_S.rf
  obtain ⟨hP0, hP1⟩ := va_P_app.mp hP
  refine lv_aload_n hx hb dX4_wipe_0 rfl (lv_at hl 0 rfl) ?_
  refine xg_X4 hx hb hts hown hK hP0 0 rfl 3 (by decide) fk_X4_31 (v := .ref (tp 0)) rfl dX4_wipe_1 ?_
  refine xgN_X3 hx hb hts hown hK hP1 0 rfl 1 (by decide) fk_X4_228 (v := .int (iI p20)) rfl dX4_wipe_4 ?_
  refine lv_istore_n (lv' := [(1, .int (iI p20)), (0, .ref (a 0))]) hx hb dX4_wipe_7 rfl hl (by decide) rfl (fun ls hl => ?_)
  refine lv_aload_n hx hb dX4_wipe_8 rfl (lv_at hl 1 rfl) ?_
  refine xg_X4 hx hb hts hown hK hP0 0 rfl 3 (by decide) fk_X4_31 (v := .ref (tp 0)) rfl dX4_wipe_9 ?_
  refine lv_iconst (v := iI (0)) hx hb dX4_wipe_12 (by decide) ?_
  refine xpN_X3 hx hb hts hown hK hP hD hS 3 rfl 1 (by decide) fk_X4_228 rfl (v := .int (iI 0)) rfl rfl (Nat.le_of_ble_eq_true rfl) dX4_wipe_13 (fun H locs hP hD hS => ?_)
  have hP : va_P g.1 vwCl (wX g a b d fo tp sh f1 f20 ++ (wT g tp p1 0 p21 p22 p23 p24)) H := hP
  have hD : va_D (va_A (wX g a b d fo tp sh f1 f20 ++ (wT g tp p1 p20 p21 p22 p23 p24)) s.heap.size) (wX g a b d fo tp sh f1 f20 ++ (wT g tp p1 0 p21 p22 p23 p24)) := hD
  obtain ⟨hP0, hP1⟩ := va_P_app.mp hP
  refine lv_iload_n hx hb dX4_wipe_16 rfl (lv_at hl 0 rfl) ?_
  have hP : va_P g.1 vwCl (wX g a b d fo tp sh f1 f20 ++ (wT g tp p1 0 p21 p22 p23 p24)) H := hP
  have hD : va_D (va_A (wX g a b d fo tp sh f1 f20 ++ (wT g tp p1 p20 p21 p22 p23 p24)) s.heap.size) (wX g a b d fo tp sh f1 f20 ++ (wT g tp p1 0 p21 p22 p23 p24)) := hD
  exact W.iret hx hb hr (fun t ht hW => ⟨⟨_, (), rfl, rfl, by rw [ht]; exact hP, hD⟩, hS.F ht⟩) hS.2.2 dX4_wipe_17
abbrev rm_X4_tear : Room := { frames := 0, cells := 0, slots := 0, locals := 0 }
set_option maxRecDepth 100000 in
set_option maxHeartbeats 4000000 in
theorem c_X4_tear (l : Launch) (g : Gd) (b : Nat → Nat) (d : Nat → Nat) (fo : Nat → Nat) (tp : Nat → Nat) (sh : Nat → Nat) (a : Nat → Nat) (f1 : Int → Int) (f20 : Int) (sz : Nat) (h1 : f20 = 0 ∨ f20 = 1) : Met l yX4_tear (wsOf yX4_tear cX4_tear 2 (some .int)) rm_X4_tear (PX g (wP g (wX g a b d fo tp sh f1 f20) sz) [.ref (a 0)]) (QMi g (fun _ : Unit => wX g a b d fo tp sh f1 0) (fun r9 _ => r9 = iI f20) (va_A (wX g a b d fo tp sh f1 f20) sz)) 0 0 (va_A (wX g a b d fo tp sh f1 f20) sz) := by
  refine me (g := g) (by decide) rfl ?_
  intro pq eq s mq below meth cq C hnm hB ls hl
  obtain ⟨hx, hb, hr, hml, hown, hts, hlocks, hK⟩ := C
  have hown : s.vm.findClass RX4 = some mq.cls := hown
  have hl : lv_has ls 2 [(0, .ref (a 0))] := hl
  obtain ⟨hsz, hP, hD0⟩ := hB
  subst hsz
  have hD := hD0.self (sz := s.heap.size)
  have hA : ∀ q : Nat, s.heap.size ≤ q → va_A (wX g a b d fo tp sh f1 f20) s.heap.size q := fun q h => Or.inr h
  have hS : va_S (va_A (wX g a b d fo tp sh f1 f20) s.heap.size) s.heap s.heap [] := va_S.rf
  refine lv_aload_n hx hb dX4_tear_0 rfl (lv_at hl 0 rfl) ?_
  refine xg_X4 hx hb hts hown hK hP 0 rfl 6 (by decide) fk_X4_46 (v := .int (iI f20)) rfl dX4_tear_1 ?_
  refine xi_z_eq (tgt := 11) hx hb ⟨by omega, by omega⟩ dX4_tear_4 (by decide) (fun z1 => ?_) (fun z1 => ?_)
  · refine lv_iconst (v := iI (0)) hx hb dX4_tear_11 (by decide) ?_
    refine lv_istore_n (lv' := [(1, .int (iI 0)), (0, .ref (a 0))]) hx hb dX4_tear_12 rfl hl (by decide) rfl (fun ls hl => ?_)
    refine lv_aload_n hx hb dX4_tear_13 rfl (lv_at hl 1 rfl) ?_
    refine lv_iconst (v := iI (0)) hx hb dX4_tear_14 (by decide) ?_
    refine xp_X4 hx hb hts hown hK hP hD hS 0 rfl 6 (by decide) fk_X4_46 rfl (v := .int (iI 0)) rfl rfl (Nat.le_of_ble_eq_true rfl) dX4_tear_15 (fun H locs hP hD hS => ?_)
    have hP : va_P g.1 vwCl (wX g a b d fo tp sh f1 0) H := hP
    have hD : va_D (va_A (wX g a b d fo tp sh f1 f20) s.heap.size) (wX g a b d fo tp sh f1 0) := hD
    refine lv_iload_n hx hb dX4_tear_18 rfl (lv_at hl 0 rfl) ?_
    have hP : va_P g.1 vwCl (wX g a b d fo tp sh f1 0) H := hP
    have hD : va_D (va_A (wX g a b d fo tp sh f1 f20) s.heap.size) (wX g a b d fo tp sh f1 0) := hD
    exact W.iret hx hb hr (fun t ht hW => ⟨⟨_, (), rfl, congrArg iI (by omega), by rw [ht]; exact hP, hD⟩, hS.F ht⟩) hS.2.2 dX4_tear_19
  · refine lv_iconst (v := iI (1)) hx hb dX4_tear_7 (by decide) ?_
    refine lv_goto (tgt := 12) hx hb dX4_tear_8 (by decide) ?_
    refine lv_istore_n (lv' := [(1, .int (iI 1)), (0, .ref (a 0))]) hx hb dX4_tear_12 rfl hl (by decide) rfl (fun ls hl => ?_)
    refine lv_aload_n hx hb dX4_tear_13 rfl (lv_at hl 1 rfl) ?_
    refine lv_iconst (v := iI (0)) hx hb dX4_tear_14 (by decide) ?_
    refine xp_X4 hx hb hts hown hK hP hD hS 0 rfl 6 (by decide) fk_X4_46 rfl (v := .int (iI 0)) rfl rfl (Nat.le_of_ble_eq_true rfl) dX4_tear_15 (fun H locs hP hD hS => ?_)
    have hP : va_P g.1 vwCl (wX g a b d fo tp sh f1 0) H := hP
    have hD : va_D (va_A (wX g a b d fo tp sh f1 f20) s.heap.size) (wX g a b d fo tp sh f1 0) := hD
    refine lv_iload_n hx hb dX4_tear_18 rfl (lv_at hl 0 rfl) ?_
    have hP : va_P g.1 vwCl (wX g a b d fo tp sh f1 0) H := hP
    have hD : va_D (va_A (wX g a b d fo tp sh f1 f20) s.heap.size) (wX g a b d fo tp sh f1 0) := hD
    exact W.iret hx hb hr (fun t ht hW => ⟨⟨_, (), rfl, congrArg iI (by omega), by rw [ht]; exact hP, hD⟩, hS.F ht⟩) hS.2.2 dX4_tear_19
abbrev rm_X4_image : Room := { frames := 2, cells := 0, slots := 0, locals := 101 }
set_option maxRecDepth 100000 in
set_option maxHeartbeats 4000000 in
theorem c_X4_image (l : Launch) (g : Gd) (fo : Nat → Nat) (tp : Nat → Nat) (sh : Nat → Nat) (a : Nat → Nat) (f1 : Int → Int) (f20 : Int) (d : Nat → Nat) (k1 : Int → Int) (k10 : Int → Int) (k11 : Int → Int) (b : Nat → Nat) (e1 : Int → Int) (e10 : Int → Int) (e11 : Int → Int) (sz : Nat)  : Met l yX4_image (wsOf yX4_image cX4_image 1 (some .int)) rm_X4_image (PX g (wP g (wX g a b d fo tp sh f1 f20 ++ (wLs g d k1 k10 k11 ++ (wLs g b e1 e10 e11))) sz) [.ref (a 0)]) (QMi g (fun _ : Unit => wX g a b d fo tp sh f1 1 ++ (wLs g d e1 k10 k11 ++ (wLs g b e1 e10 e11))) (fun r9 _ => r9 = iI 1) (va_A (wX g a b d fo tp sh f1 f20 ++ (wLs g d k1 k10 k11 ++ (wLs g b e1 e10 e11))) sz)) 0 0 (va_A (wX g a b d fo tp sh f1 f20 ++ (wLs g d k1 k10 k11 ++ (wLs g b e1 e10 e11))) sz) := by
  refine me (g := g) (by decide) rfl ?_
  intro pq eq s mq below meth cq C hnm hB ls hl
  obtain ⟨hx, hb, hr, hml, hown, hts, hlocks, hK⟩ := C
  have hown : s.vm.findClass RX4 = some mq.cls := hown
  have hl : lv_has ls 1 [(0, .ref (a 0))] := hl
  obtain ⟨hsz, hP, hD0⟩ := hB
  subst hsz
  have hD := hD0.self (sz := s.heap.size)
  have hA : ∀ q : Nat, s.heap.size ≤ q → va_A (wX g a b d fo tp sh f1 f20 ++ (wLs g d k1 k10 k11 ++ (wLs g b e1 e10 e11))) s.heap.size q := fun q h => Or.inr h
  have hS : va_S (va_A (wX g a b d fo tp sh f1 f20 ++ (wLs g d k1 k10 k11 ++ (wLs g b e1 e10 e11))) s.heap.size) s.heap s.heap [] := va_S.rf
  obtain ⟨hP0, hPr0⟩ := va_P_app.mp hP
  obtain ⟨hP1, hP2⟩ := va_P_app.mp hPr0
  refine lv_aload_n hx hb dX4_image_0 rfl (lv_at hl 0 rfl) ?_
  refine xg_X4 hx hb hts hown hK hP0 0 rfl 1 (by decide) fk_X4_16 (v := .ref (d 0)) rfl dX4_image_1 ?_
  refine lv_aload_n hx hb dX4_image_4 rfl (lv_at hl 0 rfl) ?_
  refine xg_X4 hx hb hts hown hK hP0 0 rfl 0 (by decide) fk_X4_10 (v := .ref (b 0)) rfl dX4_image_5 ?_
  have hD : va_D (va_A (wX g a b d fo tp sh f1 f20 ++ (wLs g d k1 k10 k11 ++ (wLs g b e1 e10 e11))) s.heap.size) (wLs g d k1 k10 k11 ++ (wX g a b d fo tp sh f1 f20 ++ (wLs g b e1 e10 e11))) := D_perm (List.perm_append_comm_assoc _ _ _) hD
  have hD : va_D (va_A (wX g a b d fo tp sh f1 f20 ++ (wLs g d k1 k10 k11 ++ (wLs g b e1 e10 e11))) s.heap.size) (wLs g d k1 k10 k11 ++ (wLs g b e1 e10 e11 ++ (wX g a b d fo tp sh f1 f20))) := D_perm (List.Perm.append_left _ (List.perm_append_comm)) hD
  have hP : va_P g.1 vwCl (wLs g d k1 k10 k11 ++ (wLs g b e1 e10 e11 ++ (wX g a b d fo tp sh f1 f20))) s.heap := va_P_app.mpr ⟨hP1, va_P_app.mpr ⟨hP2, hP0⟩⟩
  have hP : va_P g.1 vwCl ((wLs g d k1 k10 k11 ++ (wLs g b e1 e10 e11)) ++ (wX g a b d fo tp sh f1 f20)) s.heap := by rw [List.append_assoc]; exact hP
  have hD : va_D (va_A (wX g a b d fo tp sh f1 f20 ++ (wLs g d k1 k10 k11 ++ (wLs g b e1 e10 e11))) s.heap.size) ((wLs g d k1 k10 k11 ++ (wLs g b e1 e10 e11)) ++ (wX g a b d fo tp sh f1 f20)) := by rw [List.append_assoc]; exact hD
  refine xmF_v (rVN (rest := []) hx hb hml hown hts hK hl (c_X1_becomes l g d k1 k10 k11 b e1 e10 e11 (s.heap).size ) lk_X4_243 ⟨rfl, (va_P_app.mp hP).1, (va_D_app hD).1.weaken (fun _ _ _ _ => trivial)⟩ (va_recv hK.1 hP1 (ci := 1) (q0 := 0) rfl rfl) rfl rfl rfl (Rm.of rfl) rfl rfl dX4_image_8) hP hD hS hA (fun _ H locs hw hP hD hS => ?_)
  have hP : va_P g.1 vwCl ((wLs g d e1 k10 k11 ++ (wLs g b e1 e10 e11)) ++ (wX g a b d fo tp sh f1 f20)) H := hP
  have hD : va_D (va_A (wX g a b d fo tp sh f1 f20 ++ (wLs g d k1 k10 k11 ++ (wLs g b e1 e10 e11))) s.heap.size) ((wLs g d e1 k10 k11 ++ (wLs g b e1 e10 e11)) ++ (wX g a b d fo tp sh f1 f20)) := hD
  rw [List.append_assoc] at hP hD
  have hP : va_P g.1 vwCl (wLs g d e1 k10 k11 ++ (wLs g b e1 e10 e11 ++ (wX g a b d fo tp sh f1 f20))) H := hP
  have hD : va_D (va_A (wX g a b d fo tp sh f1 f20 ++ (wLs g d k1 k10 k11 ++ (wLs g b e1 e10 e11))) s.heap.size) (wLs g d e1 k10 k11 ++ (wLs g b e1 e10 e11 ++ (wX g a b d fo tp sh f1 f20))) := hD
  obtain ⟨hP1, hPr0⟩ := va_P_app.mp hP
  obtain ⟨hP2, hP0⟩ := va_P_app.mp hPr0
  refine lv_aload_n hx hb dX4_image_11 rfl (lv_at hl 0 rfl) ?_
  refine lv_iconst (v := iI (1)) hx hb dX4_image_12 (by decide) ?_
  refine xp_X4 hx hb hts hown hK hP hD hS 24 rfl 6 (by decide) fk_X4_46 rfl (v := .int (iI 1)) rfl rfl (Nat.le_of_ble_eq_true rfl) dX4_image_13 (fun H locs hP hD hS => ?_)
  have hP : va_P g.1 vwCl (wLs g d e1 k10 k11 ++ (wLs g b e1 e10 e11 ++ (wX g a b d fo tp sh f1 1))) H := hP
  have hD : va_D (va_A (wX g a b d fo tp sh f1 f20 ++ (wLs g d k1 k10 k11 ++ (wLs g b e1 e10 e11))) s.heap.size) (wLs g d e1 k10 k11 ++ (wLs g b e1 e10 e11 ++ (wX g a b d fo tp sh f1 1))) := hD
  obtain ⟨hP1, hPr0⟩ := va_P_app.mp hP
  obtain ⟨hP2, hP0⟩ := va_P_app.mp hPr0
  refine lv_iconst (v := iI (1)) hx hb dX4_image_16 (by decide) ?_
  have hD : va_D (va_A (wX g a b d fo tp sh f1 f20 ++ (wLs g d k1 k10 k11 ++ (wLs g b e1 e10 e11))) s.heap.size) (wLs g d e1 k10 k11 ++ (wX g a b d fo tp sh f1 1 ++ (wLs g b e1 e10 e11))) := D_perm (List.Perm.append_left _ (List.perm_append_comm)) hD
  have hD : va_D (va_A (wX g a b d fo tp sh f1 f20 ++ (wLs g d k1 k10 k11 ++ (wLs g b e1 e10 e11))) s.heap.size) (wX g a b d fo tp sh f1 1 ++ (wLs g d e1 k10 k11 ++ (wLs g b e1 e10 e11))) := D_perm (List.perm_append_comm_assoc _ _ _) hD
  have hP : va_P g.1 vwCl (wX g a b d fo tp sh f1 1 ++ (wLs g d e1 k10 k11 ++ (wLs g b e1 e10 e11))) H := va_P_app.mpr ⟨hP0, va_P_app.mpr ⟨hP1, hP2⟩⟩
  have hP : va_P g.1 vwCl (wX g a b d fo tp sh f1 1 ++ (wLs g d e1 k10 k11 ++ (wLs g b e1 e10 e11))) H := hP
  have hD : va_D (va_A (wX g a b d fo tp sh f1 f20 ++ (wLs g d k1 k10 k11 ++ (wLs g b e1 e10 e11))) s.heap.size) (wX g a b d fo tp sh f1 1 ++ (wLs g d e1 k10 k11 ++ (wLs g b e1 e10 e11))) := hD
  exact W.iret hx hb hr (fun t ht hW => ⟨⟨_, (), rfl, rfl, by rw [ht]; exact hP, hD⟩, hS.F ht⟩) hS.2.2 dX4_image_17
abbrev rm_X4_undo : Room := { frames := 2, cells := 0, slots := 0, locals := 101 }
set_option maxRecDepth 100000 in
set_option maxHeartbeats 4000000 in
theorem c_X4_undo (l : Launch) (g : Gd) (fo : Nat → Nat) (tp : Nat → Nat) (sh : Nat → Nat) (a : Nat → Nat) (f1 : Int → Int) (f20 : Int) (b : Nat → Nat) (e1 : Int → Int) (e10 : Int → Int) (e11 : Int → Int) (d : Nat → Nat) (k1 : Int → Int) (k10 : Int → Int) (k11 : Int → Int) (sz : Nat) (h1 : InvK 0 e1) (h2 : e1 0 ≤ 9999) (h3 : f20 = 0 ∨ f20 = 1) : Met l yX4_undo (wsOf yX4_undo cX4_undo 1 (some .int)) rm_X4_undo (PX g (wP g (wX g a b d fo tp sh f1 f20 ++ (wLs g b e1 e10 e11 ++ (wLs g d k1 k10 k11))) sz) [.ref (a 0)]) (QMi g (fun _ : Unit => wX g a b d fo tp sh (fb (fUnd f20) f1) f20 ++ (wLs g b (if fUnd f20 = 0 then k1 else e1) e10 e11 ++ (wLs g d k1 k10 k11))) (fun r9 _ => r9 = ab (fUnd f20) (iI (k1 1))) (va_A (wX g a b d fo tp sh f1 f20 ++ (wLs g b e1 e10 e11 ++ (wLs g d k1 k10 k11))) sz)) 0 0 (va_A (wX g a b d fo tp sh f1 f20 ++ (wLs g b e1 e10 e11 ++ (wLs g d k1 k10 k11))) sz) := by
  refine me (g := g) (by decide) rfl ?_
  intro pq eq s mq below meth cq C hnm hB ls hl
  obtain ⟨hx, hb, hr, hml, hown, hts, hlocks, hK⟩ := C
  have hown : s.vm.findClass RX4 = some mq.cls := hown
  have hl : lv_has ls 1 [(0, .ref (a 0))] := hl
  obtain ⟨hsz, hP, hD0⟩ := hB
  subst hsz
  have hD := hD0.self (sz := s.heap.size)
  have hA : ∀ q : Nat, s.heap.size ≤ q → va_A (wX g a b d fo tp sh f1 f20 ++ (wLs g b e1 e10 e11 ++ (wLs g d k1 k10 k11))) s.heap.size q := fun q h => Or.inr h
  have hS : va_S (va_A (wX g a b d fo tp sh f1 f20 ++ (wLs g b e1 e10 e11 ++ (wLs g d k1 k10 k11))) s.heap.size) s.heap s.heap [] := va_S.rf
  obtain ⟨hP0, hPr0⟩ := va_P_app.mp hP
  obtain ⟨hP1, hP2⟩ := va_P_app.mp hPr0
  have hI := h1
  have hI8 : Inv e1 := h1.mono (by omega)
  have hn := hI.num
  have hs := hI.sea
  have hv := hI.vil
  refine lv_aload_n hx hb dX4_undo_0 rfl (lv_at hl 0 rfl) ?_
  refine xg_X4 hx hb hts hown hK hP0 0 rfl 6 (by decide) fk_X4_46 (v := .int (iI f20)) rfl dX4_undo_1 ?_
  refine xi_z_ne (tgt := 15) hx hb ⟨by omega, by omega⟩ dX4_undo_4 (by decide) (fun z1 => ?_) (fun z1 => ?_)
  · refine lv_aload_n hx hb dX4_undo_15 rfl (lv_at hl 0 rfl) ?_
    refine xg_X4 hx hb hts hown hK hP0 0 rfl 0 (by decide) fk_X4_10 (v := .ref (b 0)) rfl dX4_undo_16 ?_
    refine lv_aload_n hx hb dX4_undo_19 rfl (lv_at hl 0 rfl) ?_
    refine xg_X4 hx hb hts hown hK hP0 0 rfl 1 (by decide) fk_X4_16 (v := .ref (d 0)) rfl dX4_undo_20 ?_
    have hD : va_D (va_A (wX g a b d fo tp sh f1 f20 ++ (wLs g b e1 e10 e11 ++ (wLs g d k1 k10 k11))) s.heap.size) (wLs g b e1 e10 e11 ++ (wX g a b d fo tp sh f1 f20 ++ (wLs g d k1 k10 k11))) := D_perm (List.perm_append_comm_assoc _ _ _) hD
    have hD : va_D (va_A (wX g a b d fo tp sh f1 f20 ++ (wLs g b e1 e10 e11 ++ (wLs g d k1 k10 k11))) s.heap.size) (wLs g b e1 e10 e11 ++ (wLs g d k1 k10 k11 ++ (wX g a b d fo tp sh f1 f20))) := D_perm (List.Perm.append_left _ (List.perm_append_comm)) hD
    have hP : va_P g.1 vwCl (wLs g b e1 e10 e11 ++ (wLs g d k1 k10 k11 ++ (wX g a b d fo tp sh f1 f20))) s.heap := va_P_app.mpr ⟨hP1, va_P_app.mpr ⟨hP2, hP0⟩⟩
    have hP : va_P g.1 vwCl ((wLs g b e1 e10 e11 ++ (wLs g d k1 k10 k11)) ++ (wX g a b d fo tp sh f1 f20)) s.heap := by rw [List.append_assoc]; exact hP
    have hD : va_D (va_A (wX g a b d fo tp sh f1 f20 ++ (wLs g b e1 e10 e11 ++ (wLs g d k1 k10 k11))) s.heap.size) ((wLs g b e1 e10 e11 ++ (wLs g d k1 k10 k11)) ++ (wX g a b d fo tp sh f1 f20)) := by rw [List.append_assoc]; exact hD
    refine xmF_v (rVN (rest := []) hx hb hml hown hts hK hl (c_X1_becomes l g b e1 e10 e11 d k1 k10 k11 (s.heap).size ) lk_X4_243 ⟨rfl, (va_P_app.mp hP).1, (va_D_app hD).1.weaken (fun _ _ _ _ => trivial)⟩ (va_recv hK.1 hP1 (ci := 1) (q0 := 0) rfl rfl) rfl rfl rfl (Rm.of rfl) rfl rfl dX4_undo_23) hP hD hS hA (fun _ H locs hw hP hD hS => ?_)
    have hP : va_P g.1 vwCl ((wLs g b k1 e10 e11 ++ (wLs g d k1 k10 k11)) ++ (wX g a b d fo tp sh f1 f20)) H := hP
    have hD : va_D (va_A (wX g a b d fo tp sh f1 f20 ++ (wLs g b e1 e10 e11 ++ (wLs g d k1 k10 k11))) s.heap.size) ((wLs g b k1 e10 e11 ++ (wLs g d k1 k10 k11)) ++ (wX g a b d fo tp sh f1 f20)) := hD
    rw [List.append_assoc] at hP hD
    have hP : va_P g.1 vwCl (wLs g b k1 e10 e11 ++ (wLs g d k1 k10 k11 ++ (wX g a b d fo tp sh f1 f20))) H := hP
    have hD : va_D (va_A (wX g a b d fo tp sh f1 f20 ++ (wLs g b e1 e10 e11 ++ (wLs g d k1 k10 k11))) s.heap.size) (wLs g b k1 e10 e11 ++ (wLs g d k1 k10 k11 ++ (wX g a b d fo tp sh f1 f20))) := hD
    obtain ⟨hP1, hPr0⟩ := va_P_app.mp hP
    obtain ⟨hP2, hP0⟩ := va_P_app.mp hPr0
    refine lv_aload_n hx hb dX4_undo_26 rfl (lv_at hl 0 rfl) ?_
    refine xg_X4 hx hb hts hown hK hP0 0 rfl 0 (by decide) fk_X4_10 (v := .ref (b 0)) rfl dX4_undo_27 ?_
    refine xgN_X1 hx hb hts hown hK hP1 0 rfl 1 (by decide) fk_X4_110 (v := .int (iI (k1 1))) rfl dX4_undo_30 ?_
    have hD : va_D (va_A (wX g a b d fo tp sh f1 f20 ++ (wLs g b e1 e10 e11 ++ (wLs g d k1 k10 k11))) s.heap.size) (wLs g b k1 e10 e11 ++ (wX g a b d fo tp sh f1 f20 ++ (wLs g d k1 k10 k11))) := D_perm (List.Perm.append_left _ (List.perm_append_comm)) hD
    have hD : va_D (va_A (wX g a b d fo tp sh f1 f20 ++ (wLs g b e1 e10 e11 ++ (wLs g d k1 k10 k11))) s.heap.size) (wX g a b d fo tp sh f1 f20 ++ (wLs g b k1 e10 e11 ++ (wLs g d k1 k10 k11))) := D_perm (List.perm_append_comm_assoc _ _ _) hD
    have hP : va_P g.1 vwCl (wX g a b d fo tp sh f1 f20 ++ (wLs g b k1 e10 e11 ++ (wLs g d k1 k10 k11))) H := va_P_app.mpr ⟨hP0, va_P_app.mpr ⟨hP1, hP2⟩⟩
    have hf : fUnd f20 = 0 := by unfold fUnd; (repeat (first | rw [if_pos (by omega)] | rw [if_neg (by omega)])); first | done | (exfalso; omega)
    have he3 : f1 = (fb (fUnd f20) f1) := by rw [hf]; rfl
    have hP := Eq.mp (congrArg (fun z9 => va_P g.1 vwCl (wX g a b d fo tp sh z9 f20 ++ (wLs g b k1 e10 e11 ++ (wLs g d k1 k10 k11))) H) he3) hP
    have hD := Eq.mp (congrArg (fun z9 => va_D (va_A (wX g a b d fo tp sh f1 f20 ++ (wLs g b e1 e10 e11 ++ (wLs g d k1 k10 k11))) s.heap.size) (wX g a b d fo tp sh z9 f20 ++ (wLs g b k1 e10 e11 ++ (wLs g d k1 k10 k11)))) he3) hD
    obtain ⟨hP0, hPr0⟩ := va_P_app.mp hP
    obtain ⟨hP1, hP2⟩ := va_P_app.mp hPr0
    have he4 : k1 = (if fUnd f20 = 0 then k1 else e1) := by rw [hf]; rfl
    have hP := Eq.mp (congrArg (fun z9 => va_P g.1 vwCl (wX g a b d fo tp sh (fb (fUnd f20) f1) f20 ++ (wLs g b z9 e10 e11 ++ (wLs g d k1 k10 k11))) H) he4) hP
    have hD := Eq.mp (congrArg (fun z9 => va_D (va_A (wX g a b d fo tp sh f1 f20 ++ (wLs g b e1 e10 e11 ++ (wLs g d k1 k10 k11))) s.heap.size) (wX g a b d fo tp sh (fb (fUnd f20) f1) f20 ++ (wLs g b z9 e10 e11 ++ (wLs g d k1 k10 k11)))) he4) hD
    obtain ⟨hP0, hPr0⟩ := va_P_app.mp hP
    obtain ⟨hP1, hP2⟩ := va_P_app.mp hPr0
    have hP : va_P g.1 vwCl (wX g a b d fo tp sh (fb (fUnd f20) f1) f20 ++ (wLs g b (if fUnd f20 = 0 then k1 else e1) e10 e11 ++ (wLs g d k1 k10 k11))) H := hP
    have hD : va_D (va_A (wX g a b d fo tp sh f1 f20 ++ (wLs g b e1 e10 e11 ++ (wLs g d k1 k10 k11))) s.heap.size) (wX g a b d fo tp sh (fb (fUnd f20) f1) f20 ++ (wLs g b (if fUnd f20 = 0 then k1 else e1) e10 e11 ++ (wLs g d k1 k10 k11))) := hD
    exact W.iret hx hb hr (fun t ht hW => ⟨⟨_, (), rfl, by rw [hf, ab_0], by rw [ht]; exact hP, hD⟩, hS.F ht⟩) hS.2.2 dX4_undo_33
  · refine lv_aload_n hx hb dX4_undo_7 rfl (lv_at hl 0 rfl) ?_
    refine xi_ldcw hx hb hown hts kk_X4_292 dX4_undo_8 ?_
    refine xmF_i (rV (rest := []) hx hb hml hown hts hK hl (c_X4_finding l g b d fo tp sh a f1 f20 (-1000000004) (s.heap).size (show 0 ≤ -1000000001 - (-1000000004) ∧ -1000000001 - (-1000000004) < 7 from by omega)) lk_X4_59 ⟨rfl, hP0, (va_D_app hD).1.weaken (fun _ _ _ _ => trivial)⟩ (va_recv hK.1 hP0 (ci := 4) (q0 := 0) rfl rfl) rfl rfl rfl (Rm.of rfl) rfl rfl dX4_undo_11) hP hD hS hA (fun x9 _ H locs hw hP hD hS => ?_)
    obtain rfl : x9 = iI (-1000000004) := hw
    have hP : va_P g.1 vwCl (wX g a b d fo tp sh (fb (-1000000000 - (-1000000004)) f1) f20 ++ (wLs g b e1 e10 e11 ++ (wLs g d k1 k10 k11))) H := hP
    have hD : va_D (va_A (wX g a b d fo tp sh f1 f20 ++ (wLs g b e1 e10 e11 ++ (wLs g d k1 k10 k11))) s.heap.size) (wX g a b d fo tp sh (fb (-1000000000 - (-1000000004)) f1) f20 ++ (wLs g b e1 e10 e11 ++ (wLs g d k1 k10 k11))) := hD
    obtain ⟨hP0, hPr0⟩ := va_P_app.mp hP
    obtain ⟨hP1, hP2⟩ := va_P_app.mp hPr0
    have hf : fUnd f20 = 4 := by unfold fUnd; (repeat (first | rw [if_pos (by omega)] | rw [if_neg (by omega)])); first | done | (exfalso; omega)
    have he6 : (fb (-1000000000 - (-1000000004)) f1) = (fb (fUnd f20) f1) := by rw [hf]; rfl
    have hP := Eq.mp (congrArg (fun z9 => va_P g.1 vwCl (wX g a b d fo tp sh z9 f20 ++ (wLs g b e1 e10 e11 ++ (wLs g d k1 k10 k11))) H) he6) hP
    have hD := Eq.mp (congrArg (fun z9 => va_D (va_A (wX g a b d fo tp sh f1 f20 ++ (wLs g b e1 e10 e11 ++ (wLs g d k1 k10 k11))) s.heap.size) (wX g a b d fo tp sh z9 f20 ++ (wLs g b e1 e10 e11 ++ (wLs g d k1 k10 k11)))) he6) hD
    obtain ⟨hP0, hPr0⟩ := va_P_app.mp hP
    obtain ⟨hP1, hP2⟩ := va_P_app.mp hPr0
    have he7 : e1 = (if fUnd f20 = 0 then k1 else e1) := by rw [hf]; rfl
    have hP := Eq.mp (congrArg (fun z9 => va_P g.1 vwCl (wX g a b d fo tp sh (fb (fUnd f20) f1) f20 ++ (wLs g b z9 e10 e11 ++ (wLs g d k1 k10 k11))) H) he7) hP
    have hD := Eq.mp (congrArg (fun z9 => va_D (va_A (wX g a b d fo tp sh f1 f20 ++ (wLs g b e1 e10 e11 ++ (wLs g d k1 k10 k11))) s.heap.size) (wX g a b d fo tp sh (fb (fUnd f20) f1) f20 ++ (wLs g b z9 e10 e11 ++ (wLs g d k1 k10 k11)))) he7) hD
    obtain ⟨hP0, hPr0⟩ := va_P_app.mp hP
    obtain ⟨hP1, hP2⟩ := va_P_app.mp hPr0
    have hP : va_P g.1 vwCl (wX g a b d fo tp sh (fb (fUnd f20) f1) f20 ++ (wLs g b (if fUnd f20 = 0 then k1 else e1) e10 e11 ++ (wLs g d k1 k10 k11))) H := hP
    have hD : va_D (va_A (wX g a b d fo tp sh f1 f20 ++ (wLs g b e1 e10 e11 ++ (wLs g d k1 k10 k11))) s.heap.size) (wX g a b d fo tp sh (fb (fUnd f20) f1) f20 ++ (wLs g b (if fUnd f20 = 0 then k1 else e1) e10 e11 ++ (wLs g d k1 k10 k11))) := hD
    exact W.iret hx hb hr (fun t ht hW => ⟨⟨_, (), rfl, by rw [hf]; rfl, by rw [ht]; exact hP, hD⟩, hS.F ht⟩) hS.2.2 dX4_undo_14
abbrev rm_X4_status : Room := { frames := 1, cells := 0, slots := 0, locals := 22 }
set_option maxRecDepth 100000 in
set_option maxHeartbeats 4000000 in
theorem c_X4_status (l : Launch) (g : Gd) (d : Nat → Nat) (fo : Nat → Nat) (tp : Nat → Nat) (sh : Nat → Nat) (a : Nat → Nat) (f1 : Int → Int) (f20 : Int) (b : Nat → Nat) (e1 : Int → Int) (e10 : Int → Int) (e11 : Int → Int) (w : Int) (sz : Nat) (h1 : InvK 0 e1) (h2 : e1 0 ≤ 9999) (h3 : IR w) : Met l yX4_status (wsOf yX4_status cX4_status 4 (some .int)) rm_X4_status (PX g (wP g (wX g a b d fo tp sh f1 f20 ++ (wLs g b e1 e10 e11)) sz) [.ref (a 0), .int (iI w)]) (QMi g (fun _ : Unit => wX g a b d fo tp sh (fb (fBtw w (-1) 6) f1) f20 ++ (wLs g b e1 e10 e11)) (fun r9 _ => r9 = ab (fBtw w (-1) 6) (iI (stT f1 w 7))) (va_A (wX g a b d fo tp sh f1 f20 ++ (wLs g b e1 e10 e11)) sz)) 0 0 (va_A (wX g a b d fo tp sh f1 f20 ++ (wLs g b e1 e10 e11)) sz) := by
  refine me (g := g) (by decide) rfl ?_
  intro pq eq s mq below meth cq C hnm hB ls hl
  obtain ⟨hx, hb, hr, hml, hown, hts, hlocks, hK⟩ := C
  have hown : s.vm.findClass RX4 = some mq.cls := hown
  have hl : lv_has ls 4 [(0, .ref (a 0)), (1, .int (iI w))] := hl
  obtain ⟨hsz, hP, hD0⟩ := hB
  subst hsz
  have hD := hD0.self (sz := s.heap.size)
  have hA : ∀ q : Nat, s.heap.size ≤ q → va_A (wX g a b d fo tp sh f1 f20 ++ (wLs g b e1 e10 e11)) s.heap.size q := fun q h => Or.inr h
  have hS : va_S (va_A (wX g a b d fo tp sh f1 f20 ++ (wLs g b e1 e10 e11)) s.heap.size) s.heap s.heap [] := va_S.rf
  obtain ⟨hP0, hP1⟩ := va_P_app.mp hP
  have hI := h1
  have hI8 : Inv e1 := h1.mono (by omega)
  have hn := hI.num
  have hs := hI.sea
  have hv := hI.vil
  have q1 := h3.1
  have q2 := h3.2
  refine lv_iload_n hx hb dX4_status_0 rfl (lv_at hl 1 rfl) ?_
  refine lv_iconst (v := iI (-1)) hx hb dX4_status_1 (by decide) ?_
  refine lv_bipush (v := iI (6)) hx hb dX4_status_2 (by decide) ?_
  refine xu_b (P := (-1) ≤ w ∧ w ≤ 6) (rS (rest := []) hx hb hml hown hts hK hl (c_X4_isBetween l g w (-1) 6 (show IR w from ⟨by omega, by omega⟩) (show IR (-1) from ⟨by omega, by omega⟩) (show IR 6 from ⟨by omega, by omega⟩)) lk_X4_99 trivial rfl rfl rfl (Rm.of rfl) rfl rfl dX4_status_4) (fun z1 => ?_) (fun z1 => ?_)
  · refine xi_zt_ne (tgt := 17) hx hb ⟨by decide, by decide⟩ (by decide) dX4_status_7 (by decide) ?_
    refine lv_iload_n hx hb dX4_status_17 rfl (lv_at hl 1 rfl) ?_
    refine xi_z_lt (tgt := 28) hx hb ⟨by omega, by omega⟩ dX4_status_18 (by decide) (fun z2 => ?_) (fun z2 => ?_)
    · refine lv_iconst (v := iI (0)) hx hb dX4_status_28 (by decide) ?_
      refine lv_istore_n (lv' := [(2, .int (iI 0)), (0, .ref (a 0)), (1, .int (iI w))]) hx hb dX4_status_29 rfl hl (by decide) rfl (fun ls hl => ?_)
      refine lv_iconst (v := iI (0)) hx hb dX4_status_30 (by decide) ?_
      refine lv_istore_n (lv' := [(3, .int (iI 0)), (2, .int (iI 0)), (0, .ref (a 0)), (1, .int (iI w))]) hx hb dX4_status_31 rfl hl (by decide) rfl (fun ls hl => ?_)
      have lp32 : ∀ (n32 : Nat) (k : Nat), ((k : Int) ≤ 7) → 7 - k < n32 → ∀ ls : Array Slot, lv_has ls 4 [(3, .int (iI (k : Int))), (2, .int (iI (stT f1 w k))), (0, .ref (a 0)), (1, .int (iI w))] → ∀ (H : Heap) (locs : List Loc), va_P g.1 vwCl (wX g a b d fo tp sh f1 f20 ++ (wLs g b e1 e10 e11)) H → va_D (va_A (wX g a b d fo tp sh f1 f20 ++ (wLs g b e1 e10 e11)) s.heap.size) (wX g a b d fo tp sh f1 f20 ++ (wLs g b e1 e10 e11)) → va_S (va_A (wX g a b d fo tp sh f1 f20 ++ (wLs g b e1 e10 e11)) s.heap.size) s.heap H locs → W pq l eq rm_X4_status s mq [.ref (a 0), .int (iI w)].toArray below meth cq H locs 0 0 (MQ below (QMi g (fun _ : Unit => wX g a b d fo tp sh (fb (fBtw w (-1) 6) f1) f20 ++ (wLs g b e1 e10 e11)) (fun r9 _ => r9 = ab (fBtw w (-1) 6) (iI (stT f1 w 7))) (va_A (wX g a b d fo tp sh f1 f20 ++ (wLs g b e1 e10 e11)) s.heap.size)) [.ref (a 0), .int (iI w)].toArray s 0 0 (va_A (wX g a b d fo tp sh f1 f20 ++ (wLs g b e1 e10 e11)) s.heap.size)) (F0 mq 32 ls []) := by
        intro n32
        induction n32 with
        | zero => intro k i32_1 hm; exact absurd hm (Nat.not_lt_zero _)
        | succ n32 ih32 =>
          intro k i32_1 hm32 ls hl H locs hP hD hS
          obtain ⟨hP0, hP1⟩ := va_P_app.mp hP
          refine lv_iload_n hx hb dX4_status_32 rfl (lv_at hl 0 rfl) ?_
          refine lv_bipush (v := iI (7)) hx hb dX4_status_33 (by decide) ?_
          refine xi_c_ge (tgt := 53) hx hb ⟨by omega, by omega⟩ ⟨by decide, by decide⟩ dX4_status_35 (by decide) (fun z3 => ?_) (fun z3 => ?_)
          · refine lv_iload_n hx hb dX4_status_53 rfl (lv_at hl 1 rfl) ?_
            have hf : fBtw w (-1) 6 = 0 := by unfold fBtw; (repeat (first | rw [if_pos (by omega)] | rw [if_neg (by omega)])); first | done | (exfalso; omega)
            have he4 : f1 = (fb (fBtw w (-1) 6) f1) := by rw [hf]; rfl
            have hP := Eq.mp (congrArg (fun z9 => va_P g.1 vwCl (wX g a b d fo tp sh z9 f20 ++ (wLs g b e1 e10 e11)) H) he4) hP
            have hD := Eq.mp (congrArg (fun z9 => va_D (va_A (wX g a b d fo tp sh f1 f20 ++ (wLs g b e1 e10 e11)) s.heap.size) (wX g a b d fo tp sh z9 f20 ++ (wLs g b e1 e10 e11))) he4) hD
            obtain ⟨hP0, hP1⟩ := va_P_app.mp hP
            have hP : va_P g.1 vwCl (wX g a b d fo tp sh (fb (fBtw w (-1) 6) f1) f20 ++ (wLs g b e1 e10 e11)) H := hP
            have hD : va_D (va_A (wX g a b d fo tp sh f1 f20 ++ (wLs g b e1 e10 e11)) s.heap.size) (wX g a b d fo tp sh (fb (fBtw w (-1) 6) f1) f20 ++ (wLs g b e1 e10 e11)) := hD
            exact W.iret hx hb hr (fun t ht hW => ⟨⟨_, (), rfl, by rw [hf, ab_0]; exact congrArg (fun z => iI (stT f1 w z)) (show k = 7 by omega), by rw [ht]; exact hP, hD⟩, hS.F ht⟩) hS.2.2 dX4_status_54
          · refine lv_iload_n hx hb dX4_status_38 rfl (lv_at hl 1 rfl) ?_
            refine lv_aload_n hx hb dX4_status_39 rfl (lv_at hl 2 rfl) ?_
            refine xg_X4 hx hb hts hown hK hP0 0 rfl 5 (by decide) fk_X4_42 (v := .ref (a 2)) rfl dX4_status_40 ?_
            refine lv_iload_n hx hb dX4_status_43 rfl (lv_at hl 0 rfl) ?_
            refine xi_ald hx hb hK hP0 2 (f := f1) rfl (i := (k : Int)) ⟨by omega, by omega⟩ rfl dX4_status_44 ?_
            refine xi_add hx hb dX4_status_45 ?_
            refine lv_istore_n (lv' := [(2, .int (iI (stT f1 w k + (f1 (k : Int))))), (3, .int (iI (k : Int))), (0, .ref (a 0)), (1, .int (iI w))]) hx hb dX4_status_46 rfl hl (by decide) rfl (fun ls hl => ?_)
            refine xi_inc (lv' := [(3, .int (iI ((k : Int) + 1))), (2, .int (iI (stT f1 w k + (f1 (k : Int))))), (0, .ref (a 0)), (1, .int (iI w))]) hx hb dX4_status_47 hl (k := 1) rfl (by decide) rfl (fun ls hl => ?_)
            refine lv_goto (tgt := 32) hx hb dX4_status_50 (by decide) ?_
            have hq5 : ((k : Int) + 1) = ((k + 1) : Int) := by omega
            have hq6 : (stT f1 w k + (f1 (k : Int))) = (stT f1 w (k + 1)) := by simp only [stT]; rw [if_pos (by omega)]
            have hl : lv_has ls 4 [(3, .int (iI ((k : Int) + 1))), (2, .int (iI (stT f1 w k + (f1 (k : Int))))), (0, .ref (a 0)), (1, .int (iI w))] := lv_sub hl [0, 1, 2, 3] rfl
            have hl := Eq.mp (congrArg (fun z9 => lv_has ls 4 [(3, .int (iI z9)), (2, .int (iI (stT f1 w k + (f1 (k : Int))))), (0, .ref (a 0)), (1, .int (iI w))]) hq5) hl
            have hl := Eq.mp (congrArg (fun z9 => lv_has ls 4 [(3, .int (iI ((k + 1) : Int))), (2, .int (iI z9)), (0, .ref (a 0)), (1, .int (iI w))]) hq6) hl
            exact ih32 (k + 1) (by omega) (by omega) ls hl H locs hP hD hS
      have hq7 : 0 = (0 : Int) := rfl
      have hq8 : 0 = (stT f1 w 0) := rfl
      have hl : lv_has ls 4 [(3, .int (iI 0)), (2, .int (iI 0)), (0, .ref (a 0)), (1, .int (iI w))] := lv_sub hl [0, 1, 2, 3] rfl
      have hl := Eq.mp (congrArg (fun z9 => lv_has ls 4 [(3, .int (iI z9)), (2, .int (iI 0)), (0, .ref (a 0)), (1, .int (iI w))]) hq7) hl
      have hl := Eq.mp (congrArg (fun z9 => lv_has ls 4 [(3, .int (iI (0 : Int))), (2, .int (iI z9)), (0, .ref (a 0)), (1, .int (iI w))]) hq8) hl
      exact lp32 (7 + 1) 0 (by omega) (by omega) ls hl s.heap [] hP hD hS
    · refine lv_aload_n hx hb dX4_status_21 rfl (lv_at hl 0 rfl) ?_
      refine xg_X4 hx hb hts hown hK hP0 0 rfl 5 (by decide) fk_X4_42 (v := .ref (a 2)) rfl dX4_status_22 ?_
      refine lv_iload_n hx hb dX4_status_25 rfl (lv_at hl 1 rfl) ?_
      refine xi_ald hx hb hK hP0 2 (f := f1) rfl (i := w) ⟨by omega, by omega⟩ rfl dX4_status_26 ?_
      have hf : fBtw w (-1) 6 = 0 := by unfold fBtw; (repeat (first | rw [if_pos (by omega)] | rw [if_neg (by omega)])); first | done | (exfalso; omega)
      have he9 : f1 = (fb (fBtw w (-1) 6) f1) := by rw [hf]; rfl
      have hP := Eq.mp (congrArg (fun z9 => va_P g.1 vwCl (wX g a b d fo tp sh z9 f20 ++ (wLs g b e1 e10 e11)) s.heap) he9) hP
      have hD := Eq.mp (congrArg (fun z9 => va_D (va_A (wX g a b d fo tp sh f1 f20 ++ (wLs g b e1 e10 e11)) s.heap.size) (wX g a b d fo tp sh z9 f20 ++ (wLs g b e1 e10 e11))) he9) hD
      obtain ⟨hP0, hP1⟩ := va_P_app.mp hP
      have hP : va_P g.1 vwCl (wX g a b d fo tp sh (fb (fBtw w (-1) 6) f1) f20 ++ (wLs g b e1 e10 e11)) s.heap := hP
      have hD : va_D (va_A (wX g a b d fo tp sh f1 f20 ++ (wLs g b e1 e10 e11)) s.heap.size) (wX g a b d fo tp sh (fb (fBtw w (-1) 6) f1) f20 ++ (wLs g b e1 e10 e11)) := hD
      exact W.iret hx hb hr (fun t ht hW => ⟨⟨_, (), rfl, by rw [hf, ab_0]; exact congrArg iI (by rw [stT_one (by omega), if_pos (by omega)]), by rw [ht]; exact hP, hD⟩, hS.F ht⟩) hS.2.2 dX4_status_27
  · refine xi_zf_ne hx hb ⟨by decide, by decide⟩ (by decide) dX4_status_7 ⟨17, by decide⟩ ?_
    refine lv_aload_n hx hb dX4_status_10 rfl (lv_at hl 0 rfl) ?_
    refine xi_ldc hx hb hown hts kk_X4_58 dX4_status_11 ?_
    refine xmF_i (rV (rest := []) hx hb hml hown hts hK hl (c_X4_finding l g b d fo tp sh a f1 f20 (-1000000001) (s.heap).size (show 0 ≤ -1000000001 - (-1000000001) ∧ -1000000001 - (-1000000001) < 7 from by omega)) lk_X4_59 ⟨rfl, hP0, (va_D_app hD).1.weaken (fun _ _ _ _ => trivial)⟩ (va_recv hK.1 hP0 (ci := 4) (q0 := 0) rfl rfl) rfl rfl rfl (Rm.of rfl) rfl rfl dX4_status_13) hP hD hS hA (fun x9 _ H locs hw hP hD hS => ?_)
    obtain rfl : x9 = iI (-1000000001) := hw
    have hP : va_P g.1 vwCl (wX g a b d fo tp sh (fb (-1000000000 - (-1000000001)) f1) f20 ++ (wLs g b e1 e10 e11)) H := hP
    have hD : va_D (va_A (wX g a b d fo tp sh f1 f20 ++ (wLs g b e1 e10 e11)) s.heap.size) (wX g a b d fo tp sh (fb (-1000000000 - (-1000000001)) f1) f20 ++ (wLs g b e1 e10 e11)) := hD
    obtain ⟨hP0, hP1⟩ := va_P_app.mp hP
    have hf : fBtw w (-1) 6 = 1 := by unfold fBtw; (repeat (first | rw [if_pos (by omega)] | rw [if_neg (by omega)])); first | done | (exfalso; omega)
    have he11 : (fb (-1000000000 - (-1000000001)) f1) = (fb (fBtw w (-1) 6) f1) := by rw [hf]; rfl
    have hP := Eq.mp (congrArg (fun z9 => va_P g.1 vwCl (wX g a b d fo tp sh z9 f20 ++ (wLs g b e1 e10 e11)) H) he11) hP
    have hD := Eq.mp (congrArg (fun z9 => va_D (va_A (wX g a b d fo tp sh f1 f20 ++ (wLs g b e1 e10 e11)) s.heap.size) (wX g a b d fo tp sh z9 f20 ++ (wLs g b e1 e10 e11))) he11) hD
    obtain ⟨hP0, hP1⟩ := va_P_app.mp hP
    have hP : va_P g.1 vwCl (wX g a b d fo tp sh (fb (fBtw w (-1) 6) f1) f20 ++ (wLs g b e1 e10 e11)) H := hP
    have hD : va_D (va_A (wX g a b d fo tp sh f1 f20 ++ (wLs g b e1 e10 e11)) s.heap.size) (wX g a b d fo tp sh (fb (fBtw w (-1) 6) f1) f20 ++ (wLs g b e1 e10 e11)) := hD
    exact W.iret hx hb hr (fun t ht hW => ⟨⟨_, (), rfl, by rw [hf]; rfl, by rw [ht]; exact hP, hD⟩, hS.F ht⟩) hS.2.2 dX4_status_16

abbrev rm_X5_best : Room := { frames := 8, cells := 0, slots := 0, locals := 177 }
set_option maxRecDepth 100000 in
set_option maxHeartbeats 4000000 in
theorem c_X5_best (l : Launch) (g : Gd) (a : Nat → Nat) (f1 : Int → Int) (f2 : Int → Int) (f3 : Int → Int) (f4 : Int → Int) (f5 : Int → Int) (f6 : Int → Int) (f7 : Int → Int) (f8 : Int → Int) (f9 : Int → Int) (f10 : Int → Int) (f11 : Int → Int) (f12 : Int → Int) (f13 : Int → Int) (f20 : Int) (f21 : Int) (f22 : Int) (f23 : Int) (f24 : Int) (f25 : Int) (w : Int) (n : Int) (sz : Nat) (h1 : InvK 0 f1) (h2 : f1 0 ≤ 9999) (h3 : IR w) (h4 : IR n) : Met l yX5_best (wsOf yX5_best cX5_best 7 (some .int)) rm_X5_best (PX g (wP g (wM g a f1 f2 f3 f4 f5 f6 f7 f8 f9 f10 f11 f12 f13 f20 f21 f22 f23 f24 f25) sz) [.ref (a 0), .int (iI w), .int (iI n)]) (QMi g (fun u9 : Nat → Int → Int => wM g a f1 f2 f3 (u9 4) f5 (fb (fBest w n) f6) (u9 7) f8 f9 f10 f11 f12 f13 f20 f21 f22 f23 f24 f25) (fun r9 _ => r9 = ab (fBest w n) (iI (bmT (beV f1 w n) (fun k => (k : Int) - 9) 19).1)) (va_A (wM g a f1 f2 f3 f4 f5 f6 f7 f8 f9 f10 f11 f12 f13 f20 f21 f22 f23 f24 f25) sz)) 0 0 (va_A (wM g a f1 f2 f3 f4 f5 f6 f7 f8 f9 f10 f11 f12 f13 f20 f21 f22 f23 f24 f25) sz) := by
  refine me (g := g) (by decide) rfl ?_
  intro pq eq s mq below meth cq C hnm hB ls hl
  obtain ⟨hx, hb, hr, hml, hown, hts, hlocks, hK⟩ := C
  have hown : s.vm.findClass RX5 = some mq.cls := hown
  have hl : lv_has ls 7 [(0, .ref (a 0)), (1, .int (iI w)), (2, .int (iI n))] := hl
  obtain ⟨hsz, hP, hD0⟩ := hB
  subst hsz
  have hD := hD0.self (sz := s.heap.size)
  have hA : ∀ q : Nat, s.heap.size ≤ q → va_A (wM g a f1 f2 f3 f4 f5 f6 f7 f8 f9 f10 f11 f12 f13 f20 f21 f22 f23 f24 f25) s.heap.size q := fun q h => Or.inr h
  have hS : va_S (va_A (wM g a f1 f2 f3 f4 f5 f6 f7 f8 f9 f10 f11 f12 f13 f20 f21 f22 f23 f24 f25) s.heap.size) s.heap s.heap [] := va_S.rf
  have hI := h1
  have hI8 : Inv f1 := h1.mono (by omega)
  have hn := hI.num
  have hs := hI.sea
  have hv := hI.vil
  have q1 := h3.1
  have q3 := h4.1
  have q2 := h3.2
  have q4 := h4.2
  refine lv_iload_n hx hb dX5_best_0 rfl (lv_at hl 1 rfl) ?_
  refine xi_i2l hx hb ⟨by omega, by omega⟩ dX5_best_1 ?_
  refine lv_lconst (v := lI (0)) hx hb dX5_best_2 (by decide) ?_
  refine xl_ldc hx hb hown hts kk_X5_82 dX5_best_3 ?_
  refine xu_b (P := 0 ≤ w ∧ w ≤ 3) (rS (rest := []) hx hb hml hown hts hK hl (c_X5_in l g w 0 3 (show LR w from ⟨by omega, by omega⟩) (show LR 0 from ⟨by omega, by omega⟩) (show LR 3 from ⟨by omega, by omega⟩)) lk_X5_53 trivial rfl rfl rfl (Rm.of rfl) rfl rfl dX5_best_6) (fun z1 => ?_) (fun z1 => ?_)
  · refine xi_zf_eq hx hb ⟨by decide, by decide⟩ (by decide) dX5_best_9 ⟨19, by decide⟩ ?_
    refine lv_iload_n hx hb dX5_best_12 rfl (lv_at hl 2 rfl) ?_
    refine xu_b (P := 0 ≤ n ∧ n ≤ 40) (rS (rest := []) hx hb hml hown hts hK hl (c_X5_isSome l g n (show IR n from ⟨by omega, by omega⟩)) lk_X5_192 trivial rfl rfl rfl (Rm.of rfl) rfl rfl dX5_best_13) (fun z2 => ?_) (fun z2 => ?_)
    · refine xi_zt_ne (tgt := 26) hx hb ⟨by decide, by decide⟩ (by decide) dX5_best_16 (by decide) ?_
      refine lv_aload_n hx hb dX5_best_26 rfl (lv_at hl 0 rfl) ?_
      refine xm_v (rV (rest := []) hx hb hml hown hts hK hl (c_X5_laysAside l g a f1 f2 f3 f4 f5 f6 f7 f8 f9 f10 f11 f12 f13 f20 f21 f22 f23 f24 f25 (s.heap).size ) lk_X5_172 ⟨rfl, hP, hD.weaken (fun _ _ _ _ => trivial)⟩ (va_recv hK.1 hP (ci := 5) (q0 := 0) rfl rfl) rfl rfl rfl (Rm.of rfl) rfl rfl dX5_best_27) hD hS hA (fun _ H locs hw hP hD hS => ?_)
      have hP : va_P g.1 vwCl (wM g a f1 f2 f3 f1 f5 f6 f7 f8 f9 f10 f11 f12 f13 f20 f21 f22 f23 f24 f25) H := hP
      have hD : va_D (va_A (wM g a f1 f2 f3 f4 f5 f6 f7 f8 f9 f10 f11 f12 f13 f20 f21 f22 f23 f24 f25) s.heap.size) (wM g a f1 f2 f3 f1 f5 f6 f7 f8 f9 f10 f11 f12 f13 f20 f21 f22 f23 f24 f25) := hD
      refine lv_iconst (v := iI (0)) hx hb dX5_best_30 (by decide) ?_
      refine lv_istore_n (lv' := [(3, .int (iI 0)), (0, .ref (a 0)), (1, .int (iI w)), (2, .int (iI n))]) hx hb dX5_best_31 rfl hl (by decide) rfl (fun ls hl => ?_)
      refine lv_iconst (v := iI (-1)) hx hb dX5_best_32 (by decide) ?_
      refine lv_istore (lv' := [(4, .int (iI (-1))), (3, .int (iI 0)), (0, .ref (a 0)), (1, .int (iI w)), (2, .int (iI n))]) hx hb dX5_best_33 hl (by decide) rfl (fun ls hl => ?_)
      refine lv_bipush (v := iI (-9)) hx hb dX5_best_35 (by decide) ?_
      refine lv_istore (lv' := [(5, .int (iI (-9))), (4, .int (iI (-1))), (3, .int (iI 0)), (0, .ref (a 0)), (1, .int (iI w)), (2, .int (iI n))]) hx hb dX5_best_37 hl (by decide) rfl (fun ls hl => ?_)
      have lp39 : ∀ (n39 : Nat) (k : Nat) (l7 : Int → Int), (k ≤ 19) → 19 - k < n39 → ∀ ls : Array Slot, lv_has ls 7 [(5, .int (iI ((k : Int) - 9))), (4, .int (iI ((bmT (beV f1 w n) (fun k => (k : Int) - 9) k).2))), (3, .int (iI ((bmT (beV f1 w n) (fun k => (k : Int) - 9) k).1))), (0, .ref (a 0)), (1, .int (iI w)), (2, .int (iI n))] → ∀ (H : Heap) (locs : List Loc), va_P g.1 vwCl (wM g a f1 f2 f3 f1 f5 f6 l7 f8 f9 f10 f11 f12 f13 f20 f21 f22 f23 f24 f25) H → va_D (va_A (wM g a f1 f2 f3 f4 f5 f6 f7 f8 f9 f10 f11 f12 f13 f20 f21 f22 f23 f24 f25) s.heap.size) (wM g a f1 f2 f3 f1 f5 f6 l7 f8 f9 f10 f11 f12 f13 f20 f21 f22 f23 f24 f25) → va_S (va_A (wM g a f1 f2 f3 f4 f5 f6 f7 f8 f9 f10 f11 f12 f13 f20 f21 f22 f23 f24 f25) s.heap.size) s.heap H locs → W pq l eq rm_X5_best s mq [.ref (a 0), .int (iI w), .int (iI n)].toArray below meth cq H locs 0 0 (MQ below (QMi g (fun u9 : Nat → Int → Int => wM g a f1 f2 f3 (u9 4) f5 (fb (fBest w n) f6) (u9 7) f8 f9 f10 f11 f12 f13 f20 f21 f22 f23 f24 f25) (fun r9 _ => r9 = ab (fBest w n) (iI (bmT (beV f1 w n) (fun k => (k : Int) - 9) 19).1)) (va_A (wM g a f1 f2 f3 f4 f5 f6 f7 f8 f9 f10 f11 f12 f13 f20 f21 f22 f23 f24 f25) s.heap.size)) [.ref (a 0), .int (iI w), .int (iI n)].toArray s 0 0 (va_A (wM g a f1 f2 f3 f4 f5 f6 f7 f8 f9 f10 f11 f12 f13 f20 f21 f22 f23 f24 f25) s.heap.size)) (F0 mq 39 ls []) := by
        intro n39
        induction n39 with
        | zero => intro k l7 i39_1 hm; exact absurd hm (Nat.not_lt_zero _)
        | succ n39 ih39 =>
          intro k l7 i39_1 hm39 ls hl H locs hP hD hS
          have hmb := bmT_b (v := beV f1 w n) (key := (fun k => (k : Int) - 9)) (M := 21000000) (by omega) k (fun j hj => (sumA_b (seaN_inv (hI.wgt (w := w) (v := (j : Int) - 9) (by omega) (by omega) (by omega)) n.toNat (by rw [up_n (by omega)]; omega)).1).2)
          refine lv_iload hx hb dX5_best_39 (lv_at hl 0 rfl) ?_
          refine lv_bipush (v := iI (9)) hx hb dX5_best_41 (by decide) ?_
          refine xi_c_gt (tgt := 103) hx hb ⟨by omega, by omega⟩ ⟨by decide, by decide⟩ dX5_best_43 (by decide) (fun z4 => ?_) (fun z4 => ?_)
          · refine lv_iload_n hx hb dX5_best_103 rfl (lv_at hl 2 rfl) ?_
            have hf : fBest w n = 0 := by unfold fBest; (repeat (first | rw [if_pos (by omega)] | rw [if_neg (by omega)])); first | done | (exfalso; omega)
            have he5 : f6 = (fb (fBest w n) f6) := by rw [hf]; rfl
            have hP := Eq.mp (congrArg (fun z9 => va_P g.1 vwCl (wM g a f1 f2 f3 f1 f5 z9 l7 f8 f9 f10 f11 f12 f13 f20 f21 f22 f23 f24 f25) H) he5) hP
            have hD := Eq.mp (congrArg (fun z9 => va_D (va_A (wM g a f1 f2 f3 f4 f5 f6 f7 f8 f9 f10 f11 f12 f13 f20 f21 f22 f23 f24 f25) s.heap.size) (wM g a f1 f2 f3 f1 f5 z9 l7 f8 f9 f10 f11 f12 f13 f20 f21 f22 f23 f24 f25)) he5) hD
            have hP : va_P g.1 vwCl (wM g a f1 f2 f3 ((su (su (fun _ _ => 0) 4 f1) 7 l7) 4) f5 (fb (fBest w n) f6) ((su (su (fun _ _ => 0) 4 f1) 7 l7) 7) f8 f9 f10 f11 f12 f13 f20 f21 f22 f23 f24 f25) H := hP
            have hD : va_D (va_A (wM g a f1 f2 f3 f4 f5 f6 f7 f8 f9 f10 f11 f12 f13 f20 f21 f22 f23 f24 f25) s.heap.size) (wM g a f1 f2 f3 ((su (su (fun _ _ => 0) 4 f1) 7 l7) 4) f5 (fb (fBest w n) f6) ((su (su (fun _ _ => 0) 4 f1) 7 l7) 7) f8 f9 f10 f11 f12 f13 f20 f21 f22 f23 f24 f25) := hD
            exact W.iret hx hb hr (fun t ht hW => ⟨⟨_, (su (su (fun _ _ => 0) 4 f1) 7 l7), rfl, by rw [hf, ab_0, show k = 19 by omega], by rw [ht]; exact hP, hD⟩, hS.F ht⟩) hS.2.2 dX5_best_104
          · have hIu := hI.wgt (w := w) (v := (k : Int) - 9) (by omega) (by omega) (by omega)
            have hsb := sumA_b (seaN_inv hIu n.toNat (by rw [up_n (by omega)]; omega)).1
            have hv9 : beV f1 w n k = sumA (seaN (up f1 (3 + w) ((k : Int) - 9)) n.toNat) 3 := rfl
            refine lv_aload_n hx hb dX5_best_46 rfl (lv_at hl 3 rfl) ?_
            refine xg_X5 hx hb hts hown hK hP 0 rfl 0 (by decide) fk_X5_7 (v := .ref (a 1)) rfl dX5_best_47 ?_
            refine lv_iconst (v := iI (3)) hx hb dX5_best_50 (by decide) ?_
            refine lv_iload_n hx hb dX5_best_51 rfl (lv_at hl 4 rfl) ?_
            refine xi_add hx hb dX5_best_52 ?_
            refine lv_iload hx hb dX5_best_53 (lv_at hl 0 rfl) ?_
            refine xi_ast hx hb hK hP hD hS 1 (f := f1) rfl (i := 3 + w) (v := (k : Int) - 9) ⟨by omega, by omega⟩ rfl dX5_best_55 (fun H locs hP hD hS => ?_)
            have hP : va_P g.1 vwCl (wM g a (up f1 (3 + w) ((k : Int) - 9)) f2 f3 f1 f5 f6 l7 f8 f9 f10 f11 f12 f13 f20 f21 f22 f23 f24 f25) H := hP
            have hD : va_D (va_A (wM g a f1 f2 f3 f4 f5 f6 f7 f8 f9 f10 f11 f12 f13 f20 f21 f22 f23 f24 f25) s.heap.size) (wM g a (up f1 (3 + w) ((k : Int) - 9)) f2 f3 f1 f5 f6 l7 f8 f9 f10 f11 f12 f13 f20 f21 f22 f23 f24 f25) := hD
            refine lv_aload_n hx hb dX5_best_56 rfl (lv_at hl 3 rfl) ?_
            refine lv_aload_n hx hb dX5_best_57 rfl (lv_at hl 3 rfl) ?_
            refine lv_iload_n hx hb dX5_best_58 rfl (lv_at hl 5 rfl) ?_
            refine xm_i (rV (rest := [.ref (a 0)]) hx hb hml hown hts hK hl (c_X5_allOn l g a (up f1 (3 + w) ((k : Int) - 9)) f2 f3 f1 f5 f6 l7 f8 f9 f10 f11 f12 f13 f20 f21 f22 f23 f24 f25 n H.size (show InvK 0 (up f1 (3 + w) ((k : Int) - 9)) from hIu) (show 0 ≤ n ∧ (up f1 (3 + w) ((k : Int) - 9)) 0 + n ≤ 20000 from ⟨by omega, by rw [up_n (by omega)]; omega⟩)) lk_X5_198 ⟨rfl, hP, hD.weaken (fun _ _ _ _ => trivial)⟩ (va_recv hK.1 hP (ci := 5) (q0 := 0) rfl rfl) rfl rfl rfl (Rm.of rfl) rfl rfl dX5_best_59) hD hS hA (fun x9 u6 H locs hw hP hD hS => ?_)
            obtain rfl : x9 = iI (sumA (seaN (up f1 (3 + w) ((k : Int) - 9)) (Int.toNat n)) 3) := hw
            have hP : va_P g.1 vwCl (wM g a (seaN (up f1 (3 + w) ((k : Int) - 9)) (Int.toNat n)) f2 f3 f1 f5 f6 (u6 7) f8 f9 f10 f11 f12 f13 f20 f21 f22 f23 f24 f25) H := hP
            have hD : va_D (va_A (wM g a f1 f2 f3 f4 f5 f6 f7 f8 f9 f10 f11 f12 f13 f20 f21 f22 f23 f24 f25) s.heap.size) (wM g a (seaN (up f1 (3 + w) ((k : Int) - 9)) (Int.toNat n)) f2 f3 f1 f5 f6 (u6 7) f8 f9 f10 f11 f12 f13 f20 f21 f22 f23 f24 f25) := hD
            refine xm_i (rV (rest := []) hx hb hml hown hts hK hl (c_X5_takesBack l g a (seaN (up f1 (3 + w) ((k : Int) - 9)) (Int.toNat n)) f2 f3 f1 f5 f6 (u6 7) f8 f9 f10 f11 f12 f13 f20 f21 f22 f23 f24 f25 (iI (sumA (seaN (up f1 (3 + w) ((k : Int) - 9)) (Int.toNat n)) 3)) H.size ) lk_X5_175 ⟨rfl, hP, hD.weaken (fun _ _ _ _ => trivial)⟩ (va_recv hK.1 hP (ci := 5) (q0 := 0) rfl rfl) rfl rfl rfl (Rm.of rfl) rfl rfl dX5_best_62) hD hS hA (fun x9 _ H locs hw hP hD hS => ?_)
            obtain rfl : x9 = (iI (sumA (seaN (up f1 (3 + w) ((k : Int) - 9)) (Int.toNat n)) 3)) := hw
            have hP : va_P g.1 vwCl (wM g a f1 f2 f3 f1 f5 f6 (u6 7) f8 f9 f10 f11 f12 f13 f20 f21 f22 f23 f24 f25) H := hP
            have hD : va_D (va_A (wM g a f1 f2 f3 f4 f5 f6 f7 f8 f9 f10 f11 f12 f13 f20 f21 f22 f23 f24 f25) s.heap.size) (wM g a f1 f2 f3 f1 f5 f6 (u6 7) f8 f9 f10 f11 f12 f13 f20 f21 f22 f23 f24 f25) := hD
            refine lv_istore (lv' := [(6, .int (iI (sumA (seaN (up f1 (3 + w) ((k : Int) - 9)) (Int.toNat n)) 3))), (5, .int (iI ((k : Int) - 9))), (4, .int (iI ((bmT (beV f1 w n) (fun k => (k : Int) - 9) k).2))), (3, .int (iI ((bmT (beV f1 w n) (fun k => (k : Int) - 9) k).1))), (0, .ref (a 0)), (1, .int (iI w)), (2, .int (iI n))]) hx hb dX5_best_65 hl (by decide) rfl (fun ls hl => ?_)
            refine lv_iload hx hb dX5_best_67 (lv_at hl 0 rfl) ?_
            refine lv_iload hx hb dX5_best_69 (lv_at hl 2 rfl) ?_
            refine xi_c_le (tgt := 79) hx hb ⟨by omega, by omega⟩ ⟨by omega, by omega⟩ dX5_best_71 (by decide) (fun z8 => ?_) (fun z8 => ?_)
            · refine lv_iload_n hx hb dX5_best_79 rfl (lv_at hl 3 rfl) ?_
              refine lv_istore_n (lv' := [(3, .int (iI ((bmT (beV f1 w n) (fun k => (k : Int) - 9) k).1))), (6, .int (iI (sumA (seaN (up f1 (3 + w) ((k : Int) - 9)) (Int.toNat n)) 3))), (5, .int (iI ((k : Int) - 9))), (4, .int (iI ((bmT (beV f1 w n) (fun k => (k : Int) - 9) k).2))), (0, .ref (a 0)), (1, .int (iI w)), (2, .int (iI n))]) hx hb dX5_best_80 rfl hl (by decide) rfl (fun ls hl => ?_)
              refine lv_iload hx hb dX5_best_81 (lv_at hl 1 rfl) ?_
              refine lv_iload hx hb dX5_best_83 (lv_at hl 3 rfl) ?_
              refine xi_c_le (tgt := 93) hx hb ⟨by omega, by omega⟩ ⟨by omega, by omega⟩ dX5_best_85 (by decide) (fun z9 => ?_) (fun z9 => ?_)
              · refine lv_iload hx hb dX5_best_93 (lv_at hl 3 rfl) ?_
                refine lv_istore (lv' := [(4, .int (iI ((bmT (beV f1 w n) (fun k => (k : Int) - 9) k).2))), (3, .int (iI ((bmT (beV f1 w n) (fun k => (k : Int) - 9) k).1))), (6, .int (iI (sumA (seaN (up f1 (3 + w) ((k : Int) - 9)) (Int.toNat n)) 3))), (5, .int (iI ((k : Int) - 9))), (0, .ref (a 0)), (1, .int (iI w)), (2, .int (iI n))]) hx hb dX5_best_95 hl (by decide) rfl (fun ls hl => ?_)
                refine xi_inc (lv' := [(5, .int (iI ((k : Int) - 9 + 1))), (4, .int (iI ((bmT (beV f1 w n) (fun k => (k : Int) - 9) k).2))), (3, .int (iI ((bmT (beV f1 w n) (fun k => (k : Int) - 9) k).1))), (6, .int (iI (sumA (seaN (up f1 (3 + w) ((k : Int) - 9)) (Int.toNat n)) 3))), (0, .ref (a 0)), (1, .int (iI w)), (2, .int (iI n))]) hx hb dX5_best_97 hl (k := 3) rfl (by decide) rfl (fun ls hl => ?_)
                refine lv_goto (tgt := 39) hx hb dX5_best_100 (by decide) ?_
                have hq10 : ((k : Int) - 9 + 1) = (((k + 1) : Int) - 9) := by omega
                have hq11 : ((bmT (beV f1 w n) (fun k => (k : Int) - 9) k).2) = ((bmT (beV f1 w n) (fun k => (k : Int) - 9) (k + 1)).2) := by simp only [bmT]; first | (rw [if_pos (by omega)]; done) | (rw [if_pos (by omega)]; dsimp only; omega) | (rw [if_neg (by omega)]; done) | (exfalso; omega)
                have hq12 : ((bmT (beV f1 w n) (fun k => (k : Int) - 9) k).1) = ((bmT (beV f1 w n) (fun k => (k : Int) - 9) (k + 1)).1) := by simp only [bmT]; first | (rw [if_pos (by omega)]; done) | (rw [if_pos (by omega)]; dsimp only; omega) | (rw [if_neg (by omega)]; done) | (exfalso; omega)
                have hl : lv_has ls 7 [(5, .int (iI ((k : Int) - 9 + 1))), (4, .int (iI ((bmT (beV f1 w n) (fun k => (k : Int) - 9) k).2))), (3, .int (iI ((bmT (beV f1 w n) (fun k => (k : Int) - 9) k).1))), (0, .ref (a 0)), (1, .int (iI w)), (2, .int (iI n))] := lv_sub hl [0, 1, 2, 4, 5, 6] rfl
                have hl := Eq.mp (congrArg (fun z9 => lv_has ls 7 [(5, .int (iI z9)), (4, .int (iI ((bmT (beV f1 w n) (fun k => (k : Int) - 9) k).2))), (3, .int (iI ((bmT (beV f1 w n) (fun k => (k : Int) - 9) k).1))), (0, .ref (a 0)), (1, .int (iI w)), (2, .int (iI n))]) hq10) hl
                have hl := Eq.mp (congrArg (fun z9 => lv_has ls 7 [(5, .int (iI (((k + 1) : Int) - 9))), (4, .int (iI z9)), (3, .int (iI ((bmT (beV f1 w n) (fun k => (k : Int) - 9) k).1))), (0, .ref (a 0)), (1, .int (iI w)), (2, .int (iI n))]) hq11) hl
                have hl := Eq.mp (congrArg (fun z9 => lv_has ls 7 [(5, .int (iI (((k + 1) : Int) - 9))), (4, .int (iI ((bmT (beV f1 w n) (fun k => (k : Int) - 9) (k + 1)).2))), (3, .int (iI z9)), (0, .ref (a 0)), (1, .int (iI w)), (2, .int (iI n))]) hq12) hl
                exact ih39 (k + 1) (u6 7) (by omega) (by omega) ls hl H locs hP hD hS
              · refine lv_iload hx hb dX5_best_88 (lv_at hl 1 rfl) ?_
                refine lv_goto (tgt := 95) hx hb dX5_best_90 (by decide) ?_
                refine lv_istore (lv' := [(4, .int (iI (sumA (seaN (up f1 (3 + w) ((k : Int) - 9)) (Int.toNat n)) 3))), (3, .int (iI ((bmT (beV f1 w n) (fun k => (k : Int) - 9) k).1))), (6, .int (iI (sumA (seaN (up f1 (3 + w) ((k : Int) - 9)) (Int.toNat n)) 3))), (5, .int (iI ((k : Int) - 9))), (0, .ref (a 0)), (1, .int (iI w)), (2, .int (iI n))]) hx hb dX5_best_95 hl (by decide) rfl (fun ls hl => ?_)
                refine xi_inc (lv' := [(5, .int (iI ((k : Int) - 9 + 1))), (4, .int (iI (sumA (seaN (up f1 (3 + w) ((k : Int) - 9)) (Int.toNat n)) 3))), (3, .int (iI ((bmT (beV f1 w n) (fun k => (k : Int) - 9) k).1))), (6, .int (iI (sumA (seaN (up f1 (3 + w) ((k : Int) - 9)) (Int.toNat n)) 3))), (0, .ref (a 0)), (1, .int (iI w)), (2, .int (iI n))]) hx hb dX5_best_97 hl (k := 3) rfl (by decide) rfl (fun ls hl => ?_)
                refine lv_goto (tgt := 39) hx hb dX5_best_100 (by decide) ?_
                have hq13 : ((k : Int) - 9 + 1) = (((k + 1) : Int) - 9) := by omega
                have hq14 : (sumA (seaN (up f1 (3 + w) ((k : Int) - 9)) (Int.toNat n)) 3) = ((bmT (beV f1 w n) (fun k => (k : Int) - 9) (k + 1)).2) := by simp only [bmT]; first | (rw [if_pos (by omega)]; done) | (rw [if_pos (by omega)]; dsimp only; omega) | (rw [if_neg (by omega)]; done) | (exfalso; omega)
                have hq15 : ((bmT (beV f1 w n) (fun k => (k : Int) - 9) k).1) = ((bmT (beV f1 w n) (fun k => (k : Int) - 9) (k + 1)).1) := by simp only [bmT]; first | (rw [if_pos (by omega)]; done) | (rw [if_pos (by omega)]; dsimp only; omega) | (rw [if_neg (by omega)]; done) | (exfalso; omega)
                have hl : lv_has ls 7 [(5, .int (iI ((k : Int) - 9 + 1))), (4, .int (iI (sumA (seaN (up f1 (3 + w) ((k : Int) - 9)) (Int.toNat n)) 3))), (3, .int (iI ((bmT (beV f1 w n) (fun k => (k : Int) - 9) k).1))), (0, .ref (a 0)), (1, .int (iI w)), (2, .int (iI n))] := lv_sub hl [0, 1, 2, 4, 5, 6] rfl
                have hl := Eq.mp (congrArg (fun z9 => lv_has ls 7 [(5, .int (iI z9)), (4, .int (iI (sumA (seaN (up f1 (3 + w) ((k : Int) - 9)) (Int.toNat n)) 3))), (3, .int (iI ((bmT (beV f1 w n) (fun k => (k : Int) - 9) k).1))), (0, .ref (a 0)), (1, .int (iI w)), (2, .int (iI n))]) hq13) hl
                have hl := Eq.mp (congrArg (fun z9 => lv_has ls 7 [(5, .int (iI (((k + 1) : Int) - 9))), (4, .int (iI z9)), (3, .int (iI ((bmT (beV f1 w n) (fun k => (k : Int) - 9) k).1))), (0, .ref (a 0)), (1, .int (iI w)), (2, .int (iI n))]) hq14) hl
                have hl := Eq.mp (congrArg (fun z9 => lv_has ls 7 [(5, .int (iI (((k + 1) : Int) - 9))), (4, .int (iI ((bmT (beV f1 w n) (fun k => (k : Int) - 9) (k + 1)).2))), (3, .int (iI z9)), (0, .ref (a 0)), (1, .int (iI w)), (2, .int (iI n))]) hq15) hl
                exact ih39 (k + 1) (u6 7) (by omega) (by omega) ls hl H locs hP hD hS
            · refine lv_iload hx hb dX5_best_74 (lv_at hl 1 rfl) ?_
              refine lv_goto (tgt := 80) hx hb dX5_best_76 (by decide) ?_
              refine lv_istore_n (lv' := [(3, .int (iI ((k : Int) - 9))), (6, .int (iI (sumA (seaN (up f1 (3 + w) ((k : Int) - 9)) (Int.toNat n)) 3))), (5, .int (iI ((k : Int) - 9))), (4, .int (iI ((bmT (beV f1 w n) (fun k => (k : Int) - 9) k).2))), (0, .ref (a 0)), (1, .int (iI w)), (2, .int (iI n))]) hx hb dX5_best_80 rfl hl (by decide) rfl (fun ls hl => ?_)
              refine lv_iload hx hb dX5_best_81 (lv_at hl 1 rfl) ?_
              refine lv_iload hx hb dX5_best_83 (lv_at hl 3 rfl) ?_
              refine xi_c_le (tgt := 93) hx hb ⟨by omega, by omega⟩ ⟨by omega, by omega⟩ dX5_best_85 (by decide) (fun z16 => ?_) (fun z16 => ?_)
              · refine lv_iload hx hb dX5_best_93 (lv_at hl 3 rfl) ?_
                refine lv_istore (lv' := [(4, .int (iI ((bmT (beV f1 w n) (fun k => (k : Int) - 9) k).2))), (3, .int (iI ((k : Int) - 9))), (6, .int (iI (sumA (seaN (up f1 (3 + w) ((k : Int) - 9)) (Int.toNat n)) 3))), (5, .int (iI ((k : Int) - 9))), (0, .ref (a 0)), (1, .int (iI w)), (2, .int (iI n))]) hx hb dX5_best_95 hl (by decide) rfl (fun ls hl => ?_)
                refine xi_inc (lv' := [(5, .int (iI ((k : Int) - 9 + 1))), (4, .int (iI ((bmT (beV f1 w n) (fun k => (k : Int) - 9) k).2))), (3, .int (iI ((k : Int) - 9))), (6, .int (iI (sumA (seaN (up f1 (3 + w) ((k : Int) - 9)) (Int.toNat n)) 3))), (0, .ref (a 0)), (1, .int (iI w)), (2, .int (iI n))]) hx hb dX5_best_97 hl (k := 3) rfl (by decide) rfl (fun ls hl => ?_)
                refine lv_goto (tgt := 39) hx hb dX5_best_100 (by decide) ?_
                have hq17 : ((k : Int) - 9 + 1) = (((k + 1) : Int) - 9) := by omega
                have hq18 : ((bmT (beV f1 w n) (fun k => (k : Int) - 9) k).2) = ((bmT (beV f1 w n) (fun k => (k : Int) - 9) (k + 1)).2) := by simp only [bmT]; first | (rw [if_pos (by omega)]; done) | (rw [if_pos (by omega)]; dsimp only; omega) | (rw [if_neg (by omega)]; done) | (exfalso; omega)
                have hq19 : ((k : Int) - 9) = ((bmT (beV f1 w n) (fun k => (k : Int) - 9) (k + 1)).1) := by simp only [bmT]; first | (rw [if_pos (by omega)]; done) | (rw [if_pos (by omega)]; dsimp only; omega) | (rw [if_neg (by omega)]; done) | (exfalso; omega)
                have hl : lv_has ls 7 [(5, .int (iI ((k : Int) - 9 + 1))), (4, .int (iI ((bmT (beV f1 w n) (fun k => (k : Int) - 9) k).2))), (3, .int (iI ((k : Int) - 9))), (0, .ref (a 0)), (1, .int (iI w)), (2, .int (iI n))] := lv_sub hl [0, 1, 2, 4, 5, 6] rfl
                have hl := Eq.mp (congrArg (fun z9 => lv_has ls 7 [(5, .int (iI z9)), (4, .int (iI ((bmT (beV f1 w n) (fun k => (k : Int) - 9) k).2))), (3, .int (iI ((k : Int) - 9))), (0, .ref (a 0)), (1, .int (iI w)), (2, .int (iI n))]) hq17) hl
                have hl := Eq.mp (congrArg (fun z9 => lv_has ls 7 [(5, .int (iI (((k + 1) : Int) - 9))), (4, .int (iI z9)), (3, .int (iI ((k : Int) - 9))), (0, .ref (a 0)), (1, .int (iI w)), (2, .int (iI n))]) hq18) hl
                have hl := Eq.mp (congrArg (fun z9 => lv_has ls 7 [(5, .int (iI (((k + 1) : Int) - 9))), (4, .int (iI ((bmT (beV f1 w n) (fun k => (k : Int) - 9) (k + 1)).2))), (3, .int (iI z9)), (0, .ref (a 0)), (1, .int (iI w)), (2, .int (iI n))]) hq19) hl
                exact ih39 (k + 1) (u6 7) (by omega) (by omega) ls hl H locs hP hD hS
              · refine lv_iload hx hb dX5_best_88 (lv_at hl 1 rfl) ?_
                refine lv_goto (tgt := 95) hx hb dX5_best_90 (by decide) ?_
                refine lv_istore (lv' := [(4, .int (iI (sumA (seaN (up f1 (3 + w) ((k : Int) - 9)) (Int.toNat n)) 3))), (3, .int (iI ((k : Int) - 9))), (6, .int (iI (sumA (seaN (up f1 (3 + w) ((k : Int) - 9)) (Int.toNat n)) 3))), (5, .int (iI ((k : Int) - 9))), (0, .ref (a 0)), (1, .int (iI w)), (2, .int (iI n))]) hx hb dX5_best_95 hl (by decide) rfl (fun ls hl => ?_)
                refine xi_inc (lv' := [(5, .int (iI ((k : Int) - 9 + 1))), (4, .int (iI (sumA (seaN (up f1 (3 + w) ((k : Int) - 9)) (Int.toNat n)) 3))), (3, .int (iI ((k : Int) - 9))), (6, .int (iI (sumA (seaN (up f1 (3 + w) ((k : Int) - 9)) (Int.toNat n)) 3))), (0, .ref (a 0)), (1, .int (iI w)), (2, .int (iI n))]) hx hb dX5_best_97 hl (k := 3) rfl (by decide) rfl (fun ls hl => ?_)
                refine lv_goto (tgt := 39) hx hb dX5_best_100 (by decide) ?_
                have hq20 : ((k : Int) - 9 + 1) = (((k + 1) : Int) - 9) := by omega
                have hq21 : (sumA (seaN (up f1 (3 + w) ((k : Int) - 9)) (Int.toNat n)) 3) = ((bmT (beV f1 w n) (fun k => (k : Int) - 9) (k + 1)).2) := by simp only [bmT]; first | (rw [if_pos (by omega)]; done) | (rw [if_pos (by omega)]; dsimp only; omega) | (rw [if_neg (by omega)]; done) | (exfalso; omega)
                have hq22 : ((k : Int) - 9) = ((bmT (beV f1 w n) (fun k => (k : Int) - 9) (k + 1)).1) := by simp only [bmT]; first | (rw [if_pos (by omega)]; done) | (rw [if_pos (by omega)]; dsimp only; omega) | (rw [if_neg (by omega)]; done) | (exfalso; omega)
                have hl : lv_has ls 7 [(5, .int (iI ((k : Int) - 9 + 1))), (4, .int (iI (sumA (seaN (up f1 (3 + w) ((k : Int) - 9)) (Int.toNat n)) 3))), (3, .int (iI ((k : Int) - 9))), (0, .ref (a 0)), (1, .int (iI w)), (2, .int (iI n))] := lv_sub hl [0, 1, 2, 4, 5, 6] rfl
                have hl := Eq.mp (congrArg (fun z9 => lv_has ls 7 [(5, .int (iI z9)), (4, .int (iI (sumA (seaN (up f1 (3 + w) ((k : Int) - 9)) (Int.toNat n)) 3))), (3, .int (iI ((k : Int) - 9))), (0, .ref (a 0)), (1, .int (iI w)), (2, .int (iI n))]) hq20) hl
                have hl := Eq.mp (congrArg (fun z9 => lv_has ls 7 [(5, .int (iI (((k + 1) : Int) - 9))), (4, .int (iI z9)), (3, .int (iI ((k : Int) - 9))), (0, .ref (a 0)), (1, .int (iI w)), (2, .int (iI n))]) hq21) hl
                have hl := Eq.mp (congrArg (fun z9 => lv_has ls 7 [(5, .int (iI (((k + 1) : Int) - 9))), (4, .int (iI ((bmT (beV f1 w n) (fun k => (k : Int) - 9) (k + 1)).2))), (3, .int (iI z9)), (0, .ref (a 0)), (1, .int (iI w)), (2, .int (iI n))]) hq22) hl
                exact ih39 (k + 1) (u6 7) (by omega) (by omega) ls hl H locs hP hD hS
      have hq23 : (-9) = ((0 : Int) - 9) := rfl
      have hq24 : (-1) = ((bmT (beV f1 w n) (fun k => (k : Int) - 9) 0).2) := rfl
      have hq25 : 0 = ((bmT (beV f1 w n) (fun k => (k : Int) - 9) 0).1) := rfl
      have hl : lv_has ls 7 [(5, .int (iI (-9))), (4, .int (iI (-1))), (3, .int (iI 0)), (0, .ref (a 0)), (1, .int (iI w)), (2, .int (iI n))] := lv_sub hl [0, 1, 2, 3, 4, 5] rfl
      have hl := Eq.mp (congrArg (fun z9 => lv_has ls 7 [(5, .int (iI z9)), (4, .int (iI (-1))), (3, .int (iI 0)), (0, .ref (a 0)), (1, .int (iI w)), (2, .int (iI n))]) hq23) hl
      have hl := Eq.mp (congrArg (fun z9 => lv_has ls 7 [(5, .int (iI ((0 : Int) - 9))), (4, .int (iI z9)), (3, .int (iI 0)), (0, .ref (a 0)), (1, .int (iI w)), (2, .int (iI n))]) hq24) hl
      have hl := Eq.mp (congrArg (fun z9 => lv_has ls 7 [(5, .int (iI ((0 : Int) - 9))), (4, .int (iI ((bmT (beV f1 w n) (fun k => (k : Int) - 9) 0).2))), (3, .int (iI z9)), (0, .ref (a 0)), (1, .int (iI w)), (2, .int (iI n))]) hq25) hl
      exact lp39 (19 + 1) 0 f7 (by omega) (by omega) ls hl H locs hP hD hS
    · refine xi_zf_ne hx hb ⟨by decide, by decide⟩ (by decide) dX5_best_16 ⟨26, by decide⟩ ?_
      refine lv_aload_n hx hb dX5_best_19 rfl (lv_at hl 0 rfl) ?_
      refine xi_ldc hx hb hown hts kk_X5_50 dX5_best_20 ?_
      refine xm_i (rV (rest := []) hx hb hml hown hts hK hl (c_X5_finds l g a f1 f2 f3 f4 f5 f6 f7 f8 f9 f10 f11 f12 f13 f20 f21 f22 f23 f24 f25 (-1000000001) (s.heap).size (show 0 ≤ -1000000001 - (-1000000001) ∧ -1000000001 - (-1000000001) < 7 from by omega)) lk_X5_74 ⟨rfl, hP, hD.weaken (fun _ _ _ _ => trivial)⟩ (va_recv hK.1 hP (ci := 5) (q0 := 0) rfl rfl) rfl rfl rfl (Rm.of rfl) rfl rfl dX5_best_22) hD hS hA (fun x9 _ H locs hw hP hD hS => ?_)
      obtain rfl : x9 = iI (-1000000001) := hw
      have hP : va_P g.1 vwCl (wM g a f1 f2 f3 f4 f5 (fb (-1000000000 - (-1000000001)) f6) f7 f8 f9 f10 f11 f12 f13 f20 f21 f22 f23 f24 f25) H := hP
      have hD : va_D (va_A (wM g a f1 f2 f3 f4 f5 f6 f7 f8 f9 f10 f11 f12 f13 f20 f21 f22 f23 f24 f25) s.heap.size) (wM g a f1 f2 f3 f4 f5 (fb (-1000000000 - (-1000000001)) f6) f7 f8 f9 f10 f11 f12 f13 f20 f21 f22 f23 f24 f25) := hD
      have hf : fBest w n = 1 := by unfold fBest; (repeat (first | rw [if_pos (by omega)] | rw [if_neg (by omega)])); first | done | (exfalso; omega)
      have he27 : (fb (-1000000000 - (-1000000001)) f6) = (fb (fBest w n) f6) := by rw [hf]; rfl
      have hP := Eq.mp (congrArg (fun z9 => va_P g.1 vwCl (wM g a f1 f2 f3 f4 f5 z9 f7 f8 f9 f10 f11 f12 f13 f20 f21 f22 f23 f24 f25) H) he27) hP
      have hD := Eq.mp (congrArg (fun z9 => va_D (va_A (wM g a f1 f2 f3 f4 f5 f6 f7 f8 f9 f10 f11 f12 f13 f20 f21 f22 f23 f24 f25) s.heap.size) (wM g a f1 f2 f3 f4 f5 z9 f7 f8 f9 f10 f11 f12 f13 f20 f21 f22 f23 f24 f25)) he27) hD
      have hP : va_P g.1 vwCl (wM g a f1 f2 f3 ((su (su (fun _ _ => 0) 4 f4) 7 f7) 4) f5 (fb (fBest w n) f6) ((su (su (fun _ _ => 0) 4 f4) 7 f7) 7) f8 f9 f10 f11 f12 f13 f20 f21 f22 f23 f24 f25) H := hP
      have hD : va_D (va_A (wM g a f1 f2 f3 f4 f5 f6 f7 f8 f9 f10 f11 f12 f13 f20 f21 f22 f23 f24 f25) s.heap.size) (wM g a f1 f2 f3 ((su (su (fun _ _ => 0) 4 f4) 7 f7) 4) f5 (fb (fBest w n) f6) ((su (su (fun _ _ => 0) 4 f4) 7 f7) 7) f8 f9 f10 f11 f12 f13 f20 f21 f22 f23 f24 f25) := hD
      exact W.iret hx hb hr (fun t ht hW => ⟨⟨_, (su (su (fun _ _ => 0) 4 f4) 7 f7), rfl, by rw [hf]; rfl, by rw [ht]; exact hP, hD⟩, hS.F ht⟩) hS.2.2 dX5_best_25
  · refine xi_zt_eq (tgt := 19) hx hb ⟨by decide, by decide⟩ (by decide) dX5_best_9 (by decide) ?_
    refine lv_aload_n hx hb dX5_best_19 rfl (lv_at hl 0 rfl) ?_
    refine xi_ldc hx hb hown hts kk_X5_50 dX5_best_20 ?_
    refine xm_i (rV (rest := []) hx hb hml hown hts hK hl (c_X5_finds l g a f1 f2 f3 f4 f5 f6 f7 f8 f9 f10 f11 f12 f13 f20 f21 f22 f23 f24 f25 (-1000000001) (s.heap).size (show 0 ≤ -1000000001 - (-1000000001) ∧ -1000000001 - (-1000000001) < 7 from by omega)) lk_X5_74 ⟨rfl, hP, hD.weaken (fun _ _ _ _ => trivial)⟩ (va_recv hK.1 hP (ci := 5) (q0 := 0) rfl rfl) rfl rfl rfl (Rm.of rfl) rfl rfl dX5_best_22) hD hS hA (fun x9 _ H locs hw hP hD hS => ?_)
    obtain rfl : x9 = iI (-1000000001) := hw
    have hP : va_P g.1 vwCl (wM g a f1 f2 f3 f4 f5 (fb (-1000000000 - (-1000000001)) f6) f7 f8 f9 f10 f11 f12 f13 f20 f21 f22 f23 f24 f25) H := hP
    have hD : va_D (va_A (wM g a f1 f2 f3 f4 f5 f6 f7 f8 f9 f10 f11 f12 f13 f20 f21 f22 f23 f24 f25) s.heap.size) (wM g a f1 f2 f3 f4 f5 (fb (-1000000000 - (-1000000001)) f6) f7 f8 f9 f10 f11 f12 f13 f20 f21 f22 f23 f24 f25) := hD
    have hf : fBest w n = 1 := by unfold fBest; (repeat (first | rw [if_pos (by omega)] | rw [if_neg (by omega)])); first | done | (exfalso; omega)
    have he29 : (fb (-1000000000 - (-1000000001)) f6) = (fb (fBest w n) f6) := by rw [hf]; rfl
    have hP := Eq.mp (congrArg (fun z9 => va_P g.1 vwCl (wM g a f1 f2 f3 f4 f5 z9 f7 f8 f9 f10 f11 f12 f13 f20 f21 f22 f23 f24 f25) H) he29) hP
    have hD := Eq.mp (congrArg (fun z9 => va_D (va_A (wM g a f1 f2 f3 f4 f5 f6 f7 f8 f9 f10 f11 f12 f13 f20 f21 f22 f23 f24 f25) s.heap.size) (wM g a f1 f2 f3 f4 f5 z9 f7 f8 f9 f10 f11 f12 f13 f20 f21 f22 f23 f24 f25)) he29) hD
    have hP : va_P g.1 vwCl (wM g a f1 f2 f3 ((su (su (fun _ _ => 0) 4 f4) 7 f7) 4) f5 (fb (fBest w n) f6) ((su (su (fun _ _ => 0) 4 f4) 7 f7) 7) f8 f9 f10 f11 f12 f13 f20 f21 f22 f23 f24 f25) H := hP
    have hD : va_D (va_A (wM g a f1 f2 f3 f4 f5 f6 f7 f8 f9 f10 f11 f12 f13 f20 f21 f22 f23 f24 f25) s.heap.size) (wM g a f1 f2 f3 ((su (su (fun _ _ => 0) 4 f4) 7 f7) 4) f5 (fb (fBest w n) f6) ((su (su (fun _ _ => 0) 4 f4) 7 f7) 7) f8 f9 f10 f11 f12 f13 f20 f21 f22 f23 f24 f25) := hD
    exact W.iret hx hb hr (fun t ht hW => ⟨⟨_, (su (su (fun _ _ => 0) 4 f4) 7 f7), rfl, by rw [hf]; rfl, by rw [ht]; exact hP, hD⟩, hS.F ht⟩) hS.2.2 dX5_best_25
abbrev rm_X5_start : Room := { frames := 8, cells := 0, slots := 0, locals := 179 }
set_option maxRecDepth 100000 in
set_option maxHeartbeats 4000000 in
theorem c_X5_start (l : Launch) (g : Gd) (a : Nat → Nat) (f1 : Int → Int) (f2 : Int → Int) (f3 : Int → Int) (f4 : Int → Int) (f5 : Int → Int) (f6 : Int → Int) (f7 : Int → Int) (f8 : Int → Int) (f9 : Int → Int) (f10 : Int → Int) (f11 : Int → Int) (f12 : Int → Int) (f13 : Int → Int) (f20 : Int) (f21 : Int) (f22 : Int) (f23 : Int) (f24 : Int) (f25 : Int) (r : Int) (n : Int) (sz : Nat) (h1 : InvK 0 f1) (h2 : f1 0 ≤ 9999) (h3 : IR r) (h4 : IR n) : Met l yX5_start (wsOf yX5_start cX5_start 7 (some .int)) rm_X5_start (PX g (wP g (wM g a f1 f2 f3 f4 f5 f6 f7 f8 f9 f10 f11 f12 f13 f20 f21 f22 f23 f24 f25) sz) [.ref (a 0), .int (iI r), .int (iI n)]) (QMi g (fun u9 : Nat → Int → Int => wM g a f1 f2 f3 (u9 4) f5 (fb (fStart f1 r n) f6) (u9 7) f8 f9 f10 f11 f12 f13 f20 f21 f22 f23 f24 f25) (fun r9 _ => r9 = ab (fStart f1 r n) (iI (bmT (srV f1 r n) (fun k => (k : Int)) 24).1)) (va_A (wM g a f1 f2 f3 f4 f5 f6 f7 f8 f9 f10 f11 f12 f13 f20 f21 f22 f23 f24 f25) sz)) 0 0 (va_A (wM g a f1 f2 f3 f4 f5 f6 f7 f8 f9 f10 f11 f12 f13 f20 f21 f22 f23 f24 f25) sz) := by
  refine me (g := g) (by decide) rfl ?_
  intro pq eq s mq below meth cq C hnm hB ls hl
  obtain ⟨hx, hb, hr, hml, hown, hts, hlocks, hK⟩ := C
  have hown : s.vm.findClass RX5 = some mq.cls := hown
  have hl : lv_has ls 7 [(0, .ref (a 0)), (1, .int (iI r)), (2, .int (iI n))] := hl
  obtain ⟨hsz, hP, hD0⟩ := hB
  subst hsz
  have hD := hD0.self (sz := s.heap.size)
  have hA : ∀ q : Nat, s.heap.size ≤ q → va_A (wM g a f1 f2 f3 f4 f5 f6 f7 f8 f9 f10 f11 f12 f13 f20 f21 f22 f23 f24 f25) s.heap.size q := fun q h => Or.inr h
  have hS : va_S (va_A (wM g a f1 f2 f3 f4 f5 f6 f7 f8 f9 f10 f11 f12 f13 f20 f21 f22 f23 f24 f25) s.heap.size) s.heap s.heap [] := va_S.rf
  have hI := h1
  have hI8 : Inv f1 := h1.mono (by omega)
  have hn := hI.num
  have hs := hI.sea
  have hv := hI.vil
  have q1 := h3.1
  have q3 := h4.1
  have q2 := h3.2
  have q4 := h4.2
  refine lv_aload_n hx hb dX5_start_0 rfl (lv_at hl 0 rfl) ?_
  refine lv_iload_n hx hb dX5_start_1 rfl (lv_at hl 1 rfl) ?_
  refine xu_b (P := 0 ≤ r ∧ r ≤ f1 1 - 1) (rV (rest := []) hx hb hml hown hts hK hl (c_X5_isRange l g a f1 f2 f3 f4 f5 f6 f7 f8 f9 f10 f11 f12 f13 f20 f21 f22 f23 f24 f25 r (show IR r from ⟨by omega, by omega⟩) (show 0 ≤ f1 1 ∧ f1 1 ≤ 8 from by omega)) lk_X5_127 hP (va_recv hK.1 hP (ci := 5) (q0 := 0) rfl rfl) rfl rfl rfl (Rm.of rfl) rfl rfl dX5_start_2) (fun z1 => ?_) (fun z1 => ?_)
  · refine xi_zf_eq hx hb ⟨by decide, by decide⟩ (by decide) dX5_start_5 ⟨15, by decide⟩ ?_
    refine lv_iload_n hx hb dX5_start_8 rfl (lv_at hl 2 rfl) ?_
    refine xu_b (P := 0 ≤ n ∧ n ≤ 40) (rS (rest := []) hx hb hml hown hts hK hl (c_X5_isSome l g n (show IR n from ⟨by omega, by omega⟩)) lk_X5_192 trivial rfl rfl rfl (Rm.of rfl) rfl rfl dX5_start_9) (fun z2 => ?_) (fun z2 => ?_)
    · refine xi_zt_ne (tgt := 22) hx hb ⟨by decide, by decide⟩ (by decide) dX5_start_12 (by decide) ?_
      refine lv_aload_n hx hb dX5_start_22 rfl (lv_at hl 0 rfl) ?_
      refine xm_v (rV (rest := []) hx hb hml hown hts hK hl (c_X5_laysAside l g a f1 f2 f3 f4 f5 f6 f7 f8 f9 f10 f11 f12 f13 f20 f21 f22 f23 f24 f25 (s.heap).size ) lk_X5_172 ⟨rfl, hP, hD.weaken (fun _ _ _ _ => trivial)⟩ (va_recv hK.1 hP (ci := 5) (q0 := 0) rfl rfl) rfl rfl rfl (Rm.of rfl) rfl rfl dX5_start_23) hD hS hA (fun _ H locs hw hP hD hS => ?_)
      have hP : va_P g.1 vwCl (wM g a f1 f2 f3 f1 f5 f6 f7 f8 f9 f10 f11 f12 f13 f20 f21 f22 f23 f24 f25) H := hP
      have hD : va_D (va_A (wM g a f1 f2 f3 f4 f5 f6 f7 f8 f9 f10 f11 f12 f13 f20 f21 f22 f23 f24 f25) s.heap.size) (wM g a f1 f2 f3 f1 f5 f6 f7 f8 f9 f10 f11 f12 f13 f20 f21 f22 f23 f24 f25) := hD
      refine lv_iconst (v := iI (0)) hx hb dX5_start_26 (by decide) ?_
      refine lv_istore_n (lv' := [(3, .int (iI 0)), (0, .ref (a 0)), (1, .int (iI r)), (2, .int (iI n))]) hx hb dX5_start_27 rfl hl (by decide) rfl (fun ls hl => ?_)
      refine lv_iconst (v := iI (-1)) hx hb dX5_start_28 (by decide) ?_
      refine lv_istore (lv' := [(4, .int (iI (-1))), (3, .int (iI 0)), (0, .ref (a 0)), (1, .int (iI r)), (2, .int (iI n))]) hx hb dX5_start_29 hl (by decide) rfl (fun ls hl => ?_)
      refine lv_iconst (v := iI (0)) hx hb dX5_start_31 (by decide) ?_
      refine lv_istore (lv' := [(5, .int (iI 0)), (4, .int (iI (-1))), (3, .int (iI 0)), (0, .ref (a 0)), (1, .int (iI r)), (2, .int (iI n))]) hx hb dX5_start_32 hl (by decide) rfl (fun ls hl => ?_)
      have lp34 : ∀ (n34 : Nat) (k : Nat) (l7 : Int → Int), (k ≤ 24) → 24 - k < n34 → ∀ ls : Array Slot, lv_has ls 7 [(5, .int (iI (k : Int))), (4, .int (iI ((bmT (srV f1 r n) (fun k => (k : Int)) k).2))), (3, .int (iI ((bmT (srV f1 r n) (fun k => (k : Int)) k).1))), (0, .ref (a 0)), (1, .int (iI r)), (2, .int (iI n))] → ∀ (H : Heap) (locs : List Loc), va_P g.1 vwCl (wM g a f1 f2 f3 f1 f5 f6 l7 f8 f9 f10 f11 f12 f13 f20 f21 f22 f23 f24 f25) H → va_D (va_A (wM g a f1 f2 f3 f4 f5 f6 f7 f8 f9 f10 f11 f12 f13 f20 f21 f22 f23 f24 f25) s.heap.size) (wM g a f1 f2 f3 f1 f5 f6 l7 f8 f9 f10 f11 f12 f13 f20 f21 f22 f23 f24 f25) → va_S (va_A (wM g a f1 f2 f3 f4 f5 f6 f7 f8 f9 f10 f11 f12 f13 f20 f21 f22 f23 f24 f25) s.heap.size) s.heap H locs → W pq l eq rm_X5_start s mq [.ref (a 0), .int (iI r), .int (iI n)].toArray below meth cq H locs 0 0 (MQ below (QMi g (fun u9 : Nat → Int → Int => wM g a f1 f2 f3 (u9 4) f5 (fb (fStart f1 r n) f6) (u9 7) f8 f9 f10 f11 f12 f13 f20 f21 f22 f23 f24 f25) (fun r9 _ => r9 = ab (fStart f1 r n) (iI (bmT (srV f1 r n) (fun k => (k : Int)) 24).1)) (va_A (wM g a f1 f2 f3 f4 f5 f6 f7 f8 f9 f10 f11 f12 f13 f20 f21 f22 f23 f24 f25) s.heap.size)) [.ref (a 0), .int (iI r), .int (iI n)].toArray s 0 0 (va_A (wM g a f1 f2 f3 f4 f5 f6 f7 f8 f9 f10 f11 f12 f13 f20 f21 f22 f23 f24 f25) s.heap.size)) (F0 mq 34 ls []) := by
        intro n34
        induction n34 with
        | zero => intro k l7 i34_1 hm; exact absurd hm (Nat.not_lt_zero _)
        | succ n34 ih34 =>
          intro k l7 i34_1 hm34 ls hl H locs hP hD hS
          have hmb := bmT_b (v := srV f1 r n) (key := (fun k => (k : Int))) (M := 21000000) (by omega) k (fun j hj => srV_b hI (by omega) (by omega) (by omega) (by omega) (by omega))
          refine lv_iload hx hb dX5_start_34 (lv_at hl 0 rfl) ?_
          refine lv_bipush (v := iI (24)) hx hb dX5_start_36 (by decide) ?_
          refine xi_c_ge (tgt := 123) hx hb ⟨by omega, by omega⟩ ⟨by decide, by decide⟩ dX5_start_38 (by decide) (fun z4 => ?_) (fun z4 => ?_)
          · refine lv_iload_n hx hb dX5_start_123 rfl (lv_at hl 2 rfl) ?_
            have hf : fStart f1 r n = 0 := by unfold fStart; (repeat (first | rw [if_pos (by omega)] | rw [if_neg (by omega)])); first | done | (exfalso; omega)
            have he5 : f6 = (fb (fStart f1 r n) f6) := by rw [hf]; rfl
            have hP := Eq.mp (congrArg (fun z9 => va_P g.1 vwCl (wM g a f1 f2 f3 f1 f5 z9 l7 f8 f9 f10 f11 f12 f13 f20 f21 f22 f23 f24 f25) H) he5) hP
            have hD := Eq.mp (congrArg (fun z9 => va_D (va_A (wM g a f1 f2 f3 f4 f5 f6 f7 f8 f9 f10 f11 f12 f13 f20 f21 f22 f23 f24 f25) s.heap.size) (wM g a f1 f2 f3 f1 f5 z9 l7 f8 f9 f10 f11 f12 f13 f20 f21 f22 f23 f24 f25)) he5) hD
            have hP : va_P g.1 vwCl (wM g a f1 f2 f3 ((su (su (fun _ _ => 0) 4 f1) 7 l7) 4) f5 (fb (fStart f1 r n) f6) ((su (su (fun _ _ => 0) 4 f1) 7 l7) 7) f8 f9 f10 f11 f12 f13 f20 f21 f22 f23 f24 f25) H := hP
            have hD : va_D (va_A (wM g a f1 f2 f3 f4 f5 f6 f7 f8 f9 f10 f11 f12 f13 f20 f21 f22 f23 f24 f25) s.heap.size) (wM g a f1 f2 f3 ((su (su (fun _ _ => 0) 4 f1) 7 l7) 4) f5 (fb (fStart f1 r n) f6) ((su (su (fun _ _ => 0) 4 f1) 7 l7) 7) f8 f9 f10 f11 f12 f13 f20 f21 f22 f23 f24 f25) := hD
            exact W.iret hx hb hr (fun t ht hW => ⟨⟨_, (su (su (fun _ _ => 0) 4 f1) 7 l7), rfl, by rw [hf, ab_0, show k = 24 by omega], by rw [ht]; exact hP, hD⟩, hS.F ht⟩) hS.2.2 dX5_start_124
          · have hwb := who_b (s := f1) (k : Int) hn
            refine lv_aload_n hx hb dX5_start_41 rfl (lv_at hl 3 rfl) ?_
            refine lv_iload hx hb dX5_start_42 (lv_at hl 0 rfl) ?_
            refine xu_i (x := iI (who f1 (k : Int))) (rV (rest := []) hx hb hml hown hts hK hl (c_X5_isIn l g a f1 f2 f3 f1 f5 f6 l7 f8 f9 f10 f11 f12 f13 f20 f21 f22 f23 f24 f25 (k : Int) (show Inv f1 from hI8) (show IR (k : Int) from ⟨by omega, by omega⟩)) lk_X5_87 hP (va_recv hK.1 hP (ci := 5) (q0 := 0) rfl rfl) rfl rfl rfl (Rm.of rfl) rfl rfl dX5_start_44) ?_
            refine xi_z_lt (tgt := 63) hx hb ⟨by omega, by omega⟩ dX5_start_47 (by decide) (fun z7 => ?_) (fun z7 => ?_)
            · have hIu := hI.cellw (r := r) (c := (k : Int)) (by omega) (by omega) (by omega) (by omega)
              have hsb := goneN_b hIu (r := r) (n := n) (by omega) (by rw [up_n (by omega)]; omega) (by omega) (by rw [up_n (by omega)]; omega)
              have hv9 : srV f1 r n k = goneN (up f1 (61 + 5 * r + 1) (k : Int)) r n := by unfold srV; rw [if_pos (by omega)]
              refine lv_aload_n hx hb dX5_start_63 rfl (lv_at hl 3 rfl) ?_
              refine xg_X5 hx hb hts hown hK hP 0 rfl 0 (by decide) fk_X5_7 (v := .ref (a 1)) rfl dX5_start_64 ?_
              refine lv_iload_n hx hb dX5_start_67 rfl (lv_at hl 4 rfl) ?_
              refine lv_iconst (v := iI (1)) hx hb dX5_start_68 (by decide) ?_
              refine xu_i (x := iI (61 + 5 * r + 1)) (rS (rest := [.ref (a 1)]) hx hb hml hown hts hK hl (c_X5_spot l g r 1 ) lk_X5_59 trivial rfl rfl rfl (Rm.of rfl) rfl rfl dX5_start_69) ?_
              refine lv_iload hx hb dX5_start_72 (lv_at hl 0 rfl) ?_
              refine xi_ast hx hb hK hP hD hS 1 (f := f1) rfl (i := 61 + 5 * r + 1) (v := (k : Int)) ⟨by omega, by omega⟩ rfl dX5_start_74 (fun H locs hP hD hS => ?_)
              have hP : va_P g.1 vwCl (wM g a (up f1 (61 + 5 * r + 1) (k : Int)) f2 f3 f1 f5 f6 l7 f8 f9 f10 f11 f12 f13 f20 f21 f22 f23 f24 f25) H := hP
              have hD : va_D (va_A (wM g a f1 f2 f3 f4 f5 f6 f7 f8 f9 f10 f11 f12 f13 f20 f21 f22 f23 f24 f25) s.heap.size) (wM g a (up f1 (61 + 5 * r + 1) (k : Int)) f2 f3 f1 f5 f6 l7 f8 f9 f10 f11 f12 f13 f20 f21 f22 f23 f24 f25) := hD
              refine lv_aload_n hx hb dX5_start_75 rfl (lv_at hl 3 rfl) ?_
              refine lv_aload_n hx hb dX5_start_76 rfl (lv_at hl 3 rfl) ?_
              refine lv_iload_n hx hb dX5_start_77 rfl (lv_at hl 4 rfl) ?_
              refine lv_iload_n hx hb dX5_start_78 rfl (lv_at hl 5 rfl) ?_
              refine xm_i (rV (rest := [.ref (a 0)]) hx hb hml hown hts hK hl (c_X5_goneOn l g a (up f1 (61 + 5 * r + 1) (k : Int)) f2 f3 f1 f5 f6 l7 f8 f9 f10 f11 f12 f13 f20 f21 f22 f23 f24 f25 r n H.size (show InvK 0 (up f1 (61 + 5 * r + 1) (k : Int)) from hIu) (show 0 ≤ n ∧ (up f1 (61 + 5 * r + 1) (k : Int)) 0 + n ≤ 20000 from ⟨by omega, by rw [up_n (by omega)]; omega⟩) (show 0 ≤ r ∧ r < (up f1 (61 + 5 * r + 1) (k : Int)) 1 from ⟨by omega, by rw [up_n (by omega)]; omega⟩)) lk_X5_195 ⟨rfl, hP, hD.weaken (fun _ _ _ _ => trivial)⟩ (va_recv hK.1 hP (ci := 5) (q0 := 0) rfl rfl) rfl rfl rfl (Rm.of rfl) rfl rfl dX5_start_79) hD hS hA (fun x9 u9 H locs hw hP hD hS => ?_)
              obtain rfl : x9 = iI (goneN (up f1 (61 + 5 * r + 1) (k : Int)) r n) := hw
              have hP : va_P g.1 vwCl (wM g a (seaN (up f1 (61 + 5 * r + 1) (k : Int)) (Int.toNat n)) f2 f3 f1 f5 f6 (u9 7) f8 f9 f10 f11 f12 f13 f20 f21 f22 f23 f24 f25) H := hP
              have hD : va_D (va_A (wM g a f1 f2 f3 f4 f5 f6 f7 f8 f9 f10 f11 f12 f13 f20 f21 f22 f23 f24 f25) s.heap.size) (wM g a (seaN (up f1 (61 + 5 * r + 1) (k : Int)) (Int.toNat n)) f2 f3 f1 f5 f6 (u9 7) f8 f9 f10 f11 f12 f13 f20 f21 f22 f23 f24 f25) := hD
              refine xm_i (rV (rest := []) hx hb hml hown hts hK hl (c_X5_takesBack l g a (seaN (up f1 (61 + 5 * r + 1) (k : Int)) (Int.toNat n)) f2 f3 f1 f5 f6 (u9 7) f8 f9 f10 f11 f12 f13 f20 f21 f22 f23 f24 f25 (iI (goneN (up f1 (61 + 5 * r + 1) (k : Int)) r n)) H.size ) lk_X5_175 ⟨rfl, hP, hD.weaken (fun _ _ _ _ => trivial)⟩ (va_recv hK.1 hP (ci := 5) (q0 := 0) rfl rfl) rfl rfl rfl (Rm.of rfl) rfl rfl dX5_start_82) hD hS hA (fun x9 _ H locs hw hP hD hS => ?_)
              obtain rfl : x9 = (iI (goneN (up f1 (61 + 5 * r + 1) (k : Int)) r n)) := hw
              have hP : va_P g.1 vwCl (wM g a f1 f2 f3 f1 f5 f6 (u9 7) f8 f9 f10 f11 f12 f13 f20 f21 f22 f23 f24 f25) H := hP
              have hD : va_D (va_A (wM g a f1 f2 f3 f4 f5 f6 f7 f8 f9 f10 f11 f12 f13 f20 f21 f22 f23 f24 f25) s.heap.size) (wM g a f1 f2 f3 f1 f5 f6 (u9 7) f8 f9 f10 f11 f12 f13 f20 f21 f22 f23 f24 f25) := hD
              refine lv_istore (lv' := [(6, .int (iI (goneN (up f1 (61 + 5 * r + 1) (k : Int)) r n))), (5, .int (iI (k : Int))), (4, .int (iI ((bmT (srV f1 r n) (fun k => (k : Int)) k).2))), (3, .int (iI ((bmT (srV f1 r n) (fun k => (k : Int)) k).1))), (0, .ref (a 0)), (1, .int (iI r)), (2, .int (iI n))]) hx hb dX5_start_85 hl (by decide) rfl (fun ls hl => ?_)
              refine lv_iload hx hb dX5_start_87 (lv_at hl 0 rfl) ?_
              refine lv_iload hx hb dX5_start_89 (lv_at hl 2 rfl) ?_
              refine xi_c_le (tgt := 99) hx hb ⟨by omega, by omega⟩ ⟨by omega, by omega⟩ dX5_start_91 (by decide) (fun z11 => ?_) (fun z11 => ?_)
              · refine lv_iload_n hx hb dX5_start_99 rfl (lv_at hl 3 rfl) ?_
                refine lv_istore_n (lv' := [(3, .int (iI ((bmT (srV f1 r n) (fun k => (k : Int)) k).1))), (6, .int (iI (goneN (up f1 (61 + 5 * r + 1) (k : Int)) r n))), (5, .int (iI (k : Int))), (4, .int (iI ((bmT (srV f1 r n) (fun k => (k : Int)) k).2))), (0, .ref (a 0)), (1, .int (iI r)), (2, .int (iI n))]) hx hb dX5_start_100 rfl hl (by decide) rfl (fun ls hl => ?_)
                refine lv_iload hx hb dX5_start_101 (lv_at hl 1 rfl) ?_
                refine lv_iload hx hb dX5_start_103 (lv_at hl 3 rfl) ?_
                refine xi_c_le (tgt := 113) hx hb ⟨by omega, by omega⟩ ⟨by omega, by omega⟩ dX5_start_105 (by decide) (fun z12 => ?_) (fun z12 => ?_)
                · refine lv_iload hx hb dX5_start_113 (lv_at hl 3 rfl) ?_
                  refine lv_istore (lv' := [(4, .int (iI ((bmT (srV f1 r n) (fun k => (k : Int)) k).2))), (3, .int (iI ((bmT (srV f1 r n) (fun k => (k : Int)) k).1))), (6, .int (iI (goneN (up f1 (61 + 5 * r + 1) (k : Int)) r n))), (5, .int (iI (k : Int))), (0, .ref (a 0)), (1, .int (iI r)), (2, .int (iI n))]) hx hb dX5_start_115 hl (by decide) rfl (fun ls hl => ?_)
                  refine xi_inc (lv' := [(5, .int (iI ((k : Int) + 1))), (4, .int (iI ((bmT (srV f1 r n) (fun k => (k : Int)) k).2))), (3, .int (iI ((bmT (srV f1 r n) (fun k => (k : Int)) k).1))), (6, .int (iI (goneN (up f1 (61 + 5 * r + 1) (k : Int)) r n))), (0, .ref (a 0)), (1, .int (iI r)), (2, .int (iI n))]) hx hb dX5_start_117 hl (k := 3) rfl (by decide) rfl (fun ls hl => ?_)
                  refine lv_goto (tgt := 34) hx hb dX5_start_120 (by decide) ?_
                  have hq13 : ((k : Int) + 1) = ((k + 1) : Int) := by omega
                  have hq14 : ((bmT (srV f1 r n) (fun k => (k : Int)) k).2) = ((bmT (srV f1 r n) (fun k => (k : Int)) (k + 1)).2) := by simp only [bmT]; first | (rw [if_pos (by omega)]; done) | (rw [if_pos (by omega)]; dsimp only; omega) | (rw [if_neg (by omega)]; done) | (exfalso; omega)
                  have hq15 : ((bmT (srV f1 r n) (fun k => (k : Int)) k).1) = ((bmT (srV f1 r n) (fun k => (k : Int)) (k + 1)).1) := by simp only [bmT]; first | (rw [if_pos (by omega)]; done) | (rw [if_pos (by omega)]; dsimp only; omega) | (rw [if_neg (by omega)]; done) | (exfalso; omega)
                  have hl : lv_has ls 7 [(5, .int (iI ((k : Int) + 1))), (4, .int (iI ((bmT (srV f1 r n) (fun k => (k : Int)) k).2))), (3, .int (iI ((bmT (srV f1 r n) (fun k => (k : Int)) k).1))), (0, .ref (a 0)), (1, .int (iI r)), (2, .int (iI n))] := lv_sub hl [0, 1, 2, 4, 5, 6] rfl
                  have hl := Eq.mp (congrArg (fun z9 => lv_has ls 7 [(5, .int (iI z9)), (4, .int (iI ((bmT (srV f1 r n) (fun k => (k : Int)) k).2))), (3, .int (iI ((bmT (srV f1 r n) (fun k => (k : Int)) k).1))), (0, .ref (a 0)), (1, .int (iI r)), (2, .int (iI n))]) hq13) hl
                  have hl := Eq.mp (congrArg (fun z9 => lv_has ls 7 [(5, .int (iI ((k + 1) : Int))), (4, .int (iI z9)), (3, .int (iI ((bmT (srV f1 r n) (fun k => (k : Int)) k).1))), (0, .ref (a 0)), (1, .int (iI r)), (2, .int (iI n))]) hq14) hl
                  have hl := Eq.mp (congrArg (fun z9 => lv_has ls 7 [(5, .int (iI ((k + 1) : Int))), (4, .int (iI ((bmT (srV f1 r n) (fun k => (k : Int)) (k + 1)).2))), (3, .int (iI z9)), (0, .ref (a 0)), (1, .int (iI r)), (2, .int (iI n))]) hq15) hl
                  exact ih34 (k + 1) (u9 7) (by omega) (by omega) ls hl H locs hP hD hS
                · refine lv_iload hx hb dX5_start_108 (lv_at hl 1 rfl) ?_
                  refine lv_goto (tgt := 115) hx hb dX5_start_110 (by decide) ?_
                  refine lv_istore (lv' := [(4, .int (iI (goneN (up f1 (61 + 5 * r + 1) (k : Int)) r n))), (3, .int (iI ((bmT (srV f1 r n) (fun k => (k : Int)) k).1))), (6, .int (iI (goneN (up f1 (61 + 5 * r + 1) (k : Int)) r n))), (5, .int (iI (k : Int))), (0, .ref (a 0)), (1, .int (iI r)), (2, .int (iI n))]) hx hb dX5_start_115 hl (by decide) rfl (fun ls hl => ?_)
                  refine xi_inc (lv' := [(5, .int (iI ((k : Int) + 1))), (4, .int (iI (goneN (up f1 (61 + 5 * r + 1) (k : Int)) r n))), (3, .int (iI ((bmT (srV f1 r n) (fun k => (k : Int)) k).1))), (6, .int (iI (goneN (up f1 (61 + 5 * r + 1) (k : Int)) r n))), (0, .ref (a 0)), (1, .int (iI r)), (2, .int (iI n))]) hx hb dX5_start_117 hl (k := 3) rfl (by decide) rfl (fun ls hl => ?_)
                  refine lv_goto (tgt := 34) hx hb dX5_start_120 (by decide) ?_
                  have hq16 : ((k : Int) + 1) = ((k + 1) : Int) := by omega
                  have hq17 : (goneN (up f1 (61 + 5 * r + 1) (k : Int)) r n) = ((bmT (srV f1 r n) (fun k => (k : Int)) (k + 1)).2) := by simp only [bmT]; first | (rw [if_pos (by omega)]; done) | (rw [if_pos (by omega)]; dsimp only; omega) | (rw [if_neg (by omega)]; done) | (exfalso; omega)
                  have hq18 : ((bmT (srV f1 r n) (fun k => (k : Int)) k).1) = ((bmT (srV f1 r n) (fun k => (k : Int)) (k + 1)).1) := by simp only [bmT]; first | (rw [if_pos (by omega)]; done) | (rw [if_pos (by omega)]; dsimp only; omega) | (rw [if_neg (by omega)]; done) | (exfalso; omega)
                  have hl : lv_has ls 7 [(5, .int (iI ((k : Int) + 1))), (4, .int (iI (goneN (up f1 (61 + 5 * r + 1) (k : Int)) r n))), (3, .int (iI ((bmT (srV f1 r n) (fun k => (k : Int)) k).1))), (0, .ref (a 0)), (1, .int (iI r)), (2, .int (iI n))] := lv_sub hl [0, 1, 2, 4, 5, 6] rfl
                  have hl := Eq.mp (congrArg (fun z9 => lv_has ls 7 [(5, .int (iI z9)), (4, .int (iI (goneN (up f1 (61 + 5 * r + 1) (k : Int)) r n))), (3, .int (iI ((bmT (srV f1 r n) (fun k => (k : Int)) k).1))), (0, .ref (a 0)), (1, .int (iI r)), (2, .int (iI n))]) hq16) hl
                  have hl := Eq.mp (congrArg (fun z9 => lv_has ls 7 [(5, .int (iI ((k + 1) : Int))), (4, .int (iI z9)), (3, .int (iI ((bmT (srV f1 r n) (fun k => (k : Int)) k).1))), (0, .ref (a 0)), (1, .int (iI r)), (2, .int (iI n))]) hq17) hl
                  have hl := Eq.mp (congrArg (fun z9 => lv_has ls 7 [(5, .int (iI ((k + 1) : Int))), (4, .int (iI ((bmT (srV f1 r n) (fun k => (k : Int)) (k + 1)).2))), (3, .int (iI z9)), (0, .ref (a 0)), (1, .int (iI r)), (2, .int (iI n))]) hq18) hl
                  exact ih34 (k + 1) (u9 7) (by omega) (by omega) ls hl H locs hP hD hS
              · refine lv_iload hx hb dX5_start_94 (lv_at hl 1 rfl) ?_
                refine lv_goto (tgt := 100) hx hb dX5_start_96 (by decide) ?_
                refine lv_istore_n (lv' := [(3, .int (iI (k : Int))), (6, .int (iI (goneN (up f1 (61 + 5 * r + 1) (k : Int)) r n))), (5, .int (iI (k : Int))), (4, .int (iI ((bmT (srV f1 r n) (fun k => (k : Int)) k).2))), (0, .ref (a 0)), (1, .int (iI r)), (2, .int (iI n))]) hx hb dX5_start_100 rfl hl (by decide) rfl (fun ls hl => ?_)
                refine lv_iload hx hb dX5_start_101 (lv_at hl 1 rfl) ?_
                refine lv_iload hx hb dX5_start_103 (lv_at hl 3 rfl) ?_
                refine xi_c_le (tgt := 113) hx hb ⟨by omega, by omega⟩ ⟨by omega, by omega⟩ dX5_start_105 (by decide) (fun z19 => ?_) (fun z19 => ?_)
                · refine lv_iload hx hb dX5_start_113 (lv_at hl 3 rfl) ?_
                  refine lv_istore (lv' := [(4, .int (iI ((bmT (srV f1 r n) (fun k => (k : Int)) k).2))), (3, .int (iI (k : Int))), (6, .int (iI (goneN (up f1 (61 + 5 * r + 1) (k : Int)) r n))), (5, .int (iI (k : Int))), (0, .ref (a 0)), (1, .int (iI r)), (2, .int (iI n))]) hx hb dX5_start_115 hl (by decide) rfl (fun ls hl => ?_)
                  refine xi_inc (lv' := [(5, .int (iI ((k : Int) + 1))), (4, .int (iI ((bmT (srV f1 r n) (fun k => (k : Int)) k).2))), (3, .int (iI (k : Int))), (6, .int (iI (goneN (up f1 (61 + 5 * r + 1) (k : Int)) r n))), (0, .ref (a 0)), (1, .int (iI r)), (2, .int (iI n))]) hx hb dX5_start_117 hl (k := 3) rfl (by decide) rfl (fun ls hl => ?_)
                  refine lv_goto (tgt := 34) hx hb dX5_start_120 (by decide) ?_
                  have hq20 : ((k : Int) + 1) = ((k + 1) : Int) := by omega
                  have hq21 : ((bmT (srV f1 r n) (fun k => (k : Int)) k).2) = ((bmT (srV f1 r n) (fun k => (k : Int)) (k + 1)).2) := by simp only [bmT]; first | (rw [if_pos (by omega)]; done) | (rw [if_pos (by omega)]; dsimp only; omega) | (rw [if_neg (by omega)]; done) | (exfalso; omega)
                  have hq22 : (k : Int) = ((bmT (srV f1 r n) (fun k => (k : Int)) (k + 1)).1) := by simp only [bmT]; first | (rw [if_pos (by omega)]; done) | (rw [if_pos (by omega)]; dsimp only; omega) | (rw [if_neg (by omega)]; done) | (exfalso; omega)
                  have hl : lv_has ls 7 [(5, .int (iI ((k : Int) + 1))), (4, .int (iI ((bmT (srV f1 r n) (fun k => (k : Int)) k).2))), (3, .int (iI (k : Int))), (0, .ref (a 0)), (1, .int (iI r)), (2, .int (iI n))] := lv_sub hl [0, 1, 2, 4, 5, 6] rfl
                  have hl := Eq.mp (congrArg (fun z9 => lv_has ls 7 [(5, .int (iI z9)), (4, .int (iI ((bmT (srV f1 r n) (fun k => (k : Int)) k).2))), (3, .int (iI (k : Int))), (0, .ref (a 0)), (1, .int (iI r)), (2, .int (iI n))]) hq20) hl
                  have hl := Eq.mp (congrArg (fun z9 => lv_has ls 7 [(5, .int (iI ((k + 1) : Int))), (4, .int (iI z9)), (3, .int (iI (k : Int))), (0, .ref (a 0)), (1, .int (iI r)), (2, .int (iI n))]) hq21) hl
                  have hl := Eq.mp (congrArg (fun z9 => lv_has ls 7 [(5, .int (iI ((k + 1) : Int))), (4, .int (iI ((bmT (srV f1 r n) (fun k => (k : Int)) (k + 1)).2))), (3, .int (iI z9)), (0, .ref (a 0)), (1, .int (iI r)), (2, .int (iI n))]) hq22) hl
                  exact ih34 (k + 1) (u9 7) (by omega) (by omega) ls hl H locs hP hD hS
                · refine lv_iload hx hb dX5_start_108 (lv_at hl 1 rfl) ?_
                  refine lv_goto (tgt := 115) hx hb dX5_start_110 (by decide) ?_
                  refine lv_istore (lv' := [(4, .int (iI (goneN (up f1 (61 + 5 * r + 1) (k : Int)) r n))), (3, .int (iI (k : Int))), (6, .int (iI (goneN (up f1 (61 + 5 * r + 1) (k : Int)) r n))), (5, .int (iI (k : Int))), (0, .ref (a 0)), (1, .int (iI r)), (2, .int (iI n))]) hx hb dX5_start_115 hl (by decide) rfl (fun ls hl => ?_)
                  refine xi_inc (lv' := [(5, .int (iI ((k : Int) + 1))), (4, .int (iI (goneN (up f1 (61 + 5 * r + 1) (k : Int)) r n))), (3, .int (iI (k : Int))), (6, .int (iI (goneN (up f1 (61 + 5 * r + 1) (k : Int)) r n))), (0, .ref (a 0)), (1, .int (iI r)), (2, .int (iI n))]) hx hb dX5_start_117 hl (k := 3) rfl (by decide) rfl (fun ls hl => ?_)
                  refine lv_goto (tgt := 34) hx hb dX5_start_120 (by decide) ?_
                  have hq23 : ((k : Int) + 1) = ((k + 1) : Int) := by omega
                  have hq24 : (goneN (up f1 (61 + 5 * r + 1) (k : Int)) r n) = ((bmT (srV f1 r n) (fun k => (k : Int)) (k + 1)).2) := by simp only [bmT]; first | (rw [if_pos (by omega)]; done) | (rw [if_pos (by omega)]; dsimp only; omega) | (rw [if_neg (by omega)]; done) | (exfalso; omega)
                  have hq25 : (k : Int) = ((bmT (srV f1 r n) (fun k => (k : Int)) (k + 1)).1) := by simp only [bmT]; first | (rw [if_pos (by omega)]; done) | (rw [if_pos (by omega)]; dsimp only; omega) | (rw [if_neg (by omega)]; done) | (exfalso; omega)
                  have hl : lv_has ls 7 [(5, .int (iI ((k : Int) + 1))), (4, .int (iI (goneN (up f1 (61 + 5 * r + 1) (k : Int)) r n))), (3, .int (iI (k : Int))), (0, .ref (a 0)), (1, .int (iI r)), (2, .int (iI n))] := lv_sub hl [0, 1, 2, 4, 5, 6] rfl
                  have hl := Eq.mp (congrArg (fun z9 => lv_has ls 7 [(5, .int (iI z9)), (4, .int (iI (goneN (up f1 (61 + 5 * r + 1) (k : Int)) r n))), (3, .int (iI (k : Int))), (0, .ref (a 0)), (1, .int (iI r)), (2, .int (iI n))]) hq23) hl
                  have hl := Eq.mp (congrArg (fun z9 => lv_has ls 7 [(5, .int (iI ((k + 1) : Int))), (4, .int (iI z9)), (3, .int (iI (k : Int))), (0, .ref (a 0)), (1, .int (iI r)), (2, .int (iI n))]) hq24) hl
                  have hl := Eq.mp (congrArg (fun z9 => lv_has ls 7 [(5, .int (iI ((k + 1) : Int))), (4, .int (iI ((bmT (srV f1 r n) (fun k => (k : Int)) (k + 1)).2))), (3, .int (iI z9)), (0, .ref (a 0)), (1, .int (iI r)), (2, .int (iI n))]) hq25) hl
                  exact ih34 (k + 1) (u9 7) (by omega) (by omega) ls hl H locs hP hD hS
            · refine lv_aload_n hx hb dX5_start_50 rfl (lv_at hl 3 rfl) ?_
              refine lv_iload hx hb dX5_start_51 (lv_at hl 0 rfl) ?_
              refine xu_i (x := iI (who f1 (k : Int))) (rV (rest := []) hx hb hml hown hts hK hl (c_X5_isIn l g a f1 f2 f3 f1 f5 f6 l7 f8 f9 f10 f11 f12 f13 f20 f21 f22 f23 f24 f25 (k : Int) (show Inv f1 from hI8) (show IR (k : Int) from ⟨by omega, by omega⟩)) lk_X5_87 hP (va_recv hK.1 hP (ci := 5) (q0 := 0) rfl rfl) rfl rfl rfl (Rm.of rfl) rfl rfl dX5_start_53) ?_
              refine lv_iload_n hx hb dX5_start_56 rfl (lv_at hl 4 rfl) ?_
              refine xi_c_eq (tgt := 63) hx hb ⟨by omega, by omega⟩ ⟨by omega, by omega⟩ dX5_start_57 (by decide) (fun z27 => ?_) (fun z27 => ?_)
              · have hIu := hI.cellw (r := r) (c := (k : Int)) (by omega) (by omega) (by omega) (by omega)
                have hsb := goneN_b hIu (r := r) (n := n) (by omega) (by rw [up_n (by omega)]; omega) (by omega) (by rw [up_n (by omega)]; omega)
                have hv9 : srV f1 r n k = goneN (up f1 (61 + 5 * r + 1) (k : Int)) r n := by unfold srV; rw [if_pos (by omega)]
                refine lv_aload_n hx hb dX5_start_63 rfl (lv_at hl 3 rfl) ?_
                refine xg_X5 hx hb hts hown hK hP 0 rfl 0 (by decide) fk_X5_7 (v := .ref (a 1)) rfl dX5_start_64 ?_
                refine lv_iload_n hx hb dX5_start_67 rfl (lv_at hl 4 rfl) ?_
                refine lv_iconst (v := iI (1)) hx hb dX5_start_68 (by decide) ?_
                refine xu_i (x := iI (61 + 5 * r + 1)) (rS (rest := [.ref (a 1)]) hx hb hml hown hts hK hl (c_X5_spot l g r 1 ) lk_X5_59 trivial rfl rfl rfl (Rm.of rfl) rfl rfl dX5_start_69) ?_
                refine lv_iload hx hb dX5_start_72 (lv_at hl 0 rfl) ?_
                refine xi_ast hx hb hK hP hD hS 1 (f := f1) rfl (i := 61 + 5 * r + 1) (v := (k : Int)) ⟨by omega, by omega⟩ rfl dX5_start_74 (fun H locs hP hD hS => ?_)
                have hP : va_P g.1 vwCl (wM g a (up f1 (61 + 5 * r + 1) (k : Int)) f2 f3 f1 f5 f6 l7 f8 f9 f10 f11 f12 f13 f20 f21 f22 f23 f24 f25) H := hP
                have hD : va_D (va_A (wM g a f1 f2 f3 f4 f5 f6 f7 f8 f9 f10 f11 f12 f13 f20 f21 f22 f23 f24 f25) s.heap.size) (wM g a (up f1 (61 + 5 * r + 1) (k : Int)) f2 f3 f1 f5 f6 l7 f8 f9 f10 f11 f12 f13 f20 f21 f22 f23 f24 f25) := hD
                refine lv_aload_n hx hb dX5_start_75 rfl (lv_at hl 3 rfl) ?_
                refine lv_aload_n hx hb dX5_start_76 rfl (lv_at hl 3 rfl) ?_
                refine lv_iload_n hx hb dX5_start_77 rfl (lv_at hl 4 rfl) ?_
                refine lv_iload_n hx hb dX5_start_78 rfl (lv_at hl 5 rfl) ?_
                refine xm_i (rV (rest := [.ref (a 0)]) hx hb hml hown hts hK hl (c_X5_goneOn l g a (up f1 (61 + 5 * r + 1) (k : Int)) f2 f3 f1 f5 f6 l7 f8 f9 f10 f11 f12 f13 f20 f21 f22 f23 f24 f25 r n H.size (show InvK 0 (up f1 (61 + 5 * r + 1) (k : Int)) from hIu) (show 0 ≤ n ∧ (up f1 (61 + 5 * r + 1) (k : Int)) 0 + n ≤ 20000 from ⟨by omega, by rw [up_n (by omega)]; omega⟩) (show 0 ≤ r ∧ r < (up f1 (61 + 5 * r + 1) (k : Int)) 1 from ⟨by omega, by rw [up_n (by omega)]; omega⟩)) lk_X5_195 ⟨rfl, hP, hD.weaken (fun _ _ _ _ => trivial)⟩ (va_recv hK.1 hP (ci := 5) (q0 := 0) rfl rfl) rfl rfl rfl (Rm.of rfl) rfl rfl dX5_start_79) hD hS hA (fun x9 u29 H locs hw hP hD hS => ?_)
                obtain rfl : x9 = iI (goneN (up f1 (61 + 5 * r + 1) (k : Int)) r n) := hw
                have hP : va_P g.1 vwCl (wM g a (seaN (up f1 (61 + 5 * r + 1) (k : Int)) (Int.toNat n)) f2 f3 f1 f5 f6 (u29 7) f8 f9 f10 f11 f12 f13 f20 f21 f22 f23 f24 f25) H := hP
                have hD : va_D (va_A (wM g a f1 f2 f3 f4 f5 f6 f7 f8 f9 f10 f11 f12 f13 f20 f21 f22 f23 f24 f25) s.heap.size) (wM g a (seaN (up f1 (61 + 5 * r + 1) (k : Int)) (Int.toNat n)) f2 f3 f1 f5 f6 (u29 7) f8 f9 f10 f11 f12 f13 f20 f21 f22 f23 f24 f25) := hD
                refine xm_i (rV (rest := []) hx hb hml hown hts hK hl (c_X5_takesBack l g a (seaN (up f1 (61 + 5 * r + 1) (k : Int)) (Int.toNat n)) f2 f3 f1 f5 f6 (u29 7) f8 f9 f10 f11 f12 f13 f20 f21 f22 f23 f24 f25 (iI (goneN (up f1 (61 + 5 * r + 1) (k : Int)) r n)) H.size ) lk_X5_175 ⟨rfl, hP, hD.weaken (fun _ _ _ _ => trivial)⟩ (va_recv hK.1 hP (ci := 5) (q0 := 0) rfl rfl) rfl rfl rfl (Rm.of rfl) rfl rfl dX5_start_82) hD hS hA (fun x9 _ H locs hw hP hD hS => ?_)
                obtain rfl : x9 = (iI (goneN (up f1 (61 + 5 * r + 1) (k : Int)) r n)) := hw
                have hP : va_P g.1 vwCl (wM g a f1 f2 f3 f1 f5 f6 (u29 7) f8 f9 f10 f11 f12 f13 f20 f21 f22 f23 f24 f25) H := hP
                have hD : va_D (va_A (wM g a f1 f2 f3 f4 f5 f6 f7 f8 f9 f10 f11 f12 f13 f20 f21 f22 f23 f24 f25) s.heap.size) (wM g a f1 f2 f3 f1 f5 f6 (u29 7) f8 f9 f10 f11 f12 f13 f20 f21 f22 f23 f24 f25) := hD
                refine lv_istore (lv' := [(6, .int (iI (goneN (up f1 (61 + 5 * r + 1) (k : Int)) r n))), (5, .int (iI (k : Int))), (4, .int (iI ((bmT (srV f1 r n) (fun k => (k : Int)) k).2))), (3, .int (iI ((bmT (srV f1 r n) (fun k => (k : Int)) k).1))), (0, .ref (a 0)), (1, .int (iI r)), (2, .int (iI n))]) hx hb dX5_start_85 hl (by decide) rfl (fun ls hl => ?_)
                refine lv_iload hx hb dX5_start_87 (lv_at hl 0 rfl) ?_
                refine lv_iload hx hb dX5_start_89 (lv_at hl 2 rfl) ?_
                refine xi_c_le (tgt := 99) hx hb ⟨by omega, by omega⟩ ⟨by omega, by omega⟩ dX5_start_91 (by decide) (fun z31 => ?_) (fun z31 => ?_)
                · refine lv_iload_n hx hb dX5_start_99 rfl (lv_at hl 3 rfl) ?_
                  refine lv_istore_n (lv' := [(3, .int (iI ((bmT (srV f1 r n) (fun k => (k : Int)) k).1))), (6, .int (iI (goneN (up f1 (61 + 5 * r + 1) (k : Int)) r n))), (5, .int (iI (k : Int))), (4, .int (iI ((bmT (srV f1 r n) (fun k => (k : Int)) k).2))), (0, .ref (a 0)), (1, .int (iI r)), (2, .int (iI n))]) hx hb dX5_start_100 rfl hl (by decide) rfl (fun ls hl => ?_)
                  refine lv_iload hx hb dX5_start_101 (lv_at hl 1 rfl) ?_
                  refine lv_iload hx hb dX5_start_103 (lv_at hl 3 rfl) ?_
                  refine xi_c_le (tgt := 113) hx hb ⟨by omega, by omega⟩ ⟨by omega, by omega⟩ dX5_start_105 (by decide) (fun z32 => ?_) (fun z32 => ?_)
                  · refine lv_iload hx hb dX5_start_113 (lv_at hl 3 rfl) ?_
                    refine lv_istore (lv' := [(4, .int (iI ((bmT (srV f1 r n) (fun k => (k : Int)) k).2))), (3, .int (iI ((bmT (srV f1 r n) (fun k => (k : Int)) k).1))), (6, .int (iI (goneN (up f1 (61 + 5 * r + 1) (k : Int)) r n))), (5, .int (iI (k : Int))), (0, .ref (a 0)), (1, .int (iI r)), (2, .int (iI n))]) hx hb dX5_start_115 hl (by decide) rfl (fun ls hl => ?_)
                    refine xi_inc (lv' := [(5, .int (iI ((k : Int) + 1))), (4, .int (iI ((bmT (srV f1 r n) (fun k => (k : Int)) k).2))), (3, .int (iI ((bmT (srV f1 r n) (fun k => (k : Int)) k).1))), (6, .int (iI (goneN (up f1 (61 + 5 * r + 1) (k : Int)) r n))), (0, .ref (a 0)), (1, .int (iI r)), (2, .int (iI n))]) hx hb dX5_start_117 hl (k := 3) rfl (by decide) rfl (fun ls hl => ?_)
                    refine lv_goto (tgt := 34) hx hb dX5_start_120 (by decide) ?_
                    have hq33 : ((k : Int) + 1) = ((k + 1) : Int) := by omega
                    have hq34 : ((bmT (srV f1 r n) (fun k => (k : Int)) k).2) = ((bmT (srV f1 r n) (fun k => (k : Int)) (k + 1)).2) := by simp only [bmT]; first | (rw [if_pos (by omega)]; done) | (rw [if_pos (by omega)]; dsimp only; omega) | (rw [if_neg (by omega)]; done) | (exfalso; omega)
                    have hq35 : ((bmT (srV f1 r n) (fun k => (k : Int)) k).1) = ((bmT (srV f1 r n) (fun k => (k : Int)) (k + 1)).1) := by simp only [bmT]; first | (rw [if_pos (by omega)]; done) | (rw [if_pos (by omega)]; dsimp only; omega) | (rw [if_neg (by omega)]; done) | (exfalso; omega)
                    have hl : lv_has ls 7 [(5, .int (iI ((k : Int) + 1))), (4, .int (iI ((bmT (srV f1 r n) (fun k => (k : Int)) k).2))), (3, .int (iI ((bmT (srV f1 r n) (fun k => (k : Int)) k).1))), (0, .ref (a 0)), (1, .int (iI r)), (2, .int (iI n))] := lv_sub hl [0, 1, 2, 4, 5, 6] rfl
                    have hl := Eq.mp (congrArg (fun z9 => lv_has ls 7 [(5, .int (iI z9)), (4, .int (iI ((bmT (srV f1 r n) (fun k => (k : Int)) k).2))), (3, .int (iI ((bmT (srV f1 r n) (fun k => (k : Int)) k).1))), (0, .ref (a 0)), (1, .int (iI r)), (2, .int (iI n))]) hq33) hl
                    have hl := Eq.mp (congrArg (fun z9 => lv_has ls 7 [(5, .int (iI ((k + 1) : Int))), (4, .int (iI z9)), (3, .int (iI ((bmT (srV f1 r n) (fun k => (k : Int)) k).1))), (0, .ref (a 0)), (1, .int (iI r)), (2, .int (iI n))]) hq34) hl
                    have hl := Eq.mp (congrArg (fun z9 => lv_has ls 7 [(5, .int (iI ((k + 1) : Int))), (4, .int (iI ((bmT (srV f1 r n) (fun k => (k : Int)) (k + 1)).2))), (3, .int (iI z9)), (0, .ref (a 0)), (1, .int (iI r)), (2, .int (iI n))]) hq35) hl
                    exact ih34 (k + 1) (u29 7) (by omega) (by omega) ls hl H locs hP hD hS
                  · refine lv_iload hx hb dX5_start_108 (lv_at hl 1 rfl) ?_
                    refine lv_goto (tgt := 115) hx hb dX5_start_110 (by decide) ?_
                    refine lv_istore (lv' := [(4, .int (iI (goneN (up f1 (61 + 5 * r + 1) (k : Int)) r n))), (3, .int (iI ((bmT (srV f1 r n) (fun k => (k : Int)) k).1))), (6, .int (iI (goneN (up f1 (61 + 5 * r + 1) (k : Int)) r n))), (5, .int (iI (k : Int))), (0, .ref (a 0)), (1, .int (iI r)), (2, .int (iI n))]) hx hb dX5_start_115 hl (by decide) rfl (fun ls hl => ?_)
                    refine xi_inc (lv' := [(5, .int (iI ((k : Int) + 1))), (4, .int (iI (goneN (up f1 (61 + 5 * r + 1) (k : Int)) r n))), (3, .int (iI ((bmT (srV f1 r n) (fun k => (k : Int)) k).1))), (6, .int (iI (goneN (up f1 (61 + 5 * r + 1) (k : Int)) r n))), (0, .ref (a 0)), (1, .int (iI r)), (2, .int (iI n))]) hx hb dX5_start_117 hl (k := 3) rfl (by decide) rfl (fun ls hl => ?_)
                    refine lv_goto (tgt := 34) hx hb dX5_start_120 (by decide) ?_
                    have hq36 : ((k : Int) + 1) = ((k + 1) : Int) := by omega
                    have hq37 : (goneN (up f1 (61 + 5 * r + 1) (k : Int)) r n) = ((bmT (srV f1 r n) (fun k => (k : Int)) (k + 1)).2) := by simp only [bmT]; first | (rw [if_pos (by omega)]; done) | (rw [if_pos (by omega)]; dsimp only; omega) | (rw [if_neg (by omega)]; done) | (exfalso; omega)
                    have hq38 : ((bmT (srV f1 r n) (fun k => (k : Int)) k).1) = ((bmT (srV f1 r n) (fun k => (k : Int)) (k + 1)).1) := by simp only [bmT]; first | (rw [if_pos (by omega)]; done) | (rw [if_pos (by omega)]; dsimp only; omega) | (rw [if_neg (by omega)]; done) | (exfalso; omega)
                    have hl : lv_has ls 7 [(5, .int (iI ((k : Int) + 1))), (4, .int (iI (goneN (up f1 (61 + 5 * r + 1) (k : Int)) r n))), (3, .int (iI ((bmT (srV f1 r n) (fun k => (k : Int)) k).1))), (0, .ref (a 0)), (1, .int (iI r)), (2, .int (iI n))] := lv_sub hl [0, 1, 2, 4, 5, 6] rfl
                    have hl := Eq.mp (congrArg (fun z9 => lv_has ls 7 [(5, .int (iI z9)), (4, .int (iI (goneN (up f1 (61 + 5 * r + 1) (k : Int)) r n))), (3, .int (iI ((bmT (srV f1 r n) (fun k => (k : Int)) k).1))), (0, .ref (a 0)), (1, .int (iI r)), (2, .int (iI n))]) hq36) hl
                    have hl := Eq.mp (congrArg (fun z9 => lv_has ls 7 [(5, .int (iI ((k + 1) : Int))), (4, .int (iI z9)), (3, .int (iI ((bmT (srV f1 r n) (fun k => (k : Int)) k).1))), (0, .ref (a 0)), (1, .int (iI r)), (2, .int (iI n))]) hq37) hl
                    have hl := Eq.mp (congrArg (fun z9 => lv_has ls 7 [(5, .int (iI ((k + 1) : Int))), (4, .int (iI ((bmT (srV f1 r n) (fun k => (k : Int)) (k + 1)).2))), (3, .int (iI z9)), (0, .ref (a 0)), (1, .int (iI r)), (2, .int (iI n))]) hq38) hl
                    exact ih34 (k + 1) (u29 7) (by omega) (by omega) ls hl H locs hP hD hS
                · refine lv_iload hx hb dX5_start_94 (lv_at hl 1 rfl) ?_
                  refine lv_goto (tgt := 100) hx hb dX5_start_96 (by decide) ?_
                  refine lv_istore_n (lv' := [(3, .int (iI (k : Int))), (6, .int (iI (goneN (up f1 (61 + 5 * r + 1) (k : Int)) r n))), (5, .int (iI (k : Int))), (4, .int (iI ((bmT (srV f1 r n) (fun k => (k : Int)) k).2))), (0, .ref (a 0)), (1, .int (iI r)), (2, .int (iI n))]) hx hb dX5_start_100 rfl hl (by decide) rfl (fun ls hl => ?_)
                  refine lv_iload hx hb dX5_start_101 (lv_at hl 1 rfl) ?_
                  refine lv_iload hx hb dX5_start_103 (lv_at hl 3 rfl) ?_
                  refine xi_c_le (tgt := 113) hx hb ⟨by omega, by omega⟩ ⟨by omega, by omega⟩ dX5_start_105 (by decide) (fun z39 => ?_) (fun z39 => ?_)
                  · refine lv_iload hx hb dX5_start_113 (lv_at hl 3 rfl) ?_
                    refine lv_istore (lv' := [(4, .int (iI ((bmT (srV f1 r n) (fun k => (k : Int)) k).2))), (3, .int (iI (k : Int))), (6, .int (iI (goneN (up f1 (61 + 5 * r + 1) (k : Int)) r n))), (5, .int (iI (k : Int))), (0, .ref (a 0)), (1, .int (iI r)), (2, .int (iI n))]) hx hb dX5_start_115 hl (by decide) rfl (fun ls hl => ?_)
                    refine xi_inc (lv' := [(5, .int (iI ((k : Int) + 1))), (4, .int (iI ((bmT (srV f1 r n) (fun k => (k : Int)) k).2))), (3, .int (iI (k : Int))), (6, .int (iI (goneN (up f1 (61 + 5 * r + 1) (k : Int)) r n))), (0, .ref (a 0)), (1, .int (iI r)), (2, .int (iI n))]) hx hb dX5_start_117 hl (k := 3) rfl (by decide) rfl (fun ls hl => ?_)
                    refine lv_goto (tgt := 34) hx hb dX5_start_120 (by decide) ?_
                    have hq40 : ((k : Int) + 1) = ((k + 1) : Int) := by omega
                    have hq41 : ((bmT (srV f1 r n) (fun k => (k : Int)) k).2) = ((bmT (srV f1 r n) (fun k => (k : Int)) (k + 1)).2) := by simp only [bmT]; first | (rw [if_pos (by omega)]; done) | (rw [if_pos (by omega)]; dsimp only; omega) | (rw [if_neg (by omega)]; done) | (exfalso; omega)
                    have hq42 : (k : Int) = ((bmT (srV f1 r n) (fun k => (k : Int)) (k + 1)).1) := by simp only [bmT]; first | (rw [if_pos (by omega)]; done) | (rw [if_pos (by omega)]; dsimp only; omega) | (rw [if_neg (by omega)]; done) | (exfalso; omega)
                    have hl : lv_has ls 7 [(5, .int (iI ((k : Int) + 1))), (4, .int (iI ((bmT (srV f1 r n) (fun k => (k : Int)) k).2))), (3, .int (iI (k : Int))), (0, .ref (a 0)), (1, .int (iI r)), (2, .int (iI n))] := lv_sub hl [0, 1, 2, 4, 5, 6] rfl
                    have hl := Eq.mp (congrArg (fun z9 => lv_has ls 7 [(5, .int (iI z9)), (4, .int (iI ((bmT (srV f1 r n) (fun k => (k : Int)) k).2))), (3, .int (iI (k : Int))), (0, .ref (a 0)), (1, .int (iI r)), (2, .int (iI n))]) hq40) hl
                    have hl := Eq.mp (congrArg (fun z9 => lv_has ls 7 [(5, .int (iI ((k + 1) : Int))), (4, .int (iI z9)), (3, .int (iI (k : Int))), (0, .ref (a 0)), (1, .int (iI r)), (2, .int (iI n))]) hq41) hl
                    have hl := Eq.mp (congrArg (fun z9 => lv_has ls 7 [(5, .int (iI ((k + 1) : Int))), (4, .int (iI ((bmT (srV f1 r n) (fun k => (k : Int)) (k + 1)).2))), (3, .int (iI z9)), (0, .ref (a 0)), (1, .int (iI r)), (2, .int (iI n))]) hq42) hl
                    exact ih34 (k + 1) (u29 7) (by omega) (by omega) ls hl H locs hP hD hS
                  · refine lv_iload hx hb dX5_start_108 (lv_at hl 1 rfl) ?_
                    refine lv_goto (tgt := 115) hx hb dX5_start_110 (by decide) ?_
                    refine lv_istore (lv' := [(4, .int (iI (goneN (up f1 (61 + 5 * r + 1) (k : Int)) r n))), (3, .int (iI (k : Int))), (6, .int (iI (goneN (up f1 (61 + 5 * r + 1) (k : Int)) r n))), (5, .int (iI (k : Int))), (0, .ref (a 0)), (1, .int (iI r)), (2, .int (iI n))]) hx hb dX5_start_115 hl (by decide) rfl (fun ls hl => ?_)
                    refine xi_inc (lv' := [(5, .int (iI ((k : Int) + 1))), (4, .int (iI (goneN (up f1 (61 + 5 * r + 1) (k : Int)) r n))), (3, .int (iI (k : Int))), (6, .int (iI (goneN (up f1 (61 + 5 * r + 1) (k : Int)) r n))), (0, .ref (a 0)), (1, .int (iI r)), (2, .int (iI n))]) hx hb dX5_start_117 hl (k := 3) rfl (by decide) rfl (fun ls hl => ?_)
                    refine lv_goto (tgt := 34) hx hb dX5_start_120 (by decide) ?_
                    have hq43 : ((k : Int) + 1) = ((k + 1) : Int) := by omega
                    have hq44 : (goneN (up f1 (61 + 5 * r + 1) (k : Int)) r n) = ((bmT (srV f1 r n) (fun k => (k : Int)) (k + 1)).2) := by simp only [bmT]; first | (rw [if_pos (by omega)]; done) | (rw [if_pos (by omega)]; dsimp only; omega) | (rw [if_neg (by omega)]; done) | (exfalso; omega)
                    have hq45 : (k : Int) = ((bmT (srV f1 r n) (fun k => (k : Int)) (k + 1)).1) := by simp only [bmT]; first | (rw [if_pos (by omega)]; done) | (rw [if_pos (by omega)]; dsimp only; omega) | (rw [if_neg (by omega)]; done) | (exfalso; omega)
                    have hl : lv_has ls 7 [(5, .int (iI ((k : Int) + 1))), (4, .int (iI (goneN (up f1 (61 + 5 * r + 1) (k : Int)) r n))), (3, .int (iI (k : Int))), (0, .ref (a 0)), (1, .int (iI r)), (2, .int (iI n))] := lv_sub hl [0, 1, 2, 4, 5, 6] rfl
                    have hl := Eq.mp (congrArg (fun z9 => lv_has ls 7 [(5, .int (iI z9)), (4, .int (iI (goneN (up f1 (61 + 5 * r + 1) (k : Int)) r n))), (3, .int (iI (k : Int))), (0, .ref (a 0)), (1, .int (iI r)), (2, .int (iI n))]) hq43) hl
                    have hl := Eq.mp (congrArg (fun z9 => lv_has ls 7 [(5, .int (iI ((k + 1) : Int))), (4, .int (iI z9)), (3, .int (iI (k : Int))), (0, .ref (a 0)), (1, .int (iI r)), (2, .int (iI n))]) hq44) hl
                    have hl := Eq.mp (congrArg (fun z9 => lv_has ls 7 [(5, .int (iI ((k + 1) : Int))), (4, .int (iI ((bmT (srV f1 r n) (fun k => (k : Int)) (k + 1)).2))), (3, .int (iI z9)), (0, .ref (a 0)), (1, .int (iI r)), (2, .int (iI n))]) hq45) hl
                    exact ih34 (k + 1) (u29 7) (by omega) (by omega) ls hl H locs hP hD hS
              · have hv9 : srV f1 r n k = -1 := by unfold srV; rw [if_neg (by omega)]
                refine lv_goto (tgt := 117) hx hb dX5_start_60 (by decide) ?_
                refine xi_inc (lv' := [(5, .int (iI ((k : Int) + 1))), (4, .int (iI ((bmT (srV f1 r n) (fun k => (k : Int)) k).2))), (3, .int (iI ((bmT (srV f1 r n) (fun k => (k : Int)) k).1))), (0, .ref (a 0)), (1, .int (iI r)), (2, .int (iI n))]) hx hb dX5_start_117 hl (k := 0) rfl (by decide) rfl (fun ls hl => ?_)
                refine lv_goto (tgt := 34) hx hb dX5_start_120 (by decide) ?_
                have hq46 : ((k : Int) + 1) = ((k + 1) : Int) := by omega
                have hq47 : ((bmT (srV f1 r n) (fun k => (k : Int)) k).2) = ((bmT (srV f1 r n) (fun k => (k : Int)) (k + 1)).2) := by simp only [bmT]; first | (rw [if_pos (by omega)]; done) | (rw [if_pos (by omega)]; dsimp only; omega) | (rw [if_neg (by omega)]; done) | (exfalso; omega)
                have hq48 : ((bmT (srV f1 r n) (fun k => (k : Int)) k).1) = ((bmT (srV f1 r n) (fun k => (k : Int)) (k + 1)).1) := by simp only [bmT]; first | (rw [if_pos (by omega)]; done) | (rw [if_pos (by omega)]; dsimp only; omega) | (rw [if_neg (by omega)]; done) | (exfalso; omega)
                have hl : lv_has ls 7 [(5, .int (iI ((k : Int) + 1))), (4, .int (iI ((bmT (srV f1 r n) (fun k => (k : Int)) k).2))), (3, .int (iI ((bmT (srV f1 r n) (fun k => (k : Int)) k).1))), (0, .ref (a 0)), (1, .int (iI r)), (2, .int (iI n))] := lv_sub hl [0, 1, 2, 3, 4, 5] rfl
                have hl := Eq.mp (congrArg (fun z9 => lv_has ls 7 [(5, .int (iI z9)), (4, .int (iI ((bmT (srV f1 r n) (fun k => (k : Int)) k).2))), (3, .int (iI ((bmT (srV f1 r n) (fun k => (k : Int)) k).1))), (0, .ref (a 0)), (1, .int (iI r)), (2, .int (iI n))]) hq46) hl
                have hl := Eq.mp (congrArg (fun z9 => lv_has ls 7 [(5, .int (iI ((k + 1) : Int))), (4, .int (iI z9)), (3, .int (iI ((bmT (srV f1 r n) (fun k => (k : Int)) k).1))), (0, .ref (a 0)), (1, .int (iI r)), (2, .int (iI n))]) hq47) hl
                have hl := Eq.mp (congrArg (fun z9 => lv_has ls 7 [(5, .int (iI ((k + 1) : Int))), (4, .int (iI ((bmT (srV f1 r n) (fun k => (k : Int)) (k + 1)).2))), (3, .int (iI z9)), (0, .ref (a 0)), (1, .int (iI r)), (2, .int (iI n))]) hq48) hl
                exact ih34 (k + 1) l7 (by omega) (by omega) ls hl H locs hP hD hS
      have hq49 : 0 = (0 : Int) := rfl
      have hq50 : (-1) = ((bmT (srV f1 r n) (fun k => (k : Int)) 0).2) := rfl
      have hq51 : 0 = ((bmT (srV f1 r n) (fun k => (k : Int)) 0).1) := rfl
      have hl : lv_has ls 7 [(5, .int (iI 0)), (4, .int (iI (-1))), (3, .int (iI 0)), (0, .ref (a 0)), (1, .int (iI r)), (2, .int (iI n))] := lv_sub hl [0, 1, 2, 3, 4, 5] rfl
      have hl := Eq.mp (congrArg (fun z9 => lv_has ls 7 [(5, .int (iI z9)), (4, .int (iI (-1))), (3, .int (iI 0)), (0, .ref (a 0)), (1, .int (iI r)), (2, .int (iI n))]) hq49) hl
      have hl := Eq.mp (congrArg (fun z9 => lv_has ls 7 [(5, .int (iI (0 : Int))), (4, .int (iI z9)), (3, .int (iI 0)), (0, .ref (a 0)), (1, .int (iI r)), (2, .int (iI n))]) hq50) hl
      have hl := Eq.mp (congrArg (fun z9 => lv_has ls 7 [(5, .int (iI (0 : Int))), (4, .int (iI ((bmT (srV f1 r n) (fun k => (k : Int)) 0).2))), (3, .int (iI z9)), (0, .ref (a 0)), (1, .int (iI r)), (2, .int (iI n))]) hq51) hl
      exact lp34 (24 + 1) 0 f7 (by omega) (by omega) ls hl H locs hP hD hS
    · refine xi_zf_ne hx hb ⟨by decide, by decide⟩ (by decide) dX5_start_12 ⟨22, by decide⟩ ?_
      refine lv_aload_n hx hb dX5_start_15 rfl (lv_at hl 0 rfl) ?_
      refine xi_ldc hx hb hown hts kk_X5_50 dX5_start_16 ?_
      refine xm_i (rV (rest := []) hx hb hml hown hts hK hl (c_X5_finds l g a f1 f2 f3 f4 f5 f6 f7 f8 f9 f10 f11 f12 f13 f20 f21 f22 f23 f24 f25 (-1000000001) (s.heap).size (show 0 ≤ -1000000001 - (-1000000001) ∧ -1000000001 - (-1000000001) < 7 from by omega)) lk_X5_74 ⟨rfl, hP, hD.weaken (fun _ _ _ _ => trivial)⟩ (va_recv hK.1 hP (ci := 5) (q0 := 0) rfl rfl) rfl rfl rfl (Rm.of rfl) rfl rfl dX5_start_18) hD hS hA (fun x9 _ H locs hw hP hD hS => ?_)
      obtain rfl : x9 = iI (-1000000001) := hw
      have hP : va_P g.1 vwCl (wM g a f1 f2 f3 f4 f5 (fb (-1000000000 - (-1000000001)) f6) f7 f8 f9 f10 f11 f12 f13 f20 f21 f22 f23 f24 f25) H := hP
      have hD : va_D (va_A (wM g a f1 f2 f3 f4 f5 f6 f7 f8 f9 f10 f11 f12 f13 f20 f21 f22 f23 f24 f25) s.heap.size) (wM g a f1 f2 f3 f4 f5 (fb (-1000000000 - (-1000000001)) f6) f7 f8 f9 f10 f11 f12 f13 f20 f21 f22 f23 f24 f25) := hD
      have hf : fStart f1 r n = 1 := by unfold fStart; (repeat (first | rw [if_pos (by omega)] | rw [if_neg (by omega)])); first | done | (exfalso; omega)
      have he53 : (fb (-1000000000 - (-1000000001)) f6) = (fb (fStart f1 r n) f6) := by rw [hf]; rfl
      have hP := Eq.mp (congrArg (fun z9 => va_P g.1 vwCl (wM g a f1 f2 f3 f4 f5 z9 f7 f8 f9 f10 f11 f12 f13 f20 f21 f22 f23 f24 f25) H) he53) hP
      have hD := Eq.mp (congrArg (fun z9 => va_D (va_A (wM g a f1 f2 f3 f4 f5 f6 f7 f8 f9 f10 f11 f12 f13 f20 f21 f22 f23 f24 f25) s.heap.size) (wM g a f1 f2 f3 f4 f5 z9 f7 f8 f9 f10 f11 f12 f13 f20 f21 f22 f23 f24 f25)) he53) hD
      have hP : va_P g.1 vwCl (wM g a f1 f2 f3 ((su (su (fun _ _ => 0) 4 f4) 7 f7) 4) f5 (fb (fStart f1 r n) f6) ((su (su (fun _ _ => 0) 4 f4) 7 f7) 7) f8 f9 f10 f11 f12 f13 f20 f21 f22 f23 f24 f25) H := hP
      have hD : va_D (va_A (wM g a f1 f2 f3 f4 f5 f6 f7 f8 f9 f10 f11 f12 f13 f20 f21 f22 f23 f24 f25) s.heap.size) (wM g a f1 f2 f3 ((su (su (fun _ _ => 0) 4 f4) 7 f7) 4) f5 (fb (fStart f1 r n) f6) ((su (su (fun _ _ => 0) 4 f4) 7 f7) 7) f8 f9 f10 f11 f12 f13 f20 f21 f22 f23 f24 f25) := hD
      exact W.iret hx hb hr (fun t ht hW => ⟨⟨_, (su (su (fun _ _ => 0) 4 f4) 7 f7), rfl, by rw [hf]; rfl, by rw [ht]; exact hP, hD⟩, hS.F ht⟩) hS.2.2 dX5_start_21
  · refine xi_zt_eq (tgt := 15) hx hb ⟨by decide, by decide⟩ (by decide) dX5_start_5 (by decide) ?_
    refine lv_aload_n hx hb dX5_start_15 rfl (lv_at hl 0 rfl) ?_
    refine xi_ldc hx hb hown hts kk_X5_50 dX5_start_16 ?_
    refine xm_i (rV (rest := []) hx hb hml hown hts hK hl (c_X5_finds l g a f1 f2 f3 f4 f5 f6 f7 f8 f9 f10 f11 f12 f13 f20 f21 f22 f23 f24 f25 (-1000000001) (s.heap).size (show 0 ≤ -1000000001 - (-1000000001) ∧ -1000000001 - (-1000000001) < 7 from by omega)) lk_X5_74 ⟨rfl, hP, hD.weaken (fun _ _ _ _ => trivial)⟩ (va_recv hK.1 hP (ci := 5) (q0 := 0) rfl rfl) rfl rfl rfl (Rm.of rfl) rfl rfl dX5_start_18) hD hS hA (fun x9 _ H locs hw hP hD hS => ?_)
    obtain rfl : x9 = iI (-1000000001) := hw
    have hP : va_P g.1 vwCl (wM g a f1 f2 f3 f4 f5 (fb (-1000000000 - (-1000000001)) f6) f7 f8 f9 f10 f11 f12 f13 f20 f21 f22 f23 f24 f25) H := hP
    have hD : va_D (va_A (wM g a f1 f2 f3 f4 f5 f6 f7 f8 f9 f10 f11 f12 f13 f20 f21 f22 f23 f24 f25) s.heap.size) (wM g a f1 f2 f3 f4 f5 (fb (-1000000000 - (-1000000001)) f6) f7 f8 f9 f10 f11 f12 f13 f20 f21 f22 f23 f24 f25) := hD
    have hf : fStart f1 r n = 1 := by unfold fStart; (repeat (first | rw [if_pos (by omega)] | rw [if_neg (by omega)])); first | done | (exfalso; omega)
    have he55 : (fb (-1000000000 - (-1000000001)) f6) = (fb (fStart f1 r n) f6) := by rw [hf]; rfl
    have hP := Eq.mp (congrArg (fun z9 => va_P g.1 vwCl (wM g a f1 f2 f3 f4 f5 z9 f7 f8 f9 f10 f11 f12 f13 f20 f21 f22 f23 f24 f25) H) he55) hP
    have hD := Eq.mp (congrArg (fun z9 => va_D (va_A (wM g a f1 f2 f3 f4 f5 f6 f7 f8 f9 f10 f11 f12 f13 f20 f21 f22 f23 f24 f25) s.heap.size) (wM g a f1 f2 f3 f4 f5 z9 f7 f8 f9 f10 f11 f12 f13 f20 f21 f22 f23 f24 f25)) he55) hD
    have hP : va_P g.1 vwCl (wM g a f1 f2 f3 ((su (su (fun _ _ => 0) 4 f4) 7 f7) 4) f5 (fb (fStart f1 r n) f6) ((su (su (fun _ _ => 0) 4 f4) 7 f7) 7) f8 f9 f10 f11 f12 f13 f20 f21 f22 f23 f24 f25) H := hP
    have hD : va_D (va_A (wM g a f1 f2 f3 f4 f5 f6 f7 f8 f9 f10 f11 f12 f13 f20 f21 f22 f23 f24 f25) s.heap.size) (wM g a f1 f2 f3 ((su (su (fun _ _ => 0) 4 f4) 7 f7) 4) f5 (fb (fStart f1 r n) f6) ((su (su (fun _ _ => 0) 4 f4) 7 f7) 7) f8 f9 f10 f11 f12 f13 f20 f21 f22 f23 f24 f25) := hD
    exact W.iret hx hb hr (fun t ht hW => ⟨⟨_, (su (su (fun _ _ => 0) 4 f4) 7 f7), rfl, by rw [hf]; rfl, by rw [ht]; exact hP, hD⟩, hS.F ht⟩) hS.2.2 dX5_start_21
abbrev rm_X5_kind : Room := { frames := 8, cells := 0, slots := 0, locals := 179 }
set_option maxRecDepth 100000 in
set_option maxHeartbeats 4000000 in
theorem c_X5_kind (l : Launch) (g : Gd) (a : Nat → Nat) (f1 : Int → Int) (f2 : Int → Int) (f3 : Int → Int) (f4 : Int → Int) (f5 : Int → Int) (f6 : Int → Int) (f7 : Int → Int) (f8 : Int → Int) (f9 : Int → Int) (f10 : Int → Int) (f11 : Int → Int) (f12 : Int → Int) (f13 : Int → Int) (f20 : Int) (f21 : Int) (f22 : Int) (f23 : Int) (f24 : Int) (f25 : Int) (r : Int) (n : Int) (sz : Nat) (h1 : InvK 0 f1) (h2 : f1 0 ≤ 9999) (h3 : IR r) (h4 : IR n) : Met l yX5_kind (wsOf yX5_kind cX5_kind 7 (some .int)) rm_X5_kind (PX g (wP g (wM g a f1 f2 f3 f4 f5 f6 f7 f8 f9 f10 f11 f12 f13 f20 f21 f22 f23 f24 f25) sz) [.ref (a 0), .int (iI r), .int (iI n)]) (QMi g (fun u9 : Nat → Int → Int => wM g a f1 f2 f3 (u9 4) f5 (fb (fStart f1 r n) f6) (u9 7) f8 f9 f10 f11 f12 f13 f20 f21 f22 f23 f24 f25) (fun r9 _ => r9 = ab (fStart f1 r n) (iI (bmT (kiV f1 r n) (fun k => (k : Int)) 6).1)) (va_A (wM g a f1 f2 f3 f4 f5 f6 f7 f8 f9 f10 f11 f12 f13 f20 f21 f22 f23 f24 f25) sz)) 0 0 (va_A (wM g a f1 f2 f3 f4 f5 f6 f7 f8 f9 f10 f11 f12 f13 f20 f21 f22 f23 f24 f25) sz) := by
  refine me (g := g) (by decide) rfl ?_
  intro pq eq s mq below meth cq C hnm hB ls hl
  obtain ⟨hx, hb, hr, hml, hown, hts, hlocks, hK⟩ := C
  have hown : s.vm.findClass RX5 = some mq.cls := hown
  have hl : lv_has ls 7 [(0, .ref (a 0)), (1, .int (iI r)), (2, .int (iI n))] := hl
  obtain ⟨hsz, hP, hD0⟩ := hB
  subst hsz
  have hD := hD0.self (sz := s.heap.size)
  have hA : ∀ q : Nat, s.heap.size ≤ q → va_A (wM g a f1 f2 f3 f4 f5 f6 f7 f8 f9 f10 f11 f12 f13 f20 f21 f22 f23 f24 f25) s.heap.size q := fun q h => Or.inr h
  have hS : va_S (va_A (wM g a f1 f2 f3 f4 f5 f6 f7 f8 f9 f10 f11 f12 f13 f20 f21 f22 f23 f24 f25) s.heap.size) s.heap s.heap [] := va_S.rf
  have hI := h1
  have hI8 : Inv f1 := h1.mono (by omega)
  have hn := hI.num
  have hs := hI.sea
  have hv := hI.vil
  have q1 := h3.1
  have q3 := h4.1
  have q2 := h3.2
  have q4 := h4.2
  refine lv_aload_n hx hb dX5_kind_0 rfl (lv_at hl 0 rfl) ?_
  refine lv_iload_n hx hb dX5_kind_1 rfl (lv_at hl 1 rfl) ?_
  refine xu_b (P := 0 ≤ r ∧ r ≤ f1 1 - 1) (rV (rest := []) hx hb hml hown hts hK hl (c_X5_isRange l g a f1 f2 f3 f4 f5 f6 f7 f8 f9 f10 f11 f12 f13 f20 f21 f22 f23 f24 f25 r (show IR r from ⟨by omega, by omega⟩) (show 0 ≤ f1 1 ∧ f1 1 ≤ 8 from by omega)) lk_X5_127 hP (va_recv hK.1 hP (ci := 5) (q0 := 0) rfl rfl) rfl rfl rfl (Rm.of rfl) rfl rfl dX5_kind_2) (fun z1 => ?_) (fun z1 => ?_)
  · refine xi_zf_eq hx hb ⟨by decide, by decide⟩ (by decide) dX5_kind_5 ⟨15, by decide⟩ ?_
    refine lv_iload_n hx hb dX5_kind_8 rfl (lv_at hl 2 rfl) ?_
    refine xu_b (P := 0 ≤ n ∧ n ≤ 40) (rS (rest := []) hx hb hml hown hts hK hl (c_X5_isSome l g n (show IR n from ⟨by omega, by omega⟩)) lk_X5_192 trivial rfl rfl rfl (Rm.of rfl) rfl rfl dX5_kind_9) (fun z2 => ?_) (fun z2 => ?_)
    · refine xi_zt_ne (tgt := 22) hx hb ⟨by decide, by decide⟩ (by decide) dX5_kind_12 (by decide) ?_
      refine lv_aload_n hx hb dX5_kind_22 rfl (lv_at hl 0 rfl) ?_
      refine xm_v (rV (rest := []) hx hb hml hown hts hK hl (c_X5_laysAside l g a f1 f2 f3 f4 f5 f6 f7 f8 f9 f10 f11 f12 f13 f20 f21 f22 f23 f24 f25 (s.heap).size ) lk_X5_172 ⟨rfl, hP, hD.weaken (fun _ _ _ _ => trivial)⟩ (va_recv hK.1 hP (ci := 5) (q0 := 0) rfl rfl) rfl rfl rfl (Rm.of rfl) rfl rfl dX5_kind_23) hD hS hA (fun _ H locs hw hP hD hS => ?_)
      have hP : va_P g.1 vwCl (wM g a f1 f2 f3 f1 f5 f6 f7 f8 f9 f10 f11 f12 f13 f20 f21 f22 f23 f24 f25) H := hP
      have hD : va_D (va_A (wM g a f1 f2 f3 f4 f5 f6 f7 f8 f9 f10 f11 f12 f13 f20 f21 f22 f23 f24 f25) s.heap.size) (wM g a f1 f2 f3 f1 f5 f6 f7 f8 f9 f10 f11 f12 f13 f20 f21 f22 f23 f24 f25) := hD
      refine lv_iconst (v := iI (0)) hx hb dX5_kind_26 (by decide) ?_
      refine lv_istore_n (lv' := [(3, .int (iI 0)), (0, .ref (a 0)), (1, .int (iI r)), (2, .int (iI n))]) hx hb dX5_kind_27 rfl hl (by decide) rfl (fun ls hl => ?_)
      refine lv_iconst (v := iI (-1)) hx hb dX5_kind_28 (by decide) ?_
      refine lv_istore (lv' := [(4, .int (iI (-1))), (3, .int (iI 0)), (0, .ref (a 0)), (1, .int (iI r)), (2, .int (iI n))]) hx hb dX5_kind_29 hl (by decide) rfl (fun ls hl => ?_)
      refine lv_iconst (v := iI (0)) hx hb dX5_kind_31 (by decide) ?_
      refine lv_istore (lv' := [(5, .int (iI 0)), (4, .int (iI (-1))), (3, .int (iI 0)), (0, .ref (a 0)), (1, .int (iI r)), (2, .int (iI n))]) hx hb dX5_kind_32 hl (by decide) rfl (fun ls hl => ?_)
      have lp34 : ∀ (n34 : Nat) (k : Nat) (l7 : Int → Int), (k ≤ 6) → 6 - k < n34 → ∀ ls : Array Slot, lv_has ls 7 [(5, .int (iI (k : Int))), (4, .int (iI ((bmT (kiV f1 r n) (fun k => (k : Int)) k).2))), (3, .int (iI ((bmT (kiV f1 r n) (fun k => (k : Int)) k).1))), (0, .ref (a 0)), (1, .int (iI r)), (2, .int (iI n))] → ∀ (H : Heap) (locs : List Loc), va_P g.1 vwCl (wM g a f1 f2 f3 f1 f5 f6 l7 f8 f9 f10 f11 f12 f13 f20 f21 f22 f23 f24 f25) H → va_D (va_A (wM g a f1 f2 f3 f4 f5 f6 f7 f8 f9 f10 f11 f12 f13 f20 f21 f22 f23 f24 f25) s.heap.size) (wM g a f1 f2 f3 f1 f5 f6 l7 f8 f9 f10 f11 f12 f13 f20 f21 f22 f23 f24 f25) → va_S (va_A (wM g a f1 f2 f3 f4 f5 f6 f7 f8 f9 f10 f11 f12 f13 f20 f21 f22 f23 f24 f25) s.heap.size) s.heap H locs → W pq l eq rm_X5_kind s mq [.ref (a 0), .int (iI r), .int (iI n)].toArray below meth cq H locs 0 0 (MQ below (QMi g (fun u9 : Nat → Int → Int => wM g a f1 f2 f3 (u9 4) f5 (fb (fStart f1 r n) f6) (u9 7) f8 f9 f10 f11 f12 f13 f20 f21 f22 f23 f24 f25) (fun r9 _ => r9 = ab (fStart f1 r n) (iI (bmT (kiV f1 r n) (fun k => (k : Int)) 6).1)) (va_A (wM g a f1 f2 f3 f4 f5 f6 f7 f8 f9 f10 f11 f12 f13 f20 f21 f22 f23 f24 f25) s.heap.size)) [.ref (a 0), .int (iI r), .int (iI n)].toArray s 0 0 (va_A (wM g a f1 f2 f3 f4 f5 f6 f7 f8 f9 f10 f11 f12 f13 f20 f21 f22 f23 f24 f25) s.heap.size)) (F0 mq 34 ls []) := by
        intro n34
        induction n34 with
        | zero => intro k l7 i34_1 hm; exact absurd hm (Nat.not_lt_zero _)
        | succ n34 ih34 =>
          intro k l7 i34_1 hm34 ls hl H locs hP hD hS
          have hmb := bmT_b (v := kiV f1 r n) (key := (fun k => (k : Int))) (M := 21000000) (by omega) k (fun j hj => Int.le_trans (goneN_b (hI.oth (k2 := 0) (r := r) (w := 0) (v := (j : Int)) (by omega) (by omega) (by omega) (by omega) (by omega) ⟨by omega, by omega, by omega, by omega⟩) (by omega) (by rw [up_n (by omega)]; omega) (by omega) (by rw [up_n (by omega)]; omega)).2 (by omega))
          refine lv_iload hx hb dX5_kind_34 (lv_at hl 0 rfl) ?_
          refine lv_iconst (v := iI (5)) hx hb dX5_kind_36 (by decide) ?_
          refine xi_c_gt (tgt := 100) hx hb ⟨by omega, by omega⟩ ⟨by decide, by decide⟩ dX5_kind_37 (by decide) (fun z4 => ?_) (fun z4 => ?_)
          · refine lv_iload_n hx hb dX5_kind_100 rfl (lv_at hl 2 rfl) ?_
            have hf : fStart f1 r n = 0 := by unfold fStart; (repeat (first | rw [if_pos (by omega)] | rw [if_neg (by omega)])); first | done | (exfalso; omega)
            have he5 : f6 = (fb (fStart f1 r n) f6) := by rw [hf]; rfl
            have hP := Eq.mp (congrArg (fun z9 => va_P g.1 vwCl (wM g a f1 f2 f3 f1 f5 z9 l7 f8 f9 f10 f11 f12 f13 f20 f21 f22 f23 f24 f25) H) he5) hP
            have hD := Eq.mp (congrArg (fun z9 => va_D (va_A (wM g a f1 f2 f3 f4 f5 f6 f7 f8 f9 f10 f11 f12 f13 f20 f21 f22 f23 f24 f25) s.heap.size) (wM g a f1 f2 f3 f1 f5 z9 l7 f8 f9 f10 f11 f12 f13 f20 f21 f22 f23 f24 f25)) he5) hD
            have hP : va_P g.1 vwCl (wM g a f1 f2 f3 ((su (su (fun _ _ => 0) 4 f1) 7 l7) 4) f5 (fb (fStart f1 r n) f6) ((su (su (fun _ _ => 0) 4 f1) 7 l7) 7) f8 f9 f10 f11 f12 f13 f20 f21 f22 f23 f24 f25) H := hP
            have hD : va_D (va_A (wM g a f1 f2 f3 f4 f5 f6 f7 f8 f9 f10 f11 f12 f13 f20 f21 f22 f23 f24 f25) s.heap.size) (wM g a f1 f2 f3 ((su (su (fun _ _ => 0) 4 f1) 7 l7) 4) f5 (fb (fStart f1 r n) f6) ((su (su (fun _ _ => 0) 4 f1) 7 l7) 7) f8 f9 f10 f11 f12 f13 f20 f21 f22 f23 f24 f25) := hD
            exact W.iret hx hb hr (fun t ht hW => ⟨⟨_, (su (su (fun _ _ => 0) 4 f1) 7 l7), rfl, by rw [hf, ab_0, show k = 6 by omega], by rw [ht]; exact hP, hD⟩, hS.F ht⟩) hS.2.2 dX5_kind_101
          · have hIu := hI.oth (k2 := 0) (r := r) (w := 0) (v := (k : Int)) (by omega) (by omega) (by omega) (by omega) (by omega) ⟨by omega, by omega, by omega, by omega⟩
            have hsb := goneN_b hIu (r := r) (n := n) (by omega) (by rw [up_n (by omega)]; omega) (by omega) (by rw [up_n (by omega)]; omega)
            have hv9 : kiV f1 r n k = goneN (up f1 (61 + 5 * r + 0) (k : Int)) r n := rfl
            refine lv_aload_n hx hb dX5_kind_40 rfl (lv_at hl 3 rfl) ?_
            refine xg_X5 hx hb hts hown hK hP 0 rfl 0 (by decide) fk_X5_7 (v := .ref (a 1)) rfl dX5_kind_41 ?_
            refine lv_iload_n hx hb dX5_kind_44 rfl (lv_at hl 4 rfl) ?_
            refine lv_iconst (v := iI (0)) hx hb dX5_kind_45 (by decide) ?_
            refine xu_i (x := iI (61 + 5 * r + 0)) (rS (rest := [.ref (a 1)]) hx hb hml hown hts hK hl (c_X5_spot l g r 0 ) lk_X5_59 trivial rfl rfl rfl (Rm.of rfl) rfl rfl dX5_kind_46) ?_
            refine lv_iload hx hb dX5_kind_49 (lv_at hl 0 rfl) ?_
            refine xi_ast hx hb hK hP hD hS 1 (f := f1) rfl (i := 61 + 5 * r + 0) (v := (k : Int)) ⟨by omega, by omega⟩ rfl dX5_kind_51 (fun H locs hP hD hS => ?_)
            have hP : va_P g.1 vwCl (wM g a (up f1 (61 + 5 * r + 0) (k : Int)) f2 f3 f1 f5 f6 l7 f8 f9 f10 f11 f12 f13 f20 f21 f22 f23 f24 f25) H := hP
            have hD : va_D (va_A (wM g a f1 f2 f3 f4 f5 f6 f7 f8 f9 f10 f11 f12 f13 f20 f21 f22 f23 f24 f25) s.heap.size) (wM g a (up f1 (61 + 5 * r + 0) (k : Int)) f2 f3 f1 f5 f6 l7 f8 f9 f10 f11 f12 f13 f20 f21 f22 f23 f24 f25) := hD
            refine lv_aload_n hx hb dX5_kind_52 rfl (lv_at hl 3 rfl) ?_
            refine lv_aload_n hx hb dX5_kind_53 rfl (lv_at hl 3 rfl) ?_
            refine lv_iload_n hx hb dX5_kind_54 rfl (lv_at hl 4 rfl) ?_
            refine lv_iload_n hx hb dX5_kind_55 rfl (lv_at hl 5 rfl) ?_
            refine xm_i (rV (rest := [.ref (a 0)]) hx hb hml hown hts hK hl (c_X5_goneOn l g a (up f1 (61 + 5 * r + 0) (k : Int)) f2 f3 f1 f5 f6 l7 f8 f9 f10 f11 f12 f13 f20 f21 f22 f23 f24 f25 r n H.size (show InvK 0 (up f1 (61 + 5 * r + 0) (k : Int)) from hIu) (show 0 ≤ n ∧ (up f1 (61 + 5 * r + 0) (k : Int)) 0 + n ≤ 20000 from ⟨by omega, by rw [up_n (by omega)]; omega⟩) (show 0 ≤ r ∧ r < (up f1 (61 + 5 * r + 0) (k : Int)) 1 from ⟨by omega, by rw [up_n (by omega)]; omega⟩)) lk_X5_195 ⟨rfl, hP, hD.weaken (fun _ _ _ _ => trivial)⟩ (va_recv hK.1 hP (ci := 5) (q0 := 0) rfl rfl) rfl rfl rfl (Rm.of rfl) rfl rfl dX5_kind_56) hD hS hA (fun x9 u7 H locs hw hP hD hS => ?_)
            obtain rfl : x9 = iI (goneN (up f1 (61 + 5 * r + 0) (k : Int)) r n) := hw
            have hP : va_P g.1 vwCl (wM g a (seaN (up f1 (61 + 5 * r + 0) (k : Int)) (Int.toNat n)) f2 f3 f1 f5 f6 (u7 7) f8 f9 f10 f11 f12 f13 f20 f21 f22 f23 f24 f25) H := hP
            have hD : va_D (va_A (wM g a f1 f2 f3 f4 f5 f6 f7 f8 f9 f10 f11 f12 f13 f20 f21 f22 f23 f24 f25) s.heap.size) (wM g a (seaN (up f1 (61 + 5 * r + 0) (k : Int)) (Int.toNat n)) f2 f3 f1 f5 f6 (u7 7) f8 f9 f10 f11 f12 f13 f20 f21 f22 f23 f24 f25) := hD
            refine xm_i (rV (rest := []) hx hb hml hown hts hK hl (c_X5_takesBack l g a (seaN (up f1 (61 + 5 * r + 0) (k : Int)) (Int.toNat n)) f2 f3 f1 f5 f6 (u7 7) f8 f9 f10 f11 f12 f13 f20 f21 f22 f23 f24 f25 (iI (goneN (up f1 (61 + 5 * r + 0) (k : Int)) r n)) H.size ) lk_X5_175 ⟨rfl, hP, hD.weaken (fun _ _ _ _ => trivial)⟩ (va_recv hK.1 hP (ci := 5) (q0 := 0) rfl rfl) rfl rfl rfl (Rm.of rfl) rfl rfl dX5_kind_59) hD hS hA (fun x9 _ H locs hw hP hD hS => ?_)
            obtain rfl : x9 = (iI (goneN (up f1 (61 + 5 * r + 0) (k : Int)) r n)) := hw
            have hP : va_P g.1 vwCl (wM g a f1 f2 f3 f1 f5 f6 (u7 7) f8 f9 f10 f11 f12 f13 f20 f21 f22 f23 f24 f25) H := hP
            have hD : va_D (va_A (wM g a f1 f2 f3 f4 f5 f6 f7 f8 f9 f10 f11 f12 f13 f20 f21 f22 f23 f24 f25) s.heap.size) (wM g a f1 f2 f3 f1 f5 f6 (u7 7) f8 f9 f10 f11 f12 f13 f20 f21 f22 f23 f24 f25) := hD
            refine lv_istore (lv' := [(6, .int (iI (goneN (up f1 (61 + 5 * r + 0) (k : Int)) r n))), (5, .int (iI (k : Int))), (4, .int (iI ((bmT (kiV f1 r n) (fun k => (k : Int)) k).2))), (3, .int (iI ((bmT (kiV f1 r n) (fun k => (k : Int)) k).1))), (0, .ref (a 0)), (1, .int (iI r)), (2, .int (iI n))]) hx hb dX5_kind_62 hl (by decide) rfl (fun ls hl => ?_)
            refine lv_iload hx hb dX5_kind_64 (lv_at hl 0 rfl) ?_
            refine lv_iload hx hb dX5_kind_66 (lv_at hl 2 rfl) ?_
            refine xi_c_le (tgt := 76) hx hb ⟨by omega, by omega⟩ ⟨by omega, by omega⟩ dX5_kind_68 (by decide) (fun z9 => ?_) (fun z9 => ?_)
            · refine lv_iload_n hx hb dX5_kind_76 rfl (lv_at hl 3 rfl) ?_
              refine lv_istore_n (lv' := [(3, .int (iI ((bmT (kiV f1 r n) (fun k => (k : Int)) k).1))), (6, .int (iI (goneN (up f1 (61 + 5 * r + 0) (k : Int)) r n))), (5, .int (iI (k : Int))), (4, .int (iI ((bmT (kiV f1 r n) (fun k => (k : Int)) k).2))), (0, .ref (a 0)), (1, .int (iI r)), (2, .int (iI n))]) hx hb dX5_kind_77 rfl hl (by decide) rfl (fun ls hl => ?_)
              refine lv_iload hx hb dX5_kind_78 (lv_at hl 1 rfl) ?_
              refine lv_iload hx hb dX5_kind_80 (lv_at hl 3 rfl) ?_
              refine xi_c_le (tgt := 90) hx hb ⟨by omega, by omega⟩ ⟨by omega, by omega⟩ dX5_kind_82 (by decide) (fun z10 => ?_) (fun z10 => ?_)
              · refine lv_iload hx hb dX5_kind_90 (lv_at hl 3 rfl) ?_
                refine lv_istore (lv' := [(4, .int (iI ((bmT (kiV f1 r n) (fun k => (k : Int)) k).2))), (3, .int (iI ((bmT (kiV f1 r n) (fun k => (k : Int)) k).1))), (6, .int (iI (goneN (up f1 (61 + 5 * r + 0) (k : Int)) r n))), (5, .int (iI (k : Int))), (0, .ref (a 0)), (1, .int (iI r)), (2, .int (iI n))]) hx hb dX5_kind_92 hl (by decide) rfl (fun ls hl => ?_)
                refine xi_inc (lv' := [(5, .int (iI ((k : Int) + 1))), (4, .int (iI ((bmT (kiV f1 r n) (fun k => (k : Int)) k).2))), (3, .int (iI ((bmT (kiV f1 r n) (fun k => (k : Int)) k).1))), (6, .int (iI (goneN (up f1 (61 + 5 * r + 0) (k : Int)) r n))), (0, .ref (a 0)), (1, .int (iI r)), (2, .int (iI n))]) hx hb dX5_kind_94 hl (k := 3) rfl (by decide) rfl (fun ls hl => ?_)
                refine lv_goto (tgt := 34) hx hb dX5_kind_97 (by decide) ?_
                have hq11 : ((k : Int) + 1) = ((k + 1) : Int) := by omega
                have hq12 : ((bmT (kiV f1 r n) (fun k => (k : Int)) k).2) = ((bmT (kiV f1 r n) (fun k => (k : Int)) (k + 1)).2) := by simp only [bmT]; first | (rw [if_pos (by omega)]; done) | (rw [if_pos (by omega)]; dsimp only; omega) | (rw [if_neg (by omega)]; done) | (exfalso; omega)
                have hq13 : ((bmT (kiV f1 r n) (fun k => (k : Int)) k).1) = ((bmT (kiV f1 r n) (fun k => (k : Int)) (k + 1)).1) := by simp only [bmT]; first | (rw [if_pos (by omega)]; done) | (rw [if_pos (by omega)]; dsimp only; omega) | (rw [if_neg (by omega)]; done) | (exfalso; omega)
                have hl : lv_has ls 7 [(5, .int (iI ((k : Int) + 1))), (4, .int (iI ((bmT (kiV f1 r n) (fun k => (k : Int)) k).2))), (3, .int (iI ((bmT (kiV f1 r n) (fun k => (k : Int)) k).1))), (0, .ref (a 0)), (1, .int (iI r)), (2, .int (iI n))] := lv_sub hl [0, 1, 2, 4, 5, 6] rfl
                have hl := Eq.mp (congrArg (fun z9 => lv_has ls 7 [(5, .int (iI z9)), (4, .int (iI ((bmT (kiV f1 r n) (fun k => (k : Int)) k).2))), (3, .int (iI ((bmT (kiV f1 r n) (fun k => (k : Int)) k).1))), (0, .ref (a 0)), (1, .int (iI r)), (2, .int (iI n))]) hq11) hl
                have hl := Eq.mp (congrArg (fun z9 => lv_has ls 7 [(5, .int (iI ((k + 1) : Int))), (4, .int (iI z9)), (3, .int (iI ((bmT (kiV f1 r n) (fun k => (k : Int)) k).1))), (0, .ref (a 0)), (1, .int (iI r)), (2, .int (iI n))]) hq12) hl
                have hl := Eq.mp (congrArg (fun z9 => lv_has ls 7 [(5, .int (iI ((k + 1) : Int))), (4, .int (iI ((bmT (kiV f1 r n) (fun k => (k : Int)) (k + 1)).2))), (3, .int (iI z9)), (0, .ref (a 0)), (1, .int (iI r)), (2, .int (iI n))]) hq13) hl
                exact ih34 (k + 1) (u7 7) (by omega) (by omega) ls hl H locs hP hD hS
              · refine lv_iload hx hb dX5_kind_85 (lv_at hl 1 rfl) ?_
                refine lv_goto (tgt := 92) hx hb dX5_kind_87 (by decide) ?_
                refine lv_istore (lv' := [(4, .int (iI (goneN (up f1 (61 + 5 * r + 0) (k : Int)) r n))), (3, .int (iI ((bmT (kiV f1 r n) (fun k => (k : Int)) k).1))), (6, .int (iI (goneN (up f1 (61 + 5 * r + 0) (k : Int)) r n))), (5, .int (iI (k : Int))), (0, .ref (a 0)), (1, .int (iI r)), (2, .int (iI n))]) hx hb dX5_kind_92 hl (by decide) rfl (fun ls hl => ?_)
                refine xi_inc (lv' := [(5, .int (iI ((k : Int) + 1))), (4, .int (iI (goneN (up f1 (61 + 5 * r + 0) (k : Int)) r n))), (3, .int (iI ((bmT (kiV f1 r n) (fun k => (k : Int)) k).1))), (6, .int (iI (goneN (up f1 (61 + 5 * r + 0) (k : Int)) r n))), (0, .ref (a 0)), (1, .int (iI r)), (2, .int (iI n))]) hx hb dX5_kind_94 hl (k := 3) rfl (by decide) rfl (fun ls hl => ?_)
                refine lv_goto (tgt := 34) hx hb dX5_kind_97 (by decide) ?_
                have hq14 : ((k : Int) + 1) = ((k + 1) : Int) := by omega
                have hq15 : (goneN (up f1 (61 + 5 * r + 0) (k : Int)) r n) = ((bmT (kiV f1 r n) (fun k => (k : Int)) (k + 1)).2) := by simp only [bmT]; first | (rw [if_pos (by omega)]; done) | (rw [if_pos (by omega)]; dsimp only; omega) | (rw [if_neg (by omega)]; done) | (exfalso; omega)
                have hq16 : ((bmT (kiV f1 r n) (fun k => (k : Int)) k).1) = ((bmT (kiV f1 r n) (fun k => (k : Int)) (k + 1)).1) := by simp only [bmT]; first | (rw [if_pos (by omega)]; done) | (rw [if_pos (by omega)]; dsimp only; omega) | (rw [if_neg (by omega)]; done) | (exfalso; omega)
                have hl : lv_has ls 7 [(5, .int (iI ((k : Int) + 1))), (4, .int (iI (goneN (up f1 (61 + 5 * r + 0) (k : Int)) r n))), (3, .int (iI ((bmT (kiV f1 r n) (fun k => (k : Int)) k).1))), (0, .ref (a 0)), (1, .int (iI r)), (2, .int (iI n))] := lv_sub hl [0, 1, 2, 4, 5, 6] rfl
                have hl := Eq.mp (congrArg (fun z9 => lv_has ls 7 [(5, .int (iI z9)), (4, .int (iI (goneN (up f1 (61 + 5 * r + 0) (k : Int)) r n))), (3, .int (iI ((bmT (kiV f1 r n) (fun k => (k : Int)) k).1))), (0, .ref (a 0)), (1, .int (iI r)), (2, .int (iI n))]) hq14) hl
                have hl := Eq.mp (congrArg (fun z9 => lv_has ls 7 [(5, .int (iI ((k + 1) : Int))), (4, .int (iI z9)), (3, .int (iI ((bmT (kiV f1 r n) (fun k => (k : Int)) k).1))), (0, .ref (a 0)), (1, .int (iI r)), (2, .int (iI n))]) hq15) hl
                have hl := Eq.mp (congrArg (fun z9 => lv_has ls 7 [(5, .int (iI ((k + 1) : Int))), (4, .int (iI ((bmT (kiV f1 r n) (fun k => (k : Int)) (k + 1)).2))), (3, .int (iI z9)), (0, .ref (a 0)), (1, .int (iI r)), (2, .int (iI n))]) hq16) hl
                exact ih34 (k + 1) (u7 7) (by omega) (by omega) ls hl H locs hP hD hS
            · refine lv_iload hx hb dX5_kind_71 (lv_at hl 1 rfl) ?_
              refine lv_goto (tgt := 77) hx hb dX5_kind_73 (by decide) ?_
              refine lv_istore_n (lv' := [(3, .int (iI (k : Int))), (6, .int (iI (goneN (up f1 (61 + 5 * r + 0) (k : Int)) r n))), (5, .int (iI (k : Int))), (4, .int (iI ((bmT (kiV f1 r n) (fun k => (k : Int)) k).2))), (0, .ref (a 0)), (1, .int (iI r)), (2, .int (iI n))]) hx hb dX5_kind_77 rfl hl (by decide) rfl (fun ls hl => ?_)
              refine lv_iload hx hb dX5_kind_78 (lv_at hl 1 rfl) ?_
              refine lv_iload hx hb dX5_kind_80 (lv_at hl 3 rfl) ?_
              refine xi_c_le (tgt := 90) hx hb ⟨by omega, by omega⟩ ⟨by omega, by omega⟩ dX5_kind_82 (by decide) (fun z17 => ?_) (fun z17 => ?_)
              · refine lv_iload hx hb dX5_kind_90 (lv_at hl 3 rfl) ?_
                refine lv_istore (lv' := [(4, .int (iI ((bmT (kiV f1 r n) (fun k => (k : Int)) k).2))), (3, .int (iI (k : Int))), (6, .int (iI (goneN (up f1 (61 + 5 * r + 0) (k : Int)) r n))), (5, .int (iI (k : Int))), (0, .ref (a 0)), (1, .int (iI r)), (2, .int (iI n))]) hx hb dX5_kind_92 hl (by decide) rfl (fun ls hl => ?_)
                refine xi_inc (lv' := [(5, .int (iI ((k : Int) + 1))), (4, .int (iI ((bmT (kiV f1 r n) (fun k => (k : Int)) k).2))), (3, .int (iI (k : Int))), (6, .int (iI (goneN (up f1 (61 + 5 * r + 0) (k : Int)) r n))), (0, .ref (a 0)), (1, .int (iI r)), (2, .int (iI n))]) hx hb dX5_kind_94 hl (k := 3) rfl (by decide) rfl (fun ls hl => ?_)
                refine lv_goto (tgt := 34) hx hb dX5_kind_97 (by decide) ?_
                have hq18 : ((k : Int) + 1) = ((k + 1) : Int) := by omega
                have hq19 : ((bmT (kiV f1 r n) (fun k => (k : Int)) k).2) = ((bmT (kiV f1 r n) (fun k => (k : Int)) (k + 1)).2) := by simp only [bmT]; first | (rw [if_pos (by omega)]; done) | (rw [if_pos (by omega)]; dsimp only; omega) | (rw [if_neg (by omega)]; done) | (exfalso; omega)
                have hq20 : (k : Int) = ((bmT (kiV f1 r n) (fun k => (k : Int)) (k + 1)).1) := by simp only [bmT]; first | (rw [if_pos (by omega)]; done) | (rw [if_pos (by omega)]; dsimp only; omega) | (rw [if_neg (by omega)]; done) | (exfalso; omega)
                have hl : lv_has ls 7 [(5, .int (iI ((k : Int) + 1))), (4, .int (iI ((bmT (kiV f1 r n) (fun k => (k : Int)) k).2))), (3, .int (iI (k : Int))), (0, .ref (a 0)), (1, .int (iI r)), (2, .int (iI n))] := lv_sub hl [0, 1, 2, 4, 5, 6] rfl
                have hl := Eq.mp (congrArg (fun z9 => lv_has ls 7 [(5, .int (iI z9)), (4, .int (iI ((bmT (kiV f1 r n) (fun k => (k : Int)) k).2))), (3, .int (iI (k : Int))), (0, .ref (a 0)), (1, .int (iI r)), (2, .int (iI n))]) hq18) hl
                have hl := Eq.mp (congrArg (fun z9 => lv_has ls 7 [(5, .int (iI ((k + 1) : Int))), (4, .int (iI z9)), (3, .int (iI (k : Int))), (0, .ref (a 0)), (1, .int (iI r)), (2, .int (iI n))]) hq19) hl
                have hl := Eq.mp (congrArg (fun z9 => lv_has ls 7 [(5, .int (iI ((k + 1) : Int))), (4, .int (iI ((bmT (kiV f1 r n) (fun k => (k : Int)) (k + 1)).2))), (3, .int (iI z9)), (0, .ref (a 0)), (1, .int (iI r)), (2, .int (iI n))]) hq20) hl
                exact ih34 (k + 1) (u7 7) (by omega) (by omega) ls hl H locs hP hD hS
              · refine lv_iload hx hb dX5_kind_85 (lv_at hl 1 rfl) ?_
                refine lv_goto (tgt := 92) hx hb dX5_kind_87 (by decide) ?_
                refine lv_istore (lv' := [(4, .int (iI (goneN (up f1 (61 + 5 * r + 0) (k : Int)) r n))), (3, .int (iI (k : Int))), (6, .int (iI (goneN (up f1 (61 + 5 * r + 0) (k : Int)) r n))), (5, .int (iI (k : Int))), (0, .ref (a 0)), (1, .int (iI r)), (2, .int (iI n))]) hx hb dX5_kind_92 hl (by decide) rfl (fun ls hl => ?_)
                refine xi_inc (lv' := [(5, .int (iI ((k : Int) + 1))), (4, .int (iI (goneN (up f1 (61 + 5 * r + 0) (k : Int)) r n))), (3, .int (iI (k : Int))), (6, .int (iI (goneN (up f1 (61 + 5 * r + 0) (k : Int)) r n))), (0, .ref (a 0)), (1, .int (iI r)), (2, .int (iI n))]) hx hb dX5_kind_94 hl (k := 3) rfl (by decide) rfl (fun ls hl => ?_)
                refine lv_goto (tgt := 34) hx hb dX5_kind_97 (by decide) ?_
                have hq21 : ((k : Int) + 1) = ((k + 1) : Int) := by omega
                have hq22 : (goneN (up f1 (61 + 5 * r + 0) (k : Int)) r n) = ((bmT (kiV f1 r n) (fun k => (k : Int)) (k + 1)).2) := by simp only [bmT]; first | (rw [if_pos (by omega)]; done) | (rw [if_pos (by omega)]; dsimp only; omega) | (rw [if_neg (by omega)]; done) | (exfalso; omega)
                have hq23 : (k : Int) = ((bmT (kiV f1 r n) (fun k => (k : Int)) (k + 1)).1) := by simp only [bmT]; first | (rw [if_pos (by omega)]; done) | (rw [if_pos (by omega)]; dsimp only; omega) | (rw [if_neg (by omega)]; done) | (exfalso; omega)
                have hl : lv_has ls 7 [(5, .int (iI ((k : Int) + 1))), (4, .int (iI (goneN (up f1 (61 + 5 * r + 0) (k : Int)) r n))), (3, .int (iI (k : Int))), (0, .ref (a 0)), (1, .int (iI r)), (2, .int (iI n))] := lv_sub hl [0, 1, 2, 4, 5, 6] rfl
                have hl := Eq.mp (congrArg (fun z9 => lv_has ls 7 [(5, .int (iI z9)), (4, .int (iI (goneN (up f1 (61 + 5 * r + 0) (k : Int)) r n))), (3, .int (iI (k : Int))), (0, .ref (a 0)), (1, .int (iI r)), (2, .int (iI n))]) hq21) hl
                have hl := Eq.mp (congrArg (fun z9 => lv_has ls 7 [(5, .int (iI ((k + 1) : Int))), (4, .int (iI z9)), (3, .int (iI (k : Int))), (0, .ref (a 0)), (1, .int (iI r)), (2, .int (iI n))]) hq22) hl
                have hl := Eq.mp (congrArg (fun z9 => lv_has ls 7 [(5, .int (iI ((k + 1) : Int))), (4, .int (iI ((bmT (kiV f1 r n) (fun k => (k : Int)) (k + 1)).2))), (3, .int (iI z9)), (0, .ref (a 0)), (1, .int (iI r)), (2, .int (iI n))]) hq23) hl
                exact ih34 (k + 1) (u7 7) (by omega) (by omega) ls hl H locs hP hD hS
      have hq24 : 0 = (0 : Int) := rfl
      have hq25 : (-1) = ((bmT (kiV f1 r n) (fun k => (k : Int)) 0).2) := rfl
      have hq26 : 0 = ((bmT (kiV f1 r n) (fun k => (k : Int)) 0).1) := rfl
      have hl : lv_has ls 7 [(5, .int (iI 0)), (4, .int (iI (-1))), (3, .int (iI 0)), (0, .ref (a 0)), (1, .int (iI r)), (2, .int (iI n))] := lv_sub hl [0, 1, 2, 3, 4, 5] rfl
      have hl := Eq.mp (congrArg (fun z9 => lv_has ls 7 [(5, .int (iI z9)), (4, .int (iI (-1))), (3, .int (iI 0)), (0, .ref (a 0)), (1, .int (iI r)), (2, .int (iI n))]) hq24) hl
      have hl := Eq.mp (congrArg (fun z9 => lv_has ls 7 [(5, .int (iI (0 : Int))), (4, .int (iI z9)), (3, .int (iI 0)), (0, .ref (a 0)), (1, .int (iI r)), (2, .int (iI n))]) hq25) hl
      have hl := Eq.mp (congrArg (fun z9 => lv_has ls 7 [(5, .int (iI (0 : Int))), (4, .int (iI ((bmT (kiV f1 r n) (fun k => (k : Int)) 0).2))), (3, .int (iI z9)), (0, .ref (a 0)), (1, .int (iI r)), (2, .int (iI n))]) hq26) hl
      exact lp34 (6 + 1) 0 f7 (by omega) (by omega) ls hl H locs hP hD hS
    · refine xi_zf_ne hx hb ⟨by decide, by decide⟩ (by decide) dX5_kind_12 ⟨22, by decide⟩ ?_
      refine lv_aload_n hx hb dX5_kind_15 rfl (lv_at hl 0 rfl) ?_
      refine xi_ldc hx hb hown hts kk_X5_50 dX5_kind_16 ?_
      refine xm_i (rV (rest := []) hx hb hml hown hts hK hl (c_X5_finds l g a f1 f2 f3 f4 f5 f6 f7 f8 f9 f10 f11 f12 f13 f20 f21 f22 f23 f24 f25 (-1000000001) (s.heap).size (show 0 ≤ -1000000001 - (-1000000001) ∧ -1000000001 - (-1000000001) < 7 from by omega)) lk_X5_74 ⟨rfl, hP, hD.weaken (fun _ _ _ _ => trivial)⟩ (va_recv hK.1 hP (ci := 5) (q0 := 0) rfl rfl) rfl rfl rfl (Rm.of rfl) rfl rfl dX5_kind_18) hD hS hA (fun x9 _ H locs hw hP hD hS => ?_)
      obtain rfl : x9 = iI (-1000000001) := hw
      have hP : va_P g.1 vwCl (wM g a f1 f2 f3 f4 f5 (fb (-1000000000 - (-1000000001)) f6) f7 f8 f9 f10 f11 f12 f13 f20 f21 f22 f23 f24 f25) H := hP
      have hD : va_D (va_A (wM g a f1 f2 f3 f4 f5 f6 f7 f8 f9 f10 f11 f12 f13 f20 f21 f22 f23 f24 f25) s.heap.size) (wM g a f1 f2 f3 f4 f5 (fb (-1000000000 - (-1000000001)) f6) f7 f8 f9 f10 f11 f12 f13 f20 f21 f22 f23 f24 f25) := hD
      have hf : fStart f1 r n = 1 := by unfold fStart; (repeat (first | rw [if_pos (by omega)] | rw [if_neg (by omega)])); first | done | (exfalso; omega)
      have he28 : (fb (-1000000000 - (-1000000001)) f6) = (fb (fStart f1 r n) f6) := by rw [hf]; rfl
      have hP := Eq.mp (congrArg (fun z9 => va_P g.1 vwCl (wM g a f1 f2 f3 f4 f5 z9 f7 f8 f9 f10 f11 f12 f13 f20 f21 f22 f23 f24 f25) H) he28) hP
      have hD := Eq.mp (congrArg (fun z9 => va_D (va_A (wM g a f1 f2 f3 f4 f5 f6 f7 f8 f9 f10 f11 f12 f13 f20 f21 f22 f23 f24 f25) s.heap.size) (wM g a f1 f2 f3 f4 f5 z9 f7 f8 f9 f10 f11 f12 f13 f20 f21 f22 f23 f24 f25)) he28) hD
      have hP : va_P g.1 vwCl (wM g a f1 f2 f3 ((su (su (fun _ _ => 0) 4 f4) 7 f7) 4) f5 (fb (fStart f1 r n) f6) ((su (su (fun _ _ => 0) 4 f4) 7 f7) 7) f8 f9 f10 f11 f12 f13 f20 f21 f22 f23 f24 f25) H := hP
      have hD : va_D (va_A (wM g a f1 f2 f3 f4 f5 f6 f7 f8 f9 f10 f11 f12 f13 f20 f21 f22 f23 f24 f25) s.heap.size) (wM g a f1 f2 f3 ((su (su (fun _ _ => 0) 4 f4) 7 f7) 4) f5 (fb (fStart f1 r n) f6) ((su (su (fun _ _ => 0) 4 f4) 7 f7) 7) f8 f9 f10 f11 f12 f13 f20 f21 f22 f23 f24 f25) := hD
      exact W.iret hx hb hr (fun t ht hW => ⟨⟨_, (su (su (fun _ _ => 0) 4 f4) 7 f7), rfl, by rw [hf]; rfl, by rw [ht]; exact hP, hD⟩, hS.F ht⟩) hS.2.2 dX5_kind_21
  · refine xi_zt_eq (tgt := 15) hx hb ⟨by decide, by decide⟩ (by decide) dX5_kind_5 (by decide) ?_
    refine lv_aload_n hx hb dX5_kind_15 rfl (lv_at hl 0 rfl) ?_
    refine xi_ldc hx hb hown hts kk_X5_50 dX5_kind_16 ?_
    refine xm_i (rV (rest := []) hx hb hml hown hts hK hl (c_X5_finds l g a f1 f2 f3 f4 f5 f6 f7 f8 f9 f10 f11 f12 f13 f20 f21 f22 f23 f24 f25 (-1000000001) (s.heap).size (show 0 ≤ -1000000001 - (-1000000001) ∧ -1000000001 - (-1000000001) < 7 from by omega)) lk_X5_74 ⟨rfl, hP, hD.weaken (fun _ _ _ _ => trivial)⟩ (va_recv hK.1 hP (ci := 5) (q0 := 0) rfl rfl) rfl rfl rfl (Rm.of rfl) rfl rfl dX5_kind_18) hD hS hA (fun x9 _ H locs hw hP hD hS => ?_)
    obtain rfl : x9 = iI (-1000000001) := hw
    have hP : va_P g.1 vwCl (wM g a f1 f2 f3 f4 f5 (fb (-1000000000 - (-1000000001)) f6) f7 f8 f9 f10 f11 f12 f13 f20 f21 f22 f23 f24 f25) H := hP
    have hD : va_D (va_A (wM g a f1 f2 f3 f4 f5 f6 f7 f8 f9 f10 f11 f12 f13 f20 f21 f22 f23 f24 f25) s.heap.size) (wM g a f1 f2 f3 f4 f5 (fb (-1000000000 - (-1000000001)) f6) f7 f8 f9 f10 f11 f12 f13 f20 f21 f22 f23 f24 f25) := hD
    have hf : fStart f1 r n = 1 := by unfold fStart; (repeat (first | rw [if_pos (by omega)] | rw [if_neg (by omega)])); first | done | (exfalso; omega)
    have he30 : (fb (-1000000000 - (-1000000001)) f6) = (fb (fStart f1 r n) f6) := by rw [hf]; rfl
    have hP := Eq.mp (congrArg (fun z9 => va_P g.1 vwCl (wM g a f1 f2 f3 f4 f5 z9 f7 f8 f9 f10 f11 f12 f13 f20 f21 f22 f23 f24 f25) H) he30) hP
    have hD := Eq.mp (congrArg (fun z9 => va_D (va_A (wM g a f1 f2 f3 f4 f5 f6 f7 f8 f9 f10 f11 f12 f13 f20 f21 f22 f23 f24 f25) s.heap.size) (wM g a f1 f2 f3 f4 f5 z9 f7 f8 f9 f10 f11 f12 f13 f20 f21 f22 f23 f24 f25)) he30) hD
    have hP : va_P g.1 vwCl (wM g a f1 f2 f3 ((su (su (fun _ _ => 0) 4 f4) 7 f7) 4) f5 (fb (fStart f1 r n) f6) ((su (su (fun _ _ => 0) 4 f4) 7 f7) 7) f8 f9 f10 f11 f12 f13 f20 f21 f22 f23 f24 f25) H := hP
    have hD : va_D (va_A (wM g a f1 f2 f3 f4 f5 f6 f7 f8 f9 f10 f11 f12 f13 f20 f21 f22 f23 f24 f25) s.heap.size) (wM g a f1 f2 f3 ((su (su (fun _ _ => 0) 4 f4) 7 f7) 4) f5 (fb (fStart f1 r n) f6) ((su (su (fun _ _ => 0) 4 f4) 7 f7) 7) f8 f9 f10 f11 f12 f13 f20 f21 f22 f23 f24 f25) := hD
    exact W.iret hx hb hr (fun t ht hW => ⟨⟨_, (su (su (fun _ _ => 0) 4 f4) 7 f7), rfl, by rw [hf]; rfl, by rw [ht]; exact hP, hD⟩, hS.F ht⟩) hS.2.2 dX5_kind_21
abbrev rm_X5_swap : Room := { frames := 8, cells := 0, slots := 0, locals := 177 }
set_option maxRecDepth 100000 in
set_option maxHeartbeats 4000000 in
theorem c_X5_swap (l : Launch) (g : Gd) (a : Nat → Nat) (f1 : Int → Int) (f2 : Int → Int) (f3 : Int → Int) (f4 : Int → Int) (f5 : Int → Int) (f6 : Int → Int) (f7 : Int → Int) (f8 : Int → Int) (f9 : Int → Int) (f10 : Int → Int) (f11 : Int → Int) (f12 : Int → Int) (f13 : Int → Int) (f20 : Int) (f21 : Int) (f22 : Int) (f23 : Int) (f24 : Int) (f25 : Int) (n : Int) (sz : Nat) (h1 : InvK 0 f1) (h2 : f1 0 ≤ 9999) (h3 : IR n) : Met l yX5_swap (wsOf yX5_swap cX5_swap 8 (some .int)) rm_X5_swap (PX g (wP g (wM g a f1 f2 f3 f4 f5 f6 f7 f8 f9 f10 f11 f12 f13 f20 f21 f22 f23 f24 f25) sz) [.ref (a 0), .int (iI n)]) (QMi g (fun u9 : Nat → Int → Int => wM g a f1 f2 f3 (u9 4) f5 (fb (fSwap f1 n) f6) (u9 7) f8 f9 f10 f11 f12 f13 f20 f21 f22 f23 f24 f25) (fun r9 _ => r9 = ab (fSwap f1 n) (iI (swS f1 n).1)) (va_A (wM g a f1 f2 f3 f4 f5 f6 f7 f8 f9 f10 f11 f12 f13 f20 f21 f22 f23 f24 f25) sz)) 0 0 (va_A (wM g a f1 f2 f3 f4 f5 f6 f7 f8 f9 f10 f11 f12 f13 f20 f21 f22 f23 f24 f25) sz) := by
  refine me (g := g) (by decide) rfl ?_
  intro pq eq s mq below meth cq C hnm hB ls hl
  obtain ⟨hx, hb, hr, hml, hown, hts, hlocks, hK⟩ := C
  have hown : s.vm.findClass RX5 = some mq.cls := hown
  have hl : lv_has ls 8 [(0, .ref (a 0)), (1, .int (iI n))] := hl
  obtain ⟨hsz, hP, hD0⟩ := hB
  subst hsz
  have hD := hD0.self (sz := s.heap.size)
  have hA : ∀ q : Nat, s.heap.size ≤ q → va_A (wM g a f1 f2 f3 f4 f5 f6 f7 f8 f9 f10 f11 f12 f13 f20 f21 f22 f23 f24 f25) s.heap.size q := fun q h => Or.inr h
  have hS : va_S (va_A (wM g a f1 f2 f3 f4 f5 f6 f7 f8 f9 f10 f11 f12 f13 f20 f21 f22 f23 f24 f25) s.heap.size) s.heap s.heap [] := va_S.rf
  have hI := h1
  have hI8 : Inv f1 := h1.mono (by omega)
  have hn := hI.num
  have hs := hI.sea
  have hv := hI.vil
  have q1 := h3.1
  have q2 := h3.2
  have hvb : ∀ p q : Nat, (p : Int) < f1 1 → (q : Int) < f1 1 → p ≠ q → 0 ≤ n → n ≤ 40 → 0 ≤ swV f1 n p q ∧ swV f1 n p q ≤ 21000000 := fun p q hp hq hpq n0 n1 => sumA_b (seaN_inv (hI.sw2 (p := (p : Int)) (q := (q : Int)) (by omega) hp (by omega) hq (by omega)) n.toNat (by unfold swp; rw [up_n (by omega), up_n (by omega)]; omega)).1
  have hs0b : 0 ≤ n → n ≤ 40 → 0 ≤ sumA (seaN f1 n.toNat) 3 ∧ sumA (seaN f1 n.toNat) 3 ≤ 21000000 := fun n0 n1 => sumA_b (seaN_inv hI n.toNat (by omega)).1
  refine lv_iload_n hx hb dX5_swap_0 rfl (lv_at hl 1 rfl) ?_
  refine xu_b (P := 0 ≤ n ∧ n ≤ 40) (rS (rest := []) hx hb hml hown hts hK hl (c_X5_isSome l g n (show IR n from ⟨by omega, by omega⟩)) lk_X5_192 trivial rfl rfl rfl (Rm.of rfl) rfl rfl dX5_swap_1) (fun z1 => ?_) (fun z1 => ?_)
  · refine xi_zt_ne (tgt := 14) hx hb ⟨by decide, by decide⟩ (by decide) dX5_swap_4 (by decide) ?_
    refine lv_aload_n hx hb dX5_swap_14 rfl (lv_at hl 0 rfl) ?_
    refine xm_v (rV (rest := []) hx hb hml hown hts hK hl (c_X5_laysAside l g a f1 f2 f3 f4 f5 f6 f7 f8 f9 f10 f11 f12 f13 f20 f21 f22 f23 f24 f25 (s.heap).size ) lk_X5_172 ⟨rfl, hP, hD.weaken (fun _ _ _ _ => trivial)⟩ (va_recv hK.1 hP (ci := 5) (q0 := 0) rfl rfl) rfl rfl rfl (Rm.of rfl) rfl rfl dX5_swap_15) hD hS hA (fun _ H locs hw hP hD hS => ?_)
    have hP : va_P g.1 vwCl (wM g a f1 f2 f3 f1 f5 f6 f7 f8 f9 f10 f11 f12 f13 f20 f21 f22 f23 f24 f25) H := hP
    have hD : va_D (va_A (wM g a f1 f2 f3 f4 f5 f6 f7 f8 f9 f10 f11 f12 f13 f20 f21 f22 f23 f24 f25) s.heap.size) (wM g a f1 f2 f3 f1 f5 f6 f7 f8 f9 f10 f11 f12 f13 f20 f21 f22 f23 f24 f25) := hD
    refine lv_iconst (v := iI (-1)) hx hb dX5_swap_18 (by decide) ?_
    refine lv_istore_n (lv' := [(2, .int (iI (-1))), (0, .ref (a 0)), (1, .int (iI n))]) hx hb dX5_swap_19 rfl hl (by decide) rfl (fun ls hl => ?_)
    refine lv_aload_n hx hb dX5_swap_20 rfl (lv_at hl 1 rfl) ?_
    refine lv_aload_n hx hb dX5_swap_21 rfl (lv_at hl 1 rfl) ?_
    refine lv_iload_n hx hb dX5_swap_22 rfl (lv_at hl 2 rfl) ?_
    refine xm_i (rV (rest := [.ref (a 0)]) hx hb hml hown hts hK hl (c_X5_allOn l g a f1 f2 f3 f1 f5 f6 f7 f8 f9 f10 f11 f12 f13 f20 f21 f22 f23 f24 f25 n H.size (show InvK 0 f1 from h1) (show 0 ≤ n ∧ f1 0 + n ≤ 20000 from by omega)) lk_X5_198 ⟨rfl, hP, hD.weaken (fun _ _ _ _ => trivial)⟩ (va_recv hK.1 hP (ci := 5) (q0 := 0) rfl rfl) rfl rfl rfl (Rm.of rfl) rfl rfl dX5_swap_23) hD hS hA (fun x9 u3 H locs hw hP hD hS => ?_)
    obtain rfl : x9 = iI (sumA (seaN f1 (Int.toNat n)) 3) := hw
    have hP : va_P g.1 vwCl (wM g a (seaN f1 (Int.toNat n)) f2 f3 f1 f5 f6 (u3 7) f8 f9 f10 f11 f12 f13 f20 f21 f22 f23 f24 f25) H := hP
    have hD : va_D (va_A (wM g a f1 f2 f3 f4 f5 f6 f7 f8 f9 f10 f11 f12 f13 f20 f21 f22 f23 f24 f25) s.heap.size) (wM g a (seaN f1 (Int.toNat n)) f2 f3 f1 f5 f6 (u3 7) f8 f9 f10 f11 f12 f13 f20 f21 f22 f23 f24 f25) := hD
    refine xm_i (rV (rest := []) hx hb hml hown hts hK hl (c_X5_takesBack l g a (seaN f1 (Int.toNat n)) f2 f3 f1 f5 f6 (u3 7) f8 f9 f10 f11 f12 f13 f20 f21 f22 f23 f24 f25 (iI (sumA (seaN f1 (Int.toNat n)) 3)) H.size ) lk_X5_175 ⟨rfl, hP, hD.weaken (fun _ _ _ _ => trivial)⟩ (va_recv hK.1 hP (ci := 5) (q0 := 0) rfl rfl) rfl rfl rfl (Rm.of rfl) rfl rfl dX5_swap_26) hD hS hA (fun x9 _ H locs hw hP hD hS => ?_)
    obtain rfl : x9 = (iI (sumA (seaN f1 (Int.toNat n)) 3)) := hw
    have hP : va_P g.1 vwCl (wM g a f1 f2 f3 f1 f5 f6 (u3 7) f8 f9 f10 f11 f12 f13 f20 f21 f22 f23 f24 f25) H := hP
    have hD : va_D (va_A (wM g a f1 f2 f3 f4 f5 f6 f7 f8 f9 f10 f11 f12 f13 f20 f21 f22 f23 f24 f25) s.heap.size) (wM g a f1 f2 f3 f1 f5 f6 (u3 7) f8 f9 f10 f11 f12 f13 f20 f21 f22 f23 f24 f25) := hD
    refine lv_istore_n (lv' := [(3, .int (iI (sumA (seaN f1 (Int.toNat n)) 3))), (2, .int (iI (-1))), (0, .ref (a 0)), (1, .int (iI n))]) hx hb dX5_swap_29 rfl hl (by decide) rfl (fun ls hl => ?_)
    refine lv_iconst (v := iI (0)) hx hb dX5_swap_30 (by decide) ?_
    refine lv_istore (lv' := [(4, .int (iI 0)), (3, .int (iI (sumA (seaN f1 (Int.toNat n)) 3))), (2, .int (iI (-1))), (0, .ref (a 0)), (1, .int (iI n))]) hx hb dX5_swap_31 hl (by decide) rfl (fun ls hl => ?_)
    have lp33 : ∀ (n33 : Nat) (p : Nat) (l7 : Int → Int), ((p : Int) ≤ f1 1) → (0 ≤ n ∧ n ≤ 40) → 8 - p < n33 → ∀ ls : Array Slot, lv_has ls 8 [(4, .int (iI (p : Int))), (3, .int (iI ((swO (swV f1 n) (f1 1).toNat ((-1 : Int), sumA (seaN f1 n.toNat) 3) p).2))), (2, .int (iI ((swO (swV f1 n) (f1 1).toNat ((-1 : Int), sumA (seaN f1 n.toNat) 3) p).1))), (0, .ref (a 0)), (1, .int (iI n))] → ∀ (H : Heap) (locs : List Loc), va_P g.1 vwCl (wM g a f1 f2 f3 f1 f5 f6 l7 f8 f9 f10 f11 f12 f13 f20 f21 f22 f23 f24 f25) H → va_D (va_A (wM g a f1 f2 f3 f4 f5 f6 f7 f8 f9 f10 f11 f12 f13 f20 f21 f22 f23 f24 f25) s.heap.size) (wM g a f1 f2 f3 f1 f5 f6 l7 f8 f9 f10 f11 f12 f13 f20 f21 f22 f23 f24 f25) → va_S (va_A (wM g a f1 f2 f3 f4 f5 f6 f7 f8 f9 f10 f11 f12 f13 f20 f21 f22 f23 f24 f25) s.heap.size) s.heap H locs → W pq l eq rm_X5_swap s mq [.ref (a 0), .int (iI n)].toArray below meth cq H locs 0 0 (MQ below (QMi g (fun u9 : Nat → Int → Int => wM g a f1 f2 f3 (u9 4) f5 (fb (fSwap f1 n) f6) (u9 7) f8 f9 f10 f11 f12 f13 f20 f21 f22 f23 f24 f25) (fun r9 _ => r9 = ab (fSwap f1 n) (iI (swS f1 n).1)) (va_A (wM g a f1 f2 f3 f4 f5 f6 f7 f8 f9 f10 f11 f12 f13 f20 f21 f22 f23 f24 f25) s.heap.size)) [.ref (a 0), .int (iI n)].toArray s 0 0 (va_A (wM g a f1 f2 f3 f4 f5 f6 f7 f8 f9 f10 f11 f12 f13 f20 f21 f22 f23 f24 f25) s.heap.size)) (F0 mq 33 ls []) := by
      intro n33
      induction n33 with
      | zero => intro p l7 i33_1 i33_2 hm; exact absurd hm (Nat.not_lt_zero _)
      | succ n33 ih33 =>
        intro p l7 i33_1 i33_2 hm33 ls hl H locs hP hD hS
        have hob := swO_b (v := (swV f1 n)) (n := (f1 1).toNat) (M := 21000000) (st := ((-1 : Int), sumA (seaN f1 n.toNat) 3)) (hs0b (by omega) (by omega)) ⟨by omega, by omega⟩ (by omega) (fun a b ha hb hab => hvb a b (by omega) (by omega) hab (by omega) (by omega)) p (by omega)
        refine lv_iload hx hb dX5_swap_33 (lv_at hl 0 rfl) ?_
        refine lv_aload_n hx hb dX5_swap_35 rfl (lv_at hl 3 rfl) ?_
        refine xg_X5 hx hb hts hown hK hP 0 rfl 0 (by decide) fk_X5_7 (v := .ref (a 1)) rfl dX5_swap_36 ?_
        refine lv_iconst (v := iI (1)) hx hb dX5_swap_39 (by decide) ?_
        refine xi_ald hx hb hK hP 1 (f := f1) rfl (i := 1) ⟨by omega, by omega⟩ rfl dX5_swap_40 ?_
        refine xi_c_ge (tgt := 156) hx hb ⟨by omega, by omega⟩ ⟨by omega, by omega⟩ dX5_swap_41 (by decide) (fun z5 => ?_) (fun z5 => ?_)
        · have hsw : (swS f1 n).1 = (swO (swV f1 n) (f1 1).toNat ((-1 : Int), sumA (seaN f1 n.toNat) 3) p).1 := by unfold swS; rw [show p = (f1 1).toNat by omega]
          refine lv_iload_n hx hb dX5_swap_156 rfl (lv_at hl 2 rfl) ?_
          refine xi_z_ge (tgt := 169) hx hb ⟨by omega, by omega⟩ dX5_swap_157 (by decide) (fun z6 => ?_) (fun z6 => ?_)
          · refine lv_iload_n hx hb dX5_swap_169 rfl (lv_at hl 2 rfl) ?_
            have hf : fSwap f1 n = 0 := by unfold fSwap; (repeat (first | rw [if_pos (by omega)] | rw [if_neg (by omega)])); first | done | (exfalso; omega)
            have he7 : f6 = (fb (fSwap f1 n) f6) := by rw [hf]; rfl
            have hP := Eq.mp (congrArg (fun z9 => va_P g.1 vwCl (wM g a f1 f2 f3 f1 f5 z9 l7 f8 f9 f10 f11 f12 f13 f20 f21 f22 f23 f24 f25) H) he7) hP
            have hD := Eq.mp (congrArg (fun z9 => va_D (va_A (wM g a f1 f2 f3 f4 f5 f6 f7 f8 f9 f10 f11 f12 f13 f20 f21 f22 f23 f24 f25) s.heap.size) (wM g a f1 f2 f3 f1 f5 z9 l7 f8 f9 f10 f11 f12 f13 f20 f21 f22 f23 f24 f25)) he7) hD
            have hP : va_P g.1 vwCl (wM g a f1 f2 f3 ((su (su (fun _ _ => 0) 4 f1) 7 l7) 4) f5 (fb (fSwap f1 n) f6) ((su (su (fun _ _ => 0) 4 f1) 7 l7) 7) f8 f9 f10 f11 f12 f13 f20 f21 f22 f23 f24 f25) H := hP
            have hD : va_D (va_A (wM g a f1 f2 f3 f4 f5 f6 f7 f8 f9 f10 f11 f12 f13 f20 f21 f22 f23 f24 f25) s.heap.size) (wM g a f1 f2 f3 ((su (su (fun _ _ => 0) 4 f1) 7 l7) 4) f5 (fb (fSwap f1 n) f6) ((su (su (fun _ _ => 0) 4 f1) 7 l7) 7) f8 f9 f10 f11 f12 f13 f20 f21 f22 f23 f24 f25) := hD
            exact W.iret hx hb hr (fun t ht hW => ⟨⟨_, (su (su (fun _ _ => 0) 4 f1) 7 l7), rfl, by rw [hf, ab_0, hsw], by rw [ht]; exact hP, hD⟩, hS.F ht⟩) hS.2.2 dX5_swap_170
          · refine lv_aload_n hx hb dX5_swap_160 rfl (lv_at hl 3 rfl) ?_
            refine xi_ldc hx hb hown hts kk_X5_178 dX5_swap_161 ?_
            refine xm_i (rV (rest := []) hx hb hml hown hts hK hl (c_X5_finds l g a f1 f2 f3 f1 f5 f6 l7 f8 f9 f10 f11 f12 f13 f20 f21 f22 f23 f24 f25 (-1000000004) H.size (show 0 ≤ -1000000001 - (-1000000004) ∧ -1000000001 - (-1000000004) < 7 from by omega)) lk_X5_74 ⟨rfl, hP, hD.weaken (fun _ _ _ _ => trivial)⟩ (va_recv hK.1 hP (ci := 5) (q0 := 0) rfl rfl) rfl rfl rfl (Rm.of rfl) rfl rfl dX5_swap_163) hD hS hA (fun x9 _ H locs hw hP hD hS => ?_)
            obtain rfl : x9 = iI (-1000000004) := hw
            have hP : va_P g.1 vwCl (wM g a f1 f2 f3 f1 f5 (fb (-1000000000 - (-1000000004)) f6) l7 f8 f9 f10 f11 f12 f13 f20 f21 f22 f23 f24 f25) H := hP
            have hD : va_D (va_A (wM g a f1 f2 f3 f4 f5 f6 f7 f8 f9 f10 f11 f12 f13 f20 f21 f22 f23 f24 f25) s.heap.size) (wM g a f1 f2 f3 f1 f5 (fb (-1000000000 - (-1000000004)) f6) l7 f8 f9 f10 f11 f12 f13 f20 f21 f22 f23 f24 f25) := hD
            refine lv_goto (tgt := 170) hx hb dX5_swap_166 (by decide) ?_
            have hf : fSwap f1 n = 4 := by unfold fSwap; (repeat (first | rw [if_pos (by omega)] | rw [if_neg (by omega)])); first | done | (exfalso; omega)
            have he9 : (fb (-1000000000 - (-1000000004)) f6) = (fb (fSwap f1 n) f6) := by rw [hf]; rfl
            have hP := Eq.mp (congrArg (fun z9 => va_P g.1 vwCl (wM g a f1 f2 f3 f1 f5 z9 l7 f8 f9 f10 f11 f12 f13 f20 f21 f22 f23 f24 f25) H) he9) hP
            have hD := Eq.mp (congrArg (fun z9 => va_D (va_A (wM g a f1 f2 f3 f4 f5 f6 f7 f8 f9 f10 f11 f12 f13 f20 f21 f22 f23 f24 f25) s.heap.size) (wM g a f1 f2 f3 f1 f5 z9 l7 f8 f9 f10 f11 f12 f13 f20 f21 f22 f23 f24 f25)) he9) hD
            have hP : va_P g.1 vwCl (wM g a f1 f2 f3 ((su (su (fun _ _ => 0) 4 f1) 7 l7) 4) f5 (fb (fSwap f1 n) f6) ((su (su (fun _ _ => 0) 4 f1) 7 l7) 7) f8 f9 f10 f11 f12 f13 f20 f21 f22 f23 f24 f25) H := hP
            have hD : va_D (va_A (wM g a f1 f2 f3 f4 f5 f6 f7 f8 f9 f10 f11 f12 f13 f20 f21 f22 f23 f24 f25) s.heap.size) (wM g a f1 f2 f3 ((su (su (fun _ _ => 0) 4 f1) 7 l7) 4) f5 (fb (fSwap f1 n) f6) ((su (su (fun _ _ => 0) 4 f1) 7 l7) 7) f8 f9 f10 f11 f12 f13 f20 f21 f22 f23 f24 f25) := hD
            exact W.iret hx hb hr (fun t ht hW => ⟨⟨_, (su (su (fun _ _ => 0) 4 f1) 7 l7), rfl, by rw [hf]; rfl, by rw [ht]; exact hP, hD⟩, hS.F ht⟩) hS.2.2 dX5_swap_170
        · refine lv_iload hx hb dX5_swap_44 (lv_at hl 0 rfl) ?_
          refine lv_iconst (v := iI (1)) hx hb dX5_swap_46 (by decide) ?_
          refine xi_add hx hb dX5_swap_47 ?_
          refine lv_istore (lv' := [(5, .int (iI ((p : Int) + 1))), (4, .int (iI (p : Int))), (3, .int (iI ((swO (swV f1 n) (f1 1).toNat ((-1 : Int), sumA (seaN f1 n.toNat) 3) p).2))), (2, .int (iI ((swO (swV f1 n) (f1 1).toNat ((-1 : Int), sumA (seaN f1 n.toNat) 3) p).1))), (0, .ref (a 0)), (1, .int (iI n))]) hx hb dX5_swap_48 hl (by decide) rfl (fun ls hl => ?_)
          have lp50 : ∀ (n50 : Nat) (j : Nat) (m7 : Int → Int), (((p + 1 + j : Nat) : Int) ≤ f1 1 ∧ p < 8) → 8 - j < n50 → ∀ ls : Array Slot, lv_has ls 8 [(5, .int (iI ((p + 1 + j : Nat) : Int))), (4, .int (iI (p : Int))), (3, .int (iI ((swI (swV f1 n) p (swO (swV f1 n) (f1 1).toNat ((-1 : Int), sumA (seaN f1 n.toNat) 3) p) j).2))), (2, .int (iI ((swI (swV f1 n) p (swO (swV f1 n) (f1 1).toNat ((-1 : Int), sumA (seaN f1 n.toNat) 3) p) j).1))), (0, .ref (a 0)), (1, .int (iI n))] → ∀ (H : Heap) (locs : List Loc), va_P g.1 vwCl (wM g a f1 f2 f3 f1 f5 f6 m7 f8 f9 f10 f11 f12 f13 f20 f21 f22 f23 f24 f25) H → va_D (va_A (wM g a f1 f2 f3 f4 f5 f6 f7 f8 f9 f10 f11 f12 f13 f20 f21 f22 f23 f24 f25) s.heap.size) (wM g a f1 f2 f3 f1 f5 f6 m7 f8 f9 f10 f11 f12 f13 f20 f21 f22 f23 f24 f25) → va_S (va_A (wM g a f1 f2 f3 f4 f5 f6 f7 f8 f9 f10 f11 f12 f13 f20 f21 f22 f23 f24 f25) s.heap.size) s.heap H locs → W pq l eq rm_X5_swap s mq [.ref (a 0), .int (iI n)].toArray below meth cq H locs 0 0 (MQ below (QMi g (fun u9 : Nat → Int → Int => wM g a f1 f2 f3 (u9 4) f5 (fb (fSwap f1 n) f6) (u9 7) f8 f9 f10 f11 f12 f13 f20 f21 f22 f23 f24 f25) (fun r9 _ => r9 = ab (fSwap f1 n) (iI (swS f1 n).1)) (va_A (wM g a f1 f2 f3 f4 f5 f6 f7 f8 f9 f10 f11 f12 f13 f20 f21 f22 f23 f24 f25) s.heap.size)) [.ref (a 0), .int (iI n)].toArray s 0 0 (va_A (wM g a f1 f2 f3 f4 f5 f6 f7 f8 f9 f10 f11 f12 f13 f20 f21 f22 f23 f24 f25) s.heap.size)) (F0 mq 50 ls []) := by
            intro n50
            induction n50 with
            | zero => intro j m7 i50_1 hm; exact absurd hm (Nat.not_lt_zero _)
            | succ n50 ih50 =>
              intro j m7 i50_1 hm50 ls hl H locs hP hD hS
              have hib := swI_b (v := (swV f1 n)) (p := p) (M := 21000000) (st := (swO (swV f1 n) (f1 1).toNat ((-1 : Int), sumA (seaN f1 n.toNat) 3) p)) hob.1 hob.2 (by omega) j (by omega) (fun i hi => hvb p _ (by omega) (by omega) (by omega) (by omega) (by omega))
              refine lv_iload hx hb dX5_swap_50 (lv_at hl 0 rfl) ?_
              refine lv_aload_n hx hb dX5_swap_52 rfl (lv_at hl 4 rfl) ?_
              refine xg_X5 hx hb hts hown hK hP 0 rfl 0 (by decide) fk_X5_7 (v := .ref (a 1)) rfl dX5_swap_53 ?_
              refine lv_iconst (v := iI (1)) hx hb dX5_swap_56 (by decide) ?_
              refine xi_ald hx hb hK hP 1 (f := f1) rfl (i := 1) ⟨by omega, by omega⟩ rfl dX5_swap_57 ?_
              refine xi_c_ge (tgt := 150) hx hb ⟨by omega, by omega⟩ ⟨by omega, by omega⟩ dX5_swap_58 (by decide) (fun z10 => ?_) (fun z10 => ?_)
              · refine xi_inc (lv' := [(4, .int (iI ((p : Int) + 1))), (5, .int (iI ((p + 1 + j : Nat) : Int))), (3, .int (iI ((swI (swV f1 n) p (swO (swV f1 n) (f1 1).toNat ((-1 : Int), sumA (seaN f1 n.toNat) 3) p) j).2))), (2, .int (iI ((swI (swV f1 n) p (swO (swV f1 n) (f1 1).toNat ((-1 : Int), sumA (seaN f1 n.toNat) 3) p) j).1))), (0, .ref (a 0)), (1, .int (iI n))]) hx hb dX5_swap_150 hl (k := 1) rfl (by decide) rfl (fun ls hl => ?_)
                refine lv_goto (tgt := 33) hx hb dX5_swap_153 (by decide) ?_
                have hq11 : ((p : Int) + 1) = ((p + 1) : Int) := by omega
                have hq12 : ((swI (swV f1 n) p (swO (swV f1 n) (f1 1).toNat ((-1 : Int), sumA (seaN f1 n.toNat) 3) p) j).2) = ((swO (swV f1 n) (f1 1).toNat ((-1 : Int), sumA (seaN f1 n.toNat) 3) (p + 1)).2) := by show _ = (swI (swV f1 n) p (swO (swV f1 n) (f1 1).toNat ((-1 : Int), sumA (seaN f1 n.toNat) 3) p) ((f1 1).toNat - (p + 1))).2; rw [show (f1 1).toNat - (p + 1) = j by omega]
                have hq13 : ((swI (swV f1 n) p (swO (swV f1 n) (f1 1).toNat ((-1 : Int), sumA (seaN f1 n.toNat) 3) p) j).1) = ((swO (swV f1 n) (f1 1).toNat ((-1 : Int), sumA (seaN f1 n.toNat) 3) (p + 1)).1) := by show _ = (swI (swV f1 n) p (swO (swV f1 n) (f1 1).toNat ((-1 : Int), sumA (seaN f1 n.toNat) 3) p) ((f1 1).toNat - (p + 1))).1; rw [show (f1 1).toNat - (p + 1) = j by omega]
                have hl : lv_has ls 8 [(4, .int (iI ((p : Int) + 1))), (3, .int (iI ((swI (swV f1 n) p (swO (swV f1 n) (f1 1).toNat ((-1 : Int), sumA (seaN f1 n.toNat) 3) p) j).2))), (2, .int (iI ((swI (swV f1 n) p (swO (swV f1 n) (f1 1).toNat ((-1 : Int), sumA (seaN f1 n.toNat) 3) p) j).1))), (0, .ref (a 0)), (1, .int (iI n))] := lv_sub hl [0, 2, 3, 4, 5] rfl
                have hl := Eq.mp (congrArg (fun z9 => lv_has ls 8 [(4, .int (iI z9)), (3, .int (iI ((swI (swV f1 n) p (swO (swV f1 n) (f1 1).toNat ((-1 : Int), sumA (seaN f1 n.toNat) 3) p) j).2))), (2, .int (iI ((swI (swV f1 n) p (swO (swV f1 n) (f1 1).toNat ((-1 : Int), sumA (seaN f1 n.toNat) 3) p) j).1))), (0, .ref (a 0)), (1, .int (iI n))]) hq11) hl
                have hl := Eq.mp (congrArg (fun z9 => lv_has ls 8 [(4, .int (iI ((p + 1) : Int))), (3, .int (iI z9)), (2, .int (iI ((swI (swV f1 n) p (swO (swV f1 n) (f1 1).toNat ((-1 : Int), sumA (seaN f1 n.toNat) 3) p) j).1))), (0, .ref (a 0)), (1, .int (iI n))]) hq12) hl
                have hl := Eq.mp (congrArg (fun z9 => lv_has ls 8 [(4, .int (iI ((p + 1) : Int))), (3, .int (iI ((swO (swV f1 n) (f1 1).toNat ((-1 : Int), sumA (seaN f1 n.toNat) 3) (p + 1)).2))), (2, .int (iI z9)), (0, .ref (a 0)), (1, .int (iI n))]) hq13) hl
                exact ih33 (p + 1) m7 (by omega) (by omega) (by omega) ls hl H locs hP hD hS
              · refine lv_aload_n hx hb dX5_swap_61 rfl (lv_at hl 4 rfl) ?_
                refine lv_iload hx hb dX5_swap_62 (lv_at hl 1 rfl) ?_
                refine lv_iconst (v := iI (1)) hx hb dX5_swap_64 (by decide) ?_
                refine xu_i (x := iI (f1 (61 + 5 * (p : Int) + 1))) (rV (rest := []) hx hb hml hown hts hK hl (c_X5_its l g a f1 f2 f3 f1 f5 f6 m7 f8 f9 f10 f11 f12 f13 f20 f21 f22 f23 f24 f25 (p : Int) 1 (show 0 ≤ 61 + 5 * (p : Int) + 1 ∧ 61 + 5 * (p : Int) + 1 < 101 from by omega)) lk_X5_63 hP (va_recv hK.1 hP (ci := 5) (q0 := 0) rfl rfl) rfl rfl rfl (Rm.of rfl) rfl rfl dX5_swap_65) ?_
                refine lv_istore (lv' := [(6, .int (iI (f1 (61 + 5 * (p : Int) + 1)))), (5, .int (iI ((p + 1 + j : Nat) : Int))), (4, .int (iI (p : Int))), (3, .int (iI ((swI (swV f1 n) p (swO (swV f1 n) (f1 1).toNat ((-1 : Int), sumA (seaN f1 n.toNat) 3) p) j).2))), (2, .int (iI ((swI (swV f1 n) p (swO (swV f1 n) (f1 1).toNat ((-1 : Int), sumA (seaN f1 n.toNat) 3) p) j).1))), (0, .ref (a 0)), (1, .int (iI n))]) hx hb dX5_swap_68 hl (by decide) rfl (fun ls hl => ?_)
                refine lv_aload_n hx hb dX5_swap_70 rfl (lv_at hl 5 rfl) ?_
                refine xg_X5 hx hb hts hown hK hP 0 rfl 0 (by decide) fk_X5_7 (v := .ref (a 1)) rfl dX5_swap_71 ?_
                refine lv_iload hx hb dX5_swap_74 (lv_at hl 2 rfl) ?_
                refine lv_iconst (v := iI (1)) hx hb dX5_swap_76 (by decide) ?_
                refine xu_i (x := iI (61 + 5 * (p : Int) + 1)) (rS (rest := [.ref (a 1)]) hx hb hml hown hts hK hl (c_X5_spot l g (p : Int) 1 ) lk_X5_59 trivial rfl rfl rfl (Rm.of rfl) rfl rfl dX5_swap_77) ?_
                refine lv_aload_n hx hb dX5_swap_80 rfl (lv_at hl 5 rfl) ?_
                refine lv_iload hx hb dX5_swap_81 (lv_at hl 1 rfl) ?_
                refine lv_iconst (v := iI (1)) hx hb dX5_swap_83 (by decide) ?_
                refine xu_i (x := iI (f1 (61 + 5 * ((p + 1 + j : Nat) : Int) + 1))) (rV (rest := [.int (iI (61 + 5 * (p : Int) + 1)), .ref (a 1)]) hx hb hml hown hts hK hl (c_X5_its l g a f1 f2 f3 f1 f5 f6 m7 f8 f9 f10 f11 f12 f13 f20 f21 f22 f23 f24 f25 ((p + 1 + j : Nat) : Int) 1 (show 0 ≤ 61 + 5 * ((p + 1 + j : Nat) : Int) + 1 ∧ 61 + 5 * ((p + 1 + j : Nat) : Int) + 1 < 101 from by omega)) lk_X5_63 hP (va_recv hK.1 hP (ci := 5) (q0 := 0) rfl rfl) rfl rfl rfl (Rm.of rfl) rfl rfl dX5_swap_84) ?_
                refine xi_ast hx hb hK hP hD hS 1 (f := f1) rfl (i := 61 + 5 * (p : Int) + 1) (v := f1 (61 + 5 * ((p + 1 + j : Nat) : Int) + 1)) ⟨by omega, by omega⟩ rfl dX5_swap_87 (fun H locs hP hD hS => ?_)
                have hP : va_P g.1 vwCl (wM g a (up f1 (61 + 5 * (p : Int) + 1) (f1 (61 + 5 * ((p + 1 + j : Nat) : Int) + 1))) f2 f3 f1 f5 f6 m7 f8 f9 f10 f11 f12 f13 f20 f21 f22 f23 f24 f25) H := hP
                have hD : va_D (va_A (wM g a f1 f2 f3 f4 f5 f6 f7 f8 f9 f10 f11 f12 f13 f20 f21 f22 f23 f24 f25) s.heap.size) (wM g a (up f1 (61 + 5 * (p : Int) + 1) (f1 (61 + 5 * ((p + 1 + j : Nat) : Int) + 1))) f2 f3 f1 f5 f6 m7 f8 f9 f10 f11 f12 f13 f20 f21 f22 f23 f24 f25) := hD
                refine lv_aload_n hx hb dX5_swap_88 rfl (lv_at hl 5 rfl) ?_
                refine xg_X5 hx hb hts hown hK hP 0 rfl 0 (by decide) fk_X5_7 (v := .ref (a 1)) rfl dX5_swap_89 ?_
                refine lv_iload hx hb dX5_swap_92 (lv_at hl 1 rfl) ?_
                refine lv_iconst (v := iI (1)) hx hb dX5_swap_94 (by decide) ?_
                refine xu_i (x := iI (61 + 5 * ((p + 1 + j : Nat) : Int) + 1)) (rS (rest := [.ref (a 1)]) hx hb hml hown hts hK hl (c_X5_spot l g ((p + 1 + j : Nat) : Int) 1 ) lk_X5_59 trivial rfl rfl rfl (Rm.of rfl) rfl rfl dX5_swap_95) ?_
                refine lv_iload hx hb dX5_swap_98 (lv_at hl 0 rfl) ?_
                refine xi_ast hx hb hK hP hD hS 1 (f := up f1 (61 + 5 * (p : Int) + 1) (f1 (61 + 5 * ((p + 1 + j : Nat) : Int) + 1))) rfl (i := 61 + 5 * ((p + 1 + j : Nat) : Int) + 1) (v := f1 (61 + 5 * (p : Int) + 1)) ⟨by omega, by omega⟩ rfl dX5_swap_100 (fun H locs hP hD hS => ?_)
                have hP : va_P g.1 vwCl (wM g a (up (up f1 (61 + 5 * (p : Int) + 1) (f1 (61 + 5 * ((p + 1 + j : Nat) : Int) + 1))) (61 + 5 * ((p + 1 + j : Nat) : Int) + 1) (f1 (61 + 5 * (p : Int) + 1))) f2 f3 f1 f5 f6 m7 f8 f9 f10 f11 f12 f13 f20 f21 f22 f23 f24 f25) H := hP
                have hD : va_D (va_A (wM g a f1 f2 f3 f4 f5 f6 f7 f8 f9 f10 f11 f12 f13 f20 f21 f22 f23 f24 f25) s.heap.size) (wM g a (up (up f1 (61 + 5 * (p : Int) + 1) (f1 (61 + 5 * ((p + 1 + j : Nat) : Int) + 1))) (61 + 5 * ((p + 1 + j : Nat) : Int) + 1) (f1 (61 + 5 * (p : Int) + 1))) f2 f3 f1 f5 f6 m7 f8 f9 f10 f11 f12 f13 f20 f21 f22 f23 f24 f25) := hD
                have hP : va_P g.1 vwCl (wM g a (swp f1 (p : Int) ((p + 1 + j : Nat) : Int)) f2 f3 f1 f5 f6 m7 f8 f9 f10 f11 f12 f13 f20 f21 f22 f23 f24 f25) H := hP
                have hD : va_D (va_A (wM g a f1 f2 f3 f4 f5 f6 f7 f8 f9 f10 f11 f12 f13 f20 f21 f22 f23 f24 f25) s.heap.size) (wM g a (swp f1 (p : Int) ((p + 1 + j : Nat) : Int)) f2 f3 f1 f5 f6 m7 f8 f9 f10 f11 f12 f13 f20 f21 f22 f23 f24 f25) := hD
                have e09 : swp f1 (p : Int) ((p + 1 + j : Nat) : Int) 0 = f1 0 := by unfold swp; rw [up_n (by omega), up_n (by omega)]
                have hIu : InvK 0 (swp f1 (p : Int) ((p + 1 + j : Nat) : Int)) := hI.sw2 (by omega) (by omega) (by omega) (by omega) (by omega)
                have hvv := hvb p (p + 1 + j) (by omega) (by omega) (by omega) (by omega) (by omega)
                have hv9 : swV f1 n p (p + 1 + j) = sumA (seaN (swp f1 (p : Int) ((p + 1 + j : Nat) : Int)) n.toNat) 3 := rfl
                refine lv_aload_n hx hb dX5_swap_101 rfl (lv_at hl 5 rfl) ?_
                refine lv_aload_n hx hb dX5_swap_102 rfl (lv_at hl 5 rfl) ?_
                refine lv_iload_n hx hb dX5_swap_103 rfl (lv_at hl 6 rfl) ?_
                refine xm_i (rV (rest := [.ref (a 0)]) hx hb hml hown hts hK hl (c_X5_allOn l g a (swp f1 (p : Int) ((p + 1 + j : Nat) : Int)) f2 f3 f1 f5 f6 m7 f8 f9 f10 f11 f12 f13 f20 f21 f22 f23 f24 f25 n H.size (show InvK 0 (swp f1 (p : Int) ((p + 1 + j : Nat) : Int)) from hIu) (show 0 ≤ n ∧ (swp f1 (p : Int) ((p + 1 + j : Nat) : Int)) 0 + n ≤ 20000 from ⟨by omega, by rw [e09]; omega⟩)) lk_X5_198 ⟨rfl, hP, hD.weaken (fun _ _ _ _ => trivial)⟩ (va_recv hK.1 hP (ci := 5) (q0 := 0) rfl rfl) rfl rfl rfl (Rm.of rfl) rfl rfl dX5_swap_104) hD hS hA (fun x9 u18 H locs hw hP hD hS => ?_)
                obtain rfl : x9 = iI (sumA (seaN (swp f1 (p : Int) ((p + 1 + j : Nat) : Int)) (Int.toNat n)) 3) := hw
                have hP : va_P g.1 vwCl (wM g a (seaN (swp f1 (p : Int) ((p + 1 + j : Nat) : Int)) (Int.toNat n)) f2 f3 f1 f5 f6 (u18 7) f8 f9 f10 f11 f12 f13 f20 f21 f22 f23 f24 f25) H := hP
                have hD : va_D (va_A (wM g a f1 f2 f3 f4 f5 f6 f7 f8 f9 f10 f11 f12 f13 f20 f21 f22 f23 f24 f25) s.heap.size) (wM g a (seaN (swp f1 (p : Int) ((p + 1 + j : Nat) : Int)) (Int.toNat n)) f2 f3 f1 f5 f6 (u18 7) f8 f9 f10 f11 f12 f13 f20 f21 f22 f23 f24 f25) := hD
                refine xm_i (rV (rest := []) hx hb hml hown hts hK hl (c_X5_takesBack l g a (seaN (swp f1 (p : Int) ((p + 1 + j : Nat) : Int)) (Int.toNat n)) f2 f3 f1 f5 f6 (u18 7) f8 f9 f10 f11 f12 f13 f20 f21 f22 f23 f24 f25 (iI (sumA (seaN (swp f1 (p : Int) ((p + 1 + j : Nat) : Int)) (Int.toNat n)) 3)) H.size ) lk_X5_175 ⟨rfl, hP, hD.weaken (fun _ _ _ _ => trivial)⟩ (va_recv hK.1 hP (ci := 5) (q0 := 0) rfl rfl) rfl rfl rfl (Rm.of rfl) rfl rfl dX5_swap_107) hD hS hA (fun x9 _ H locs hw hP hD hS => ?_)
                obtain rfl : x9 = (iI (sumA (seaN (swp f1 (p : Int) ((p + 1 + j : Nat) : Int)) (Int.toNat n)) 3)) := hw
                have hP : va_P g.1 vwCl (wM g a f1 f2 f3 f1 f5 f6 (u18 7) f8 f9 f10 f11 f12 f13 f20 f21 f22 f23 f24 f25) H := hP
                have hD : va_D (va_A (wM g a f1 f2 f3 f4 f5 f6 f7 f8 f9 f10 f11 f12 f13 f20 f21 f22 f23 f24 f25) s.heap.size) (wM g a f1 f2 f3 f1 f5 f6 (u18 7) f8 f9 f10 f11 f12 f13 f20 f21 f22 f23 f24 f25) := hD
                refine lv_istore (lv' := [(7, .int (iI (sumA (seaN (swp f1 (p : Int) ((p + 1 + j : Nat) : Int)) (Int.toNat n)) 3))), (6, .int (iI (f1 (61 + 5 * (p : Int) + 1)))), (5, .int (iI ((p + 1 + j : Nat) : Int))), (4, .int (iI (p : Int))), (3, .int (iI ((swI (swV f1 n) p (swO (swV f1 n) (f1 1).toNat ((-1 : Int), sumA (seaN f1 n.toNat) 3) p) j).2))), (2, .int (iI ((swI (swV f1 n) p (swO (swV f1 n) (f1 1).toNat ((-1 : Int), sumA (seaN f1 n.toNat) 3) p) j).1))), (0, .ref (a 0)), (1, .int (iI n))]) hx hb dX5_swap_110 hl (by decide) rfl (fun ls hl => ?_)
                refine lv_iload hx hb dX5_swap_112 (lv_at hl 0 rfl) ?_
                refine lv_iload_n hx hb dX5_swap_114 rfl (lv_at hl 4 rfl) ?_
                refine xi_c_le (tgt := 129) hx hb ⟨by omega, by omega⟩ ⟨by omega, by omega⟩ dX5_swap_115 (by decide) (fun z20 => ?_) (fun z20 => ?_)
                · refine lv_iload_n hx hb dX5_swap_129 rfl (lv_at hl 5 rfl) ?_
                  refine lv_istore_n (lv' := [(2, .int (iI ((swI (swV f1 n) p (swO (swV f1 n) (f1 1).toNat ((-1 : Int), sumA (seaN f1 n.toNat) 3) p) j).1))), (7, .int (iI (sumA (seaN (swp f1 (p : Int) ((p + 1 + j : Nat) : Int)) (Int.toNat n)) 3))), (6, .int (iI (f1 (61 + 5 * (p : Int) + 1)))), (5, .int (iI ((p + 1 + j : Nat) : Int))), (4, .int (iI (p : Int))), (3, .int (iI ((swI (swV f1 n) p (swO (swV f1 n) (f1 1).toNat ((-1 : Int), sumA (seaN f1 n.toNat) 3) p) j).2))), (0, .ref (a 0)), (1, .int (iI n))]) hx hb dX5_swap_130 rfl hl (by decide) rfl (fun ls hl => ?_)
                  refine lv_iload hx hb dX5_swap_131 (lv_at hl 1 rfl) ?_
                  refine lv_iload_n hx hb dX5_swap_133 rfl (lv_at hl 5 rfl) ?_
                  refine xi_c_le (tgt := 142) hx hb ⟨by omega, by omega⟩ ⟨by omega, by omega⟩ dX5_swap_134 (by decide) (fun z21 => ?_) (fun z21 => ?_)
                  · refine lv_iload_n hx hb dX5_swap_142 rfl (lv_at hl 5 rfl) ?_
                    refine lv_istore_n (lv' := [(3, .int (iI ((swI (swV f1 n) p (swO (swV f1 n) (f1 1).toNat ((-1 : Int), sumA (seaN f1 n.toNat) 3) p) j).2))), (2, .int (iI ((swI (swV f1 n) p (swO (swV f1 n) (f1 1).toNat ((-1 : Int), sumA (seaN f1 n.toNat) 3) p) j).1))), (7, .int (iI (sumA (seaN (swp f1 (p : Int) ((p + 1 + j : Nat) : Int)) (Int.toNat n)) 3))), (6, .int (iI (f1 (61 + 5 * (p : Int) + 1)))), (5, .int (iI ((p + 1 + j : Nat) : Int))), (4, .int (iI (p : Int))), (0, .ref (a 0)), (1, .int (iI n))]) hx hb dX5_swap_143 rfl hl (by decide) rfl (fun ls hl => ?_)
                    refine xi_inc (lv' := [(5, .int (iI (((p + 1 + j : Nat) : Int) + 1))), (3, .int (iI ((swI (swV f1 n) p (swO (swV f1 n) (f1 1).toNat ((-1 : Int), sumA (seaN f1 n.toNat) 3) p) j).2))), (2, .int (iI ((swI (swV f1 n) p (swO (swV f1 n) (f1 1).toNat ((-1 : Int), sumA (seaN f1 n.toNat) 3) p) j).1))), (7, .int (iI (sumA (seaN (swp f1 (p : Int) ((p + 1 + j : Nat) : Int)) (Int.toNat n)) 3))), (6, .int (iI (f1 (61 + 5 * (p : Int) + 1)))), (4, .int (iI (p : Int))), (0, .ref (a 0)), (1, .int (iI n))]) hx hb dX5_swap_144 hl (k := 4) rfl (by decide) rfl (fun ls hl => ?_)
                    refine lv_goto (tgt := 50) hx hb dX5_swap_147 (by decide) ?_
                    have hq22 : (((p + 1 + j : Nat) : Int) + 1) = ((p + 1 + (j + 1) : Nat) : Int) := by omega
                    have hq23 : ((swI (swV f1 n) p (swO (swV f1 n) (f1 1).toNat ((-1 : Int), sumA (seaN f1 n.toNat) 3) p) j).2) = ((swI (swV f1 n) p (swO (swV f1 n) (f1 1).toNat ((-1 : Int), sumA (seaN f1 n.toNat) 3) p) (j + 1)).2) := by simp only [swI]; first | (rw [if_pos (by omega)]; done) | (rw [if_pos (by omega)]; dsimp only; omega) | (rw [if_neg (by omega)]; done) | (exfalso; omega)
                    have hq24 : ((swI (swV f1 n) p (swO (swV f1 n) (f1 1).toNat ((-1 : Int), sumA (seaN f1 n.toNat) 3) p) j).1) = ((swI (swV f1 n) p (swO (swV f1 n) (f1 1).toNat ((-1 : Int), sumA (seaN f1 n.toNat) 3) p) (j + 1)).1) := by simp only [swI]; first | (rw [if_pos (by omega)]; done) | (rw [if_pos (by omega)]; dsimp only; omega) | (rw [if_neg (by omega)]; done) | (exfalso; omega)
                    have hl : lv_has ls 8 [(5, .int (iI (((p + 1 + j : Nat) : Int) + 1))), (4, .int (iI (p : Int))), (3, .int (iI ((swI (swV f1 n) p (swO (swV f1 n) (f1 1).toNat ((-1 : Int), sumA (seaN f1 n.toNat) 3) p) j).2))), (2, .int (iI ((swI (swV f1 n) p (swO (swV f1 n) (f1 1).toNat ((-1 : Int), sumA (seaN f1 n.toNat) 3) p) j).1))), (0, .ref (a 0)), (1, .int (iI n))] := lv_sub hl [0, 5, 1, 2, 6, 7] rfl
                    have hl := Eq.mp (congrArg (fun z9 => lv_has ls 8 [(5, .int (iI z9)), (4, .int (iI (p : Int))), (3, .int (iI ((swI (swV f1 n) p (swO (swV f1 n) (f1 1).toNat ((-1 : Int), sumA (seaN f1 n.toNat) 3) p) j).2))), (2, .int (iI ((swI (swV f1 n) p (swO (swV f1 n) (f1 1).toNat ((-1 : Int), sumA (seaN f1 n.toNat) 3) p) j).1))), (0, .ref (a 0)), (1, .int (iI n))]) hq22) hl
                    have hl := Eq.mp (congrArg (fun z9 => lv_has ls 8 [(5, .int (iI ((p + 1 + (j + 1) : Nat) : Int))), (4, .int (iI (p : Int))), (3, .int (iI z9)), (2, .int (iI ((swI (swV f1 n) p (swO (swV f1 n) (f1 1).toNat ((-1 : Int), sumA (seaN f1 n.toNat) 3) p) j).1))), (0, .ref (a 0)), (1, .int (iI n))]) hq23) hl
                    have hl := Eq.mp (congrArg (fun z9 => lv_has ls 8 [(5, .int (iI ((p + 1 + (j + 1) : Nat) : Int))), (4, .int (iI (p : Int))), (3, .int (iI ((swI (swV f1 n) p (swO (swV f1 n) (f1 1).toNat ((-1 : Int), sumA (seaN f1 n.toNat) 3) p) (j + 1)).2))), (2, .int (iI z9)), (0, .ref (a 0)), (1, .int (iI n))]) hq24) hl
                    exact ih50 (j + 1) (u18 7) (by omega) (by omega) ls hl H locs hP hD hS
                  · refine lv_iload hx hb dX5_swap_137 (lv_at hl 1 rfl) ?_
                    refine lv_goto (tgt := 143) hx hb dX5_swap_139 (by decide) ?_
                    refine lv_istore_n (lv' := [(3, .int (iI (sumA (seaN (swp f1 (p : Int) ((p + 1 + j : Nat) : Int)) (Int.toNat n)) 3))), (2, .int (iI ((swI (swV f1 n) p (swO (swV f1 n) (f1 1).toNat ((-1 : Int), sumA (seaN f1 n.toNat) 3) p) j).1))), (7, .int (iI (sumA (seaN (swp f1 (p : Int) ((p + 1 + j : Nat) : Int)) (Int.toNat n)) 3))), (6, .int (iI (f1 (61 + 5 * (p : Int) + 1)))), (5, .int (iI ((p + 1 + j : Nat) : Int))), (4, .int (iI (p : Int))), (0, .ref (a 0)), (1, .int (iI n))]) hx hb dX5_swap_143 rfl hl (by decide) rfl (fun ls hl => ?_)
                    refine xi_inc (lv' := [(5, .int (iI (((p + 1 + j : Nat) : Int) + 1))), (3, .int (iI (sumA (seaN (swp f1 (p : Int) ((p + 1 + j : Nat) : Int)) (Int.toNat n)) 3))), (2, .int (iI ((swI (swV f1 n) p (swO (swV f1 n) (f1 1).toNat ((-1 : Int), sumA (seaN f1 n.toNat) 3) p) j).1))), (7, .int (iI (sumA (seaN (swp f1 (p : Int) ((p + 1 + j : Nat) : Int)) (Int.toNat n)) 3))), (6, .int (iI (f1 (61 + 5 * (p : Int) + 1)))), (4, .int (iI (p : Int))), (0, .ref (a 0)), (1, .int (iI n))]) hx hb dX5_swap_144 hl (k := 4) rfl (by decide) rfl (fun ls hl => ?_)
                    refine lv_goto (tgt := 50) hx hb dX5_swap_147 (by decide) ?_
                    have hq25 : (((p + 1 + j : Nat) : Int) + 1) = ((p + 1 + (j + 1) : Nat) : Int) := by omega
                    have hq26 : (sumA (seaN (swp f1 (p : Int) ((p + 1 + j : Nat) : Int)) (Int.toNat n)) 3) = ((swI (swV f1 n) p (swO (swV f1 n) (f1 1).toNat ((-1 : Int), sumA (seaN f1 n.toNat) 3) p) (j + 1)).2) := by simp only [swI]; first | (rw [if_pos (by omega)]; done) | (rw [if_pos (by omega)]; dsimp only; omega) | (rw [if_neg (by omega)]; done) | (exfalso; omega)
                    have hq27 : ((swI (swV f1 n) p (swO (swV f1 n) (f1 1).toNat ((-1 : Int), sumA (seaN f1 n.toNat) 3) p) j).1) = ((swI (swV f1 n) p (swO (swV f1 n) (f1 1).toNat ((-1 : Int), sumA (seaN f1 n.toNat) 3) p) (j + 1)).1) := by simp only [swI]; first | (rw [if_pos (by omega)]; done) | (rw [if_pos (by omega)]; dsimp only; omega) | (rw [if_neg (by omega)]; done) | (exfalso; omega)
                    have hl : lv_has ls 8 [(5, .int (iI (((p + 1 + j : Nat) : Int) + 1))), (4, .int (iI (p : Int))), (3, .int (iI (sumA (seaN (swp f1 (p : Int) ((p + 1 + j : Nat) : Int)) (Int.toNat n)) 3))), (2, .int (iI ((swI (swV f1 n) p (swO (swV f1 n) (f1 1).toNat ((-1 : Int), sumA (seaN f1 n.toNat) 3) p) j).1))), (0, .ref (a 0)), (1, .int (iI n))] := lv_sub hl [0, 5, 1, 2, 6, 7] rfl
                    have hl := Eq.mp (congrArg (fun z9 => lv_has ls 8 [(5, .int (iI z9)), (4, .int (iI (p : Int))), (3, .int (iI (sumA (seaN (swp f1 (p : Int) ((p + 1 + j : Nat) : Int)) (Int.toNat n)) 3))), (2, .int (iI ((swI (swV f1 n) p (swO (swV f1 n) (f1 1).toNat ((-1 : Int), sumA (seaN f1 n.toNat) 3) p) j).1))), (0, .ref (a 0)), (1, .int (iI n))]) hq25) hl
                    have hl := Eq.mp (congrArg (fun z9 => lv_has ls 8 [(5, .int (iI ((p + 1 + (j + 1) : Nat) : Int))), (4, .int (iI (p : Int))), (3, .int (iI z9)), (2, .int (iI ((swI (swV f1 n) p (swO (swV f1 n) (f1 1).toNat ((-1 : Int), sumA (seaN f1 n.toNat) 3) p) j).1))), (0, .ref (a 0)), (1, .int (iI n))]) hq26) hl
                    have hl := Eq.mp (congrArg (fun z9 => lv_has ls 8 [(5, .int (iI ((p + 1 + (j + 1) : Nat) : Int))), (4, .int (iI (p : Int))), (3, .int (iI ((swI (swV f1 n) p (swO (swV f1 n) (f1 1).toNat ((-1 : Int), sumA (seaN f1 n.toNat) 3) p) (j + 1)).2))), (2, .int (iI z9)), (0, .ref (a 0)), (1, .int (iI n))]) hq27) hl
                    exact ih50 (j + 1) (u18 7) (by omega) (by omega) ls hl H locs hP hD hS
                · refine lv_bipush (v := iI (10)) hx hb dX5_swap_118 (by decide) ?_
                  refine lv_iload hx hb dX5_swap_120 (lv_at hl 3 rfl) ?_
                  refine xi_mul hx hb dX5_swap_122 ?_
                  refine lv_iload hx hb dX5_swap_123 (lv_at hl 2 rfl) ?_
                  refine xi_add hx hb dX5_swap_125 ?_
                  refine lv_goto (tgt := 130) hx hb dX5_swap_126 (by decide) ?_
                  refine lv_istore_n (lv' := [(2, .int (iI (10 * (p : Int) + ((p + 1 + j : Nat) : Int)))), (7, .int (iI (sumA (seaN (swp f1 (p : Int) ((p + 1 + j : Nat) : Int)) (Int.toNat n)) 3))), (6, .int (iI (f1 (61 + 5 * (p : Int) + 1)))), (5, .int (iI ((p + 1 + j : Nat) : Int))), (4, .int (iI (p : Int))), (3, .int (iI ((swI (swV f1 n) p (swO (swV f1 n) (f1 1).toNat ((-1 : Int), sumA (seaN f1 n.toNat) 3) p) j).2))), (0, .ref (a 0)), (1, .int (iI n))]) hx hb dX5_swap_130 rfl hl (by decide) rfl (fun ls hl => ?_)
                  refine lv_iload hx hb dX5_swap_131 (lv_at hl 1 rfl) ?_
                  refine lv_iload_n hx hb dX5_swap_133 rfl (lv_at hl 5 rfl) ?_
                  refine xi_c_le (tgt := 142) hx hb ⟨by omega, by omega⟩ ⟨by omega, by omega⟩ dX5_swap_134 (by decide) (fun z28 => ?_) (fun z28 => ?_)
                  · refine lv_iload_n hx hb dX5_swap_142 rfl (lv_at hl 5 rfl) ?_
                    refine lv_istore_n (lv' := [(3, .int (iI ((swI (swV f1 n) p (swO (swV f1 n) (f1 1).toNat ((-1 : Int), sumA (seaN f1 n.toNat) 3) p) j).2))), (2, .int (iI (10 * (p : Int) + ((p + 1 + j : Nat) : Int)))), (7, .int (iI (sumA (seaN (swp f1 (p : Int) ((p + 1 + j : Nat) : Int)) (Int.toNat n)) 3))), (6, .int (iI (f1 (61 + 5 * (p : Int) + 1)))), (5, .int (iI ((p + 1 + j : Nat) : Int))), (4, .int (iI (p : Int))), (0, .ref (a 0)), (1, .int (iI n))]) hx hb dX5_swap_143 rfl hl (by decide) rfl (fun ls hl => ?_)
                    refine xi_inc (lv' := [(5, .int (iI (((p + 1 + j : Nat) : Int) + 1))), (3, .int (iI ((swI (swV f1 n) p (swO (swV f1 n) (f1 1).toNat ((-1 : Int), sumA (seaN f1 n.toNat) 3) p) j).2))), (2, .int (iI (10 * (p : Int) + ((p + 1 + j : Nat) : Int)))), (7, .int (iI (sumA (seaN (swp f1 (p : Int) ((p + 1 + j : Nat) : Int)) (Int.toNat n)) 3))), (6, .int (iI (f1 (61 + 5 * (p : Int) + 1)))), (4, .int (iI (p : Int))), (0, .ref (a 0)), (1, .int (iI n))]) hx hb dX5_swap_144 hl (k := 4) rfl (by decide) rfl (fun ls hl => ?_)
                    refine lv_goto (tgt := 50) hx hb dX5_swap_147 (by decide) ?_
                    have hq29 : (((p + 1 + j : Nat) : Int) + 1) = ((p + 1 + (j + 1) : Nat) : Int) := by omega
                    have hq30 : ((swI (swV f1 n) p (swO (swV f1 n) (f1 1).toNat ((-1 : Int), sumA (seaN f1 n.toNat) 3) p) j).2) = ((swI (swV f1 n) p (swO (swV f1 n) (f1 1).toNat ((-1 : Int), sumA (seaN f1 n.toNat) 3) p) (j + 1)).2) := by simp only [swI]; first | (rw [if_pos (by omega)]; done) | (rw [if_pos (by omega)]; dsimp only; omega) | (rw [if_neg (by omega)]; done) | (exfalso; omega)
                    have hq31 : (10 * (p : Int) + ((p + 1 + j : Nat) : Int)) = ((swI (swV f1 n) p (swO (swV f1 n) (f1 1).toNat ((-1 : Int), sumA (seaN f1 n.toNat) 3) p) (j + 1)).1) := by simp only [swI]; first | (rw [if_pos (by omega)]; done) | (rw [if_pos (by omega)]; dsimp only; omega) | (rw [if_neg (by omega)]; done) | (exfalso; omega)
                    have hl : lv_has ls 8 [(5, .int (iI (((p + 1 + j : Nat) : Int) + 1))), (4, .int (iI (p : Int))), (3, .int (iI ((swI (swV f1 n) p (swO (swV f1 n) (f1 1).toNat ((-1 : Int), sumA (seaN f1 n.toNat) 3) p) j).2))), (2, .int (iI (10 * (p : Int) + ((p + 1 + j : Nat) : Int)))), (0, .ref (a 0)), (1, .int (iI n))] := lv_sub hl [0, 5, 1, 2, 6, 7] rfl
                    have hl := Eq.mp (congrArg (fun z9 => lv_has ls 8 [(5, .int (iI z9)), (4, .int (iI (p : Int))), (3, .int (iI ((swI (swV f1 n) p (swO (swV f1 n) (f1 1).toNat ((-1 : Int), sumA (seaN f1 n.toNat) 3) p) j).2))), (2, .int (iI (10 * (p : Int) + ((p + 1 + j : Nat) : Int)))), (0, .ref (a 0)), (1, .int (iI n))]) hq29) hl
                    have hl := Eq.mp (congrArg (fun z9 => lv_has ls 8 [(5, .int (iI ((p + 1 + (j + 1) : Nat) : Int))), (4, .int (iI (p : Int))), (3, .int (iI z9)), (2, .int (iI (10 * (p : Int) + ((p + 1 + j : Nat) : Int)))), (0, .ref (a 0)), (1, .int (iI n))]) hq30) hl
                    have hl := Eq.mp (congrArg (fun z9 => lv_has ls 8 [(5, .int (iI ((p + 1 + (j + 1) : Nat) : Int))), (4, .int (iI (p : Int))), (3, .int (iI ((swI (swV f1 n) p (swO (swV f1 n) (f1 1).toNat ((-1 : Int), sumA (seaN f1 n.toNat) 3) p) (j + 1)).2))), (2, .int (iI z9)), (0, .ref (a 0)), (1, .int (iI n))]) hq31) hl
                    exact ih50 (j + 1) (u18 7) (by omega) (by omega) ls hl H locs hP hD hS
                  · refine lv_iload hx hb dX5_swap_137 (lv_at hl 1 rfl) ?_
                    refine lv_goto (tgt := 143) hx hb dX5_swap_139 (by decide) ?_
                    refine lv_istore_n (lv' := [(3, .int (iI (sumA (seaN (swp f1 (p : Int) ((p + 1 + j : Nat) : Int)) (Int.toNat n)) 3))), (2, .int (iI (10 * (p : Int) + ((p + 1 + j : Nat) : Int)))), (7, .int (iI (sumA (seaN (swp f1 (p : Int) ((p + 1 + j : Nat) : Int)) (Int.toNat n)) 3))), (6, .int (iI (f1 (61 + 5 * (p : Int) + 1)))), (5, .int (iI ((p + 1 + j : Nat) : Int))), (4, .int (iI (p : Int))), (0, .ref (a 0)), (1, .int (iI n))]) hx hb dX5_swap_143 rfl hl (by decide) rfl (fun ls hl => ?_)
                    refine xi_inc (lv' := [(5, .int (iI (((p + 1 + j : Nat) : Int) + 1))), (3, .int (iI (sumA (seaN (swp f1 (p : Int) ((p + 1 + j : Nat) : Int)) (Int.toNat n)) 3))), (2, .int (iI (10 * (p : Int) + ((p + 1 + j : Nat) : Int)))), (7, .int (iI (sumA (seaN (swp f1 (p : Int) ((p + 1 + j : Nat) : Int)) (Int.toNat n)) 3))), (6, .int (iI (f1 (61 + 5 * (p : Int) + 1)))), (4, .int (iI (p : Int))), (0, .ref (a 0)), (1, .int (iI n))]) hx hb dX5_swap_144 hl (k := 4) rfl (by decide) rfl (fun ls hl => ?_)
                    refine lv_goto (tgt := 50) hx hb dX5_swap_147 (by decide) ?_
                    have hq32 : (((p + 1 + j : Nat) : Int) + 1) = ((p + 1 + (j + 1) : Nat) : Int) := by omega
                    have hq33 : (sumA (seaN (swp f1 (p : Int) ((p + 1 + j : Nat) : Int)) (Int.toNat n)) 3) = ((swI (swV f1 n) p (swO (swV f1 n) (f1 1).toNat ((-1 : Int), sumA (seaN f1 n.toNat) 3) p) (j + 1)).2) := by simp only [swI]; first | (rw [if_pos (by omega)]; done) | (rw [if_pos (by omega)]; dsimp only; omega) | (rw [if_neg (by omega)]; done) | (exfalso; omega)
                    have hq34 : (10 * (p : Int) + ((p + 1 + j : Nat) : Int)) = ((swI (swV f1 n) p (swO (swV f1 n) (f1 1).toNat ((-1 : Int), sumA (seaN f1 n.toNat) 3) p) (j + 1)).1) := by simp only [swI]; first | (rw [if_pos (by omega)]; done) | (rw [if_pos (by omega)]; dsimp only; omega) | (rw [if_neg (by omega)]; done) | (exfalso; omega)
                    have hl : lv_has ls 8 [(5, .int (iI (((p + 1 + j : Nat) : Int) + 1))), (4, .int (iI (p : Int))), (3, .int (iI (sumA (seaN (swp f1 (p : Int) ((p + 1 + j : Nat) : Int)) (Int.toNat n)) 3))), (2, .int (iI (10 * (p : Int) + ((p + 1 + j : Nat) : Int)))), (0, .ref (a 0)), (1, .int (iI n))] := lv_sub hl [0, 5, 1, 2, 6, 7] rfl
                    have hl := Eq.mp (congrArg (fun z9 => lv_has ls 8 [(5, .int (iI z9)), (4, .int (iI (p : Int))), (3, .int (iI (sumA (seaN (swp f1 (p : Int) ((p + 1 + j : Nat) : Int)) (Int.toNat n)) 3))), (2, .int (iI (10 * (p : Int) + ((p + 1 + j : Nat) : Int)))), (0, .ref (a 0)), (1, .int (iI n))]) hq32) hl
                    have hl := Eq.mp (congrArg (fun z9 => lv_has ls 8 [(5, .int (iI ((p + 1 + (j + 1) : Nat) : Int))), (4, .int (iI (p : Int))), (3, .int (iI z9)), (2, .int (iI (10 * (p : Int) + ((p + 1 + j : Nat) : Int)))), (0, .ref (a 0)), (1, .int (iI n))]) hq33) hl
                    have hl := Eq.mp (congrArg (fun z9 => lv_has ls 8 [(5, .int (iI ((p + 1 + (j + 1) : Nat) : Int))), (4, .int (iI (p : Int))), (3, .int (iI ((swI (swV f1 n) p (swO (swV f1 n) (f1 1).toNat ((-1 : Int), sumA (seaN f1 n.toNat) 3) p) (j + 1)).2))), (2, .int (iI z9)), (0, .ref (a 0)), (1, .int (iI n))]) hq34) hl
                    exact ih50 (j + 1) (u18 7) (by omega) (by omega) ls hl H locs hP hD hS
          have hq35 : ((p : Int) + 1) = ((p + 1 + 0 : Nat) : Int) := by omega
          have hq36 : ((swO (swV f1 n) (f1 1).toNat ((-1 : Int), sumA (seaN f1 n.toNat) 3) p).2) = ((swI (swV f1 n) p (swO (swV f1 n) (f1 1).toNat ((-1 : Int), sumA (seaN f1 n.toNat) 3) p) 0).2) := rfl
          have hq37 : ((swO (swV f1 n) (f1 1).toNat ((-1 : Int), sumA (seaN f1 n.toNat) 3) p).1) = ((swI (swV f1 n) p (swO (swV f1 n) (f1 1).toNat ((-1 : Int), sumA (seaN f1 n.toNat) 3) p) 0).1) := rfl
          have hl : lv_has ls 8 [(5, .int (iI ((p : Int) + 1))), (4, .int (iI (p : Int))), (3, .int (iI ((swO (swV f1 n) (f1 1).toNat ((-1 : Int), sumA (seaN f1 n.toNat) 3) p).2))), (2, .int (iI ((swO (swV f1 n) (f1 1).toNat ((-1 : Int), sumA (seaN f1 n.toNat) 3) p).1))), (0, .ref (a 0)), (1, .int (iI n))] := lv_sub hl [0, 1, 2, 3, 4, 5] rfl
          have hl := Eq.mp (congrArg (fun z9 => lv_has ls 8 [(5, .int (iI z9)), (4, .int (iI (p : Int))), (3, .int (iI ((swO (swV f1 n) (f1 1).toNat ((-1 : Int), sumA (seaN f1 n.toNat) 3) p).2))), (2, .int (iI ((swO (swV f1 n) (f1 1).toNat ((-1 : Int), sumA (seaN f1 n.toNat) 3) p).1))), (0, .ref (a 0)), (1, .int (iI n))]) hq35) hl
          have hl := Eq.mp (congrArg (fun z9 => lv_has ls 8 [(5, .int (iI ((p + 1 + 0 : Nat) : Int))), (4, .int (iI (p : Int))), (3, .int (iI z9)), (2, .int (iI ((swO (swV f1 n) (f1 1).toNat ((-1 : Int), sumA (seaN f1 n.toNat) 3) p).1))), (0, .ref (a 0)), (1, .int (iI n))]) hq36) hl
          have hl := Eq.mp (congrArg (fun z9 => lv_has ls 8 [(5, .int (iI ((p + 1 + 0 : Nat) : Int))), (4, .int (iI (p : Int))), (3, .int (iI ((swI (swV f1 n) p (swO (swV f1 n) (f1 1).toNat ((-1 : Int), sumA (seaN f1 n.toNat) 3) p) 0).2))), (2, .int (iI z9)), (0, .ref (a 0)), (1, .int (iI n))]) hq37) hl
          exact lp50 (8 + 1) 0 l7 (by omega) (by omega) ls hl H locs hP hD hS
    have hq38 : 0 = (0 : Int) := rfl
    have hq39 : (sumA (seaN f1 (Int.toNat n)) 3) = ((swO (swV f1 n) (f1 1).toNat ((-1 : Int), sumA (seaN f1 n.toNat) 3) 0).2) := rfl
    have hq40 : (-1) = ((swO (swV f1 n) (f1 1).toNat ((-1 : Int), sumA (seaN f1 n.toNat) 3) 0).1) := rfl
    have hl : lv_has ls 8 [(4, .int (iI 0)), (3, .int (iI (sumA (seaN f1 (Int.toNat n)) 3))), (2, .int (iI (-1))), (0, .ref (a 0)), (1, .int (iI n))] := lv_sub hl [0, 1, 2, 3, 4] rfl
    have hl := Eq.mp (congrArg (fun z9 => lv_has ls 8 [(4, .int (iI z9)), (3, .int (iI (sumA (seaN f1 (Int.toNat n)) 3))), (2, .int (iI (-1))), (0, .ref (a 0)), (1, .int (iI n))]) hq38) hl
    have hl := Eq.mp (congrArg (fun z9 => lv_has ls 8 [(4, .int (iI (0 : Int))), (3, .int (iI z9)), (2, .int (iI (-1))), (0, .ref (a 0)), (1, .int (iI n))]) hq39) hl
    have hl := Eq.mp (congrArg (fun z9 => lv_has ls 8 [(4, .int (iI (0 : Int))), (3, .int (iI ((swO (swV f1 n) (f1 1).toNat ((-1 : Int), sumA (seaN f1 n.toNat) 3) 0).2))), (2, .int (iI z9)), (0, .ref (a 0)), (1, .int (iI n))]) hq40) hl
    exact lp33 (8 + 1) 0 (u3 7) (by omega) (by omega) (by omega) ls hl H locs hP hD hS
  · refine xi_zf_ne hx hb ⟨by decide, by decide⟩ (by decide) dX5_swap_4 ⟨14, by decide⟩ ?_
    refine lv_aload_n hx hb dX5_swap_7 rfl (lv_at hl 0 rfl) ?_
    refine xi_ldc hx hb hown hts kk_X5_50 dX5_swap_8 ?_
    refine xm_i (rV (rest := []) hx hb hml hown hts hK hl (c_X5_finds l g a f1 f2 f3 f4 f5 f6 f7 f8 f9 f10 f11 f12 f13 f20 f21 f22 f23 f24 f25 (-1000000001) (s.heap).size (show 0 ≤ -1000000001 - (-1000000001) ∧ -1000000001 - (-1000000001) < 7 from by omega)) lk_X5_74 ⟨rfl, hP, hD.weaken (fun _ _ _ _ => trivial)⟩ (va_recv hK.1 hP (ci := 5) (q0 := 0) rfl rfl) rfl rfl rfl (Rm.of rfl) rfl rfl dX5_swap_10) hD hS hA (fun x9 _ H locs hw hP hD hS => ?_)
    obtain rfl : x9 = iI (-1000000001) := hw
    have hP : va_P g.1 vwCl (wM g a f1 f2 f3 f4 f5 (fb (-1000000000 - (-1000000001)) f6) f7 f8 f9 f10 f11 f12 f13 f20 f21 f22 f23 f24 f25) H := hP
    have hD : va_D (va_A (wM g a f1 f2 f3 f4 f5 f6 f7 f8 f9 f10 f11 f12 f13 f20 f21 f22 f23 f24 f25) s.heap.size) (wM g a f1 f2 f3 f4 f5 (fb (-1000000000 - (-1000000001)) f6) f7 f8 f9 f10 f11 f12 f13 f20 f21 f22 f23 f24 f25) := hD
    have hf : fSwap f1 n = 1 := by unfold fSwap; (repeat (first | rw [if_pos (by omega)] | rw [if_neg (by omega)])); first | done | (exfalso; omega)
    have he42 : (fb (-1000000000 - (-1000000001)) f6) = (fb (fSwap f1 n) f6) := by rw [hf]; rfl
    have hP := Eq.mp (congrArg (fun z9 => va_P g.1 vwCl (wM g a f1 f2 f3 f4 f5 z9 f7 f8 f9 f10 f11 f12 f13 f20 f21 f22 f23 f24 f25) H) he42) hP
    have hD := Eq.mp (congrArg (fun z9 => va_D (va_A (wM g a f1 f2 f3 f4 f5 f6 f7 f8 f9 f10 f11 f12 f13 f20 f21 f22 f23 f24 f25) s.heap.size) (wM g a f1 f2 f3 f4 f5 z9 f7 f8 f9 f10 f11 f12 f13 f20 f21 f22 f23 f24 f25)) he42) hD
    have hP : va_P g.1 vwCl (wM g a f1 f2 f3 ((su (su (fun _ _ => 0) 4 f4) 7 f7) 4) f5 (fb (fSwap f1 n) f6) ((su (su (fun _ _ => 0) 4 f4) 7 f7) 7) f8 f9 f10 f11 f12 f13 f20 f21 f22 f23 f24 f25) H := hP
    have hD : va_D (va_A (wM g a f1 f2 f3 f4 f5 f6 f7 f8 f9 f10 f11 f12 f13 f20 f21 f22 f23 f24 f25) s.heap.size) (wM g a f1 f2 f3 ((su (su (fun _ _ => 0) 4 f4) 7 f7) 4) f5 (fb (fSwap f1 n) f6) ((su (su (fun _ _ => 0) 4 f4) 7 f7) 7) f8 f9 f10 f11 f12 f13 f20 f21 f22 f23 f24 f25) := hD
    exact W.iret hx hb hr (fun t ht hW => ⟨⟨_, (su (su (fun _ _ => 0) 4 f4) 7 f7), rfl, by rw [hf]; rfl, by rw [ht]; exact hP, hD⟩, hS.F ht⟩) hS.2.2 dX5_swap_13

abbrev rm_X5_lines : Room := { frames := 4, cells := 0, slots := 0, locals := 86 }
set_option maxRecDepth 100000 in
set_option maxHeartbeats 4000000 in
theorem c_X5_lines (l : Launch) (g : Gd) (a : Nat → Nat) (f1 : Int → Int) (f2 : Int → Int) (f3 : Int → Int) (f4 : Int → Int) (f5 : Int → Int) (f6 : Int → Int) (f7 : Int → Int) (f8 : Int → Int) (f9 : Int → Int) (f10 : Int → Int) (f11 : Int → Int) (f12 : Int → Int) (f13 : Int → Int) (f20 : Int) (f21 : Int) (f22 : Int) (f23 : Int) (f24 : Int) (f25 : Int) (sz : Nat) (h1 : Inv f1) : Met l yX5_lines (wsOf yX5_lines cX5_lines 4 none) rm_X5_lines (PX g (wP g (wM g a f1 f2 f3 f4 f5 f6 f7 f8 f9 f10 f11 f12 f13 f20 f21 f22 f23 f24 f25) sz) [.ref (a 0)]) (QMv g (fun _ : Unit => wM g a f1 f2 f3 f4 f5 f6 (lineT f1 f7 (f1 1).toNat) f8 f9 f10 f11 f12 f13 f20 f21 f22 f23 f24 f25) (fun _ => True) (va_A (wM g a f1 f2 f3 f4 f5 f6 f7 f8 f9 f10 f11 f12 f13 f20 f21 f22 f23 f24 f25) sz)) 0 0 (va_A (wM g a f1 f2 f3 f4 f5 f6 f7 f8 f9 f10 f11 f12 f13 f20 f21 f22 f23 f24 f25) sz) := by
  refine me (g := g) (by decide) rfl ?_
  intro pq eq s mq below meth cq C hnm hB ls hl
  obtain ⟨hx, hb, hr, hml, hown, hts, hlocks, hK⟩ := C
  have hown : s.vm.findClass RX5 = some mq.cls := hown
  have hl : lv_has ls 4 [(0, .ref (a 0))] := hl
  obtain ⟨hsz, hP, hD0⟩ := hB
  subst hsz
  have hD := hD0.self (sz := s.heap.size)
  have hA : ∀ q : Nat, s.heap.size ≤ q → va_A (wM g a f1 f2 f3 f4 f5 f6 f7 f8 f9 f10 f11 f12 f13 f20 f21 f22 f23 f24 f25) s.heap.size q := fun q h => Or.inr h
  have hS : va_S (va_A (wM g a f1 f2 f3 f4 f5 f6 f7 f8 f9 f10 f11 f12 f13 f20 f21 f22 f23 f24 f25) s.heap.size) s.heap s.heap [] := va_S.rf
  have hI := h1
  have hn := hI.num
  have hs := hI.sea
  refine lv_iconst (v := iI (0)) hx hb dX5_lines_0 (by decide) ?_
  refine lv_istore_n (lv' := [(1, .int (iI 0)), (0, .ref (a 0))]) hx hb dX5_lines_1 rfl hl (by decide) rfl (fun ls hl => ?_)
  have lp2 : ∀ (n2 : Nat) (r : Nat), ((r : Int) ≤ f1 1) → 8 - r < n2 → ∀ ls : Array Slot, lv_has ls 4 [(1, .int (iI (r : Int))), (0, .ref (a 0))] → ∀ (H : Heap) (locs : List Loc), va_P g.1 vwCl (wM g a f1 f2 f3 f4 f5 f6 (lineT f1 f7 r) f8 f9 f10 f11 f12 f13 f20 f21 f22 f23 f24 f25) H → va_D (va_A (wM g a f1 f2 f3 f4 f5 f6 f7 f8 f9 f10 f11 f12 f13 f20 f21 f22 f23 f24 f25) s.heap.size) (wM g a f1 f2 f3 f4 f5 f6 (lineT f1 f7 r) f8 f9 f10 f11 f12 f13 f20 f21 f22 f23 f24 f25) → va_S (va_A (wM g a f1 f2 f3 f4 f5 f6 f7 f8 f9 f10 f11 f12 f13 f20 f21 f22 f23 f24 f25) s.heap.size) s.heap H locs → W pq l eq rm_X5_lines s mq [.ref (a 0)].toArray below meth cq H locs 0 0 (MQ below (QMv g (fun _ : Unit => wM g a f1 f2 f3 f4 f5 f6 (lineT f1 f7 (f1 1).toNat) f8 f9 f10 f11 f12 f13 f20 f21 f22 f23 f24 f25) (fun _ => True) (va_A (wM g a f1 f2 f3 f4 f5 f6 f7 f8 f9 f10 f11 f12 f13 f20 f21 f22 f23 f24 f25) s.heap.size)) [.ref (a 0)].toArray s 0 0 (va_A (wM g a f1 f2 f3 f4 f5 f6 f7 f8 f9 f10 f11 f12 f13 f20 f21 f22 f23 f24 f25) s.heap.size)) (F0 mq 2 ls []) := by
    intro n2
    induction n2 with
    | zero => intro r i2_1 hm; exact absurd hm (Nat.not_lt_zero _)
    | succ n2 ih2 =>
      intro r i2_1 hm2 ls hl H locs hP hD hS
      refine lv_iload_n hx hb dX5_lines_2 rfl (lv_at hl 0 rfl) ?_
      refine lv_aload_n hx hb dX5_lines_3 rfl (lv_at hl 1 rfl) ?_
      refine xg_X5 hx hb hts hown hK hP 0 rfl 0 (by decide) fk_X5_7 (v := .ref (a 1)) rfl dX5_lines_4 ?_
      refine lv_iconst (v := iI (1)) hx hb dX5_lines_7 (by decide) ?_
      refine xi_ald hx hb hK hP 1 (f := f1) rfl (i := 1) ⟨by omega, by omega⟩ rfl dX5_lines_8 ?_
      refine xi_c_ge (tgt := 67) hx hb ⟨by omega, by omega⟩ ⟨by omega, by omega⟩ dX5_lines_9 (by decide) (fun z1 => ?_) (fun z1 => ?_)
      · have he2 : (lineT f1 f7 r) = (lineT f1 f7 (f1 1).toNat) := by rw [show (f1 1).toNat = r by omega]
        have hP := Eq.mp (congrArg (fun z9 => va_P g.1 vwCl (wM g a f1 f2 f3 f4 f5 f6 z9 f8 f9 f10 f11 f12 f13 f20 f21 f22 f23 f24 f25) H) he2) hP
        have hD := Eq.mp (congrArg (fun z9 => va_D (va_A (wM g a f1 f2 f3 f4 f5 f6 f7 f8 f9 f10 f11 f12 f13 f20 f21 f22 f23 f24 f25) s.heap.size) (wM g a f1 f2 f3 f4 f5 f6 z9 f8 f9 f10 f11 f12 f13 f20 f21 f22 f23 f24 f25)) he2) hD
        have hP : va_P g.1 vwCl (wM g a f1 f2 f3 f4 f5 f6 (lineT f1 f7 (f1 1).toNat) f8 f9 f10 f11 f12 f13 f20 f21 f22 f23 f24 f25) H := hP
        have hD : va_D (va_A (wM g a f1 f2 f3 f4 f5 f6 f7 f8 f9 f10 f11 f12 f13 f20 f21 f22 f23 f24 f25) s.heap.size) (wM g a f1 f2 f3 f4 f5 f6 (lineT f1 f7 (f1 1).toNat) f8 f9 f10 f11 f12 f13 f20 f21 f22 f23 f24 f25) := hD
        exact W.vret hx hb hr (fun t ht hW => ⟨⟨(), rfl, trivial, by rw [ht]; exact hP, hD⟩, hS.F ht⟩) hS.2.2 dX5_lines_67
      · refine lv_iconst (v := iI (0)) hx hb dX5_lines_12 (by decide) ?_
        refine lv_istore_n (lv' := [(2, .int (iI 0)), (1, .int (iI (r : Int))), (0, .ref (a 0))]) hx hb dX5_lines_13 rfl hl (by decide) rfl (fun ls hl => ?_)
        refine lv_iconst (v := iI (0)) hx hb dX5_lines_14 (by decide) ?_
        refine lv_istore_n (lv' := [(3, .int (iI 0)), (2, .int (iI 0)), (1, .int (iI (r : Int))), (0, .ref (a 0))]) hx hb dX5_lines_15 rfl hl (by decide) rfl (fun ls hl => ?_)
        have lp16 : ∀ (n16 : Nat) (k : Nat), ((k : Int) ≤ f1 1) → 8 - k < n16 → ∀ ls : Array Slot, lv_has ls 4 [(3, .int (iI (k : Int))), (2, .int (iI (rkT f1 r k))), (1, .int (iI (r : Int))), (0, .ref (a 0))] → ∀ (H : Heap) (locs : List Loc), va_P g.1 vwCl (wM g a f1 f2 f3 f4 f5 f6 (lineT f1 f7 r) f8 f9 f10 f11 f12 f13 f20 f21 f22 f23 f24 f25) H → va_D (va_A (wM g a f1 f2 f3 f4 f5 f6 f7 f8 f9 f10 f11 f12 f13 f20 f21 f22 f23 f24 f25) s.heap.size) (wM g a f1 f2 f3 f4 f5 f6 (lineT f1 f7 r) f8 f9 f10 f11 f12 f13 f20 f21 f22 f23 f24 f25) → va_S (va_A (wM g a f1 f2 f3 f4 f5 f6 f7 f8 f9 f10 f11 f12 f13 f20 f21 f22 f23 f24 f25) s.heap.size) s.heap H locs → W pq l eq rm_X5_lines s mq [.ref (a 0)].toArray below meth cq H locs 0 0 (MQ below (QMv g (fun _ : Unit => wM g a f1 f2 f3 f4 f5 f6 (lineT f1 f7 (f1 1).toNat) f8 f9 f10 f11 f12 f13 f20 f21 f22 f23 f24 f25) (fun _ => True) (va_A (wM g a f1 f2 f3 f4 f5 f6 f7 f8 f9 f10 f11 f12 f13 f20 f21 f22 f23 f24 f25) s.heap.size)) [.ref (a 0)].toArray s 0 0 (va_A (wM g a f1 f2 f3 f4 f5 f6 f7 f8 f9 f10 f11 f12 f13 f20 f21 f22 f23 f24 f25) s.heap.size)) (F0 mq 16 ls []) := by
          intro n16
          induction n16 with
          | zero => intro k i16_1 hm; exact absurd hm (Nat.not_lt_zero _)
          | succ n16 ih16 =>
            intro k i16_1 hm16 ls hl H locs hP hD hS
            have hb7 := rkT_bb (s := f1) (r := (r : Int)) (by omega) k
            refine lv_iload_n hx hb dX5_lines_16 rfl (lv_at hl 0 rfl) ?_
            refine lv_aload_n hx hb dX5_lines_17 rfl (lv_at hl 3 rfl) ?_
            refine xg_X5 hx hb hts hown hK hP 0 rfl 0 (by decide) fk_X5_7 (v := .ref (a 1)) rfl dX5_lines_18 ?_
            refine lv_iconst (v := iI (1)) hx hb dX5_lines_21 (by decide) ?_
            refine xi_ald hx hb hK hP 1 (f := f1) rfl (i := 1) ⟨by omega, by omega⟩ rfl dX5_lines_22 ?_
            refine xi_c_ge (tgt := 54) hx hb ⟨by omega, by omega⟩ ⟨by omega, by omega⟩ dX5_lines_23 (by decide) (fun z3 => ?_) (fun z3 => ?_)
            · refine lv_aload_n hx hb dX5_lines_54 rfl (lv_at hl 3 rfl) ?_
              refine xg_X5 hx hb hts hown hK hP 0 rfl 7 (by decide) fk_X5_28 (v := .ref (a 7)) rfl dX5_lines_55 ?_
              refine lv_iload_n hx hb dX5_lines_58 rfl (lv_at hl 1 rfl) ?_
              refine lv_iload_n hx hb dX5_lines_59 rfl (lv_at hl 2 rfl) ?_
              refine xi_ast hx hb hK hP hD hS 7 (f := lineT f1 f7 r) rfl (i := rkT f1 r k) (v := (r : Int)) ⟨by omega, by omega⟩ rfl dX5_lines_60 (fun H locs hP hD hS => ?_)
              have hP : va_P g.1 vwCl (wM g a f1 f2 f3 f4 f5 f6 (up (lineT f1 f7 r) (rkT f1 r k) (r : Int)) f8 f9 f10 f11 f12 f13 f20 f21 f22 f23 f24 f25) H := hP
              have hD : va_D (va_A (wM g a f1 f2 f3 f4 f5 f6 f7 f8 f9 f10 f11 f12 f13 f20 f21 f22 f23 f24 f25) s.heap.size) (wM g a f1 f2 f3 f4 f5 f6 (up (lineT f1 f7 r) (rkT f1 r k) (r : Int)) f8 f9 f10 f11 f12 f13 f20 f21 f22 f23 f24 f25) := hD
              refine xi_inc (lv' := [(1, .int (iI ((r : Int) + 1))), (3, .int (iI (k : Int))), (2, .int (iI (rkT f1 r k))), (0, .ref (a 0))]) hx hb dX5_lines_61 hl (k := 2) rfl (by decide) rfl (fun ls hl => ?_)
              refine lv_goto (tgt := 2) hx hb dX5_lines_64 (by decide) ?_
              have hq4 : ((r : Int) + 1) = ((r + 1) : Int) := by omega
              have hl : lv_has ls 4 [(1, .int (iI ((r : Int) + 1))), (0, .ref (a 0))] := lv_sub hl [0, 3] rfl
              have hl := Eq.mp (congrArg (fun z9 => lv_has ls 4 [(1, .int (iI z9)), (0, .ref (a 0))]) hq4) hl
              have hq5 : (up (lineT f1 f7 r) (rkT f1 r k) (r : Int)) = (lineT f1 f7 (r + 1)) := by rw [lineT, rank, show (f1 1).toNat = k by omega]
              have hP := Eq.mp (congrArg (fun z9 => va_P g.1 vwCl (wM g a f1 f2 f3 f4 f5 f6 z9 f8 f9 f10 f11 f12 f13 f20 f21 f22 f23 f24 f25) H) hq5) hP
              have hD := Eq.mp (congrArg (fun z9 => va_D (va_A (wM g a f1 f2 f3 f4 f5 f6 f7 f8 f9 f10 f11 f12 f13 f20 f21 f22 f23 f24 f25) s.heap.size) (wM g a f1 f2 f3 f4 f5 f6 z9 f8 f9 f10 f11 f12 f13 f20 f21 f22 f23 f24 f25)) hq5) hD
              exact ih2 (r + 1) (by omega) (by omega) ls hl H locs hP hD hS
            · refine lv_iload_n hx hb dX5_lines_26 rfl (lv_at hl 1 rfl) ?_
              refine lv_iload_n hx hb dX5_lines_27 rfl (lv_at hl 0 rfl) ?_
              refine lv_iload_n hx hb dX5_lines_28 rfl (lv_at hl 2 rfl) ?_
              refine xi_c_eq (tgt := 45) hx hb ⟨by omega, by omega⟩ ⟨by omega, by omega⟩ dX5_lines_29 (by decide) (fun z6 => ?_) (fun z6 => ?_)
              · refine lv_iconst (v := iI (0)) hx hb dX5_lines_45 (by decide) ?_
                refine xi_add hx hb dX5_lines_46 ?_
                refine lv_istore_n (lv' := [(2, .int (iI (rkT f1 r k + 0))), (3, .int (iI (k : Int))), (1, .int (iI (r : Int))), (0, .ref (a 0))]) hx hb dX5_lines_47 rfl hl (by decide) rfl (fun ls hl => ?_)
                refine xi_inc (lv' := [(3, .int (iI ((k : Int) + 1))), (2, .int (iI (rkT f1 r k + 0))), (1, .int (iI (r : Int))), (0, .ref (a 0))]) hx hb dX5_lines_48 hl (k := 1) rfl (by decide) rfl (fun ls hl => ?_)
                refine lv_goto (tgt := 16) hx hb dX5_lines_51 (by decide) ?_
                have hq7 : ((k : Int) + 1) = ((k + 1) : Int) := by omega
                have hq8 : (rkT f1 r k + 0) = (rkT f1 r (k + 1)) := by first | (simp only [rkT]; rw [if_pos (by omega)]) | (simp only [rkT]; rw [if_neg (by omega)])
                have hl : lv_has ls 4 [(3, .int (iI ((k : Int) + 1))), (2, .int (iI (rkT f1 r k + 0))), (1, .int (iI (r : Int))), (0, .ref (a 0))] := lv_sub hl [0, 1, 2, 3] rfl
                have hl := Eq.mp (congrArg (fun z9 => lv_has ls 4 [(3, .int (iI z9)), (2, .int (iI (rkT f1 r k + 0))), (1, .int (iI (r : Int))), (0, .ref (a 0))]) hq7) hl
                have hl := Eq.mp (congrArg (fun z9 => lv_has ls 4 [(3, .int (iI ((k + 1) : Int))), (2, .int (iI z9)), (1, .int (iI (r : Int))), (0, .ref (a 0))]) hq8) hl
                exact ih16 (k + 1) (by omega) (by omega) ls hl H locs hP hD hS
              · refine lv_aload_n hx hb dX5_lines_32 rfl (lv_at hl 3 rfl) ?_
                refine lv_iload_n hx hb dX5_lines_33 rfl (lv_at hl 0 rfl) ?_
                refine lv_iload_n hx hb dX5_lines_34 rfl (lv_at hl 2 rfl) ?_
                refine xu_b (P := gf f1 (k : Int) (r : Int)) (rV (rest := [.int (iI (rkT f1 r k))]) hx hb hml hown hts hK hl (c_X5_goesFirst l g a f1 f2 f3 f4 f5 f6 (lineT f1 f7 r) f8 f9 f10 f11 f12 f13 f20 f21 f22 f23 f24 f25 (k : Int) (r : Int) (show Inv f1 from h1) (show 0 ≤ (k : Int) ∧ (k : Int) < f1 1 from by omega) (show 0 ≤ (r : Int) ∧ (r : Int) < f1 1 from by omega)) lk_X5_116 hP (va_recv hK.1 hP (ci := 5) (q0 := 0) rfl rfl) rfl rfl rfl (Rm.of rfl) rfl rfl dX5_lines_35) (fun z9 => ?_) (fun z9 => ?_)
                · refine xi_zf_eq hx hb ⟨by decide, by decide⟩ (by decide) dX5_lines_38 ⟨45, by decide⟩ ?_
                  refine lv_iconst (v := iI (1)) hx hb dX5_lines_41 (by decide) ?_
                  refine lv_goto (tgt := 46) hx hb dX5_lines_42 (by decide) ?_
                  refine xi_add hx hb dX5_lines_46 ?_
                  refine lv_istore_n (lv' := [(2, .int (iI (rkT f1 r k + 1))), (3, .int (iI (k : Int))), (1, .int (iI (r : Int))), (0, .ref (a 0))]) hx hb dX5_lines_47 rfl hl (by decide) rfl (fun ls hl => ?_)
                  refine xi_inc (lv' := [(3, .int (iI ((k : Int) + 1))), (2, .int (iI (rkT f1 r k + 1))), (1, .int (iI (r : Int))), (0, .ref (a 0))]) hx hb dX5_lines_48 hl (k := 1) rfl (by decide) rfl (fun ls hl => ?_)
                  refine lv_goto (tgt := 16) hx hb dX5_lines_51 (by decide) ?_
                  have hq10 : ((k : Int) + 1) = ((k + 1) : Int) := by omega
                  have hq11 : (rkT f1 r k + 1) = (rkT f1 r (k + 1)) := by first | (simp only [rkT]; rw [if_pos (by omega)]) | (simp only [rkT]; rw [if_neg (by omega)])
                  have hl : lv_has ls 4 [(3, .int (iI ((k : Int) + 1))), (2, .int (iI (rkT f1 r k + 1))), (1, .int (iI (r : Int))), (0, .ref (a 0))] := lv_sub hl [0, 1, 2, 3] rfl
                  have hl := Eq.mp (congrArg (fun z9 => lv_has ls 4 [(3, .int (iI z9)), (2, .int (iI (rkT f1 r k + 1))), (1, .int (iI (r : Int))), (0, .ref (a 0))]) hq10) hl
                  have hl := Eq.mp (congrArg (fun z9 => lv_has ls 4 [(3, .int (iI ((k + 1) : Int))), (2, .int (iI z9)), (1, .int (iI (r : Int))), (0, .ref (a 0))]) hq11) hl
                  exact ih16 (k + 1) (by omega) (by omega) ls hl H locs hP hD hS
                · refine xi_zt_eq (tgt := 45) hx hb ⟨by decide, by decide⟩ (by decide) dX5_lines_38 (by decide) ?_
                  refine lv_iconst (v := iI (0)) hx hb dX5_lines_45 (by decide) ?_
                  refine xi_add hx hb dX5_lines_46 ?_
                  refine lv_istore_n (lv' := [(2, .int (iI (rkT f1 r k + 0))), (3, .int (iI (k : Int))), (1, .int (iI (r : Int))), (0, .ref (a 0))]) hx hb dX5_lines_47 rfl hl (by decide) rfl (fun ls hl => ?_)
                  refine xi_inc (lv' := [(3, .int (iI ((k : Int) + 1))), (2, .int (iI (rkT f1 r k + 0))), (1, .int (iI (r : Int))), (0, .ref (a 0))]) hx hb dX5_lines_48 hl (k := 1) rfl (by decide) rfl (fun ls hl => ?_)
                  refine lv_goto (tgt := 16) hx hb dX5_lines_51 (by decide) ?_
                  have hq12 : ((k : Int) + 1) = ((k + 1) : Int) := by omega
                  have hq13 : (rkT f1 r k + 0) = (rkT f1 r (k + 1)) := by first | (simp only [rkT]; rw [if_pos (by omega)]) | (simp only [rkT]; rw [if_neg (by omega)])
                  have hl : lv_has ls 4 [(3, .int (iI ((k : Int) + 1))), (2, .int (iI (rkT f1 r k + 0))), (1, .int (iI (r : Int))), (0, .ref (a 0))] := lv_sub hl [0, 1, 2, 3] rfl
                  have hl := Eq.mp (congrArg (fun z9 => lv_has ls 4 [(3, .int (iI z9)), (2, .int (iI (rkT f1 r k + 0))), (1, .int (iI (r : Int))), (0, .ref (a 0))]) hq12) hl
                  have hl := Eq.mp (congrArg (fun z9 => lv_has ls 4 [(3, .int (iI ((k + 1) : Int))), (2, .int (iI z9)), (1, .int (iI (r : Int))), (0, .ref (a 0))]) hq13) hl
                  exact ih16 (k + 1) (by omega) (by omega) ls hl H locs hP hD hS
        have hq14 : 0 = (0 : Int) := rfl
        have hq15 : 0 = (rkT f1 r 0) := rfl
        have hl : lv_has ls 4 [(3, .int (iI 0)), (2, .int (iI 0)), (1, .int (iI (r : Int))), (0, .ref (a 0))] := lv_sub hl [0, 1, 2, 3] rfl
        have hl := Eq.mp (congrArg (fun z9 => lv_has ls 4 [(3, .int (iI z9)), (2, .int (iI 0)), (1, .int (iI (r : Int))), (0, .ref (a 0))]) hq14) hl
        have hl := Eq.mp (congrArg (fun z9 => lv_has ls 4 [(3, .int (iI (0 : Int))), (2, .int (iI z9)), (1, .int (iI (r : Int))), (0, .ref (a 0))]) hq15) hl
        exact lp16 (8 + 1) 0 (by omega) (by omega) ls hl H locs hP hD hS
  have hq16 : 0 = (0 : Int) := rfl
  have hl : lv_has ls 4 [(1, .int (iI 0)), (0, .ref (a 0))] := lv_sub hl [0, 1] rfl
  have hl := Eq.mp (congrArg (fun z9 => lv_has ls 4 [(1, .int (iI z9)), (0, .ref (a 0))]) hq16) hl
  have hq17 : f7 = (lineT f1 f7 0) := rfl
  have hP := Eq.mp (congrArg (fun z9 => va_P g.1 vwCl (wM g a f1 f2 f3 f4 f5 f6 z9 f8 f9 f10 f11 f12 f13 f20 f21 f22 f23 f24 f25) s.heap) hq17) hP
  have hD := Eq.mp (congrArg (fun z9 => va_D (va_A (wM g a f1 f2 f3 f4 f5 f6 f7 f8 f9 f10 f11 f12 f13 f20 f21 f22 f23 f24 f25) s.heap.size) (wM g a f1 f2 f3 f4 f5 f6 z9 f8 f9 f10 f11 f12 f13 f20 f21 f22 f23 f24 f25)) hq17) hD
  exact lp2 (8 + 1) 0 (by omega) (by omega) ls hl s.heap [] hP hD hS
abbrev rm_X5_goesOne : Room := { frames := 4, cells := 0, slots := 0, locals := 87 }
set_option maxRecDepth 100000 in
set_option maxHeartbeats 4000000 in
theorem c_X5_goesOne (l : Launch) (g : Gd) (a : Nat → Nat) (f1 : Int → Int) (f2 : Int → Int) (f3 : Int → Int) (f4 : Int → Int) (f5 : Int → Int) (f6 : Int → Int) (f7 : Int → Int) (f8 : Int → Int) (f9 : Int → Int) (f10 : Int → Int) (f11 : Int → Int) (f12 : Int → Int) (f13 : Int → Int) (f20 : Int) (f21 : Int) (f22 : Int) (f23 : Int) (f24 : Int) (f25 : Int) (r : Int) (sz : Nat) (h1 : InvK 7 f1) (h2 : 0 ≤ r ∧ r < f1 1) : Met l yX5_goesOne (wsOf yX5_goesOne cX5_goesOne 7 none) rm_X5_goesOne (PX g (wP g (wM g a f1 f2 f3 f4 f5 f6 f7 f8 f9 f10 f11 f12 f13 f20 f21 f22 f23 f24 f25) sz) [.ref (a 0), .int (iI r)]) (QMv g (fun _ : Unit => wM g a (goOne f1 r) f2 f3 f4 f5 f6 f7 f8 f9 f10 f11 f12 f13 f20 f21 f22 f23 f24 f25) (fun _ => True) (va_A (wM g a f1 f2 f3 f4 f5 f6 f7 f8 f9 f10 f11 f12 f13 f20 f21 f22 f23 f24 f25) sz)) 0 0 (va_A (wM g a f1 f2 f3 f4 f5 f6 f7 f8 f9 f10 f11 f12 f13 f20 f21 f22 f23 f24 f25) sz) := by
  refine me (g := g) (by decide) rfl ?_
  intro pq eq s mq below meth cq C hnm hB ls hl
  obtain ⟨hx, hb, hr, hml, hown, hts, hlocks, hK⟩ := C
  have hown : s.vm.findClass RX5 = some mq.cls := hown
  have hl : lv_has ls 7 [(0, .ref (a 0)), (1, .int (iI r))] := hl
  obtain ⟨hsz, hP, hD0⟩ := hB
  subst hsz
  have hD := hD0.self (sz := s.heap.size)
  have hA : ∀ q : Nat, s.heap.size ≤ q → va_A (wM g a f1 f2 f3 f4 f5 f6 f7 f8 f9 f10 f11 f12 f13 f20 f21 f22 f23 f24 f25) s.heap.size q := fun q h => Or.inr h
  have hS : va_S (va_A (wM g a f1 f2 f3 f4 f5 f6 f7 f8 f9 f10 f11 f12 f13 f20 f21 f22 f23 f24 f25) s.heap.size) s.heap s.heap [] := va_S.rf
  have hI := h1
  have hI8 : Inv f1 := h1.mono (by omega)
  have hn := hI.num
  have hs := hI.sea
  have hst := stride_b hI8 h2.1 h2.2
  refine lv_aload_n hx hb dX5_goesOne_0 rfl (lv_at hl 0 rfl) ?_
  refine lv_iload_n hx hb dX5_goesOne_1 rfl (lv_at hl 1 rfl) ?_
  refine xu_i (x := iI (stride f1 r)) (rV (rest := []) hx hb hml hown hts hK hl (c_X5_strideOf l g a f1 f2 f3 f4 f5 f6 f7 f8 f9 f10 f11 f12 f13 f20 f21 f22 f23 f24 f25 r (show Inv f1 from hI8) (show 0 ≤ r ∧ r < f1 1 from by omega)) lk_X5_132 hP (va_recv hK.1 hP (ci := 5) (q0 := 0) rfl rfl) rfl rfl rfl (Rm.of rfl) rfl rfl dX5_goesOne_2) ?_
  refine lv_istore_n (lv' := [(2, .int (iI (stride f1 r))), (0, .ref (a 0)), (1, .int (iI r))]) hx hb dX5_goesOne_5 rfl hl (by decide) rfl (fun ls hl => ?_)
  refine lv_iconst (v := iI (0)) hx hb dX5_goesOne_6 (by decide) ?_
  refine lv_istore_n (lv' := [(3, .int (iI 0)), (2, .int (iI (stride f1 r))), (0, .ref (a 0)), (1, .int (iI r))]) hx hb dX5_goesOne_7 rfl hl (by decide) rfl (fun ls hl => ?_)
  refine lv_iload_n hx hb dX5_goesOne_8 rfl (lv_at hl 0 rfl) ?_
  refine lv_iload_n hx hb dX5_goesOne_9 rfl (lv_at hl 1 rfl) ?_
  refine xi_c_ge (tgt := 17) hx hb ⟨by decide, by decide⟩ ⟨by omega, by omega⟩ dX5_goesOne_10 (by decide) (fun z2 => ?_) (fun z2 => ?_)
  · refine lv_iconst (v := iI (0)) hx hb dX5_goesOne_17 (by decide) ?_
    refine lv_istore (lv' := [(4, .int (iI 0)), (3, .int (iI 0)), (2, .int (iI (stride f1 r))), (0, .ref (a 0)), (1, .int (iI r))]) hx hb dX5_goesOne_18 hl (by decide) rfl (fun ls hl => ?_)
    have lp20 : ∀ (n20 : Nat) (cur : Int → Int) (gone : Int) (on : Int), (GI r (stride f1 r) (gOne r (stride f1 r) (stride f1 r).toNat f1 0) cur gone on) → (InvK 7 cur) → (cur 1 = f1 1 ∧ 0 ≤ gone ∧ gone ≤ (stride f1 r)) → (2 * ((stride f1 r) - gone) + on).toNat < n20 → ∀ ls : Array Slot, lv_has ls 7 [(4, .int (iI on)), (3, .int (iI gone)), (2, .int (iI (stride f1 r))), (0, .ref (a 0)), (1, .int (iI r))] → ∀ (H : Heap) (locs : List Loc), va_P g.1 vwCl (wM g a cur f2 f3 f4 f5 f6 f7 f8 f9 f10 f11 f12 f13 f20 f21 f22 f23 f24 f25) H → va_D (va_A (wM g a f1 f2 f3 f4 f5 f6 f7 f8 f9 f10 f11 f12 f13 f20 f21 f22 f23 f24 f25) s.heap.size) (wM g a cur f2 f3 f4 f5 f6 f7 f8 f9 f10 f11 f12 f13 f20 f21 f22 f23 f24 f25) → va_S (va_A (wM g a f1 f2 f3 f4 f5 f6 f7 f8 f9 f10 f11 f12 f13 f20 f21 f22 f23 f24 f25) s.heap.size) s.heap H locs → W pq l eq rm_X5_goesOne s mq [.ref (a 0), .int (iI r)].toArray below meth cq H locs 0 0 (MQ below (QMv g (fun _ : Unit => wM g a (goOne f1 r) f2 f3 f4 f5 f6 f7 f8 f9 f10 f11 f12 f13 f20 f21 f22 f23 f24 f25) (fun _ => True) (va_A (wM g a f1 f2 f3 f4 f5 f6 f7 f8 f9 f10 f11 f12 f13 f20 f21 f22 f23 f24 f25) s.heap.size)) [.ref (a 0), .int (iI r)].toArray s 0 0 (va_A (wM g a f1 f2 f3 f4 f5 f6 f7 f8 f9 f10 f11 f12 f13 f20 f21 f22 f23 f24 f25) s.heap.size)) (F0 mq 20 ls []) := by
      intro n20
      induction n20 with
      | zero => intro cur gone on i20_1 i20_2 i20_3 hm; exact absurd hm (Nat.not_lt_zero _)
      | succ n20 ih20 =>
        intro cur gone on i20_1 i20_2 i20_3 hm20 ls hl H locs hP hD hS
        have hc8 : Inv cur := i20_2.mono (by omega)
        have hon := i20_1.b
        have hcr := i20_2.ran r h2.1 (by omega)
        have hbb := bh_b hcr.2.1
        have hwb := who_b (bh (cur (61 + 5 * r + 1))) i20_2.num
        refine lv_iload hx hb dX5_goesOne_20 (lv_at hl 0 rfl) ?_
        refine xi_z_eq (tgt := 101) hx hb ⟨by omega, by omega⟩ dX5_goesOne_22 (by decide) (fun z3 => ?_) (fun z3 => ?_)
        · have hF := i20_1.off (by assumption)
          refine lv_aload_n hx hb dX5_goesOne_101 rfl (lv_at hl 3 rfl) ?_
          refine xg_X5 hx hb hts hown hK hP 0 rfl 0 (by decide) fk_X5_7 (v := .ref (a 1)) rfl dX5_goesOne_102 ?_
          refine lv_iload_n hx hb dX5_goesOne_105 rfl (lv_at hl 4 rfl) ?_
          refine lv_iconst (v := iI (3)) hx hb dX5_goesOne_106 (by decide) ?_
          refine xu_i (x := iI (61 + 5 * r + 3)) (rS (rest := [.ref (a 1)]) hx hb hml hown hts hK hl (c_X5_spot l g r 3 ) lk_X5_59 trivial rfl rfl rfl (Rm.of rfl) rfl rfl dX5_goesOne_107) ?_
          refine lv_dup2_11 hx hb dX5_goesOne_110 rfl rfl ?_
          refine xi_ald hx hb hK hP 1 (f := cur) rfl (i := 61 + 5 * r + 3) ⟨by omega, by omega⟩ rfl dX5_goesOne_111 ?_
          refine lv_iload_n hx hb dX5_goesOne_112 rfl (lv_at hl 1 rfl) ?_
          refine xi_add hx hb dX5_goesOne_113 ?_
          refine xi_ast hx hb hK hP hD hS 1 (f := cur) rfl (i := 61 + 5 * r + 3) (v := cur (61 + 5 * r + 3) + gone) ⟨by omega, by omega⟩ rfl dX5_goesOne_114 (fun H locs hP hD hS => ?_)
          have hP : va_P g.1 vwCl (wM g a (up cur (61 + 5 * r + 3) (cur (61 + 5 * r + 3) + gone)) f2 f3 f4 f5 f6 f7 f8 f9 f10 f11 f12 f13 f20 f21 f22 f23 f24 f25) H := hP
          have hD : va_D (va_A (wM g a f1 f2 f3 f4 f5 f6 f7 f8 f9 f10 f11 f12 f13 f20 f21 f22 f23 f24 f25) s.heap.size) (wM g a (up cur (61 + 5 * r + 3) (cur (61 + 5 * r + 3) + gone)) f2 f3 f4 f5 f6 f7 f8 f9 f10 f11 f12 f13 f20 f21 f22 f23 f24 f25) := hD
          refine lv_aload_n hx hb dX5_goesOne_115 rfl (lv_at hl 3 rfl) ?_
          refine xg_X5 hx hb hts hown hK hP 0 rfl 0 (by decide) fk_X5_7 (v := .ref (a 1)) rfl dX5_goesOne_116 ?_
          refine lv_iload_n hx hb dX5_goesOne_119 rfl (lv_at hl 4 rfl) ?_
          refine lv_iconst (v := iI (4)) hx hb dX5_goesOne_120 (by decide) ?_
          refine xu_i (x := iI (61 + 5 * r + 4)) (rS (rest := [.ref (a 1)]) hx hb hml hown hts hK hl (c_X5_spot l g r 4 ) lk_X5_59 trivial rfl rfl rfl (Rm.of rfl) rfl rfl dX5_goesOne_121) ?_
          refine lv_dup2_11 hx hb dX5_goesOne_124 rfl rfl ?_
          refine xi_ald hx hb hK hP 1 (f := up cur (61 + 5 * r + 3) (cur (61 + 5 * r + 3) + gone)) rfl (i := 61 + 5 * r + 4) ⟨by omega, by omega⟩ rfl dX5_goesOne_125 ?_
          refine lv_iload_n hx hb dX5_goesOne_126 rfl (lv_at hl 1 rfl) ?_
          refine lv_iload_n hx hb dX5_goesOne_127 rfl (lv_at hl 2 rfl) ?_
          refine xi_c_ge (tgt := 135) hx hb ⟨by omega, by omega⟩ ⟨by omega, by omega⟩ dX5_goesOne_128 (by decide) (fun z6 => ?_) (fun z6 => ?_)
          · refine lv_iconst (v := iI (0)) hx hb dX5_goesOne_135 (by decide) ?_
            refine xi_add hx hb dX5_goesOne_136 ?_
            refine xi_ast hx hb hK hP hD hS 1 (f := up cur (61 + 5 * r + 3) (cur (61 + 5 * r + 3) + gone)) rfl (i := 61 + 5 * r + 4) (v := (up cur (61 + 5 * r + 3) (cur (61 + 5 * r + 3) + gone)) (61 + 5 * r + 4) + 0) ⟨by omega, by omega⟩ rfl dX5_goesOne_137 (fun H locs hP hD hS => ?_)
            have hP : va_P g.1 vwCl (wM g a (up (up cur (61 + 5 * r + 3) (cur (61 + 5 * r + 3) + gone)) (61 + 5 * r + 4) ((up cur (61 + 5 * r + 3) (cur (61 + 5 * r + 3) + gone)) (61 + 5 * r + 4) + 0)) f2 f3 f4 f5 f6 f7 f8 f9 f10 f11 f12 f13 f20 f21 f22 f23 f24 f25) H := hP
            have hD : va_D (va_A (wM g a f1 f2 f3 f4 f5 f6 f7 f8 f9 f10 f11 f12 f13 f20 f21 f22 f23 f24 f25) s.heap.size) (wM g a (up (up cur (61 + 5 * r + 3) (cur (61 + 5 * r + 3) + gone)) (61 + 5 * r + 4) ((up cur (61 + 5 * r + 3) (cur (61 + 5 * r + 3) + gone)) (61 + 5 * r + 4) + 0)) f2 f3 f4 f5 f6 f7 f8 f9 f10 f11 f12 f13 f20 f21 f22 f23 f24 f25) := hD
            have he7 : (up (up cur (61 + 5 * r + 3) (cur (61 + 5 * r + 3) + gone)) (61 + 5 * r + 4) ((up cur (61 + 5 * r + 3) (cur (61 + 5 * r + 3) + gone)) (61 + 5 * r + 4) + 0)) = (goOne f1 r) := by unfold goOne; rw [← hF]; dsimp only; first | rw [if_pos (by omega)] | rw [if_neg (by omega)]
            have hP := Eq.mp (congrArg (fun z9 => va_P g.1 vwCl (wM g a z9 f2 f3 f4 f5 f6 f7 f8 f9 f10 f11 f12 f13 f20 f21 f22 f23 f24 f25) H) he7) hP
            have hD := Eq.mp (congrArg (fun z9 => va_D (va_A (wM g a f1 f2 f3 f4 f5 f6 f7 f8 f9 f10 f11 f12 f13 f20 f21 f22 f23 f24 f25) s.heap.size) (wM g a z9 f2 f3 f4 f5 f6 f7 f8 f9 f10 f11 f12 f13 f20 f21 f22 f23 f24 f25)) he7) hD
            have hP : va_P g.1 vwCl (wM g a (goOne f1 r) f2 f3 f4 f5 f6 f7 f8 f9 f10 f11 f12 f13 f20 f21 f22 f23 f24 f25) H := hP
            have hD : va_D (va_A (wM g a f1 f2 f3 f4 f5 f6 f7 f8 f9 f10 f11 f12 f13 f20 f21 f22 f23 f24 f25) s.heap.size) (wM g a (goOne f1 r) f2 f3 f4 f5 f6 f7 f8 f9 f10 f11 f12 f13 f20 f21 f22 f23 f24 f25) := hD
            exact W.vret hx hb hr (fun t ht hW => ⟨⟨(), rfl, trivial, by rw [ht]; exact hP, hD⟩, hS.F ht⟩) hS.2.2 dX5_goesOne_138
          · refine lv_iconst (v := iI (1)) hx hb dX5_goesOne_131 (by decide) ?_
            refine lv_goto (tgt := 136) hx hb dX5_goesOne_132 (by decide) ?_
            refine xi_add hx hb dX5_goesOne_136 ?_
            refine xi_ast hx hb hK hP hD hS 1 (f := up cur (61 + 5 * r + 3) (cur (61 + 5 * r + 3) + gone)) rfl (i := 61 + 5 * r + 4) (v := (up cur (61 + 5 * r + 3) (cur (61 + 5 * r + 3) + gone)) (61 + 5 * r + 4) + 1) ⟨by omega, by omega⟩ rfl dX5_goesOne_137 (fun H locs hP hD hS => ?_)
            have hP : va_P g.1 vwCl (wM g a (up (up cur (61 + 5 * r + 3) (cur (61 + 5 * r + 3) + gone)) (61 + 5 * r + 4) ((up cur (61 + 5 * r + 3) (cur (61 + 5 * r + 3) + gone)) (61 + 5 * r + 4) + 1)) f2 f3 f4 f5 f6 f7 f8 f9 f10 f11 f12 f13 f20 f21 f22 f23 f24 f25) H := hP
            have hD : va_D (va_A (wM g a f1 f2 f3 f4 f5 f6 f7 f8 f9 f10 f11 f12 f13 f20 f21 f22 f23 f24 f25) s.heap.size) (wM g a (up (up cur (61 + 5 * r + 3) (cur (61 + 5 * r + 3) + gone)) (61 + 5 * r + 4) ((up cur (61 + 5 * r + 3) (cur (61 + 5 * r + 3) + gone)) (61 + 5 * r + 4) + 1)) f2 f3 f4 f5 f6 f7 f8 f9 f10 f11 f12 f13 f20 f21 f22 f23 f24 f25) := hD
            have he8 : (up (up cur (61 + 5 * r + 3) (cur (61 + 5 * r + 3) + gone)) (61 + 5 * r + 4) ((up cur (61 + 5 * r + 3) (cur (61 + 5 * r + 3) + gone)) (61 + 5 * r + 4) + 1)) = (goOne f1 r) := by unfold goOne; rw [← hF]; dsimp only; first | rw [if_pos (by omega)] | rw [if_neg (by omega)]
            have hP := Eq.mp (congrArg (fun z9 => va_P g.1 vwCl (wM g a z9 f2 f3 f4 f5 f6 f7 f8 f9 f10 f11 f12 f13 f20 f21 f22 f23 f24 f25) H) he8) hP
            have hD := Eq.mp (congrArg (fun z9 => va_D (va_A (wM g a f1 f2 f3 f4 f5 f6 f7 f8 f9 f10 f11 f12 f13 f20 f21 f22 f23 f24 f25) s.heap.size) (wM g a z9 f2 f3 f4 f5 f6 f7 f8 f9 f10 f11 f12 f13 f20 f21 f22 f23 f24 f25)) he8) hD
            have hP : va_P g.1 vwCl (wM g a (goOne f1 r) f2 f3 f4 f5 f6 f7 f8 f9 f10 f11 f12 f13 f20 f21 f22 f23 f24 f25) H := hP
            have hD : va_D (va_A (wM g a f1 f2 f3 f4 f5 f6 f7 f8 f9 f10 f11 f12 f13 f20 f21 f22 f23 f24 f25) s.heap.size) (wM g a (goOne f1 r) f2 f3 f4 f5 f6 f7 f8 f9 f10 f11 f12 f13 f20 f21 f22 f23 f24 f25) := hD
            exact W.vret hx hb hr (fun t ht hW => ⟨⟨(), rfl, trivial, by rw [ht]; exact hP, hD⟩, hS.F ht⟩) hS.2.2 dX5_goesOne_138
        · have hgo := i20_1.on (by assumption)
          refine lv_aload_n hx hb dX5_goesOne_25 rfl (lv_at hl 3 rfl) ?_
          refine lv_iload_n hx hb dX5_goesOne_26 rfl (lv_at hl 4 rfl) ?_
          refine lv_iconst (v := iI (1)) hx hb dX5_goesOne_27 (by decide) ?_
          refine xu_i (x := iI (cur (61 + 5 * r + 1))) (rV (rest := []) hx hb hml hown hts hK hl (c_X5_its l g a cur f2 f3 f4 f5 f6 f7 f8 f9 f10 f11 f12 f13 f20 f21 f22 f23 f24 f25 r 1 (show 0 ≤ 61 + 5 * r + 1 ∧ 61 + 5 * r + 1 < 101 from by omega)) lk_X5_63 hP (va_recv hK.1 hP (ci := 5) (q0 := 0) rfl rfl) rfl rfl rfl (Rm.of rfl) rfl rfl dX5_goesOne_28) ?_
          refine xu_i (x := iI (bh (cur (61 + 5 * r + 1)))) (rS (rest := []) hx hb hml hown hts hK hl (c_X5_behind l g (cur (61 + 5 * r + 1)) (show IR (cur (61 + 5 * r + 1)) from ⟨by omega, by omega⟩)) lk_X5_91 trivial rfl rfl rfl (Rm.of rfl) rfl rfl dX5_goesOne_31) ?_
          refine lv_istore (lv' := [(5, .int (iI (bh (cur (61 + 5 * r + 1))))), (4, .int (iI on)), (3, .int (iI gone)), (2, .int (iI (stride f1 r))), (0, .ref (a 0)), (1, .int (iI r))]) hx hb dX5_goesOne_34 hl (by decide) rfl (fun ls hl => ?_)
          refine lv_aload_n hx hb dX5_goesOne_36 rfl (lv_at hl 4 rfl) ?_
          refine lv_iload hx hb dX5_goesOne_37 (lv_at hl 0 rfl) ?_
          refine xu_b (P := opn cur (bh (cur (61 + 5 * r + 1)))) (rV (rest := []) hx hb hml hown hts hK hl (c_X5_isOpen l g a cur f2 f3 f4 f5 f6 f7 f8 f9 f10 f11 f12 f13 f20 f21 f22 f23 f24 f25 (bh (cur (61 + 5 * r + 1))) (show Inv cur from hc8) (show 0 ≤ (bh (cur (61 + 5 * r + 1))) ∧ (bh (cur (61 + 5 * r + 1))) < 24 from (by omega))) lk_X5_84 hP (va_recv hK.1 hP (ci := 5) (q0 := 0) rfl rfl) rfl rfl rfl (Rm.of rfl) rfl rfl dX5_goesOne_39) (fun z11 => ?_) (fun z11 => ?_)
          · have z_o : opn cur (bh (cur (61 + 5 * r + 1))) := by assumption
            refine xi_zf_eq hx hb ⟨by decide, by decide⟩ (by decide) dX5_goesOne_42 ⟨58, by decide⟩ ?_
            refine lv_aload_n hx hb dX5_goesOne_45 rfl (lv_at hl 4 rfl) ?_
            refine lv_iload hx hb dX5_goesOne_46 (lv_at hl 0 rfl) ?_
            refine xu_i (x := iI (who cur (bh (cur (61 + 5 * r + 1))))) (rV (rest := []) hx hb hml hown hts hK hl (c_X5_isIn l g a cur f2 f3 f4 f5 f6 f7 f8 f9 f10 f11 f12 f13 f20 f21 f22 f23 f24 f25 (bh (cur (61 + 5 * r + 1))) (show Inv cur from hc8) (show IR (bh (cur (61 + 5 * r + 1))) from ⟨by omega, by omega⟩)) lk_X5_87 hP (va_recv hK.1 hP (ci := 5) (q0 := 0) rfl rfl) rfl rfl rfl (Rm.of rfl) rfl rfl dX5_goesOne_48) ?_
            refine xi_z_ge (tgt := 58) hx hb ⟨by omega, by omega⟩ dX5_goesOne_51 (by decide) (fun z13 => ?_) (fun z13 => ?_)
            · refine lv_iconst (v := iI (0)) hx hb dX5_goesOne_58 (by decide) ?_
              refine lv_istore (lv' := [(6, .int (iI 0)), (5, .int (iI (bh (cur (61 + 5 * r + 1))))), (4, .int (iI on)), (3, .int (iI gone)), (2, .int (iI (stride f1 r))), (0, .ref (a 0)), (1, .int (iI r))]) hx hb dX5_goesOne_59 hl (by decide) rfl (fun ls hl => ?_)
              refine lv_iload hx hb dX5_goesOne_61 (lv_at hl 0 rfl) ?_
              refine xi_zt_eq (tgt := 81) hx hb ⟨by decide, by decide⟩ (by decide) dX5_goesOne_63 (by decide) ?_
              refine lv_iload hx hb dX5_goesOne_81 (lv_at hl 0 rfl) ?_
              refine xi_zt_eq (tgt := 95) hx hb ⟨by decide, by decide⟩ (by decide) dX5_goesOne_83 (by decide) ?_
              refine lv_iconst (v := iI (0)) hx hb dX5_goesOne_95 (by decide) ?_
              refine lv_istore (lv' := [(4, .int (iI 0)), (6, .int (iI 0)), (5, .int (iI (bh (cur (61 + 5 * r + 1))))), (3, .int (iI gone)), (2, .int (iI (stride f1 r))), (0, .ref (a 0)), (1, .int (iI r))]) hx hb dX5_goesOne_96 hl (by decide) rfl (fun ls hl => ?_)
              refine lv_goto (tgt := 20) hx hb dX5_goesOne_98 (by decide) ?_
              exact ih20 cur gone 0 (by first | exact GI.m1 hgo z_o z_w (by omega) | exact GI.m2 hgo z_o z_w (by omega) | exact GI.m3 hgo (fun z => z_n z.1) | exact GI.m3 hgo (fun z => by have := z.2; omega)) (by first | exact i20_2 | exact i20_2.cell h2.1 (by omega) hbb (fun q q0 q1 e => absurd e ((who_neg i20_2.num.1).mp z_w q q0 q1))) ⟨by first | exact i20_3.1 | (rw [up_n (by omega)]; exact i20_3.1), by omega, by omega⟩ (by omega) ls (lv_sub hl [0, 3, 4, 5, 6] rfl) H locs hP hD hS
            · have z_w : who cur (bh (cur (61 + 5 * r + 1))) < 0 := by assumption
              refine lv_iconst (v := iI (1)) hx hb dX5_goesOne_54 (by decide) ?_
              refine lv_goto (tgt := 59) hx hb dX5_goesOne_55 (by decide) ?_
              refine lv_istore (lv' := [(6, .int (iI 1)), (5, .int (iI (bh (cur (61 + 5 * r + 1))))), (4, .int (iI on)), (3, .int (iI gone)), (2, .int (iI (stride f1 r))), (0, .ref (a 0)), (1, .int (iI r))]) hx hb dX5_goesOne_59 hl (by decide) rfl (fun ls hl => ?_)
              refine lv_iload hx hb dX5_goesOne_61 (lv_at hl 0 rfl) ?_
              refine xi_zf_eq hx hb ⟨by decide, by decide⟩ (by decide) dX5_goesOne_63 ⟨81, by decide⟩ ?_
              refine lv_aload_n hx hb dX5_goesOne_66 rfl (lv_at hl 5 rfl) ?_
              refine xg_X5 hx hb hts hown hK hP 0 rfl 0 (by decide) fk_X5_7 (v := .ref (a 1)) rfl dX5_goesOne_67 ?_
              refine lv_iload_n hx hb dX5_goesOne_70 rfl (lv_at hl 6 rfl) ?_
              refine lv_iconst (v := iI (1)) hx hb dX5_goesOne_71 (by decide) ?_
              refine xu_i (x := iI (61 + 5 * r + 1)) (rS (rest := [.ref (a 1)]) hx hb hml hown hts hK hl (c_X5_spot l g r 1 ) lk_X5_59 trivial rfl rfl rfl (Rm.of rfl) rfl rfl dX5_goesOne_72) ?_
              refine lv_iload hx hb dX5_goesOne_75 (lv_at hl 1 rfl) ?_
              refine xi_ast hx hb hK hP hD hS 1 (f := cur) rfl (i := 61 + 5 * r + 1) (v := bh (cur (61 + 5 * r + 1))) ⟨by omega, by omega⟩ rfl dX5_goesOne_77 (fun H locs hP hD hS => ?_)
              have hP : va_P g.1 vwCl (wM g a (up cur (61 + 5 * r + 1) (bh (cur (61 + 5 * r + 1)))) f2 f3 f4 f5 f6 f7 f8 f9 f10 f11 f12 f13 f20 f21 f22 f23 f24 f25) H := hP
              have hD : va_D (va_A (wM g a f1 f2 f3 f4 f5 f6 f7 f8 f9 f10 f11 f12 f13 f20 f21 f22 f23 f24 f25) s.heap.size) (wM g a (up cur (61 + 5 * r + 1) (bh (cur (61 + 5 * r + 1)))) f2 f3 f4 f5 f6 f7 f8 f9 f10 f11 f12 f13 f20 f21 f22 f23 f24 f25) := hD
              refine xi_inc (lv' := [(3, .int (iI (gone + 1))), (6, .int (iI 1)), (5, .int (iI (bh (cur (61 + 5 * r + 1))))), (4, .int (iI on)), (2, .int (iI (stride f1 r))), (0, .ref (a 0)), (1, .int (iI r))]) hx hb dX5_goesOne_78 hl (k := 3) rfl (by decide) rfl (fun ls hl => ?_)
              refine lv_iload hx hb dX5_goesOne_81 (lv_at hl 1 rfl) ?_
              refine xi_zf_eq hx hb ⟨by decide, by decide⟩ (by decide) dX5_goesOne_83 ⟨95, by decide⟩ ?_
              refine lv_iload_n hx hb dX5_goesOne_86 rfl (lv_at hl 0 rfl) ?_
              refine lv_iload_n hx hb dX5_goesOne_87 rfl (lv_at hl 4 rfl) ?_
              refine xi_c_ge (tgt := 95) hx hb ⟨by omega, by omega⟩ ⟨by omega, by omega⟩ dX5_goesOne_88 (by decide) (fun z15 => ?_) (fun z15 => ?_)
              · refine lv_iconst (v := iI (0)) hx hb dX5_goesOne_95 (by decide) ?_
                refine lv_istore (lv' := [(4, .int (iI 0)), (3, .int (iI (gone + 1))), (6, .int (iI 1)), (5, .int (iI (bh (cur (61 + 5 * r + 1))))), (2, .int (iI (stride f1 r))), (0, .ref (a 0)), (1, .int (iI r))]) hx hb dX5_goesOne_96 hl (by decide) rfl (fun ls hl => ?_)
                refine lv_goto (tgt := 20) hx hb dX5_goesOne_98 (by decide) ?_
                exact ih20 (up cur (61 + 5 * r + 1) (bh (cur (61 + 5 * r + 1)))) (gone + 1) 0 (by first | exact GI.m1 hgo z_o z_w (by omega) | exact GI.m2 hgo z_o z_w (by omega) | exact GI.m3 hgo (fun z => z_n z.1) | exact GI.m3 hgo (fun z => by have := z.2; omega)) (by first | exact i20_2 | exact i20_2.cell h2.1 (by omega) hbb (fun q q0 q1 e => absurd e ((who_neg i20_2.num.1).mp z_w q q0 q1))) ⟨by first | exact i20_3.1 | (rw [up_n (by omega)]; exact i20_3.1), by omega, by omega⟩ (by omega) ls (lv_sub hl [0, 1, 4, 5, 6] rfl) H locs hP hD hS
              · refine lv_iconst (v := iI (1)) hx hb dX5_goesOne_91 (by decide) ?_
                refine lv_goto (tgt := 96) hx hb dX5_goesOne_92 (by decide) ?_
                refine lv_istore (lv' := [(4, .int (iI 1)), (3, .int (iI (gone + 1))), (6, .int (iI 1)), (5, .int (iI (bh (cur (61 + 5 * r + 1))))), (2, .int (iI (stride f1 r))), (0, .ref (a 0)), (1, .int (iI r))]) hx hb dX5_goesOne_96 hl (by decide) rfl (fun ls hl => ?_)
                refine lv_goto (tgt := 20) hx hb dX5_goesOne_98 (by decide) ?_
                exact ih20 (up cur (61 + 5 * r + 1) (bh (cur (61 + 5 * r + 1)))) (gone + 1) 1 (by first | exact GI.m1 hgo z_o z_w (by omega) | exact GI.m2 hgo z_o z_w (by omega) | exact GI.m3 hgo (fun z => z_n z.1) | exact GI.m3 hgo (fun z => by have := z.2; omega)) (by first | exact i20_2 | exact i20_2.cell h2.1 (by omega) hbb (fun q q0 q1 e => absurd e ((who_neg i20_2.num.1).mp z_w q q0 q1))) ⟨by first | exact i20_3.1 | (rw [up_n (by omega)]; exact i20_3.1), by omega, by omega⟩ (by omega) ls (lv_sub hl [0, 1, 4, 5, 6] rfl) H locs hP hD hS
          · have z_n : ¬ opn cur (bh (cur (61 + 5 * r + 1))) := by assumption
            refine xi_zt_eq (tgt := 58) hx hb ⟨by decide, by decide⟩ (by decide) dX5_goesOne_42 (by decide) ?_
            refine lv_iconst (v := iI (0)) hx hb dX5_goesOne_58 (by decide) ?_
            refine lv_istore (lv' := [(6, .int (iI 0)), (5, .int (iI (bh (cur (61 + 5 * r + 1))))), (4, .int (iI on)), (3, .int (iI gone)), (2, .int (iI (stride f1 r))), (0, .ref (a 0)), (1, .int (iI r))]) hx hb dX5_goesOne_59 hl (by decide) rfl (fun ls hl => ?_)
            refine lv_iload hx hb dX5_goesOne_61 (lv_at hl 0 rfl) ?_
            refine xi_zt_eq (tgt := 81) hx hb ⟨by decide, by decide⟩ (by decide) dX5_goesOne_63 (by decide) ?_
            refine lv_iload hx hb dX5_goesOne_81 (lv_at hl 0 rfl) ?_
            refine xi_zt_eq (tgt := 95) hx hb ⟨by decide, by decide⟩ (by decide) dX5_goesOne_83 (by decide) ?_
            refine lv_iconst (v := iI (0)) hx hb dX5_goesOne_95 (by decide) ?_
            refine lv_istore (lv' := [(4, .int (iI 0)), (6, .int (iI 0)), (5, .int (iI (bh (cur (61 + 5 * r + 1))))), (3, .int (iI gone)), (2, .int (iI (stride f1 r))), (0, .ref (a 0)), (1, .int (iI r))]) hx hb dX5_goesOne_96 hl (by decide) rfl (fun ls hl => ?_)
            refine lv_goto (tgt := 20) hx hb dX5_goesOne_98 (by decide) ?_
            exact ih20 cur gone 0 (by first | exact GI.m1 hgo z_o z_w (by omega) | exact GI.m2 hgo z_o z_w (by omega) | exact GI.m3 hgo (fun z => z_n z.1) | exact GI.m3 hgo (fun z => by have := z.2; omega)) (by first | exact i20_2 | exact i20_2.cell h2.1 (by omega) hbb (fun q q0 q1 e => absurd e ((who_neg i20_2.num.1).mp z_w q q0 q1))) ⟨by first | exact i20_3.1 | (rw [up_n (by omega)]; exact i20_3.1), by omega, by omega⟩ (by omega) ls (lv_sub hl [0, 3, 4, 5, 6] rfl) H locs hP hD hS
    have hq16 : f1 = f1 := by rfl
    have hP := Eq.mp (congrArg (fun z9 => va_P g.1 vwCl (wM g a z9 f2 f3 f4 f5 f6 f7 f8 f9 f10 f11 f12 f13 f20 f21 f22 f23 f24 f25) s.heap) hq16) hP
    have hD := Eq.mp (congrArg (fun z9 => va_D (va_A (wM g a f1 f2 f3 f4 f5 f6 f7 f8 f9 f10 f11 f12 f13 f20 f21 f22 f23 f24 f25) s.heap.size) (wM g a z9 f2 f3 f4 f5 f6 f7 f8 f9 f10 f11 f12 f13 f20 f21 f22 f23 f24 f25)) hq16) hD
    exact lp20 (30 + 1) f1 0 0 (by first | exact GI.i1 (by omega) | exact GI.i0 (by omega)) h1 (by omega) (by omega) ls (lv_sub hl [0, 1, 2, 3, 4] rfl) s.heap [] hP hD hS
  · refine lv_iconst (v := iI (1)) hx hb dX5_goesOne_13 (by decide) ?_
    refine lv_goto (tgt := 18) hx hb dX5_goesOne_14 (by decide) ?_
    refine lv_istore (lv' := [(4, .int (iI 1)), (3, .int (iI 0)), (2, .int (iI (stride f1 r))), (0, .ref (a 0)), (1, .int (iI r))]) hx hb dX5_goesOne_18 hl (by decide) rfl (fun ls hl => ?_)
    have lp20 : ∀ (n20 : Nat) (cur : Int → Int) (gone : Int) (on : Int), (GI r (stride f1 r) (gOne r (stride f1 r) (stride f1 r).toNat f1 0) cur gone on) → (InvK 7 cur) → (cur 1 = f1 1 ∧ 0 ≤ gone ∧ gone ≤ (stride f1 r)) → (2 * ((stride f1 r) - gone) + on).toNat < n20 → ∀ ls : Array Slot, lv_has ls 7 [(4, .int (iI on)), (3, .int (iI gone)), (2, .int (iI (stride f1 r))), (0, .ref (a 0)), (1, .int (iI r))] → ∀ (H : Heap) (locs : List Loc), va_P g.1 vwCl (wM g a cur f2 f3 f4 f5 f6 f7 f8 f9 f10 f11 f12 f13 f20 f21 f22 f23 f24 f25) H → va_D (va_A (wM g a f1 f2 f3 f4 f5 f6 f7 f8 f9 f10 f11 f12 f13 f20 f21 f22 f23 f24 f25) s.heap.size) (wM g a cur f2 f3 f4 f5 f6 f7 f8 f9 f10 f11 f12 f13 f20 f21 f22 f23 f24 f25) → va_S (va_A (wM g a f1 f2 f3 f4 f5 f6 f7 f8 f9 f10 f11 f12 f13 f20 f21 f22 f23 f24 f25) s.heap.size) s.heap H locs → W pq l eq rm_X5_goesOne s mq [.ref (a 0), .int (iI r)].toArray below meth cq H locs 0 0 (MQ below (QMv g (fun _ : Unit => wM g a (goOne f1 r) f2 f3 f4 f5 f6 f7 f8 f9 f10 f11 f12 f13 f20 f21 f22 f23 f24 f25) (fun _ => True) (va_A (wM g a f1 f2 f3 f4 f5 f6 f7 f8 f9 f10 f11 f12 f13 f20 f21 f22 f23 f24 f25) s.heap.size)) [.ref (a 0), .int (iI r)].toArray s 0 0 (va_A (wM g a f1 f2 f3 f4 f5 f6 f7 f8 f9 f10 f11 f12 f13 f20 f21 f22 f23 f24 f25) s.heap.size)) (F0 mq 20 ls []) := by
      intro n20
      induction n20 with
      | zero => intro cur gone on i20_1 i20_2 i20_3 hm; exact absurd hm (Nat.not_lt_zero _)
      | succ n20 ih20 =>
        intro cur gone on i20_1 i20_2 i20_3 hm20 ls hl H locs hP hD hS
        have hc8 : Inv cur := i20_2.mono (by omega)
        have hon := i20_1.b
        have hcr := i20_2.ran r h2.1 (by omega)
        have hbb := bh_b hcr.2.1
        have hwb := who_b (bh (cur (61 + 5 * r + 1))) i20_2.num
        refine lv_iload hx hb dX5_goesOne_20 (lv_at hl 0 rfl) ?_
        refine xi_z_eq (tgt := 101) hx hb ⟨by omega, by omega⟩ dX5_goesOne_22 (by decide) (fun z17 => ?_) (fun z17 => ?_)
        · have hF := i20_1.off (by assumption)
          refine lv_aload_n hx hb dX5_goesOne_101 rfl (lv_at hl 3 rfl) ?_
          refine xg_X5 hx hb hts hown hK hP 0 rfl 0 (by decide) fk_X5_7 (v := .ref (a 1)) rfl dX5_goesOne_102 ?_
          refine lv_iload_n hx hb dX5_goesOne_105 rfl (lv_at hl 4 rfl) ?_
          refine lv_iconst (v := iI (3)) hx hb dX5_goesOne_106 (by decide) ?_
          refine xu_i (x := iI (61 + 5 * r + 3)) (rS (rest := [.ref (a 1)]) hx hb hml hown hts hK hl (c_X5_spot l g r 3 ) lk_X5_59 trivial rfl rfl rfl (Rm.of rfl) rfl rfl dX5_goesOne_107) ?_
          refine lv_dup2_11 hx hb dX5_goesOne_110 rfl rfl ?_
          refine xi_ald hx hb hK hP 1 (f := cur) rfl (i := 61 + 5 * r + 3) ⟨by omega, by omega⟩ rfl dX5_goesOne_111 ?_
          refine lv_iload_n hx hb dX5_goesOne_112 rfl (lv_at hl 1 rfl) ?_
          refine xi_add hx hb dX5_goesOne_113 ?_
          refine xi_ast hx hb hK hP hD hS 1 (f := cur) rfl (i := 61 + 5 * r + 3) (v := cur (61 + 5 * r + 3) + gone) ⟨by omega, by omega⟩ rfl dX5_goesOne_114 (fun H locs hP hD hS => ?_)
          have hP : va_P g.1 vwCl (wM g a (up cur (61 + 5 * r + 3) (cur (61 + 5 * r + 3) + gone)) f2 f3 f4 f5 f6 f7 f8 f9 f10 f11 f12 f13 f20 f21 f22 f23 f24 f25) H := hP
          have hD : va_D (va_A (wM g a f1 f2 f3 f4 f5 f6 f7 f8 f9 f10 f11 f12 f13 f20 f21 f22 f23 f24 f25) s.heap.size) (wM g a (up cur (61 + 5 * r + 3) (cur (61 + 5 * r + 3) + gone)) f2 f3 f4 f5 f6 f7 f8 f9 f10 f11 f12 f13 f20 f21 f22 f23 f24 f25) := hD
          refine lv_aload_n hx hb dX5_goesOne_115 rfl (lv_at hl 3 rfl) ?_
          refine xg_X5 hx hb hts hown hK hP 0 rfl 0 (by decide) fk_X5_7 (v := .ref (a 1)) rfl dX5_goesOne_116 ?_
          refine lv_iload_n hx hb dX5_goesOne_119 rfl (lv_at hl 4 rfl) ?_
          refine lv_iconst (v := iI (4)) hx hb dX5_goesOne_120 (by decide) ?_
          refine xu_i (x := iI (61 + 5 * r + 4)) (rS (rest := [.ref (a 1)]) hx hb hml hown hts hK hl (c_X5_spot l g r 4 ) lk_X5_59 trivial rfl rfl rfl (Rm.of rfl) rfl rfl dX5_goesOne_121) ?_
          refine lv_dup2_11 hx hb dX5_goesOne_124 rfl rfl ?_
          refine xi_ald hx hb hK hP 1 (f := up cur (61 + 5 * r + 3) (cur (61 + 5 * r + 3) + gone)) rfl (i := 61 + 5 * r + 4) ⟨by omega, by omega⟩ rfl dX5_goesOne_125 ?_
          refine lv_iload_n hx hb dX5_goesOne_126 rfl (lv_at hl 1 rfl) ?_
          refine lv_iload_n hx hb dX5_goesOne_127 rfl (lv_at hl 2 rfl) ?_
          refine xi_c_ge (tgt := 135) hx hb ⟨by omega, by omega⟩ ⟨by omega, by omega⟩ dX5_goesOne_128 (by decide) (fun z20 => ?_) (fun z20 => ?_)
          · refine lv_iconst (v := iI (0)) hx hb dX5_goesOne_135 (by decide) ?_
            refine xi_add hx hb dX5_goesOne_136 ?_
            refine xi_ast hx hb hK hP hD hS 1 (f := up cur (61 + 5 * r + 3) (cur (61 + 5 * r + 3) + gone)) rfl (i := 61 + 5 * r + 4) (v := (up cur (61 + 5 * r + 3) (cur (61 + 5 * r + 3) + gone)) (61 + 5 * r + 4) + 0) ⟨by omega, by omega⟩ rfl dX5_goesOne_137 (fun H locs hP hD hS => ?_)
            have hP : va_P g.1 vwCl (wM g a (up (up cur (61 + 5 * r + 3) (cur (61 + 5 * r + 3) + gone)) (61 + 5 * r + 4) ((up cur (61 + 5 * r + 3) (cur (61 + 5 * r + 3) + gone)) (61 + 5 * r + 4) + 0)) f2 f3 f4 f5 f6 f7 f8 f9 f10 f11 f12 f13 f20 f21 f22 f23 f24 f25) H := hP
            have hD : va_D (va_A (wM g a f1 f2 f3 f4 f5 f6 f7 f8 f9 f10 f11 f12 f13 f20 f21 f22 f23 f24 f25) s.heap.size) (wM g a (up (up cur (61 + 5 * r + 3) (cur (61 + 5 * r + 3) + gone)) (61 + 5 * r + 4) ((up cur (61 + 5 * r + 3) (cur (61 + 5 * r + 3) + gone)) (61 + 5 * r + 4) + 0)) f2 f3 f4 f5 f6 f7 f8 f9 f10 f11 f12 f13 f20 f21 f22 f23 f24 f25) := hD
            have he21 : (up (up cur (61 + 5 * r + 3) (cur (61 + 5 * r + 3) + gone)) (61 + 5 * r + 4) ((up cur (61 + 5 * r + 3) (cur (61 + 5 * r + 3) + gone)) (61 + 5 * r + 4) + 0)) = (goOne f1 r) := by unfold goOne; rw [← hF]; dsimp only; first | rw [if_pos (by omega)] | rw [if_neg (by omega)]
            have hP := Eq.mp (congrArg (fun z9 => va_P g.1 vwCl (wM g a z9 f2 f3 f4 f5 f6 f7 f8 f9 f10 f11 f12 f13 f20 f21 f22 f23 f24 f25) H) he21) hP
            have hD := Eq.mp (congrArg (fun z9 => va_D (va_A (wM g a f1 f2 f3 f4 f5 f6 f7 f8 f9 f10 f11 f12 f13 f20 f21 f22 f23 f24 f25) s.heap.size) (wM g a z9 f2 f3 f4 f5 f6 f7 f8 f9 f10 f11 f12 f13 f20 f21 f22 f23 f24 f25)) he21) hD
            have hP : va_P g.1 vwCl (wM g a (goOne f1 r) f2 f3 f4 f5 f6 f7 f8 f9 f10 f11 f12 f13 f20 f21 f22 f23 f24 f25) H := hP
            have hD : va_D (va_A (wM g a f1 f2 f3 f4 f5 f6 f7 f8 f9 f10 f11 f12 f13 f20 f21 f22 f23 f24 f25) s.heap.size) (wM g a (goOne f1 r) f2 f3 f4 f5 f6 f7 f8 f9 f10 f11 f12 f13 f20 f21 f22 f23 f24 f25) := hD
            exact W.vret hx hb hr (fun t ht hW => ⟨⟨(), rfl, trivial, by rw [ht]; exact hP, hD⟩, hS.F ht⟩) hS.2.2 dX5_goesOne_138
          · refine lv_iconst (v := iI (1)) hx hb dX5_goesOne_131 (by decide) ?_
            refine lv_goto (tgt := 136) hx hb dX5_goesOne_132 (by decide) ?_
            refine xi_add hx hb dX5_goesOne_136 ?_
            refine xi_ast hx hb hK hP hD hS 1 (f := up cur (61 + 5 * r + 3) (cur (61 + 5 * r + 3) + gone)) rfl (i := 61 + 5 * r + 4) (v := (up cur (61 + 5 * r + 3) (cur (61 + 5 * r + 3) + gone)) (61 + 5 * r + 4) + 1) ⟨by omega, by omega⟩ rfl dX5_goesOne_137 (fun H locs hP hD hS => ?_)
            have hP : va_P g.1 vwCl (wM g a (up (up cur (61 + 5 * r + 3) (cur (61 + 5 * r + 3) + gone)) (61 + 5 * r + 4) ((up cur (61 + 5 * r + 3) (cur (61 + 5 * r + 3) + gone)) (61 + 5 * r + 4) + 1)) f2 f3 f4 f5 f6 f7 f8 f9 f10 f11 f12 f13 f20 f21 f22 f23 f24 f25) H := hP
            have hD : va_D (va_A (wM g a f1 f2 f3 f4 f5 f6 f7 f8 f9 f10 f11 f12 f13 f20 f21 f22 f23 f24 f25) s.heap.size) (wM g a (up (up cur (61 + 5 * r + 3) (cur (61 + 5 * r + 3) + gone)) (61 + 5 * r + 4) ((up cur (61 + 5 * r + 3) (cur (61 + 5 * r + 3) + gone)) (61 + 5 * r + 4) + 1)) f2 f3 f4 f5 f6 f7 f8 f9 f10 f11 f12 f13 f20 f21 f22 f23 f24 f25) := hD
            have he22 : (up (up cur (61 + 5 * r + 3) (cur (61 + 5 * r + 3) + gone)) (61 + 5 * r + 4) ((up cur (61 + 5 * r + 3) (cur (61 + 5 * r + 3) + gone)) (61 + 5 * r + 4) + 1)) = (goOne f1 r) := by unfold goOne; rw [← hF]; dsimp only; first | rw [if_pos (by omega)] | rw [if_neg (by omega)]
            have hP := Eq.mp (congrArg (fun z9 => va_P g.1 vwCl (wM g a z9 f2 f3 f4 f5 f6 f7 f8 f9 f10 f11 f12 f13 f20 f21 f22 f23 f24 f25) H) he22) hP
            have hD := Eq.mp (congrArg (fun z9 => va_D (va_A (wM g a f1 f2 f3 f4 f5 f6 f7 f8 f9 f10 f11 f12 f13 f20 f21 f22 f23 f24 f25) s.heap.size) (wM g a z9 f2 f3 f4 f5 f6 f7 f8 f9 f10 f11 f12 f13 f20 f21 f22 f23 f24 f25)) he22) hD
            have hP : va_P g.1 vwCl (wM g a (goOne f1 r) f2 f3 f4 f5 f6 f7 f8 f9 f10 f11 f12 f13 f20 f21 f22 f23 f24 f25) H := hP
            have hD : va_D (va_A (wM g a f1 f2 f3 f4 f5 f6 f7 f8 f9 f10 f11 f12 f13 f20 f21 f22 f23 f24 f25) s.heap.size) (wM g a (goOne f1 r) f2 f3 f4 f5 f6 f7 f8 f9 f10 f11 f12 f13 f20 f21 f22 f23 f24 f25) := hD
            exact W.vret hx hb hr (fun t ht hW => ⟨⟨(), rfl, trivial, by rw [ht]; exact hP, hD⟩, hS.F ht⟩) hS.2.2 dX5_goesOne_138
        · have hgo := i20_1.on (by assumption)
          refine lv_aload_n hx hb dX5_goesOne_25 rfl (lv_at hl 3 rfl) ?_
          refine lv_iload_n hx hb dX5_goesOne_26 rfl (lv_at hl 4 rfl) ?_
          refine lv_iconst (v := iI (1)) hx hb dX5_goesOne_27 (by decide) ?_
          refine xu_i (x := iI (cur (61 + 5 * r + 1))) (rV (rest := []) hx hb hml hown hts hK hl (c_X5_its l g a cur f2 f3 f4 f5 f6 f7 f8 f9 f10 f11 f12 f13 f20 f21 f22 f23 f24 f25 r 1 (show 0 ≤ 61 + 5 * r + 1 ∧ 61 + 5 * r + 1 < 101 from by omega)) lk_X5_63 hP (va_recv hK.1 hP (ci := 5) (q0 := 0) rfl rfl) rfl rfl rfl (Rm.of rfl) rfl rfl dX5_goesOne_28) ?_
          refine xu_i (x := iI (bh (cur (61 + 5 * r + 1)))) (rS (rest := []) hx hb hml hown hts hK hl (c_X5_behind l g (cur (61 + 5 * r + 1)) (show IR (cur (61 + 5 * r + 1)) from ⟨by omega, by omega⟩)) lk_X5_91 trivial rfl rfl rfl (Rm.of rfl) rfl rfl dX5_goesOne_31) ?_
          refine lv_istore (lv' := [(5, .int (iI (bh (cur (61 + 5 * r + 1))))), (4, .int (iI on)), (3, .int (iI gone)), (2, .int (iI (stride f1 r))), (0, .ref (a 0)), (1, .int (iI r))]) hx hb dX5_goesOne_34 hl (by decide) rfl (fun ls hl => ?_)
          refine lv_aload_n hx hb dX5_goesOne_36 rfl (lv_at hl 4 rfl) ?_
          refine lv_iload hx hb dX5_goesOne_37 (lv_at hl 0 rfl) ?_
          refine xu_b (P := opn cur (bh (cur (61 + 5 * r + 1)))) (rV (rest := []) hx hb hml hown hts hK hl (c_X5_isOpen l g a cur f2 f3 f4 f5 f6 f7 f8 f9 f10 f11 f12 f13 f20 f21 f22 f23 f24 f25 (bh (cur (61 + 5 * r + 1))) (show Inv cur from hc8) (show 0 ≤ (bh (cur (61 + 5 * r + 1))) ∧ (bh (cur (61 + 5 * r + 1))) < 24 from (by omega))) lk_X5_84 hP (va_recv hK.1 hP (ci := 5) (q0 := 0) rfl rfl) rfl rfl rfl (Rm.of rfl) rfl rfl dX5_goesOne_39) (fun z25 => ?_) (fun z25 => ?_)
          · have z_o : opn cur (bh (cur (61 + 5 * r + 1))) := by assumption
            refine xi_zf_eq hx hb ⟨by decide, by decide⟩ (by decide) dX5_goesOne_42 ⟨58, by decide⟩ ?_
            refine lv_aload_n hx hb dX5_goesOne_45 rfl (lv_at hl 4 rfl) ?_
            refine lv_iload hx hb dX5_goesOne_46 (lv_at hl 0 rfl) ?_
            refine xu_i (x := iI (who cur (bh (cur (61 + 5 * r + 1))))) (rV (rest := []) hx hb hml hown hts hK hl (c_X5_isIn l g a cur f2 f3 f4 f5 f6 f7 f8 f9 f10 f11 f12 f13 f20 f21 f22 f23 f24 f25 (bh (cur (61 + 5 * r + 1))) (show Inv cur from hc8) (show IR (bh (cur (61 + 5 * r + 1))) from ⟨by omega, by omega⟩)) lk_X5_87 hP (va_recv hK.1 hP (ci := 5) (q0 := 0) rfl rfl) rfl rfl rfl (Rm.of rfl) rfl rfl dX5_goesOne_48) ?_
            refine xi_z_ge (tgt := 58) hx hb ⟨by omega, by omega⟩ dX5_goesOne_51 (by decide) (fun z27 => ?_) (fun z27 => ?_)
            · refine lv_iconst (v := iI (0)) hx hb dX5_goesOne_58 (by decide) ?_
              refine lv_istore (lv' := [(6, .int (iI 0)), (5, .int (iI (bh (cur (61 + 5 * r + 1))))), (4, .int (iI on)), (3, .int (iI gone)), (2, .int (iI (stride f1 r))), (0, .ref (a 0)), (1, .int (iI r))]) hx hb dX5_goesOne_59 hl (by decide) rfl (fun ls hl => ?_)
              refine lv_iload hx hb dX5_goesOne_61 (lv_at hl 0 rfl) ?_
              refine xi_zt_eq (tgt := 81) hx hb ⟨by decide, by decide⟩ (by decide) dX5_goesOne_63 (by decide) ?_
              refine lv_iload hx hb dX5_goesOne_81 (lv_at hl 0 rfl) ?_
              refine xi_zt_eq (tgt := 95) hx hb ⟨by decide, by decide⟩ (by decide) dX5_goesOne_83 (by decide) ?_
              refine lv_iconst (v := iI (0)) hx hb dX5_goesOne_95 (by decide) ?_
              refine lv_istore (lv' := [(4, .int (iI 0)), (6, .int (iI 0)), (5, .int (iI (bh (cur (61 + 5 * r + 1))))), (3, .int (iI gone)), (2, .int (iI (stride f1 r))), (0, .ref (a 0)), (1, .int (iI r))]) hx hb dX5_goesOne_96 hl (by decide) rfl (fun ls hl => ?_)
              refine lv_goto (tgt := 20) hx hb dX5_goesOne_98 (by decide) ?_
              exact ih20 cur gone 0 (by first | exact GI.m1 hgo z_o z_w (by omega) | exact GI.m2 hgo z_o z_w (by omega) | exact GI.m3 hgo (fun z => z_n z.1) | exact GI.m3 hgo (fun z => by have := z.2; omega)) (by first | exact i20_2 | exact i20_2.cell h2.1 (by omega) hbb (fun q q0 q1 e => absurd e ((who_neg i20_2.num.1).mp z_w q q0 q1))) ⟨by first | exact i20_3.1 | (rw [up_n (by omega)]; exact i20_3.1), by omega, by omega⟩ (by omega) ls (lv_sub hl [0, 3, 4, 5, 6] rfl) H locs hP hD hS
            · have z_w : who cur (bh (cur (61 + 5 * r + 1))) < 0 := by assumption
              refine lv_iconst (v := iI (1)) hx hb dX5_goesOne_54 (by decide) ?_
              refine lv_goto (tgt := 59) hx hb dX5_goesOne_55 (by decide) ?_
              refine lv_istore (lv' := [(6, .int (iI 1)), (5, .int (iI (bh (cur (61 + 5 * r + 1))))), (4, .int (iI on)), (3, .int (iI gone)), (2, .int (iI (stride f1 r))), (0, .ref (a 0)), (1, .int (iI r))]) hx hb dX5_goesOne_59 hl (by decide) rfl (fun ls hl => ?_)
              refine lv_iload hx hb dX5_goesOne_61 (lv_at hl 0 rfl) ?_
              refine xi_zf_eq hx hb ⟨by decide, by decide⟩ (by decide) dX5_goesOne_63 ⟨81, by decide⟩ ?_
              refine lv_aload_n hx hb dX5_goesOne_66 rfl (lv_at hl 5 rfl) ?_
              refine xg_X5 hx hb hts hown hK hP 0 rfl 0 (by decide) fk_X5_7 (v := .ref (a 1)) rfl dX5_goesOne_67 ?_
              refine lv_iload_n hx hb dX5_goesOne_70 rfl (lv_at hl 6 rfl) ?_
              refine lv_iconst (v := iI (1)) hx hb dX5_goesOne_71 (by decide) ?_
              refine xu_i (x := iI (61 + 5 * r + 1)) (rS (rest := [.ref (a 1)]) hx hb hml hown hts hK hl (c_X5_spot l g r 1 ) lk_X5_59 trivial rfl rfl rfl (Rm.of rfl) rfl rfl dX5_goesOne_72) ?_
              refine lv_iload hx hb dX5_goesOne_75 (lv_at hl 1 rfl) ?_
              refine xi_ast hx hb hK hP hD hS 1 (f := cur) rfl (i := 61 + 5 * r + 1) (v := bh (cur (61 + 5 * r + 1))) ⟨by omega, by omega⟩ rfl dX5_goesOne_77 (fun H locs hP hD hS => ?_)
              have hP : va_P g.1 vwCl (wM g a (up cur (61 + 5 * r + 1) (bh (cur (61 + 5 * r + 1)))) f2 f3 f4 f5 f6 f7 f8 f9 f10 f11 f12 f13 f20 f21 f22 f23 f24 f25) H := hP
              have hD : va_D (va_A (wM g a f1 f2 f3 f4 f5 f6 f7 f8 f9 f10 f11 f12 f13 f20 f21 f22 f23 f24 f25) s.heap.size) (wM g a (up cur (61 + 5 * r + 1) (bh (cur (61 + 5 * r + 1)))) f2 f3 f4 f5 f6 f7 f8 f9 f10 f11 f12 f13 f20 f21 f22 f23 f24 f25) := hD
              refine xi_inc (lv' := [(3, .int (iI (gone + 1))), (6, .int (iI 1)), (5, .int (iI (bh (cur (61 + 5 * r + 1))))), (4, .int (iI on)), (2, .int (iI (stride f1 r))), (0, .ref (a 0)), (1, .int (iI r))]) hx hb dX5_goesOne_78 hl (k := 3) rfl (by decide) rfl (fun ls hl => ?_)
              refine lv_iload hx hb dX5_goesOne_81 (lv_at hl 1 rfl) ?_
              refine xi_zf_eq hx hb ⟨by decide, by decide⟩ (by decide) dX5_goesOne_83 ⟨95, by decide⟩ ?_
              refine lv_iload_n hx hb dX5_goesOne_86 rfl (lv_at hl 0 rfl) ?_
              refine lv_iload_n hx hb dX5_goesOne_87 rfl (lv_at hl 4 rfl) ?_
              refine xi_c_ge (tgt := 95) hx hb ⟨by omega, by omega⟩ ⟨by omega, by omega⟩ dX5_goesOne_88 (by decide) (fun z29 => ?_) (fun z29 => ?_)
              · refine lv_iconst (v := iI (0)) hx hb dX5_goesOne_95 (by decide) ?_
                refine lv_istore (lv' := [(4, .int (iI 0)), (3, .int (iI (gone + 1))), (6, .int (iI 1)), (5, .int (iI (bh (cur (61 + 5 * r + 1))))), (2, .int (iI (stride f1 r))), (0, .ref (a 0)), (1, .int (iI r))]) hx hb dX5_goesOne_96 hl (by decide) rfl (fun ls hl => ?_)
                refine lv_goto (tgt := 20) hx hb dX5_goesOne_98 (by decide) ?_
                exact ih20 (up cur (61 + 5 * r + 1) (bh (cur (61 + 5 * r + 1)))) (gone + 1) 0 (by first | exact GI.m1 hgo z_o z_w (by omega) | exact GI.m2 hgo z_o z_w (by omega) | exact GI.m3 hgo (fun z => z_n z.1) | exact GI.m3 hgo (fun z => by have := z.2; omega)) (by first | exact i20_2 | exact i20_2.cell h2.1 (by omega) hbb (fun q q0 q1 e => absurd e ((who_neg i20_2.num.1).mp z_w q q0 q1))) ⟨by first | exact i20_3.1 | (rw [up_n (by omega)]; exact i20_3.1), by omega, by omega⟩ (by omega) ls (lv_sub hl [0, 1, 4, 5, 6] rfl) H locs hP hD hS
              · refine lv_iconst (v := iI (1)) hx hb dX5_goesOne_91 (by decide) ?_
                refine lv_goto (tgt := 96) hx hb dX5_goesOne_92 (by decide) ?_
                refine lv_istore (lv' := [(4, .int (iI 1)), (3, .int (iI (gone + 1))), (6, .int (iI 1)), (5, .int (iI (bh (cur (61 + 5 * r + 1))))), (2, .int (iI (stride f1 r))), (0, .ref (a 0)), (1, .int (iI r))]) hx hb dX5_goesOne_96 hl (by decide) rfl (fun ls hl => ?_)
                refine lv_goto (tgt := 20) hx hb dX5_goesOne_98 (by decide) ?_
                exact ih20 (up cur (61 + 5 * r + 1) (bh (cur (61 + 5 * r + 1)))) (gone + 1) 1 (by first | exact GI.m1 hgo z_o z_w (by omega) | exact GI.m2 hgo z_o z_w (by omega) | exact GI.m3 hgo (fun z => z_n z.1) | exact GI.m3 hgo (fun z => by have := z.2; omega)) (by first | exact i20_2 | exact i20_2.cell h2.1 (by omega) hbb (fun q q0 q1 e => absurd e ((who_neg i20_2.num.1).mp z_w q q0 q1))) ⟨by first | exact i20_3.1 | (rw [up_n (by omega)]; exact i20_3.1), by omega, by omega⟩ (by omega) ls (lv_sub hl [0, 1, 4, 5, 6] rfl) H locs hP hD hS
          · have z_n : ¬ opn cur (bh (cur (61 + 5 * r + 1))) := by assumption
            refine xi_zt_eq (tgt := 58) hx hb ⟨by decide, by decide⟩ (by decide) dX5_goesOne_42 (by decide) ?_
            refine lv_iconst (v := iI (0)) hx hb dX5_goesOne_58 (by decide) ?_
            refine lv_istore (lv' := [(6, .int (iI 0)), (5, .int (iI (bh (cur (61 + 5 * r + 1))))), (4, .int (iI on)), (3, .int (iI gone)), (2, .int (iI (stride f1 r))), (0, .ref (a 0)), (1, .int (iI r))]) hx hb dX5_goesOne_59 hl (by decide) rfl (fun ls hl => ?_)
            refine lv_iload hx hb dX5_goesOne_61 (lv_at hl 0 rfl) ?_
            refine xi_zt_eq (tgt := 81) hx hb ⟨by decide, by decide⟩ (by decide) dX5_goesOne_63 (by decide) ?_
            refine lv_iload hx hb dX5_goesOne_81 (lv_at hl 0 rfl) ?_
            refine xi_zt_eq (tgt := 95) hx hb ⟨by decide, by decide⟩ (by decide) dX5_goesOne_83 (by decide) ?_
            refine lv_iconst (v := iI (0)) hx hb dX5_goesOne_95 (by decide) ?_
            refine lv_istore (lv' := [(4, .int (iI 0)), (6, .int (iI 0)), (5, .int (iI (bh (cur (61 + 5 * r + 1))))), (3, .int (iI gone)), (2, .int (iI (stride f1 r))), (0, .ref (a 0)), (1, .int (iI r))]) hx hb dX5_goesOne_96 hl (by decide) rfl (fun ls hl => ?_)
            refine lv_goto (tgt := 20) hx hb dX5_goesOne_98 (by decide) ?_
            exact ih20 cur gone 0 (by first | exact GI.m1 hgo z_o z_w (by omega) | exact GI.m2 hgo z_o z_w (by omega) | exact GI.m3 hgo (fun z => z_n z.1) | exact GI.m3 hgo (fun z => by have := z.2; omega)) (by first | exact i20_2 | exact i20_2.cell h2.1 (by omega) hbb (fun q q0 q1 e => absurd e ((who_neg i20_2.num.1).mp z_w q q0 q1))) ⟨by first | exact i20_3.1 | (rw [up_n (by omega)]; exact i20_3.1), by omega, by omega⟩ (by omega) ls (lv_sub hl [0, 3, 4, 5, 6] rfl) H locs hP hD hS
    have hq30 : f1 = f1 := by rfl
    have hP := Eq.mp (congrArg (fun z9 => va_P g.1 vwCl (wM g a z9 f2 f3 f4 f5 f6 f7 f8 f9 f10 f11 f12 f13 f20 f21 f22 f23 f24 f25) s.heap) hq30) hP
    have hD := Eq.mp (congrArg (fun z9 => va_D (va_A (wM g a f1 f2 f3 f4 f5 f6 f7 f8 f9 f10 f11 f12 f13 f20 f21 f22 f23 f24 f25) s.heap.size) (wM g a z9 f2 f3 f4 f5 f6 f7 f8 f9 f10 f11 f12 f13 f20 f21 f22 f23 f24 f25)) hq30) hD
    exact lp20 (30 + 1) f1 0 1 (by first | exact GI.i1 (by omega) | exact GI.i0 (by omega)) h1 (by omega) (by omega) ls (lv_sub hl [0, 1, 2, 3, 4] rfl) s.heap [] hP hD hS
abbrev rm_X5_season : Room := { frames := 5, cells := 0, slots := 0, locals := 113 }
set_option maxRecDepth 100000 in
set_option maxHeartbeats 4000000 in
theorem c_X5_season (l : Launch) (g : Gd) (a : Nat → Nat) (f1 : Int → Int) (f2 : Int → Int) (f3 : Int → Int) (f4 : Int → Int) (f5 : Int → Int) (f6 : Int → Int) (f7 : Int → Int) (f8 : Int → Int) (f9 : Int → Int) (f10 : Int → Int) (f11 : Int → Int) (f12 : Int → Int) (f13 : Int → Int) (f20 : Int) (f21 : Int) (f22 : Int) (f23 : Int) (f24 : Int) (f25 : Int) (sz : Nat) (h1 : InvK 0 f1) (h2 : f1 0 < 20000) : Met l yX5_season (wsOf yX5_season cX5_season 2 none) rm_X5_season (PX g (wP g (wM g a f1 f2 f3 f4 f5 f6 f7 f8 f9 f10 f11 f12 f13 f20 f21 f22 f23 f24 f25) sz) [.ref (a 0)]) (QMv g (fun u9 : Nat → Int → Int => wM g a (sea f1) f2 f3 f4 f5 f6 (u9 7) f8 f9 f10 f11 f12 f13 f20 f21 f22 f23 f24 f25) (fun _ => True) (va_A (wM g a f1 f2 f3 f4 f5 f6 f7 f8 f9 f10 f11 f12 f13 f20 f21 f22 f23 f24 f25) sz)) 0 0 (va_A (wM g a f1 f2 f3 f4 f5 f6 f7 f8 f9 f10 f11 f12 f13 f20 f21 f22 f23 f24 f25) sz) := by
  refine me (g := g) (by decide) rfl ?_
  intro pq eq s mq below meth cq C hnm hB ls hl
  obtain ⟨hx, hb, hr, hml, hown, hts, hlocks, hK⟩ := C
  have hown : s.vm.findClass RX5 = some mq.cls := hown
  have hl : lv_has ls 2 [(0, .ref (a 0))] := hl
  obtain ⟨hsz, hP, hD0⟩ := hB
  subst hsz
  have hD := hD0.self (sz := s.heap.size)
  have hA : ∀ q : Nat, s.heap.size ≤ q → va_A (wM g a f1 f2 f3 f4 f5 f6 f7 f8 f9 f10 f11 f12 f13 f20 f21 f22 f23 f24 f25) s.heap.size q := fun q h => Or.inr h
  have hS : va_S (va_A (wM g a f1 f2 f3 f4 f5 f6 f7 f8 f9 f10 f11 f12 f13 f20 f21 f22 f23 f24 f25) s.heap.size) s.heap s.heap [] := va_S.rf
  have hI := h1
  have hI8 : Inv f1 := h1.mono (by omega)
  have hn := hI.num
  have hs := hI.sea
  refine lv_aload_n hx hb dX5_season_0 rfl (lv_at hl 0 rfl) ?_
  refine xm_v (rV (rest := []) hx hb hml hown hts hK hl (c_X5_lines l g a f1 f2 f3 f4 f5 f6 f7 f8 f9 f10 f11 f12 f13 f20 f21 f22 f23 f24 f25 (s.heap).size (show Inv f1 from hI8)) lk_X5_146 ⟨rfl, hP, hD.weaken (fun _ _ _ _ => trivial)⟩ (va_recv hK.1 hP (ci := 5) (q0 := 0) rfl rfl) rfl rfl rfl (Rm.of rfl) rfl rfl dX5_season_1) hD hS hA (fun _ H locs hw hP hD hS => ?_)
  have hP : va_P g.1 vwCl (wM g a f1 f2 f3 f4 f5 f6 (lineT f1 f7 (f1 1).toNat) f8 f9 f10 f11 f12 f13 f20 f21 f22 f23 f24 f25) H := hP
  have hD : va_D (va_A (wM g a f1 f2 f3 f4 f5 f6 f7 f8 f9 f10 f11 f12 f13 f20 f21 f22 f23 f24 f25) s.heap.size) (wM g a f1 f2 f3 f4 f5 f6 (lineT f1 f7 (f1 1).toNat) f8 f9 f10 f11 f12 f13 f20 f21 f22 f23 f24 f25) := hD
  refine lv_iconst (v := iI (0)) hx hb dX5_season_4 (by decide) ?_
  refine lv_istore_n (lv' := [(1, .int (iI 0)), (0, .ref (a 0))]) hx hb dX5_season_5 rfl hl (by decide) rfl (fun ls hl => ?_)
  have lp6 : ∀ (n6 : Nat) (k : Nat), ((k : Int) ≤ f1 1) → 8 - k < n6 → ∀ ls : Array Slot, lv_has ls 2 [(1, .int (iI (k : Int))), (0, .ref (a 0))] → ∀ (H : Heap) (locs : List Loc), va_P g.1 vwCl (wM g a (seaT f1 (ord f1) k) f2 f3 f4 f5 f6 (lineT f1 f7 (f1 1).toNat) f8 f9 f10 f11 f12 f13 f20 f21 f22 f23 f24 f25) H → va_D (va_A (wM g a f1 f2 f3 f4 f5 f6 f7 f8 f9 f10 f11 f12 f13 f20 f21 f22 f23 f24 f25) s.heap.size) (wM g a (seaT f1 (ord f1) k) f2 f3 f4 f5 f6 (lineT f1 f7 (f1 1).toNat) f8 f9 f10 f11 f12 f13 f20 f21 f22 f23 f24 f25) → va_S (va_A (wM g a f1 f2 f3 f4 f5 f6 f7 f8 f9 f10 f11 f12 f13 f20 f21 f22 f23 f24 f25) s.heap.size) s.heap H locs → W pq l eq rm_X5_season s mq [.ref (a 0)].toArray below meth cq H locs 0 0 (MQ below (QMv g (fun u9 : Nat → Int → Int => wM g a (sea f1) f2 f3 f4 f5 f6 (u9 7) f8 f9 f10 f11 f12 f13 f20 f21 f22 f23 f24 f25) (fun _ => True) (va_A (wM g a f1 f2 f3 f4 f5 f6 f7 f8 f9 f10 f11 f12 f13 f20 f21 f22 f23 f24 f25) s.heap.size)) [.ref (a 0)].toArray s 0 0 (va_A (wM g a f1 f2 f3 f4 f5 f6 f7 f8 f9 f10 f11 f12 f13 f20 f21 f22 f23 f24 f25) s.heap.size)) (F0 mq 6 ls []) := by
    intro n6
    induction n6 with
    | zero => intro k i6_1 hm; exact absurd hm (Nat.not_lt_zero _)
    | succ n6 ih6 =>
      intro k i6_1 hm6 ls hl H locs hP hD hS
      have hsk := seaT_inv hI (fun i i0 i1 => ⟨(ord_spec (s := f1) i0 i1).1, (ord_spec i0 i1).2.1⟩) k i6_1
      have hs1 := hsk.2.1 1 (by omega)
      have hs0 := hsk.2.1 0 (by omega)
      refine lv_iload_n hx hb dX5_season_6 rfl (lv_at hl 0 rfl) ?_
      refine lv_aload_n hx hb dX5_season_7 rfl (lv_at hl 1 rfl) ?_
      refine xg_X5 hx hb hts hown hK hP 0 rfl 0 (by decide) fk_X5_7 (v := .ref (a 1)) rfl dX5_season_8 ?_
      refine lv_iconst (v := iI (1)) hx hb dX5_season_11 (by decide) ?_
      refine xi_ald hx hb hK hP 1 (f := seaT f1 (ord f1) k) rfl (i := 1) ⟨by omega, by omega⟩ rfl dX5_season_12 ?_
      refine xi_c_ge (tgt := 32) hx hb ⟨by omega, by omega⟩ ⟨by omega, by omega⟩ dX5_season_13 (by decide) (fun z2 => ?_) (fun z2 => ?_)
      · refine lv_aload_n hx hb dX5_season_32 rfl (lv_at hl 1 rfl) ?_
        refine xg_X5 hx hb hts hown hK hP 0 rfl 0 (by decide) fk_X5_7 (v := .ref (a 1)) rfl dX5_season_33 ?_
        refine lv_iconst (v := iI (0)) hx hb dX5_season_36 (by decide) ?_
        refine lv_dup2_11 hx hb dX5_season_37 rfl rfl ?_
        refine xi_ald hx hb hK hP 1 (f := seaT f1 (ord f1) k) rfl (i := 0) ⟨by omega, by omega⟩ rfl dX5_season_38 ?_
        refine lv_iconst (v := iI (1)) hx hb dX5_season_39 (by decide) ?_
        refine xi_add hx hb dX5_season_40 ?_
        refine xi_ast hx hb hK hP hD hS 1 (f := seaT f1 (ord f1) k) rfl (i := 0) (v := (seaT f1 (ord f1) k) 0 + 1) ⟨by omega, by omega⟩ rfl dX5_season_41 (fun H locs hP hD hS => ?_)
        have hP : va_P g.1 vwCl (wM g a (up (seaT f1 (ord f1) k) 0 ((seaT f1 (ord f1) k) 0 + 1)) f2 f3 f4 f5 f6 (lineT f1 f7 (f1 1).toNat) f8 f9 f10 f11 f12 f13 f20 f21 f22 f23 f24 f25) H := hP
        have hD : va_D (va_A (wM g a f1 f2 f3 f4 f5 f6 f7 f8 f9 f10 f11 f12 f13 f20 f21 f22 f23 f24 f25) s.heap.size) (wM g a (up (seaT f1 (ord f1) k) 0 ((seaT f1 (ord f1) k) 0 + 1)) f2 f3 f4 f5 f6 (lineT f1 f7 (f1 1).toNat) f8 f9 f10 f11 f12 f13 f20 f21 f22 f23 f24 f25) := hD
        have he3 : (up (seaT f1 (ord f1) k) 0 ((seaT f1 (ord f1) k) 0 + 1)) = (sea f1) := by rw [hs0, show k = (f1 1).toNat by omega]; rfl
        have hP := Eq.mp (congrArg (fun z9 => va_P g.1 vwCl (wM g a z9 f2 f3 f4 f5 f6 (lineT f1 f7 (f1 1).toNat) f8 f9 f10 f11 f12 f13 f20 f21 f22 f23 f24 f25) H) he3) hP
        have hD := Eq.mp (congrArg (fun z9 => va_D (va_A (wM g a f1 f2 f3 f4 f5 f6 f7 f8 f9 f10 f11 f12 f13 f20 f21 f22 f23 f24 f25) s.heap.size) (wM g a z9 f2 f3 f4 f5 f6 (lineT f1 f7 (f1 1).toNat) f8 f9 f10 f11 f12 f13 f20 f21 f22 f23 f24 f25)) he3) hD
        have hP : va_P g.1 vwCl (wM g a (sea f1) f2 f3 f4 f5 f6 ((su (fun _ _ => 0) 7 (lineT f1 f7 (f1 1).toNat)) 7) f8 f9 f10 f11 f12 f13 f20 f21 f22 f23 f24 f25) H := hP
        have hD : va_D (va_A (wM g a f1 f2 f3 f4 f5 f6 f7 f8 f9 f10 f11 f12 f13 f20 f21 f22 f23 f24 f25) s.heap.size) (wM g a (sea f1) f2 f3 f4 f5 f6 ((su (fun _ _ => 0) 7 (lineT f1 f7 (f1 1).toNat)) 7) f8 f9 f10 f11 f12 f13 f20 f21 f22 f23 f24 f25) := hD
        exact W.vret hx hb hr (fun t ht hW => ⟨⟨(su (fun _ _ => 0) 7 (lineT f1 f7 (f1 1).toNat)), rfl, trivial, by rw [ht]; exact hP, hD⟩, hS.F ht⟩) hS.2.2 dX5_season_42
      · have hok := ord_spec (s := f1) (i := (k : Int)) (by omega) (by omega)
        refine lv_aload_n hx hb dX5_season_16 rfl (lv_at hl 1 rfl) ?_
        refine lv_aload_n hx hb dX5_season_17 rfl (lv_at hl 1 rfl) ?_
        refine xg_X5 hx hb hts hown hK hP 0 rfl 7 (by decide) fk_X5_28 (v := .ref (a 7)) rfl dX5_season_18 ?_
        refine lv_iload_n hx hb dX5_season_21 rfl (lv_at hl 0 rfl) ?_
        refine xi_ald hx hb hK hP 7 (f := lineT f1 f7 (f1 1).toNat) rfl (i := (k : Int)) ⟨by omega, by omega⟩ rfl dX5_season_22 ?_
        refine xm_v (rV (rest := []) hx hb hml hown hts hK hl (c_X5_goesOne l g a (seaT f1 (ord f1) k) f2 f3 f4 f5 f6 (lineT f1 f7 (f1 1).toNat) f8 f9 f10 f11 f12 f13 f20 f21 f22 f23 f24 f25 ((lineT f1 f7 (f1 1).toNat) (k : Int)) H.size (show InvK 7 (seaT f1 (ord f1) k) from (hsk.1.mono (by omega))) (show 0 ≤ ((lineT f1 f7 (f1 1).toNat) (k : Int)) ∧ ((lineT f1 f7 (f1 1).toNat) (k : Int)) < (seaT f1 (ord f1) k) 1 from ⟨by rw [line_ord (by omega) (by omega)]; exact hok.1, by rw [line_ord (by omega) (by omega), hs1]; exact hok.2.1⟩)) lk_X5_149 ⟨rfl, hP, hD.weaken (fun _ _ _ _ => trivial)⟩ (va_recv hK.1 hP (ci := 5) (q0 := 0) rfl rfl) rfl rfl rfl (Rm.of rfl) rfl rfl dX5_season_23) hD hS hA (fun _ H locs hw hP hD hS => ?_)
        have hP : va_P g.1 vwCl (wM g a (goOne (seaT f1 (ord f1) k) ((lineT f1 f7 (f1 1).toNat) (k : Int))) f2 f3 f4 f5 f6 (lineT f1 f7 (f1 1).toNat) f8 f9 f10 f11 f12 f13 f20 f21 f22 f23 f24 f25) H := hP
        have hD : va_D (va_A (wM g a f1 f2 f3 f4 f5 f6 f7 f8 f9 f10 f11 f12 f13 f20 f21 f22 f23 f24 f25) s.heap.size) (wM g a (goOne (seaT f1 (ord f1) k) ((lineT f1 f7 (f1 1).toNat) (k : Int))) f2 f3 f4 f5 f6 (lineT f1 f7 (f1 1).toNat) f8 f9 f10 f11 f12 f13 f20 f21 f22 f23 f24 f25) := hD
        refine xi_inc (lv' := [(1, .int (iI ((k : Int) + 1))), (0, .ref (a 0))]) hx hb dX5_season_26 hl (k := 0) rfl (by decide) rfl (fun ls hl => ?_)
        refine lv_goto (tgt := 6) hx hb dX5_season_29 (by decide) ?_
        have hq5 : ((k : Int) + 1) = ((k + 1) : Int) := by omega
        have hl : lv_has ls 2 [(1, .int (iI ((k : Int) + 1))), (0, .ref (a 0))] := lv_sub hl [0, 1] rfl
        have hl := Eq.mp (congrArg (fun z9 => lv_has ls 2 [(1, .int (iI z9)), (0, .ref (a 0))]) hq5) hl
        have hq6 : (goOne (seaT f1 (ord f1) k) ((lineT f1 f7 (f1 1).toNat) (k : Int))) = (seaT f1 (ord f1) (k + 1)) := by rw [line_ord (by omega) (by omega)]; rfl
        have hP := Eq.mp (congrArg (fun z9 => va_P g.1 vwCl (wM g a z9 f2 f3 f4 f5 f6 (lineT f1 f7 (f1 1).toNat) f8 f9 f10 f11 f12 f13 f20 f21 f22 f23 f24 f25) H) hq6) hP
        have hD := Eq.mp (congrArg (fun z9 => va_D (va_A (wM g a f1 f2 f3 f4 f5 f6 f7 f8 f9 f10 f11 f12 f13 f20 f21 f22 f23 f24 f25) s.heap.size) (wM g a z9 f2 f3 f4 f5 f6 (lineT f1 f7 (f1 1).toNat) f8 f9 f10 f11 f12 f13 f20 f21 f22 f23 f24 f25)) hq6) hD
        exact ih6 (k + 1) (by omega) (by omega) ls hl H locs hP hD hS
  have hq7 : 0 = (0 : Int) := rfl
  have hl : lv_has ls 2 [(1, .int (iI 0)), (0, .ref (a 0))] := lv_sub hl [0, 1] rfl
  have hl := Eq.mp (congrArg (fun z9 => lv_has ls 2 [(1, .int (iI z9)), (0, .ref (a 0))]) hq7) hl
  have hq8 : f1 = (seaT f1 (ord f1) 0) := rfl
  have hP := Eq.mp (congrArg (fun z9 => va_P g.1 vwCl (wM g a z9 f2 f3 f4 f5 f6 (lineT f1 f7 (f1 1).toNat) f8 f9 f10 f11 f12 f13 f20 f21 f22 f23 f24 f25) H) hq8) hP
  have hD := Eq.mp (congrArg (fun z9 => va_D (va_A (wM g a f1 f2 f3 f4 f5 f6 f7 f8 f9 f10 f11 f12 f13 f20 f21 f22 f23 f24 f25) s.heap.size) (wM g a z9 f2 f3 f4 f5 f6 (lineT f1 f7 (f1 1).toNat) f8 f9 f10 f11 f12 f13 f20 f21 f22 f23 f24 f25)) hq8) hD
  exact lp6 (8 + 1) 0 (by omega) (by omega) ls hl H locs hP hD hS
abbrev rm_X5_go : Room := { frames := 6, cells := 0, slots := 0, locals := 134 }
set_option maxRecDepth 100000 in
set_option maxHeartbeats 4000000 in
theorem c_X5_go (l : Launch) (g : Gd) (a : Nat → Nat) (f1 : Int → Int) (f2 : Int → Int) (f3 : Int → Int) (f4 : Int → Int) (f5 : Int → Int) (f6 : Int → Int) (f7 : Int → Int) (f8 : Int → Int) (f9 : Int → Int) (f10 : Int → Int) (f11 : Int → Int) (f12 : Int → Int) (f13 : Int → Int) (f20 : Int) (f21 : Int) (f22 : Int) (f23 : Int) (f24 : Int) (f25 : Int) (n : Int) (sz : Nat) (h1 : InvK 0 f1) (h2 : 0 ≤ n ∧ f1 0 + n ≤ 20000) : Met l yX5_go (wsOf yX5_go cX5_go 3 none) rm_X5_go (PX g (wP g (wM g a f1 f2 f3 f4 f5 f6 f7 f8 f9 f10 f11 f12 f13 f20 f21 f22 f23 f24 f25) sz) [.ref (a 0), .int (iI n)]) (QMv g (fun u9 : Nat → Int → Int => wM g a (seaN f1 (Int.toNat n)) f2 f3 f4 f5 f6 (u9 7) f8 f9 f10 f11 f12 f13 f20 f21 f22 f23 f24 f25) (fun _ => True) (va_A (wM g a f1 f2 f3 f4 f5 f6 f7 f8 f9 f10 f11 f12 f13 f20 f21 f22 f23 f24 f25) sz)) 0 0 (va_A (wM g a f1 f2 f3 f4 f5 f6 f7 f8 f9 f10 f11 f12 f13 f20 f21 f22 f23 f24 f25) sz) := by
  refine me (g := g) (by decide) rfl ?_
  intro pq eq s mq below meth cq C hnm hB ls hl
  obtain ⟨hx, hb, hr, hml, hown, hts, hlocks, hK⟩ := C
  have hown : s.vm.findClass RX5 = some mq.cls := hown
  have hl : lv_has ls 3 [(0, .ref (a 0)), (1, .int (iI n))] := hl
  obtain ⟨hsz, hP, hD0⟩ := hB
  subst hsz
  have hD := hD0.self (sz := s.heap.size)
  have hA : ∀ q : Nat, s.heap.size ≤ q → va_A (wM g a f1 f2 f3 f4 f5 f6 f7 f8 f9 f10 f11 f12 f13 f20 f21 f22 f23 f24 f25) s.heap.size q := fun q h => Or.inr h
  have hS : va_S (va_A (wM g a f1 f2 f3 f4 f5 f6 f7 f8 f9 f10 f11 f12 f13 f20 f21 f22 f23 f24 f25) s.heap.size) s.heap s.heap [] := va_S.rf
  have hI := h1
  have hn := hI.num
  have hs := hI.sea
  refine lv_iconst (v := iI (0)) hx hb dX5_go_0 (by decide) ?_
  refine lv_istore_n (lv' := [(2, .int (iI 0)), (0, .ref (a 0)), (1, .int (iI n))]) hx hb dX5_go_1 rfl hl (by decide) rfl (fun ls hl => ?_)
  have lp2 : ∀ (n2 : Nat) (k : Nat) (l7 : Int → Int), ((k : Int) ≤ n) → n.toNat - k < n2 → ∀ ls : Array Slot, lv_has ls 3 [(2, .int (iI (k : Int))), (0, .ref (a 0)), (1, .int (iI n))] → ∀ (H : Heap) (locs : List Loc), va_P g.1 vwCl (wM g a (seaN f1 k) f2 f3 f4 f5 f6 l7 f8 f9 f10 f11 f12 f13 f20 f21 f22 f23 f24 f25) H → va_D (va_A (wM g a f1 f2 f3 f4 f5 f6 f7 f8 f9 f10 f11 f12 f13 f20 f21 f22 f23 f24 f25) s.heap.size) (wM g a (seaN f1 k) f2 f3 f4 f5 f6 l7 f8 f9 f10 f11 f12 f13 f20 f21 f22 f23 f24 f25) → va_S (va_A (wM g a f1 f2 f3 f4 f5 f6 f7 f8 f9 f10 f11 f12 f13 f20 f21 f22 f23 f24 f25) s.heap.size) s.heap H locs → W pq l eq rm_X5_go s mq [.ref (a 0), .int (iI n)].toArray below meth cq H locs 0 0 (MQ below (QMv g (fun u9 : Nat → Int → Int => wM g a (seaN f1 (Int.toNat n)) f2 f3 f4 f5 f6 (u9 7) f8 f9 f10 f11 f12 f13 f20 f21 f22 f23 f24 f25) (fun _ => True) (va_A (wM g a f1 f2 f3 f4 f5 f6 f7 f8 f9 f10 f11 f12 f13 f20 f21 f22 f23 f24 f25) s.heap.size)) [.ref (a 0), .int (iI n)].toArray s 0 0 (va_A (wM g a f1 f2 f3 f4 f5 f6 f7 f8 f9 f10 f11 f12 f13 f20 f21 f22 f23 f24 f25) s.heap.size)) (F0 mq 2 ls []) := by
    intro n2
    induction n2 with
    | zero => intro k l7 i2_1 hm; exact absurd hm (Nat.not_lt_zero _)
    | succ n2 ih2 =>
      intro k l7 i2_1 hm2 ls hl H locs hP hD hS
      have hsn := seaN_inv hI k (by omega)
      have hs0 := hsn.2.1
      refine lv_iload_n hx hb dX5_go_2 rfl (lv_at hl 0 rfl) ?_
      refine lv_iload_n hx hb dX5_go_3 rfl (lv_at hl 2 rfl) ?_
      refine xi_c_ge (tgt := 17) hx hb ⟨by omega, by omega⟩ ⟨by omega, by omega⟩ dX5_go_4 (by decide) (fun z1 => ?_) (fun z1 => ?_)
      · have he2 : (seaN f1 k) = (seaN f1 (Int.toNat n)) := by rw [show k = n.toNat by omega]
        have hP := Eq.mp (congrArg (fun z9 => va_P g.1 vwCl (wM g a z9 f2 f3 f4 f5 f6 l7 f8 f9 f10 f11 f12 f13 f20 f21 f22 f23 f24 f25) H) he2) hP
        have hD := Eq.mp (congrArg (fun z9 => va_D (va_A (wM g a f1 f2 f3 f4 f5 f6 f7 f8 f9 f10 f11 f12 f13 f20 f21 f22 f23 f24 f25) s.heap.size) (wM g a z9 f2 f3 f4 f5 f6 l7 f8 f9 f10 f11 f12 f13 f20 f21 f22 f23 f24 f25)) he2) hD
        have hP : va_P g.1 vwCl (wM g a (seaN f1 (Int.toNat n)) f2 f3 f4 f5 f6 ((su (fun _ _ => 0) 7 l7) 7) f8 f9 f10 f11 f12 f13 f20 f21 f22 f23 f24 f25) H := hP
        have hD : va_D (va_A (wM g a f1 f2 f3 f4 f5 f6 f7 f8 f9 f10 f11 f12 f13 f20 f21 f22 f23 f24 f25) s.heap.size) (wM g a (seaN f1 (Int.toNat n)) f2 f3 f4 f5 f6 ((su (fun _ _ => 0) 7 l7) 7) f8 f9 f10 f11 f12 f13 f20 f21 f22 f23 f24 f25) := hD
        exact W.vret hx hb hr (fun t ht hW => ⟨⟨(su (fun _ _ => 0) 7 l7), rfl, trivial, by rw [ht]; exact hP, hD⟩, hS.F ht⟩) hS.2.2 dX5_go_17
      · refine lv_aload_n hx hb dX5_go_7 rfl (lv_at hl 1 rfl) ?_
        refine xm_v (rV (rest := []) hx hb hml hown hts hK hl (c_X5_season l g a (seaN f1 k) f2 f3 f4 f5 f6 l7 f8 f9 f10 f11 f12 f13 f20 f21 f22 f23 f24 f25 H.size (show InvK 0 (seaN f1 k) from hsn.1) (show (seaN f1 k) 0 < 20000 from by omega)) lk_X5_152 ⟨rfl, hP, hD.weaken (fun _ _ _ _ => trivial)⟩ (va_recv hK.1 hP (ci := 5) (q0 := 0) rfl rfl) rfl rfl rfl (Rm.of rfl) rfl rfl dX5_go_8) hD hS hA (fun u3 H locs hw hP hD hS => ?_)
        have hP : va_P g.1 vwCl (wM g a (sea (seaN f1 k)) f2 f3 f4 f5 f6 (u3 7) f8 f9 f10 f11 f12 f13 f20 f21 f22 f23 f24 f25) H := hP
        have hD : va_D (va_A (wM g a f1 f2 f3 f4 f5 f6 f7 f8 f9 f10 f11 f12 f13 f20 f21 f22 f23 f24 f25) s.heap.size) (wM g a (sea (seaN f1 k)) f2 f3 f4 f5 f6 (u3 7) f8 f9 f10 f11 f12 f13 f20 f21 f22 f23 f24 f25) := hD
        refine xi_inc (lv' := [(2, .int (iI ((k : Int) + 1))), (0, .ref (a 0)), (1, .int (iI n))]) hx hb dX5_go_11 hl (k := 0) rfl (by decide) rfl (fun ls hl => ?_)
        refine lv_goto (tgt := 2) hx hb dX5_go_14 (by decide) ?_
        have hq4 : ((k : Int) + 1) = ((k + 1) : Int) := by omega
        have hl : lv_has ls 3 [(2, .int (iI ((k : Int) + 1))), (0, .ref (a 0)), (1, .int (iI n))] := lv_sub hl [0, 1, 2] rfl
        have hl := Eq.mp (congrArg (fun z9 => lv_has ls 3 [(2, .int (iI z9)), (0, .ref (a 0)), (1, .int (iI n))]) hq4) hl
        have hq5 : (sea (seaN f1 k)) = (seaN f1 (k + 1)) := rfl
        have hP := Eq.mp (congrArg (fun z9 => va_P g.1 vwCl (wM g a z9 f2 f3 f4 f5 f6 (u3 7) f8 f9 f10 f11 f12 f13 f20 f21 f22 f23 f24 f25) H) hq5) hP
        have hD := Eq.mp (congrArg (fun z9 => va_D (va_A (wM g a f1 f2 f3 f4 f5 f6 f7 f8 f9 f10 f11 f12 f13 f20 f21 f22 f23 f24 f25) s.heap.size) (wM g a z9 f2 f3 f4 f5 f6 (u3 7) f8 f9 f10 f11 f12 f13 f20 f21 f22 f23 f24 f25)) hq5) hD
        exact ih2 (k + 1) (u3 7) (by omega) (by omega) ls hl H locs hP hD hS
  have hq6 : 0 = (0 : Int) := rfl
  have hl : lv_has ls 3 [(2, .int (iI 0)), (0, .ref (a 0)), (1, .int (iI n))] := lv_sub hl [0, 1, 2] rfl
  have hl := Eq.mp (congrArg (fun z9 => lv_has ls 3 [(2, .int (iI z9)), (0, .ref (a 0)), (1, .int (iI n))]) hq6) hl
  have hq7 : f1 = (seaN f1 0) := rfl
  have hP := Eq.mp (congrArg (fun z9 => va_P g.1 vwCl (wM g a z9 f2 f3 f4 f5 f6 f7 f8 f9 f10 f11 f12 f13 f20 f21 f22 f23 f24 f25) s.heap) hq7) hP
  have hD := Eq.mp (congrArg (fun z9 => va_D (va_A (wM g a f1 f2 f3 f4 f5 f6 f7 f8 f9 f10 f11 f12 f13 f20 f21 f22 f23 f24 f25) s.heap.size) (wM g a z9 f2 f3 f4 f5 f6 f7 f8 f9 f10 f11 f12 f13 f20 f21 f22 f23 f24 f25)) hq7) hD
  have hq8 : f7 = f7 := by rfl
  have hP := Eq.mp (congrArg (fun z9 => va_P g.1 vwCl (wM g a (seaN f1 0) f2 f3 f4 f5 f6 z9 f8 f9 f10 f11 f12 f13 f20 f21 f22 f23 f24 f25) s.heap) hq8) hP
  have hD := Eq.mp (congrArg (fun z9 => va_D (va_A (wM g a f1 f2 f3 f4 f5 f6 f7 f8 f9 f10 f11 f12 f13 f20 f21 f22 f23 f24 f25) s.heap.size) (wM g a (seaN f1 0) f2 f3 f4 f5 f6 z9 f8 f9 f10 f11 f12 f13 f20 f21 f22 f23 f24 f25)) hq8) hD
  exact lp2 (n.toNat + 1) 0 f7 (by omega) (by omega) ls hl s.heap [] hP hD hS

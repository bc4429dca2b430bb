theorem c_X5_onesR (l : Launch) (g : Gd) (y : Int32) (h : ∃ x : Nat, x < 256 ∧ y = iI (x : Int)) : Met l yX5_ones (wsOf yX5_ones cX5_ones 3 (some .int)) rm_X5_ones (PX g (fun _ => True) [.int y]) (vp_Si (fun r9 => r9 = iI (onesN y))) 0 0 (fun _ => False) := by
  obtain ⟨x, hx, rfl⟩ := h
  rw [onesN_of hx]
  exact c_X5_ones l g x hx
abbrev rm_X5_frees : Room := { frames := 8, cells := 0, slots := 0, locals := 178 }
set_option maxRecDepth 100000 in
set_option maxHeartbeats 4000000 in
theorem c_X5_frees (l : Launch) (g : Gd) (a : Nat → Nat) (f1 : Int → Int) (f2 : Int → Int) (f3 : Int → Int) (f4 : Int → Int) (f5 : Int → Int) (f6 : Int → Int) (f7 : Int → Int) (f8 : Int → Int) (f9 : Int → Int) (f10 : Int → Int) (f11 : Int → Int) (f12 : Int → Int) (f13 : Int → Int) (f20 : Int) (f21 : Int) (f22 : Int) (f23 : Int) (f24 : Int) (f25 : Int) (sz : Nat) (h1 : InvK 0 f1) (h2 : f1 0 ≤ 9999) : Met l yX5_frees (wsOf yX5_frees cX5_frees 6 (some .int)) rm_X5_frees (PX g (wP g (wM g a f1 f2 f3 f4 f5 f6 f7 f8 f9 f10 f11 f12 f13 f20 f21 f22 f23 f24 f25) sz) [.ref (a 0)]) (QMi g (fun u9 : Nat → Int → Int => wM g a f1 f2 f3 (u9 4) f5 (fb (fFre f1) f6) (u9 7) (u9 8) f9 f10 f11 f12 f13 f20 f21 f22 f23 f24 f25) (fun r9 _ => r9 = ab (fFre f1) (iI (frS f1))) (va_A (wM g a f1 f2 f3 f4 f5 f6 f7 f8 f9 f10 f11 f12 f13 f20 f21 f22 f23 f24 f25) sz)) 0 0 (va_A (wM g a f1 f2 f3 f4 f5 f6 f7 f8 f9 f10 f11 f12 f13 f20 f21 f22 f23 f24 f25) sz) := by
  refine me (g := g) (by decide) rfl ?_
  intro pq eq s mq below meth cq C hnm hB ls hl
  obtain ⟨hx, hb, hr, hml, hown, hts, hlocks, hK⟩ := C
  have hown : s.vm.findClass RX5 = some mq.cls := hown
  have hl : lv_has ls 6 [(0, .ref (a 0))] := hl
  obtain ⟨hsz, hP, hD0⟩ := hB
  subst hsz
  have hD := hD0.self (sz := s.heap.size)
  have hA : ∀ q : Nat, s.heap.size ≤ q → va_A (wM g a f1 f2 f3 f4 f5 f6 f7 f8 f9 f10 f11 f12 f13 f20 f21 f22 f23 f24 f25) s.heap.size q := fun q h => Or.inr h
  have hS : va_S (va_A (wM g a f1 f2 f3 f4 f5 f6 f7 f8 f9 f10 f11 f12 f13 f20 f21 f22 f23 f24 f25) s.heap.size) s.heap s.heap [] := va_S.rf
  have hI := h1
  have hI8 : Inv f1 := h1.mono (by omega)
  have hn := hI.num
  have hs := hI.sea
  have hv := hI.vil
  have hcb := cntS_b (s := f1) hn
  have hc9 : cntS f1 = onesN (stdS f1) := rfl
  refine lv_aload_n hx hb dX5_frees_0 rfl (lv_at hl 0 rfl) ?_
  refine xm_v (rV (rest := []) hx hb hml hown hts hK hl (c_X5_laysAside l g a f1 f2 f3 f4 f5 f6 f7 f8 f9 f10 f11 f12 f13 f20 f21 f22 f23 f24 f25 (s.heap).size ) lk_X5_172 ⟨rfl, hP, hD.weaken (fun _ _ _ _ => trivial)⟩ (va_recv hK.1 hP (ci := 5) (q0 := 0) rfl rfl) rfl rfl rfl (Rm.of rfl) rfl rfl dX5_frees_1) hD hS hA (fun _ H locs hw hP hD hS => ?_)
  have hP : va_P g.1 vwCl (wM g a f1 f2 f3 f1 f5 f6 f7 f8 f9 f10 f11 f12 f13 f20 f21 f22 f23 f24 f25) H := hP
  have hD : va_D (va_A (wM g a f1 f2 f3 f4 f5 f6 f7 f8 f9 f10 f11 f12 f13 f20 f21 f22 f23 f24 f25) s.heap.size) (wM g a f1 f2 f3 f1 f5 f6 f7 f8 f9 f10 f11 f12 f13 f20 f21 f22 f23 f24 f25) := hD
  refine lv_aload_n hx hb dX5_frees_4 rfl (lv_at hl 0 rfl) ?_
  refine lv_aload_n hx hb dX5_frees_5 rfl (lv_at hl 0 rfl) ?_
  refine xm_i (rV (rest := [.ref (a 0)]) hx hb hml hown hts hK hl (c_X5_standing l g a f1 f2 f3 f1 f5 f6 f7 f8 f9 f10 f11 f12 f13 f20 f21 f22 f23 f24 f25 H.size (show InvK 0 f1 from h1) (show f1 0 ≤ 9999 from h2)) lk_X5_179 ⟨rfl, hP, hD.weaken (fun _ _ _ _ => trivial)⟩ (va_recv hK.1 hP (ci := 5) (q0 := 0) rfl rfl) rfl rfl rfl (Rm.of rfl) rfl rfl dX5_frees_6) hD hS hA (fun x9 u2 H locs hw hP hD hS => ?_)
  obtain rfl : x9 = stdS f1 := hw
  have hP : va_P g.1 vwCl (wM g a (seaN f1 80) f2 f3 f1 f5 f6 (u2 7) (u2 8) f9 f10 f11 f12 f13 f20 f21 f22 f23 f24 f25) H := hP
  have hD : va_D (va_A (wM g a f1 f2 f3 f4 f5 f6 f7 f8 f9 f10 f11 f12 f13 f20 f21 f22 f23 f24 f25) s.heap.size) (wM g a (seaN f1 80) f2 f3 f1 f5 f6 (u2 7) (u2 8) f9 f10 f11 f12 f13 f20 f21 f22 f23 f24 f25) := hD
  refine xm_i (rV (rest := []) hx hb hml hown hts hK hl (c_X5_takesBack l g a (seaN f1 80) f2 f3 f1 f5 f6 (u2 7) (u2 8) f9 f10 f11 f12 f13 f20 f21 f22 f23 f24 f25 (stdS f1) H.size ) lk_X5_175 ⟨rfl, hP, hD.weaken (fun _ _ _ _ => trivial)⟩ (va_recv hK.1 hP (ci := 5) (q0 := 0) rfl rfl) rfl rfl rfl (Rm.of rfl) rfl rfl dX5_frees_9) hD hS hA (fun x9 _ H locs hw hP hD hS => ?_)
  obtain rfl : x9 = (stdS f1) := hw
  have hP : va_P g.1 vwCl (wM g a f1 f2 f3 f1 f5 f6 (u2 7) (u2 8) f9 f10 f11 f12 f13 f20 f21 f22 f23 f24 f25) H := hP
  have hD : va_D (va_A (wM g a f1 f2 f3 f4 f5 f6 f7 f8 f9 f10 f11 f12 f13 f20 f21 f22 f23 f24 f25) s.heap.size) (wM g a f1 f2 f3 f1 f5 f6 (u2 7) (u2 8) f9 f10 f11 f12 f13 f20 f21 f22 f23 f24 f25) := hD
  refine xu_i (x := iI (onesN (stdS f1))) (rS (rest := []) hx hb hml hown hts hK hl (c_X5_onesR l g (stdS f1) (show ∃ x : Nat, x < 256 ∧ (stdS f1) = iI (x : Int) from std_byte hn)) lk_X5_185 trivial rfl rfl rfl (Rm.of rfl) rfl rfl dX5_frees_12) ?_
  refine lv_istore_n (lv' := [(1, .int (iI (onesN (stdS f1)))), (0, .ref (a 0))]) hx hb dX5_frees_15 rfl hl (by decide) rfl (fun ls hl => ?_)
  refine lv_iconst (v := iI (-1)) hx hb dX5_frees_16 (by decide) ?_
  refine lv_istore_n (lv' := [(2, .int (iI (-1))), (1, .int (iI (onesN (stdS f1)))), (0, .ref (a 0))]) hx hb dX5_frees_17 rfl hl (by decide) rfl (fun ls hl => ?_)
  refine lv_aload_n hx hb dX5_frees_18 rfl (lv_at hl 2 rfl) ?_
  refine xg_X5 hx hb hts hown hK hP 0 rfl 0 (by decide) fk_X5_7 (v := .ref (a 1)) rfl dX5_frees_19 ?_
  refine lv_iconst (v := iI (1)) hx hb dX5_frees_22 (by decide) ?_
  refine xi_ald hx hb hK hP 1 (f := f1) rfl (i := 1) ⟨by omega, by omega⟩ rfl dX5_frees_23 ?_
  refine lv_istore_n (lv' := [(3, .int (iI (f1 1))), (2, .int (iI (-1))), (1, .int (iI (onesN (stdS f1)))), (0, .ref (a 0))]) hx hb dX5_frees_24 rfl hl (by decide) rfl (fun ls hl => ?_)
  refine lv_iconst (v := iI (0)) hx hb dX5_frees_25 (by decide) ?_
  refine lv_istore (lv' := [(4, .int (iI 0)), (3, .int (iI (f1 1))), (2, .int (iI (-1))), (1, .int (iI (onesN (stdS f1)))), (0, .ref (a 0))]) hx hb dX5_frees_26 hl (by decide) rfl (fun ls hl => ?_)
  have lp28 : ∀ (n28 : Nat) (k : Nat) (l7 : Int → Int) (l8 : Int → Int), ((k : Int) ≤ f1 1) → 8 - k < n28 → ∀ ls : Array Slot, lv_has ls 6 [(4, .int (iI (k : Int))), (3, .int (iI (f1 1))), (2, .int (iI ((frT (frV f1) (cntS f1) k).1))), (1, .int (iI ((frT (frV f1) (cntS f1) k).2))), (0, .ref (a 0))] → ∀ (H : Heap) (locs : List Loc), va_P g.1 vwCl (wM g a f1 f2 f3 f1 f5 f6 l7 l8 f9 f10 f11 f12 f13 f20 f21 f22 f23 f24 f25) H → va_D (va_A (wM g a f1 f2 f3 f4 f5 f6 f7 f8 f9 f10 f11 f12 f13 f20 f21 f22 f23 f24 f25) s.heap.size) (wM g a f1 f2 f3 f1 f5 f6 l7 l8 f9 f10 f11 f12 f13 f20 f21 f22 f23 f24 f25) → va_S (va_A (wM g a f1 f2 f3 f4 f5 f6 f7 f8 f9 f10 f11 f12 f13 f20 f21 f22 f23 f24 f25) s.heap.size) s.heap H locs → W pq l eq rm_X5_frees s mq [.ref (a 0)].toArray below meth cq H locs 0 0 (MQ below (QMi g (fun u9 : Nat → Int → Int => wM g a f1 f2 f3 (u9 4) f5 (fb (fFre f1) f6) (u9 7) (u9 8) f9 f10 f11 f12 f13 f20 f21 f22 f23 f24 f25) (fun r9 _ => r9 = ab (fFre f1) (iI (frS f1))) (va_A (wM g a f1 f2 f3 f4 f5 f6 f7 f8 f9 f10 f11 f12 f13 f20 f21 f22 f23 f24 f25) s.heap.size)) [.ref (a 0)].toArray s 0 0 (va_A (wM g a f1 f2 f3 f4 f5 f6 f7 f8 f9 f10 f11 f12 f13 f20 f21 f22 f23 f24 f25) s.heap.size)) (F0 mq 28 ls []) := by
    intro n28
    induction n28 with
    | zero => intro k l7 l8 i28_1 hm; exact absurd hm (Nat.not_lt_zero _)
    | succ n28 ih28 =>
      intro k l7 l8 i28_1 hm28 ls hl H locs hP hD hS
      have hfb := frT_b (v := (frV f1)) (l0 := (cntS f1)) hcb k (fun j hj => cntS_b (hI.lev (r := (j : Int)) (by omega) (by omega)).num)
      refine lv_iload hx hb dX5_frees_28 (lv_at hl 0 rfl) ?_
      refine lv_iload_n hx hb dX5_frees_30 rfl (lv_at hl 1 rfl) ?_
      refine xi_c_ge (tgt := 85) hx hb ⟨by omega, by omega⟩ ⟨by omega, by omega⟩ dX5_frees_31 (by decide) (fun z5 => ?_) (fun z5 => ?_)
      · have hfs : frS f1 = (frT (frV f1) (cntS f1) k).1 := by unfold frS; rw [show k = (f1 1).toNat by omega]
        refine lv_iload_n hx hb dX5_frees_85 rfl (lv_at hl 2 rfl) ?_
        refine xi_z_ge (tgt := 98) hx hb ⟨by omega, by omega⟩ dX5_frees_86 (by decide) (fun z6 => ?_) (fun z6 => ?_)
        · refine lv_iload_n hx hb dX5_frees_98 rfl (lv_at hl 2 rfl) ?_
          have hf : fFre f1 = 0 := by unfold fFre; first | rw [if_pos (by omega)] | rw [if_neg (by omega)]
          have he7 : f6 = (fb (fFre f1) f6) := by rw [hf]; rfl
          have hP := Eq.mp (congrArg (fun z9 => va_P g.1 vwCl (wM g a f1 f2 f3 f1 f5 z9 l7 l8 f9 f10 f11 f12 f13 f20 f21 f22 f23 f24 f25) H) he7) hP
          have hD := Eq.mp (congrArg (fun z9 => va_D (va_A (wM g a f1 f2 f3 f4 f5 f6 f7 f8 f9 f10 f11 f12 f13 f20 f21 f22 f23 f24 f25) s.heap.size) (wM g a f1 f2 f3 f1 f5 z9 l7 l8 f9 f10 f11 f12 f13 f20 f21 f22 f23 f24 f25)) he7) hD
          have hP : va_P g.1 vwCl (wM g a f1 f2 f3 ((su (su (su (fun _ _ => 0) 4 f1) 7 l7) 8 l8) 4) f5 (fb (fFre f1) f6) ((su (su (su (fun _ _ => 0) 4 f1) 7 l7) 8 l8) 7) ((su (su (su (fun _ _ => 0) 4 f1) 7 l7) 8 l8) 8) f9 f10 f11 f12 f13 f20 f21 f22 f23 f24 f25) H := hP
          have hD : va_D (va_A (wM g a f1 f2 f3 f4 f5 f6 f7 f8 f9 f10 f11 f12 f13 f20 f21 f22 f23 f24 f25) s.heap.size) (wM g a f1 f2 f3 ((su (su (su (fun _ _ => 0) 4 f1) 7 l7) 8 l8) 4) f5 (fb (fFre f1) f6) ((su (su (su (fun _ _ => 0) 4 f1) 7 l7) 8 l8) 7) ((su (su (su (fun _ _ => 0) 4 f1) 7 l7) 8 l8) 8) f9 f10 f11 f12 f13 f20 f21 f22 f23 f24 f25) := hD
          exact W.iret hx hb hr (fun t ht hW => ⟨⟨_, (su (su (su (fun _ _ => 0) 4 f1) 7 l7) 8 l8), rfl, by rw [hf, ab_0, hfs], by rw [ht]; exact hP, hD⟩, hS.F ht⟩) hS.2.2 dX5_frees_99
        · refine lv_aload_n hx hb dX5_frees_89 rfl (lv_at hl 4 rfl) ?_
          refine xi_ldc hx hb hown hts kk_X5_178 dX5_frees_90 ?_
          refine xm_i (rV (rest := []) hx hb hml hown hts hK hl (c_X5_finds l g a f1 f2 f3 f1 f5 f6 l7 l8 f9 f10 f11 f12 f13 f20 f21 f22 f23 f24 f25 (-1000000004) H.size (show 0 ≤ -1000000001 - (-1000000004) ∧ -1000000001 - (-1000000004) < 7 from by omega)) lk_X5_74 ⟨rfl, hP, hD.weaken (fun _ _ _ _ => trivial)⟩ (va_recv hK.1 hP (ci := 5) (q0 := 0) rfl rfl) rfl rfl rfl (Rm.of rfl) rfl rfl dX5_frees_92) hD hS hA (fun x9 _ H locs hw hP hD hS => ?_)
          obtain rfl : x9 = iI (-1000000004) := hw
          have hP : va_P g.1 vwCl (wM g a f1 f2 f3 f1 f5 (fb (-1000000000 - (-1000000004)) f6) l7 l8 f9 f10 f11 f12 f13 f20 f21 f22 f23 f24 f25) H := hP
          have hD : va_D (va_A (wM g a f1 f2 f3 f4 f5 f6 f7 f8 f9 f10 f11 f12 f13 f20 f21 f22 f23 f24 f25) s.heap.size) (wM g a f1 f2 f3 f1 f5 (fb (-1000000000 - (-1000000004)) f6) l7 l8 f9 f10 f11 f12 f13 f20 f21 f22 f23 f24 f25) := hD
          refine lv_goto (tgt := 99) hx hb dX5_frees_95 (by decide) ?_
          have hf : fFre f1 = 4 := by unfold fFre; first | rw [if_pos (by omega)] | rw [if_neg (by omega)]
          have he9 : (fb (-1000000000 - (-1000000004)) f6) = (fb (fFre f1) f6) := by rw [hf]; rfl
          have hP := Eq.mp (congrArg (fun z9 => va_P g.1 vwCl (wM g a f1 f2 f3 f1 f5 z9 l7 l8 f9 f10 f11 f12 f13 f20 f21 f22 f23 f24 f25) H) he9) hP
          have hD := Eq.mp (congrArg (fun z9 => va_D (va_A (wM g a f1 f2 f3 f4 f5 f6 f7 f8 f9 f10 f11 f12 f13 f20 f21 f22 f23 f24 f25) s.heap.size) (wM g a f1 f2 f3 f1 f5 z9 l7 l8 f9 f10 f11 f12 f13 f20 f21 f22 f23 f24 f25)) he9) hD
          have hP : va_P g.1 vwCl (wM g a f1 f2 f3 ((su (su (su (fun _ _ => 0) 4 f1) 7 l7) 8 l8) 4) f5 (fb (fFre f1) f6) ((su (su (su (fun _ _ => 0) 4 f1) 7 l7) 8 l8) 7) ((su (su (su (fun _ _ => 0) 4 f1) 7 l7) 8 l8) 8) f9 f10 f11 f12 f13 f20 f21 f22 f23 f24 f25) H := hP
          have hD : va_D (va_A (wM g a f1 f2 f3 f4 f5 f6 f7 f8 f9 f10 f11 f12 f13 f20 f21 f22 f23 f24 f25) s.heap.size) (wM g a f1 f2 f3 ((su (su (su (fun _ _ => 0) 4 f1) 7 l7) 8 l8) 4) f5 (fb (fFre f1) f6) ((su (su (su (fun _ _ => 0) 4 f1) 7 l7) 8 l8) 7) ((su (su (su (fun _ _ => 0) 4 f1) 7 l7) 8 l8) 8) f9 f10 f11 f12 f13 f20 f21 f22 f23 f24 f25) := hD
          exact W.iret hx hb hr (fun t ht hW => ⟨⟨_, (su (su (su (fun _ _ => 0) 4 f1) 7 l7) 8 l8), rfl, by rw [hf]; rfl, by rw [ht]; exact hP, hD⟩, hS.F ht⟩) hS.2.2 dX5_frees_99
      · have hIl := hI.lev (r := (k : Int)) (by omega) (by omega)
        have e09 : nLev f1 (k : Int) 0 = f1 0 := by unfold nLev; rw [up_n (by omega)]; exact lvT_o (by omega)
        have hv9 : frV f1 k = onesN (stdS (nLev f1 (k : Int))) := rfl
        have hvb := cntS_b hIl.num
        have hv8 : cntS (nLev f1 (k : Int)) = onesN (stdS (nLev f1 (k : Int))) := rfl
        refine lv_aload_n hx hb dX5_frees_34 rfl (lv_at hl 4 rfl) ?_
        refine lv_iload hx hb dX5_frees_35 (lv_at hl 0 rfl) ?_
        refine xm_v (rV (rest := []) hx hb hml hown hts hK hl (c_X5_levels l g a f1 f2 f3 f1 f5 f6 l7 l8 f9 f10 f11 f12 f13 f20 f21 f22 f23 f24 f25 (k : Int) H.size (show 0 ≤ (k : Int) ∧ (k : Int) < f1 1 from by omega) (show 0 ≤ f1 1 ∧ f1 1 ≤ 8 from by omega)) lk_X5_142 ⟨rfl, hP, hD.weaken (fun _ _ _ _ => trivial)⟩ (va_recv hK.1 hP (ci := 5) (q0 := 0) rfl rfl) rfl rfl rfl (Rm.of rfl) rfl rfl dX5_frees_37) hD hS hA (fun _ H locs hw hP hD hS => ?_)
        have hP : va_P g.1 vwCl (wM g a (up (lvT f1 (61 + 5 * (k : Int) + 0) (61 + 5 * (f1 1 - 1) + 0)) 1 (f1 1 - 1)) f2 f3 f1 f5 f6 l7 l8 f9 f10 f11 f12 f13 f20 f21 f22 f23 f24 f25) H := hP
        have hD : va_D (va_A (wM g a f1 f2 f3 f4 f5 f6 f7 f8 f9 f10 f11 f12 f13 f20 f21 f22 f23 f24 f25) s.heap.size) (wM g a (up (lvT f1 (61 + 5 * (k : Int) + 0) (61 + 5 * (f1 1 - 1) + 0)) 1 (f1 1 - 1)) f2 f3 f1 f5 f6 l7 l8 f9 f10 f11 f12 f13 f20 f21 f22 f23 f24 f25) := hD
        have hP : va_P g.1 vwCl (wM g a (nLev f1 (k : Int)) f2 f3 f1 f5 f6 l7 l8 f9 f10 f11 f12 f13 f20 f21 f22 f23 f24 f25) H := hP
        have hD : va_D (va_A (wM g a f1 f2 f3 f4 f5 f6 f7 f8 f9 f10 f11 f12 f13 f20 f21 f22 f23 f24 f25) s.heap.size) (wM g a (nLev f1 (k : Int)) f2 f3 f1 f5 f6 l7 l8 f9 f10 f11 f12 f13 f20 f21 f22 f23 f24 f25) := hD
        refine lv_aload_n hx hb dX5_frees_40 rfl (lv_at hl 4 rfl) ?_
        refine lv_aload_n hx hb dX5_frees_41 rfl (lv_at hl 4 rfl) ?_
        refine xm_i (rV (rest := [.ref (a 0)]) hx hb hml hown hts hK hl (c_X5_standing l g a (nLev f1 (k : Int)) f2 f3 f1 f5 f6 l7 l8 f9 f10 f11 f12 f13 f20 f21 f22 f23 f24 f25 H.size (show InvK 0 (nLev f1 (k : Int)) from hIl) (show (nLev f1 (k : Int)) 0 ≤ 9999 from by rw [e09]; omega)) lk_X5_179 ⟨rfl, hP, hD.weaken (fun _ _ _ _ => trivial)⟩ (va_recv hK.1 hP (ci := 5) (q0 := 0) rfl rfl) rfl rfl rfl (Rm.of rfl) rfl rfl dX5_frees_42) hD hS hA (fun x9 u11 H locs hw hP hD hS => ?_)
        obtain rfl : x9 = stdS (nLev f1 (k : Int)) := hw
        have hP : va_P g.1 vwCl (wM g a (seaN (nLev f1 (k : Int)) 80) f2 f3 f1 f5 f6 (u11 7) (u11 8) f9 f10 f11 f12 f13 f20 f21 f22 f23 f24 f25) H := hP
        have hD : va_D (va_A (wM g a f1 f2 f3 f4 f5 f6 f7 f8 f9 f10 f11 f12 f13 f20 f21 f22 f23 f24 f25) s.heap.size) (wM g a (seaN (nLev f1 (k : Int)) 80) f2 f3 f1 f5 f6 (u11 7) (u11 8) f9 f10 f11 f12 f13 f20 f21 f22 f23 f24 f25) := hD
        refine xm_i (rV (rest := []) hx hb hml hown hts hK hl (c_X5_takesBack l g a (seaN (nLev f1 (k : Int)) 80) f2 f3 f1 f5 f6 (u11 7) (u11 8) f9 f10 f11 f12 f13 f20 f21 f22 f23 f24 f25 (stdS (nLev f1 (k : Int))) H.size ) lk_X5_175 ⟨rfl, hP, hD.weaken (fun _ _ _ _ => trivial)⟩ (va_recv hK.1 hP (ci := 5) (q0 := 0) rfl rfl) rfl rfl rfl (Rm.of rfl) rfl rfl dX5_frees_45) hD hS hA (fun x9 _ H locs hw hP hD hS => ?_)
        obtain rfl : x9 = (stdS (nLev f1 (k : Int))) := hw
        have hP : va_P g.1 vwCl (wM g a f1 f2 f3 f1 f5 f6 (u11 7) (u11 8) f9 f10 f11 f12 f13 f20 f21 f22 f23 f24 f25) H := hP
        have hD : va_D (va_A (wM g a f1 f2 f3 f4 f5 f6 f7 f8 f9 f10 f11 f12 f13 f20 f21 f22 f23 f24 f25) s.heap.size) (wM g a f1 f2 f3 f1 f5 f6 (u11 7) (u11 8) f9 f10 f11 f12 f13 f20 f21 f22 f23 f24 f25) := hD
        refine xu_i (x := iI (onesN (stdS (nLev f1 (k : Int))))) (rS (rest := []) hx hb hml hown hts hK hl (c_X5_onesR l g (stdS (nLev f1 (k : Int))) (show ∃ x : Nat, x < 256 ∧ (stdS (nLev f1 (k : Int))) = iI (x : Int) from std_byte hIl.num)) lk_X5_185 trivial rfl rfl rfl (Rm.of rfl) rfl rfl dX5_frees_48) ?_
        refine lv_istore (lv' := [(5, .int (iI (onesN (stdS (nLev f1 (k : Int)))))), (4, .int (iI (k : Int))), (3, .int (iI (f1 1))), (2, .int (iI ((frT (frV f1) (cntS f1) k).1))), (1, .int (iI ((frT (frV f1) (cntS f1) k).2))), (0, .ref (a 0))]) hx hb dX5_frees_51 hl (by decide) rfl (fun ls hl => ?_)
        refine lv_iload hx hb dX5_frees_53 (lv_at hl 0 rfl) ?_
        refine lv_iload_n hx hb dX5_frees_55 rfl (lv_at hl 4 rfl) ?_
        refine xi_c_ge (tgt := 64) hx hb ⟨by omega, by omega⟩ ⟨by omega, by omega⟩ dX5_frees_56 (by decide) (fun z14 => ?_) (fun z14 => ?_)
        · refine lv_iload_n hx hb dX5_frees_64 rfl (lv_at hl 3 rfl) ?_
          refine lv_istore_n (lv' := [(2, .int (iI ((frT (frV f1) (cntS f1) k).1))), (5, .int (iI (onesN (stdS (nLev f1 (k : Int)))))), (4, .int (iI (k : Int))), (3, .int (iI (f1 1))), (1, .int (iI ((frT (frV f1) (cntS f1) k).2))), (0, .ref (a 0))]) hx hb dX5_frees_65 rfl hl (by decide) rfl (fun ls hl => ?_)
          refine lv_iload hx hb dX5_frees_66 (lv_at hl 1 rfl) ?_
          refine lv_iload_n hx hb dX5_frees_68 rfl (lv_at hl 4 rfl) ?_
          refine xi_c_ge (tgt := 77) hx hb ⟨by omega, by omega⟩ ⟨by omega, by omega⟩ dX5_frees_69 (by decide) (fun z15 => ?_) (fun z15 => ?_)
          · refine lv_iload_n hx hb dX5_frees_77 rfl (lv_at hl 4 rfl) ?_
            refine lv_istore_n (lv' := [(1, .int (iI ((frT (frV f1) (cntS f1) k).2))), (2, .int (iI ((frT (frV f1) (cntS f1) k).1))), (5, .int (iI (onesN (stdS (nLev f1 (k : Int)))))), (4, .int (iI (k : Int))), (3, .int (iI (f1 1))), (0, .ref (a 0))]) hx hb dX5_frees_78 rfl hl (by decide) rfl (fun ls hl => ?_)
            refine xi_inc (lv' := [(4, .int (iI ((k : Int) + 1))), (1, .int (iI ((frT (frV f1) (cntS f1) k).2))), (2, .int (iI ((frT (frV f1) (cntS f1) k).1))), (5, .int (iI (onesN (stdS (nLev f1 (k : Int)))))), (3, .int (iI (f1 1))), (0, .ref (a 0))]) hx hb dX5_frees_79 hl (k := 3) rfl (by decide) rfl (fun ls hl => ?_)
            refine lv_goto (tgt := 28) hx hb dX5_frees_82 (by decide) ?_
            have hq16 : ((k : Int) + 1) = ((k + 1) : Int) := by omega
            have hq17 : ((frT (frV f1) (cntS f1) k).1) = ((frT (frV f1) (cntS f1) (k + 1)).1) := by simp only [frT]; first | (rw [if_pos (by omega)]; done) | (rw [if_pos (by omega)]; dsimp only; omega) | (rw [if_neg (by omega)]; done) | (exfalso; omega)
            have hq18 : ((frT (frV f1) (cntS f1) k).2) = ((frT (frV f1) (cntS f1) (k + 1)).2) := by simp only [frT]; first | (rw [if_pos (by omega)]; done) | (rw [if_pos (by omega)]; dsimp only; omega) | (rw [if_neg (by omega)]; done) | (exfalso; omega)
            have hl : lv_has ls 6 [(4, .int (iI ((k : Int) + 1))), (3, .int (iI (f1 1))), (2, .int (iI ((frT (frV f1) (cntS f1) k).1))), (1, .int (iI ((frT (frV f1) (cntS f1) k).2))), (0, .ref (a 0))] := lv_sub hl [0, 4, 2, 1, 5] rfl
            have hl := Eq.mp (congrArg (fun z9 => lv_has ls 6 [(4, .int (iI z9)), (3, .int (iI (f1 1))), (2, .int (iI ((frT (frV f1) (cntS f1) k).1))), (1, .int (iI ((frT (frV f1) (cntS f1) k).2))), (0, .ref (a 0))]) hq16) hl
            have hl := Eq.mp (congrArg (fun z9 => lv_has ls 6 [(4, .int (iI ((k + 1) : Int))), (3, .int (iI (f1 1))), (2, .int (iI z9)), (1, .int (iI ((frT (frV f1) (cntS f1) k).2))), (0, .ref (a 0))]) hq17) hl
            have hl := Eq.mp (congrArg (fun z9 => lv_has ls 6 [(4, .int (iI ((k + 1) : Int))), (3, .int (iI (f1 1))), (2, .int (iI ((frT (frV f1) (cntS f1) (k + 1)).1))), (1, .int (iI z9)), (0, .ref (a 0))]) hq18) hl
            exact ih28 (k + 1) (u11 7) (u11 8) (by omega) (by omega) ls hl H locs hP hD hS
          · refine lv_iload hx hb dX5_frees_72 (lv_at hl 1 rfl) ?_
            refine lv_goto (tgt := 78) hx hb dX5_frees_74 (by decide) ?_
            refine lv_istore_n (lv' := [(1, .int (iI (onesN (stdS (nLev f1 (k : Int)))))), (2, .int (iI ((frT (frV f1) (cntS f1) k).1))), (5, .int (iI (onesN (stdS (nLev f1 (k : Int)))))), (4, .int (iI (k : Int))), (3, .int (iI (f1 1))), (0, .ref (a 0))]) hx hb dX5_frees_78 rfl hl (by decide) rfl (fun ls hl => ?_)
            refine xi_inc (lv' := [(4, .int (iI ((k : Int) + 1))), (1, .int (iI (onesN (stdS (nLev f1 (k : Int)))))), (2, .int (iI ((frT (frV f1) (cntS f1) k).1))), (5, .int (iI (onesN (stdS (nLev f1 (k : Int)))))), (3, .int (iI (f1 1))), (0, .ref (a 0))]) hx hb dX5_frees_79 hl (k := 3) rfl (by decide) rfl (fun ls hl => ?_)
            refine lv_goto (tgt := 28) hx hb dX5_frees_82 (by decide) ?_
            have hq19 : ((k : Int) + 1) = ((k + 1) : Int) := by omega
            have hq20 : ((frT (frV f1) (cntS f1) k).1) = ((frT (frV f1) (cntS f1) (k + 1)).1) := by simp only [frT]; first | (rw [if_pos (by omega)]; done) | (rw [if_pos (by omega)]; dsimp only; omega) | (rw [if_neg (by omega)]; done) | (exfalso; omega)
            have hq21 : (onesN (stdS (nLev f1 (k : Int)))) = ((frT (frV f1) (cntS f1) (k + 1)).2) := by simp only [frT]; first | (rw [if_pos (by omega)]; done) | (rw [if_pos (by omega)]; dsimp only; omega) | (rw [if_neg (by omega)]; done) | (exfalso; omega)
            have hl : lv_has ls 6 [(4, .int (iI ((k : Int) + 1))), (3, .int (iI (f1 1))), (2, .int (iI ((frT (frV f1) (cntS f1) k).1))), (1, .int (iI (onesN (stdS (nLev f1 (k : Int)))))), (0, .ref (a 0))] := lv_sub hl [0, 4, 2, 1, 5] rfl
            have hl := Eq.mp (congrArg (fun z9 => lv_has ls 6 [(4, .int (iI z9)), (3, .int (iI (f1 1))), (2, .int (iI ((frT (frV f1) (cntS f1) k).1))), (1, .int (iI (onesN (stdS (nLev f1 (k : Int)))))), (0, .ref (a 0))]) hq19) hl
            have hl := Eq.mp (congrArg (fun z9 => lv_has ls 6 [(4, .int (iI ((k + 1) : Int))), (3, .int (iI (f1 1))), (2, .int (iI z9)), (1, .int (iI (onesN (stdS (nLev f1 (k : Int)))))), (0, .ref (a 0))]) hq20) hl
            have hl := Eq.mp (congrArg (fun z9 => lv_has ls 6 [(4, .int (iI ((k + 1) : Int))), (3, .int (iI (f1 1))), (2, .int (iI ((frT (frV f1) (cntS f1) (k + 1)).1))), (1, .int (iI z9)), (0, .ref (a 0))]) hq21) hl
            exact ih28 (k + 1) (u11 7) (u11 8) (by omega) (by omega) ls hl H locs hP hD hS
        · refine lv_iload hx hb dX5_frees_59 (lv_at hl 1 rfl) ?_
          refine lv_goto (tgt := 65) hx hb dX5_frees_61 (by decide) ?_
          refine lv_istore_n (lv' := [(2, .int (iI (k : Int))), (5, .int (iI (onesN (stdS (nLev f1 (k : Int)))))), (4, .int (iI (k : Int))), (3, .int (iI (f1 1))), (1, .int (iI ((frT (frV f1) (cntS f1) k).2))), (0, .ref (a 0))]) hx hb dX5_frees_65 rfl hl (by decide) rfl (fun ls hl => ?_)
          refine lv_iload hx hb dX5_frees_66 (lv_at hl 1 rfl) ?_
          refine lv_iload_n hx hb dX5_frees_68 rfl (lv_at hl 4 rfl) ?_
          refine xi_c_ge (tgt := 77) hx hb ⟨by omega, by omega⟩ ⟨by omega, by omega⟩ dX5_frees_69 (by decide) (fun z22 => ?_) (fun z22 => ?_)
          · refine lv_iload_n hx hb dX5_frees_77 rfl (lv_at hl 4 rfl) ?_
            refine lv_istore_n (lv' := [(1, .int (iI ((frT (frV f1) (cntS f1) k).2))), (2, .int (iI (k : Int))), (5, .int (iI (onesN (stdS (nLev f1 (k : Int)))))), (4, .int (iI (k : Int))), (3, .int (iI (f1 1))), (0, .ref (a 0))]) hx hb dX5_frees_78 rfl hl (by decide) rfl (fun ls hl => ?_)
            refine xi_inc (lv' := [(4, .int (iI ((k : Int) + 1))), (1, .int (iI ((frT (frV f1) (cntS f1) k).2))), (2, .int (iI (k : Int))), (5, .int (iI (onesN (stdS (nLev f1 (k : Int)))))), (3, .int (iI (f1 1))), (0, .ref (a 0))]) hx hb dX5_frees_79 hl (k := 3) rfl (by decide) rfl (fun ls hl => ?_)
            refine lv_goto (tgt := 28) hx hb dX5_frees_82 (by decide) ?_
            have hq23 : ((k : Int) + 1) = ((k + 1) : Int) := by omega
            have hq24 : (k : Int) = ((frT (frV f1) (cntS f1) (k + 1)).1) := by simp only [frT]; first | (rw [if_pos (by omega)]; done) | (rw [if_pos (by omega)]; dsimp only; omega) | (rw [if_neg (by omega)]; done) | (exfalso; omega)
            have hq25 : ((frT (frV f1) (cntS f1) k).2) = ((frT (frV f1) (cntS f1) (k + 1)).2) := by simp only [frT]; first | (rw [if_pos (by omega)]; done) | (rw [if_pos (by omega)]; dsimp only; omega) | (rw [if_neg (by omega)]; done) | (exfalso; omega)
            have hl : lv_has ls 6 [(4, .int (iI ((k : Int) + 1))), (3, .int (iI (f1 1))), (2, .int (iI (k : Int))), (1, .int (iI ((frT (frV f1) (cntS f1) k).2))), (0, .ref (a 0))] := lv_sub hl [0, 4, 2, 1, 5] rfl
            have hl := Eq.mp (congrArg (fun z9 => lv_has ls 6 [(4, .int (iI z9)), (3, .int (iI (f1 1))), (2, .int (iI (k : Int))), (1, .int (iI ((frT (frV f1) (cntS f1) k).2))), (0, .ref (a 0))]) hq23) hl
            have hl := Eq.mp (congrArg (fun z9 => lv_has ls 6 [(4, .int (iI ((k + 1) : Int))), (3, .int (iI (f1 1))), (2, .int (iI z9)), (1, .int (iI ((frT (frV f1) (cntS f1) k).2))), (0, .ref (a 0))]) hq24) hl
            have hl := Eq.mp (congrArg (fun z9 => lv_has ls 6 [(4, .int (iI ((k + 1) : Int))), (3, .int (iI (f1 1))), (2, .int (iI ((frT (frV f1) (cntS f1) (k + 1)).1))), (1, .int (iI z9)), (0, .ref (a 0))]) hq25) hl
            exact ih28 (k + 1) (u11 7) (u11 8) (by omega) (by omega) ls hl H locs hP hD hS
          · refine lv_iload hx hb dX5_frees_72 (lv_at hl 1 rfl) ?_
            refine lv_goto (tgt := 78) hx hb dX5_frees_74 (by decide) ?_
            refine lv_istore_n (lv' := [(1, .int (iI (onesN (stdS (nLev f1 (k : Int)))))), (2, .int (iI (k : Int))), (5, .int (iI (onesN (stdS (nLev f1 (k : Int)))))), (4, .int (iI (k : Int))), (3, .int (iI (f1 1))), (0, .ref (a 0))]) hx hb dX5_frees_78 rfl hl (by decide) rfl (fun ls hl => ?_)
            refine xi_inc (lv' := [(4, .int (iI ((k : Int) + 1))), (1, .int (iI (onesN (stdS (nLev f1 (k : Int)))))), (2, .int (iI (k : Int))), (5, .int (iI (onesN (stdS (nLev f1 (k : Int)))))), (3, .int (iI (f1 1))), (0, .ref (a 0))]) hx hb dX5_frees_79 hl (k := 3) rfl (by decide) rfl (fun ls hl => ?_)
            refine lv_goto (tgt := 28) hx hb dX5_frees_82 (by decide) ?_
            have hq26 : ((k : Int) + 1) = ((k + 1) : Int) := by omega
            have hq27 : (k : Int) = ((frT (frV f1) (cntS f1) (k + 1)).1) := by simp only [frT]; first | (rw [if_pos (by omega)]; done) | (rw [if_pos (by omega)]; dsimp only; omega) | (rw [if_neg (by omega)]; done) | (exfalso; omega)
            have hq28 : (onesN (stdS (nLev f1 (k : Int)))) = ((frT (frV f1) (cntS f1) (k + 1)).2) := by simp only [frT]; first | (rw [if_pos (by omega)]; done) | (rw [if_pos (by omega)]; dsimp only; omega) | (rw [if_neg (by omega)]; done) | (exfalso; omega)
            have hl : lv_has ls 6 [(4, .int (iI ((k : Int) + 1))), (3, .int (iI (f1 1))), (2, .int (iI (k : Int))), (1, .int (iI (onesN (stdS (nLev f1 (k : Int)))))), (0, .ref (a 0))] := lv_sub hl [0, 4, 2, 1, 5] rfl
            have hl := Eq.mp (congrArg (fun z9 => lv_has ls 6 [(4, .int (iI z9)), (3, .int (iI (f1 1))), (2, .int (iI (k : Int))), (1, .int (iI (onesN (stdS (nLev f1 (k : Int)))))), (0, .ref (a 0))]) hq26) hl
            have hl := Eq.mp (congrArg (fun z9 => lv_has ls 6 [(4, .int (iI ((k + 1) : Int))), (3, .int (iI (f1 1))), (2, .int (iI z9)), (1, .int (iI (onesN (stdS (nLev f1 (k : Int)))))), (0, .ref (a 0))]) hq27) hl
            have hl := Eq.mp (congrArg (fun z9 => lv_has ls 6 [(4, .int (iI ((k + 1) : Int))), (3, .int (iI (f1 1))), (2, .int (iI ((frT (frV f1) (cntS f1) (k + 1)).1))), (1, .int (iI z9)), (0, .ref (a 0))]) hq28) hl
            exact ih28 (k + 1) (u11 7) (u11 8) (by omega) (by omega) ls hl H locs hP hD hS
  have hq29 : 0 = (0 : Int) := rfl
  have hq30 : (-1) = ((frT (frV f1) (cntS f1) 0).1) := rfl
  have hq31 : (onesN (stdS f1)) = ((frT (frV f1) (cntS f1) 0).2) := rfl
  have hl : lv_has ls 6 [(4, .int (iI 0)), (3, .int (iI (f1 1))), (2, .int (iI (-1))), (1, .int (iI (onesN (stdS f1)))), (0, .ref (a 0))] := lv_sub hl [0, 1, 2, 3, 4] rfl
  have hl := Eq.mp (congrArg (fun z9 => lv_has ls 6 [(4, .int (iI z9)), (3, .int (iI (f1 1))), (2, .int (iI (-1))), (1, .int (iI (onesN (stdS f1)))), (0, .ref (a 0))]) hq29) hl
  have hl := Eq.mp (congrArg (fun z9 => lv_has ls 6 [(4, .int (iI (0 : Int))), (3, .int (iI (f1 1))), (2, .int (iI z9)), (1, .int (iI (onesN (stdS f1)))), (0, .ref (a 0))]) hq30) hl
  have hl := Eq.mp (congrArg (fun z9 => lv_has ls 6 [(4, .int (iI (0 : Int))), (3, .int (iI (f1 1))), (2, .int (iI ((frT (frV f1) (cntS f1) 0).1))), (1, .int (iI z9)), (0, .ref (a 0))]) hq31) hl
  exact lp28 (8 + 1) 0 (u2 7) (u2 8) (by omega) (by omega) ls hl H locs hP hD hS
abbrev rm_X5_file : Room := { frames := 4, cells := 0, slots := 0, locals := 88 }
set_option maxRecDepth 100000 in
set_option maxHeartbeats 4000000 in
theorem c_X5_file (l : Launch) (g : Gd) (a : Nat → Nat) (f1 : Int → Int) (f2 : Int → Int) (f3 : Int → Int) (f4 : Int → Int) (f5 : Int → Int) (f6 : Int → Int) (f7 : Int → Int) (f8 : Int → Int) (f9 : Int → Int) (f10 : Int → Int) (f11 : Int → Int) (f12 : Int → Int) (f13 : Int → Int) (f20 : Int) (f21 : Int) (f22 : Int) (f23 : Int) (f24 : Int) (f25 : Int) (r : Int) (sz : Nat) (h1 : InvK 0 f1) (h2 : f1 0 ≤ 9999) (h3 : IR r) : Met l yX5_file (wsOf yX5_file cX5_file 4 (some .int)) rm_X5_file (PX g (wP g (wM g a f1 f2 f3 f4 f5 f6 f7 f8 f9 f10 f11 f12 f13 f20 f21 f22 f23 f24 f25) sz) [.ref (a 0), .int (iI r)]) (QMi g (fun _ : Unit => wM g a f1 f2 f3 f4 f5 (fb (fLev f1 r) f6) f7 f8 f9 f10 f11 f12 f13 f20 f21 f22 f23 f24 f25) (fun r9 _ => r9 = ab (fLev f1 r) (flT f1 256 (iI 0) r)) (va_A (wM g a f1 f2 f3 f4 f5 f6 f7 f8 f9 f10 f11 f12 f13 f20 f21 f22 f23 f24 f25) sz)) 0 0 (va_A (wM g a f1 f2 f3 f4 f5 f6 f7 f8 f9 f10 f11 f12 f13 f20 f21 f22 f23 f24 f25) sz) := by
  refine me (g := g) (by decide) rfl ?_
  intro pq eq s mq below meth cq C hnm hB ls hl
  obtain ⟨hx, hb, hr, hml, hown, hts, hlocks, hK⟩ := C
  have hown : s.vm.findClass RX5 = some mq.cls := hown
  have hl : lv_has ls 4 [(0, .ref (a 0)), (1, .int (iI r))] := hl
  obtain ⟨hsz, hP, hD0⟩ := hB
  subst hsz
  have hD := hD0.self (sz := s.heap.size)
  have hA : ∀ q : Nat, s.heap.size ≤ q → va_A (wM g a f1 f2 f3 f4 f5 f6 f7 f8 f9 f10 f11 f12 f13 f20 f21 f22 f23 f24 f25) s.heap.size q := fun q h => Or.inr h
  have hS : va_S (va_A (wM g a f1 f2 f3 f4 f5 f6 f7 f8 f9 f10 f11 f12 f13 f20 f21 f22 f23 f24 f25) s.heap.size) s.heap s.heap [] := va_S.rf
  have hI := h1
  have hI8 : Inv f1 := h1.mono (by omega)
  have hn := hI.num
  have hs := hI.sea
  have hv := hI.vil
  have q1 := h3.1
  have q2 := h3.2
  refine lv_aload_n hx hb dX5_file_0 rfl (lv_at hl 0 rfl) ?_
  refine lv_iload_n hx hb dX5_file_1 rfl (lv_at hl 1 rfl) ?_
  refine xu_b (P := 0 ≤ r ∧ r ≤ f1 1 - 1) (rV (rest := []) hx hb hml hown hts hK hl (c_X5_isRange l g a f1 f2 f3 f4 f5 f6 f7 f8 f9 f10 f11 f12 f13 f20 f21 f22 f23 f24 f25 r (show IR r from ⟨by omega, by omega⟩) (show 0 ≤ f1 1 ∧ f1 1 ≤ 8 from by omega)) lk_X5_127 hP (va_recv hK.1 hP (ci := 5) (q0 := 0) rfl rfl) rfl rfl rfl (Rm.of rfl) rfl rfl dX5_file_2) (fun z1 => ?_) (fun z1 => ?_)
  · refine xi_zt_ne (tgt := 15) hx hb ⟨by decide, by decide⟩ (by decide) dX5_file_5 (by decide) ?_
    refine lv_iconst (v := iI (0)) hx hb dX5_file_15 (by decide) ?_
    refine lv_istore_n (lv' := [(2, .int (iI 0)), (0, .ref (a 0)), (1, .int (iI r))]) hx hb dX5_file_16 rfl hl (by decide) rfl (fun ls hl => ?_)
    refine lv_iload_n hx hb dX5_file_17 rfl (lv_at hl 2 rfl) ?_
    refine lv_istore_n (lv' := [(3, .int (iI r)), (2, .int (iI 0)), (0, .ref (a 0)), (1, .int (iI r))]) hx hb dX5_file_18 rfl hl (by decide) rfl (fun ls hl => ?_)
    have lp19 : ∀ (n19 : Nat) (x : Nat) (r9 : Int) (m : Nat), (x < 256) → (-1 ≤ r9 ∧ r9 < f1 1) → (flT f1 m (iI ((x : Nat) : Int)) r9 = (flT f1 256 (iI 0) r)) → (255 - x < m) → 255 - x < n19 → ∀ ls : Array Slot, lv_has ls 4 [(3, .int (iI r9)), (2, .int (iI ((x : Nat) : Int))), (0, .ref (a 0)), (1, .int (iI r))] → ∀ (H : Heap) (locs : List Loc), va_P g.1 vwCl (wM g a f1 f2 f3 f4 f5 f6 f7 f8 f9 f10 f11 f12 f13 f20 f21 f22 f23 f24 f25) H → va_D (va_A (wM g a f1 f2 f3 f4 f5 f6 f7 f8 f9 f10 f11 f12 f13 f20 f21 f22 f23 f24 f25) s.heap.size) (wM g a f1 f2 f3 f4 f5 f6 f7 f8 f9 f10 f11 f12 f13 f20 f21 f22 f23 f24 f25) → va_S (va_A (wM g a f1 f2 f3 f4 f5 f6 f7 f8 f9 f10 f11 f12 f13 f20 f21 f22 f23 f24 f25) s.heap.size) s.heap H locs → W pq l eq rm_X5_file s mq [.ref (a 0), .int (iI r)].toArray below meth cq H locs 0 0 (MQ below (QMi g (fun _ : Unit => wM g a f1 f2 f3 f4 f5 (fb (fLev f1 r) f6) f7 f8 f9 f10 f11 f12 f13 f20 f21 f22 f23 f24 f25) (fun r9 _ => r9 = ab (fLev f1 r) (flT f1 256 (iI 0) r)) (va_A (wM g a f1 f2 f3 f4 f5 f6 f7 f8 f9 f10 f11 f12 f13 f20 f21 f22 f23 f24 f25) s.heap.size)) [.ref (a 0), .int (iI r)].toArray s 0 0 (va_A (wM g a f1 f2 f3 f4 f5 f6 f7 f8 f9 f10 f11 f12 f13 f20 f21 f22 f23 f24 f25) s.heap.size)) (F0 mq 19 ls []) := by
      intro n19
      induction n19 with
      | zero => intro x r9 m i19_1 i19_2 i19_3 i19_4 hm; exact absurd hm (Nat.not_lt_zero _)
      | succ n19 ih19 =>
        intro x r9 m i19_1 i19_2 i19_3 i19_4 hm19 ls hl H locs hP hD hS
        obtain ⟨m9, hm9⟩ : ∃ m9, m = m9 + 1 := ⟨m - 1, by omega⟩
        refine lv_iload_n hx hb dX5_file_19 rfl (lv_at hl 0 rfl) ?_
        refine xi_z_lt (tgt := 46) hx hb ⟨by omega, by omega⟩ dX5_file_20 (by decide) (fun z2 => ?_) (fun z2 => ?_)
        · have hfl : iI ((x : Nat) : Int) = (flT f1 256 (iI 0) r) := by rw [← i19_3, hm9]; simp only [flT]; rw [if_neg (fun z => by have := z.1; omega)]
          refine lv_iload_n hx hb dX5_file_46 rfl (lv_at hl 1 rfl) ?_
          have hf : fLev f1 r = 0 := by unfold fLev; (repeat (first | rw [if_pos (by omega)] | rw [if_neg (by omega)])); first | done | (exfalso; omega)
          have he3 : f6 = (fb (fLev f1 r) f6) := by rw [hf]; rfl
          have hP := Eq.mp (congrArg (fun z9 => va_P g.1 vwCl (wM g a f1 f2 f3 f4 f5 z9 f7 f8 f9 f10 f11 f12 f13 f20 f21 f22 f23 f24 f25) H) he3) hP
          have hD := Eq.mp (congrArg (fun z9 => va_D (va_A (wM g a f1 f2 f3 f4 f5 f6 f7 f8 f9 f10 f11 f12 f13 f20 f21 f22 f23 f24 f25) s.heap.size) (wM g a f1 f2 f3 f4 f5 z9 f7 f8 f9 f10 f11 f12 f13 f20 f21 f22 f23 f24 f25)) he3) hD
          have hP : va_P g.1 vwCl (wM g a f1 f2 f3 f4 f5 (fb (fLev f1 r) f6) f7 f8 f9 f10 f11 f12 f13 f20 f21 f22 f23 f24 f25) H := hP
          have hD : va_D (va_A (wM g a f1 f2 f3 f4 f5 f6 f7 f8 f9 f10 f11 f12 f13 f20 f21 f22 f23 f24 f25) s.heap.size) (wM g a f1 f2 f3 f4 f5 (fb (fLev f1 r) f6) f7 f8 f9 f10 f11 f12 f13 f20 f21 f22 f23 f24 f25) := hD
          exact W.iret hx hb hr (fun t ht hW => ⟨⟨_, (), rfl, by rw [hf, ab_0]; exact hfl, by rw [ht]; exact hP, hD⟩, hS.F ht⟩) hS.2.2 dX5_file_47
        · obtain ⟨q, hq⟩ : ∃ q : Nat, (q : Int) = r9 := ⟨r9.toNat, by omega⟩
          have hbo := bit_or ⟨x, i19_1⟩ ⟨q, by omega⟩
          dsimp only at hbo
          rw [hq] at hbo
          have hab := ahd_b hn r9
          refine lv_iload_n hx hb dX5_file_23 rfl (lv_at hl 1 rfl) ?_
          refine lv_iload_n hx hb dX5_file_24 rfl (lv_at hl 0 rfl) ?_
          refine lv_ishr hx hb dX5_file_25 ?_
          refine lv_iconst (v := iI (1)) hx hb dX5_file_26 (by decide) ?_
          refine lv_iand hx hb dX5_file_27 ?_
          refine lv_if_ne (tgt := 46) hx hb dX5_file_28 (by decide) (fun z4 => ?_) (fun z4 => ?_)
          · have hfl : iI ((x : Nat) : Int) = (flT f1 256 (iI 0) r) := by rw [← i19_3, hm9]; simp only [flT]; rw [if_neg (fun z => absurd z.2 (by assumption))]
            refine lv_iload_n hx hb dX5_file_46 rfl (lv_at hl 1 rfl) ?_
            have hf : fLev f1 r = 0 := by unfold fLev; (repeat (first | rw [if_pos (by omega)] | rw [if_neg (by omega)])); first | done | (exfalso; omega)
            have he5 : f6 = (fb (fLev f1 r) f6) := by rw [hf]; rfl
            have hP := Eq.mp (congrArg (fun z9 => va_P g.1 vwCl (wM g a f1 f2 f3 f4 f5 z9 f7 f8 f9 f10 f11 f12 f13 f20 f21 f22 f23 f24 f25) H) he5) hP
            have hD := Eq.mp (congrArg (fun z9 => va_D (va_A (wM g a f1 f2 f3 f4 f5 f6 f7 f8 f9 f10 f11 f12 f13 f20 f21 f22 f23 f24 f25) s.heap.size) (wM g a f1 f2 f3 f4 f5 z9 f7 f8 f9 f10 f11 f12 f13 f20 f21 f22 f23 f24 f25)) he5) hD
            have hP : va_P g.1 vwCl (wM g a f1 f2 f3 f4 f5 (fb (fLev f1 r) f6) f7 f8 f9 f10 f11 f12 f13 f20 f21 f22 f23 f24 f25) H := hP
            have hD : va_D (va_A (wM g a f1 f2 f3 f4 f5 f6 f7 f8 f9 f10 f11 f12 f13 f20 f21 f22 f23 f24 f25) s.heap.size) (wM g a f1 f2 f3 f4 f5 (fb (fLev f1 r) f6) f7 f8 f9 f10 f11 f12 f13 f20 f21 f22 f23 f24 f25) := hD
            exact W.iret hx hb hr (fun t ht hW => ⟨⟨_, (), rfl, by rw [hf, ab_0]; exact hfl, by rw [ht]; exact hP, hD⟩, hS.F ht⟩) hS.2.2 dX5_file_47
          · refine lv_iload_n hx hb dX5_file_31 rfl (lv_at hl 1 rfl) ?_
            refine lv_iconst (v := iI (1)) hx hb dX5_file_32 (by decide) ?_
            refine lv_iload_n hx hb dX5_file_33 rfl (lv_at hl 0 rfl) ?_
            refine lv_ishl hx hb dX5_file_34 ?_
            refine lv_ior hx hb dX5_file_35 ?_
            refine lv_istore_n (lv' := [(2, .int ((iI ((x : Nat) : Int)) ||| (((iI 1) <<< ((iI r9) &&& 31))))), (3, .int (iI r9)), (0, .ref (a 0)), (1, .int (iI r))]) hx hb dX5_file_36 rfl hl (by decide) rfl (fun ls hl => ?_)
            refine lv_aload_n hx hb dX5_file_37 rfl (lv_at hl 2 rfl) ?_
            refine lv_iload_n hx hb dX5_file_38 rfl (lv_at hl 1 rfl) ?_
            refine xu_i (x := iI (ahd f1 r9)) (rV (rest := []) hx hb hml hown hts hK hl (c_X5_aheadOf l g a f1 f2 f3 f4 f5 f6 f7 f8 f9 f10 f11 f12 f13 f20 f21 f22 f23 f24 f25 r9 (show Inv f1 from hI8) (show 0 ≤ r9 ∧ r9 < f1 1 from by omega)) lk_X5_182 hP (va_recv hK.1 hP (ci := 5) (q0 := 0) rfl rfl) rfl rfl rfl (Rm.of rfl) rfl rfl dX5_file_39) ?_
            refine lv_istore_n (lv' := [(3, .int (iI (ahd f1 r9))), (2, .int ((iI ((x : Nat) : Int)) ||| (((iI 1) <<< ((iI r9) &&& 31))))), (0, .ref (a 0)), (1, .int (iI r))]) hx hb dX5_file_42 rfl hl (by decide) rfl (fun ls hl => ?_)
            refine lv_goto (tgt := 19) hx hb dX5_file_43 (by decide) ?_
            have hq7 : ((iI ((x : Nat) : Int)) ||| (((iI 1) <<< ((iI r9) &&& 31)))) = (iI (((x ||| 2 ^ q) : Nat) : Int)) := hbo.1
            have hl : lv_has ls 4 [(3, .int (iI (ahd f1 r9))), (2, .int ((iI ((x : Nat) : Int)) ||| (((iI 1) <<< ((iI r9) &&& 31))))), (0, .ref (a 0)), (1, .int (iI r))] := lv_sub hl [0, 1, 2, 3] rfl
            have hl := Eq.mp (congrArg (fun z9 => lv_has ls 4 [(3, .int (iI (ahd f1 r9))), (2, .int z9), (0, .ref (a 0)), (1, .int (iI r))]) hq7) hl
            exact ih19 (x ||| 2 ^ q) (ahd f1 r9) (m - 1) hbo.2.1 hab (by rw [← hbo.1, ← i19_3, hm9]; show flT f1 m9 _ _ = _; simp only [flT]; rw [if_pos ⟨by omega, by assumption⟩]) (by have := hbo.2.2.2 (by assumption); omega) (by have := hbo.2.2.2 (by assumption); omega) ls hl H locs hP hD hS
    have hq8 : 0 = ((0 : Nat) : Int) := rfl
    have hl : lv_has ls 4 [(3, .int (iI r)), (2, .int (iI 0)), (0, .ref (a 0)), (1, .int (iI r))] := lv_sub hl [0, 1, 2, 3] rfl
    have hl := Eq.mp (congrArg (fun z9 => lv_has ls 4 [(3, .int (iI r)), (2, .int (iI z9)), (0, .ref (a 0)), (1, .int (iI r))]) hq8) hl
    exact lp19 (255 + 1) 0 r 256 (by omega) (by omega) rfl (by omega) (by omega) ls hl s.heap [] hP hD hS
  · refine xi_zf_ne hx hb ⟨by decide, by decide⟩ (by decide) dX5_file_5 ⟨15, by decide⟩ ?_
    refine lv_aload_n hx hb dX5_file_8 rfl (lv_at hl 0 rfl) ?_
    refine xi_ldc hx hb hown hts kk_X5_50 dX5_file_9 ?_
    refine xm_i (rV (rest := []) hx hb hml hown hts hK hl (c_X5_finds l g a f1 f2 f3 f4 f5 f6 f7 f8 f9 f10 f11 f12 f13 f20 f21 f22 f23 f24 f25 (-1000000001) (s.heap).size (show 0 ≤ -1000000001 - (-1000000001) ∧ -1000000001 - (-1000000001) < 7 from by omega)) lk_X5_74 ⟨rfl, hP, hD.weaken (fun _ _ _ _ => trivial)⟩ (va_recv hK.1 hP (ci := 5) (q0 := 0) rfl rfl) rfl rfl rfl (Rm.of rfl) rfl rfl dX5_file_11) hD hS hA (fun x9 _ H locs hw hP hD hS => ?_)
    obtain rfl : x9 = iI (-1000000001) := hw
    have hP : va_P g.1 vwCl (wM g a f1 f2 f3 f4 f5 (fb (-1000000000 - (-1000000001)) f6) f7 f8 f9 f10 f11 f12 f13 f20 f21 f22 f23 f24 f25) H := hP
    have hD : va_D (va_A (wM g a f1 f2 f3 f4 f5 f6 f7 f8 f9 f10 f11 f12 f13 f20 f21 f22 f23 f24 f25) s.heap.size) (wM g a f1 f2 f3 f4 f5 (fb (-1000000000 - (-1000000001)) f6) f7 f8 f9 f10 f11 f12 f13 f20 f21 f22 f23 f24 f25) := hD
    have hf : fLev f1 r = 1 := by unfold fLev; (repeat (first | rw [if_pos (by omega)] | rw [if_neg (by omega)])); first | done | (exfalso; omega)
    have he10 : (fb (-1000000000 - (-1000000001)) f6) = (fb (fLev f1 r) f6) := by rw [hf]; rfl
    have hP := Eq.mp (congrArg (fun z9 => va_P g.1 vwCl (wM g a f1 f2 f3 f4 f5 z9 f7 f8 f9 f10 f11 f12 f13 f20 f21 f22 f23 f24 f25) H) he10) hP
    have hD := Eq.mp (congrArg (fun z9 => va_D (va_A (wM g a f1 f2 f3 f4 f5 f6 f7 f8 f9 f10 f11 f12 f13 f20 f21 f22 f23 f24 f25) s.heap.size) (wM g a f1 f2 f3 f4 f5 z9 f7 f8 f9 f10 f11 f12 f13 f20 f21 f22 f23 f24 f25)) he10) hD
    have hP : va_P g.1 vwCl (wM g a f1 f2 f3 f4 f5 (fb (fLev f1 r) f6) f7 f8 f9 f10 f11 f12 f13 f20 f21 f22 f23 f24 f25) H := hP
    have hD : va_D (va_A (wM g a f1 f2 f3 f4 f5 f6 f7 f8 f9 f10 f11 f12 f13 f20 f21 f22 f23 f24 f25) s.heap.size) (wM g a f1 f2 f3 f4 f5 (fb (fLev f1 r) f6) f7 f8 f9 f10 f11 f12 f13 f20 f21 f22 f23 f24 f25) := hD
    exact W.iret hx hb hr (fun t ht hW => ⟨⟨_, (), rfl, by rw [hf]; rfl, by rw [ht]; exact hP, hD⟩, hS.F ht⟩) hS.2.2 dX5_file_14
abbrev rm_X5_walks : Room := { frames := 6, cells := 0, slots := 0, locals := 134 }
set_option maxRecDepth 100000 in
set_option maxHeartbeats 4000000 in
theorem c_X5_walks (l : Launch) (g : Gd) (a : Nat → Nat) (f1 : Int → Int) (f2 : Int → Int) (f3 : Int → Int) (f4 : Int → Int) (f5 : Int → Int) (f6 : Int → Int) (f7 : Int → Int) (f8 : Int → Int) (f9 : Int → Int) (f10 : Int → Int) (f11 : Int → Int) (f12 : Int → Int) (f13 : Int → Int) (f20 : Int) (f21 : Int) (f22 : Int) (f23 : Int) (f24 : Int) (f25 : Int) (x : Int) (y : Int) (sz : Nat) (h1 : InvK 0 f1) (h2 : f1 0 ≤ 10050) (h3 : 0 ≤ x ∧ x ≤ 23) (h4 : 0 ≤ y ∧ y ≤ 23) : Met l yX5_walks (wsOf yX5_walks cX5_walks 6 (some .int)) rm_X5_walks (PX g (wP g (wM g a f1 f2 f3 f4 f5 f6 f7 f8 f9 f10 f11 f12 f13 f20 f21 f22 f23 f24 f25) sz) [.ref (a 0), .int (iI x), .int (iI y)]) (QMi g (fun u9 : Nat → Int → Int => wM g a (u9 1) f2 f3 f4 f5 f6 (u9 7) f8 f9 f10 f11 f12 f13 f20 f21 f22 f23 f24 f25) (fun r9 _ => r9 = iI (wlk f1 x y)) (va_A (wM g a f1 f2 f3 f4 f5 f6 f7 f8 f9 f10 f11 f12 f13 f20 f21 f22 f23 f24 f25) sz)) 0 0 (va_A (wM g a f1 f2 f3 f4 f5 f6 f7 f8 f9 f10 f11 f12 f13 f20 f21 f22 f23 f24 f25) sz) := by
  refine me (g := g) (by decide) rfl ?_
  intro pq eq s mq below meth cq C hnm hB ls hl
  obtain ⟨hx, hb, hr, hml, hown, hts, hlocks, hK⟩ := C
  have hown : s.vm.findClass RX5 = some mq.cls := hown
  have hl : lv_has ls 6 [(0, .ref (a 0)), (1, .int (iI x)), (2, .int (iI y))] := hl
  obtain ⟨hsz, hP, hD0⟩ := hB
  subst hsz
  have hD := hD0.self (sz := s.heap.size)
  have hA : ∀ q : Nat, s.heap.size ≤ q → va_A (wM g a f1 f2 f3 f4 f5 f6 f7 f8 f9 f10 f11 f12 f13 f20 f21 f22 f23 f24 f25) s.heap.size q := fun q h => Or.inr h
  have hS : va_S (va_A (wM g a f1 f2 f3 f4 f5 f6 f7 f8 f9 f10 f11 f12 f13 f20 f21 f22 f23 f24 f25) s.heap.size) s.heap s.heap [] := va_S.rf
  have hI := h1
  have hn := hI.num
  refine lv_iload_n hx hb dX5_walks_0 rfl (lv_at hl 1 rfl) ?_
  refine lv_istore_n (lv' := [(3, .int (iI x)), (0, .ref (a 0)), (1, .int (iI x)), (2, .int (iI y))]) hx hb dX5_walks_1 rfl hl (by decide) rfl (fun ls hl => ?_)
  refine lv_iconst (v := iI (0)) hx hb dX5_walks_2 (by decide) ?_
  refine lv_istore (lv' := [(4, .int (iI 0)), (3, .int (iI x)), (0, .ref (a 0)), (1, .int (iI x)), (2, .int (iI y))]) hx hb dX5_walks_3 hl (by decide) rfl (fun ls hl => ?_)
  have lp5 : ∀ (n5 : Nat) (n : Nat) (at9 : Int) (l7 : Int → Int), (n ≤ 80) → (0 ≤ at9 ∧ at9 ≤ 23) → (wkT y (80 - n) (seaN f1 n) at9 (n : Int) = (wkT y 80 f1 x 0)) → 80 - n < n5 → ∀ ls : Array Slot, lv_has ls 6 [(4, .int (iI (n : Int))), (3, .int (iI at9)), (0, .ref (a 0)), (1, .int (iI x)), (2, .int (iI y))] → ∀ (H : Heap) (locs : List Loc), va_P g.1 vwCl (wM g a (seaN f1 n) f2 f3 f4 f5 f6 l7 f8 f9 f10 f11 f12 f13 f20 f21 f22 f23 f24 f25) H → va_D (va_A (wM g a f1 f2 f3 f4 f5 f6 f7 f8 f9 f10 f11 f12 f13 f20 f21 f22 f23 f24 f25) s.heap.size) (wM g a (seaN f1 n) f2 f3 f4 f5 f6 l7 f8 f9 f10 f11 f12 f13 f20 f21 f22 f23 f24 f25) → va_S (va_A (wM g a f1 f2 f3 f4 f5 f6 f7 f8 f9 f10 f11 f12 f13 f20 f21 f22 f23 f24 f25) s.heap.size) s.heap H locs → W pq l eq rm_X5_walks s mq [.ref (a 0), .int (iI x), .int (iI y)].toArray below meth cq H locs 0 0 (MQ below (QMi g (fun u9 : Nat → Int → Int => wM g a (u9 1) f2 f3 f4 f5 f6 (u9 7) f8 f9 f10 f11 f12 f13 f20 f21 f22 f23 f24 f25) (fun r9 _ => r9 = iI (wlk f1 x y)) (va_A (wM g a f1 f2 f3 f4 f5 f6 f7 f8 f9 f10 f11 f12 f13 f20 f21 f22 f23 f24 f25) s.heap.size)) [.ref (a 0), .int (iI x), .int (iI y)].toArray s 0 0 (va_A (wM g a f1 f2 f3 f4 f5 f6 f7 f8 f9 f10 f11 f12 f13 f20 f21 f22 f23 f24 f25) s.heap.size)) (F0 mq 5 ls []) := by
    intro n5
    induction n5 with
    | zero => intro n at9 l7 i5_1 i5_2 i5_3 hm; exact absurd hm (Nat.not_lt_zero _)
    | succ n5 ih5 =>
      intro n at9 l7 i5_1 i5_2 i5_3 hm5 ls hl H locs hP hD hS
      have hsn := seaN_inv hI n (by omega)
      have hs8 : Inv (seaN f1 n) := hsn.1.mono (by omega)
      have hs0 := hsn.2.1
      have hbb := bh_b i5_2
      have hwb := who_b (s := seaN f1 n) (bh at9) hsn.1.num
      have hnn := hsn.1.num
      refine lv_iload_n hx hb dX5_walks_5 rfl (lv_at hl 1 rfl) ?_
      refine lv_iload_n hx hb dX5_walks_6 rfl (lv_at hl 4 rfl) ?_
      refine xi_c_eq (tgt := 58) hx hb ⟨by omega, by omega⟩ ⟨by omega, by omega⟩ dX5_walks_7 (by decide) (fun z1 => ?_) (fun z1 => ?_)
      · have hwk : wlk f1 x y = (n : Int) := by show wkT y 80 f1 x 0 = _; rw [← i5_3, show at9 = y by omega]; exact wkT_hit y _ _ _
        refine lv_iload_n hx hb dX5_walks_58 rfl (lv_at hl 1 rfl) ?_
        refine lv_iload_n hx hb dX5_walks_59 rfl (lv_at hl 4 rfl) ?_
        refine xi_c_ne (tgt := 68) hx hb ⟨by omega, by omega⟩ ⟨by omega, by omega⟩ dX5_walks_60 (by decide) (fun z2 => ?_) (fun z2 => ?_)
        · refine lv_iconst (v := iI (-1)) hx hb dX5_walks_68 (by decide) ?_
          have hP : va_P g.1 vwCl (wM g a ((su (su (fun _ _ => 0) 1 (seaN f1 n)) 7 l7) 1) f2 f3 f4 f5 f6 ((su (su (fun _ _ => 0) 1 (seaN f1 n)) 7 l7) 7) f8 f9 f10 f11 f12 f13 f20 f21 f22 f23 f24 f25) H := hP
          have hD : va_D (va_A (wM g a f1 f2 f3 f4 f5 f6 f7 f8 f9 f10 f11 f12 f13 f20 f21 f22 f23 f24 f25) s.heap.size) (wM g a ((su (su (fun _ _ => 0) 1 (seaN f1 n)) 7 l7) 1) f2 f3 f4 f5 f6 ((su (su (fun _ _ => 0) 1 (seaN f1 n)) 7 l7) 7) f8 f9 f10 f11 f12 f13 f20 f21 f22 f23 f24 f25) := hD
          exact W.iret hx hb hr (fun t ht hW => ⟨⟨_, (su (su (fun _ _ => 0) 1 (seaN f1 n)) 7 l7), rfl, congrArg iI (by omega), by rw [ht]; exact hP, hD⟩, hS.F ht⟩) hS.2.2 dX5_walks_69
        · refine lv_iload hx hb dX5_walks_63 (lv_at hl 0 rfl) ?_
          refine lv_goto (tgt := 69) hx hb dX5_walks_65 (by decide) ?_
          have hP : va_P g.1 vwCl (wM g a ((su (su (fun _ _ => 0) 1 (seaN f1 n)) 7 l7) 1) f2 f3 f4 f5 f6 ((su (su (fun _ _ => 0) 1 (seaN f1 n)) 7 l7) 7) f8 f9 f10 f11 f12 f13 f20 f21 f22 f23 f24 f25) H := hP
          have hD : va_D (va_A (wM g a f1 f2 f3 f4 f5 f6 f7 f8 f9 f10 f11 f12 f13 f20 f21 f22 f23 f24 f25) s.heap.size) (wM g a ((su (su (fun _ _ => 0) 1 (seaN f1 n)) 7 l7) 1) f2 f3 f4 f5 f6 ((su (su (fun _ _ => 0) 1 (seaN f1 n)) 7 l7) 7) f8 f9 f10 f11 f12 f13 f20 f21 f22 f23 f24 f25) := hD
          exact W.iret hx hb hr (fun t ht hW => ⟨⟨_, (su (su (fun _ _ => 0) 1 (seaN f1 n)) 7 l7), rfl, congrArg iI (by omega), by rw [ht]; exact hP, hD⟩, hS.F ht⟩) hS.2.2 dX5_walks_69
      · refine lv_iload hx hb dX5_walks_10 (lv_at hl 0 rfl) ?_
        refine lv_bipush (v := iI (80)) hx hb dX5_walks_12 (by decide) ?_
        refine xi_c_ge (tgt := 58) hx hb ⟨by omega, by omega⟩ ⟨by decide, by decide⟩ dX5_walks_14 (by decide) (fun z3 => ?_) (fun z3 => ?_)
        · have hwk : wlk f1 x y = -1 := by show wkT y 80 f1 x 0 = _; rw [← i5_3, show 80 - n = 0 by omega]; exact wkT_out (by omega)
          refine lv_iload_n hx hb dX5_walks_58 rfl (lv_at hl 1 rfl) ?_
          refine lv_iload_n hx hb dX5_walks_59 rfl (lv_at hl 4 rfl) ?_
          refine xi_c_ne (tgt := 68) hx hb ⟨by omega, by omega⟩ ⟨by omega, by omega⟩ dX5_walks_60 (by decide) (fun z4 => ?_) (fun z4 => ?_)
          · refine lv_iconst (v := iI (-1)) hx hb dX5_walks_68 (by decide) ?_
            have hP : va_P g.1 vwCl (wM g a ((su (su (fun _ _ => 0) 1 (seaN f1 n)) 7 l7) 1) f2 f3 f4 f5 f6 ((su (su (fun _ _ => 0) 1 (seaN f1 n)) 7 l7) 7) f8 f9 f10 f11 f12 f13 f20 f21 f22 f23 f24 f25) H := hP
            have hD : va_D (va_A (wM g a f1 f2 f3 f4 f5 f6 f7 f8 f9 f10 f11 f12 f13 f20 f21 f22 f23 f24 f25) s.heap.size) (wM g a ((su (su (fun _ _ => 0) 1 (seaN f1 n)) 7 l7) 1) f2 f3 f4 f5 f6 ((su (su (fun _ _ => 0) 1 (seaN f1 n)) 7 l7) 7) f8 f9 f10 f11 f12 f13 f20 f21 f22 f23 f24 f25) := hD
            exact W.iret hx hb hr (fun t ht hW => ⟨⟨_, (su (su (fun _ _ => 0) 1 (seaN f1 n)) 7 l7), rfl, congrArg iI (by omega), by rw [ht]; exact hP, hD⟩, hS.F ht⟩) hS.2.2 dX5_walks_69
          · refine lv_iload hx hb dX5_walks_63 (lv_at hl 0 rfl) ?_
            refine lv_goto (tgt := 69) hx hb dX5_walks_65 (by decide) ?_
            have hP : va_P g.1 vwCl (wM g a ((su (su (fun _ _ => 0) 1 (seaN f1 n)) 7 l7) 1) f2 f3 f4 f5 f6 ((su (su (fun _ _ => 0) 1 (seaN f1 n)) 7 l7) 7) f8 f9 f10 f11 f12 f13 f20 f21 f22 f23 f24 f25) H := hP
            have hD : va_D (va_A (wM g a f1 f2 f3 f4 f5 f6 f7 f8 f9 f10 f11 f12 f13 f20 f21 f22 f23 f24 f25) s.heap.size) (wM g a ((su (su (fun _ _ => 0) 1 (seaN f1 n)) 7 l7) 1) f2 f3 f4 f5 f6 ((su (su (fun _ _ => 0) 1 (seaN f1 n)) 7 l7) 7) f8 f9 f10 f11 f12 f13 f20 f21 f22 f23 f24 f25) := hD
            exact W.iret hx hb hr (fun t ht hW => ⟨⟨_, (su (su (fun _ _ => 0) 1 (seaN f1 n)) 7 l7), rfl, congrArg iI (by omega), by rw [ht]; exact hP, hD⟩, hS.F ht⟩) hS.2.2 dX5_walks_69
        · refine lv_iload_n hx hb dX5_walks_17 rfl (lv_at hl 1 rfl) ?_
          refine xu_i (x := iI (bh at9)) (rS (rest := []) hx hb hml hown hts hK hl (c_X5_behind l g at9 (show IR at9 from ⟨by omega, by omega⟩)) lk_X5_91 trivial rfl rfl rfl (Rm.of rfl) rfl rfl dX5_walks_18) ?_
          refine lv_istore (lv' := [(5, .int (iI (bh at9))), (4, .int (iI (n : Int))), (3, .int (iI at9)), (0, .ref (a 0)), (1, .int (iI x)), (2, .int (iI y))]) hx hb dX5_walks_21 hl (by decide) rfl (fun ls hl => ?_)
          refine lv_aload_n hx hb dX5_walks_23 rfl (lv_at hl 3 rfl) ?_
          refine lv_iload hx hb dX5_walks_24 (lv_at hl 0 rfl) ?_
          refine xu_b (P := opn (seaN f1 n) (bh at9)) (rV (rest := []) hx hb hml hown hts hK hl (c_X5_isOpen l g a (seaN f1 n) f2 f3 f4 f5 f6 l7 f8 f9 f10 f11 f12 f13 f20 f21 f22 f23 f24 f25 (bh at9) (show Inv (seaN f1 n) from hs8) (show 0 ≤ (bh at9) ∧ (bh at9) < 24 from by omega)) lk_X5_84 hP (va_recv hK.1 hP (ci := 5) (q0 := 0) rfl rfl) rfl rfl rfl (Rm.of rfl) rfl rfl dX5_walks_26) (fun z6 => ?_) (fun z6 => ?_)
          · refine xi_zf_eq hx hb ⟨by decide, by decide⟩ (by decide) dX5_walks_29 ⟨46, by decide⟩ ?_
            refine lv_aload_n hx hb dX5_walks_32 rfl (lv_at hl 3 rfl) ?_
            refine lv_iload hx hb dX5_walks_33 (lv_at hl 0 rfl) ?_
            refine xu_i (x := iI (who (seaN f1 n) (bh at9))) (rV (rest := []) hx hb hml hown hts hK hl (c_X5_isIn l g a (seaN f1 n) f2 f3 f4 f5 f6 l7 f8 f9 f10 f11 f12 f13 f20 f21 f22 f23 f24 f25 (bh at9) (show Inv (seaN f1 n) from hs8) (show IR (bh at9) from ⟨by omega, by omega⟩)) lk_X5_87 hP (va_recv hK.1 hP (ci := 5) (q0 := 0) rfl rfl) rfl rfl rfl (Rm.of rfl) rfl rfl dX5_walks_35) ?_
            refine xi_z_ge (tgt := 46) hx hb ⟨by omega, by omega⟩ dX5_walks_38 (by decide) (fun z8 => ?_) (fun z8 => ?_)
            · refine lv_iload_n hx hb dX5_walks_46 rfl (lv_at hl 2 rfl) ?_
              refine lv_istore_n (lv' := [(3, .int (iI at9)), (5, .int (iI (bh at9))), (4, .int (iI (n : Int))), (0, .ref (a 0)), (1, .int (iI x)), (2, .int (iI y))]) hx hb dX5_walks_47 rfl hl (by decide) rfl (fun ls hl => ?_)
              refine lv_aload_n hx hb dX5_walks_48 rfl (lv_at hl 3 rfl) ?_
              refine xm_v (rV (rest := []) hx hb hml hown hts hK hl (c_X5_season l g a (seaN f1 n) f2 f3 f4 f5 f6 l7 f8 f9 f10 f11 f12 f13 f20 f21 f22 f23 f24 f25 H.size (show InvK 0 (seaN f1 n) from hsn.1) (show (seaN f1 n) 0 < 20000 from by omega)) lk_X5_152 ⟨rfl, hP, hD.weaken (fun _ _ _ _ => trivial)⟩ (va_recv hK.1 hP (ci := 5) (q0 := 0) rfl rfl) rfl rfl rfl (Rm.of rfl) rfl rfl dX5_walks_49) hD hS hA (fun u9 H locs hw hP hD hS => ?_)
              have hP : va_P g.1 vwCl (wM g a (sea (seaN f1 n)) f2 f3 f4 f5 f6 (u9 7) f8 f9 f10 f11 f12 f13 f20 f21 f22 f23 f24 f25) H := hP
              have hD : va_D (va_A (wM g a f1 f2 f3 f4 f5 f6 f7 f8 f9 f10 f11 f12 f13 f20 f21 f22 f23 f24 f25) s.heap.size) (wM g a (sea (seaN f1 n)) f2 f3 f4 f5 f6 (u9 7) f8 f9 f10 f11 f12 f13 f20 f21 f22 f23 f24 f25) := hD
              refine xi_inc (lv' := [(4, .int (iI ((n : Int) + 1))), (3, .int (iI at9)), (5, .int (iI (bh at9))), (0, .ref (a 0)), (1, .int (iI x)), (2, .int (iI y))]) hx hb dX5_walks_52 hl (k := 2) rfl (by decide) rfl (fun ls hl => ?_)
              refine lv_goto (tgt := 5) hx hb dX5_walks_55 (by decide) ?_
              have hq10 : ((n : Int) + 1) = ((n + 1) : Int) := by omega
              have hl : lv_has ls 6 [(4, .int (iI ((n : Int) + 1))), (3, .int (iI at9)), (0, .ref (a 0)), (1, .int (iI x)), (2, .int (iI y))] := lv_sub hl [0, 1, 3, 4, 5] rfl
              have hl := Eq.mp (congrArg (fun z9 => lv_has ls 6 [(4, .int (iI z9)), (3, .int (iI at9)), (0, .ref (a 0)), (1, .int (iI x)), (2, .int (iI y))]) hq10) hl
              have hq11 : (sea (seaN f1 n)) = (seaN f1 (n + 1)) := rfl
              have hP := Eq.mp (congrArg (fun z9 => va_P g.1 vwCl (wM g a z9 f2 f3 f4 f5 f6 (u9 7) f8 f9 f10 f11 f12 f13 f20 f21 f22 f23 f24 f25) H) hq11) hP
              have hD := Eq.mp (congrArg (fun z9 => va_D (va_A (wM g a f1 f2 f3 f4 f5 f6 f7 f8 f9 f10 f11 f12 f13 f20 f21 f22 f23 f24 f25) s.heap.size) (wM g a z9 f2 f3 f4 f5 f6 (u9 7) f8 f9 f10 f11 f12 f13 f20 f21 f22 f23 f24 f25)) hq11) hD
              exact ih5 (n + 1) at9 (u9 7) (by omega) (by omega) (by rw [← i5_3, show 80 - n = (80 - (n + 1)) + 1 by omega]; first | exact (wkT_go (b := y) (at1 := at9) (s := seaN f1 n) (n := (n : Int)) (by omega) (by assumption) (by omega)).symm | exact (wkT_st (b := y) (at1 := at9) (s := seaN f1 n) (n := (n : Int)) (by omega) (fun z => absurd z.1 (by assumption))).symm | exact (wkT_st (b := y) (at1 := at9) (s := seaN f1 n) (n := (n : Int)) (by omega) (fun z => by have := z.2; omega)).symm) (by omega) ls hl H locs hP hD hS
            · refine lv_iload hx hb dX5_walks_41 (lv_at hl 0 rfl) ?_
              refine lv_goto (tgt := 47) hx hb dX5_walks_43 (by decide) ?_
              refine lv_istore_n (lv' := [(3, .int (iI (bh at9))), (5, .int (iI (bh at9))), (4, .int (iI (n : Int))), (0, .ref (a 0)), (1, .int (iI x)), (2, .int (iI y))]) hx hb dX5_walks_47 rfl hl (by decide) rfl (fun ls hl => ?_)
              refine lv_aload_n hx hb dX5_walks_48 rfl (lv_at hl 3 rfl) ?_
              refine xm_v (rV (rest := []) hx hb hml hown hts hK hl (c_X5_season l g a (seaN f1 n) f2 f3 f4 f5 f6 l7 f8 f9 f10 f11 f12 f13 f20 f21 f22 f23 f24 f25 H.size (show InvK 0 (seaN f1 n) from hsn.1) (show (seaN f1 n) 0 < 20000 from by omega)) lk_X5_152 ⟨rfl, hP, hD.weaken (fun _ _ _ _ => trivial)⟩ (va_recv hK.1 hP (ci := 5) (q0 := 0) rfl rfl) rfl rfl rfl (Rm.of rfl) rfl rfl dX5_walks_49) hD hS hA (fun u12 H locs hw hP hD hS => ?_)
              have hP : va_P g.1 vwCl (wM g a (sea (seaN f1 n)) f2 f3 f4 f5 f6 (u12 7) f8 f9 f10 f11 f12 f13 f20 f21 f22 f23 f24 f25) H := hP
              have hD : va_D (va_A (wM g a f1 f2 f3 f4 f5 f6 f7 f8 f9 f10 f11 f12 f13 f20 f21 f22 f23 f24 f25) s.heap.size) (wM g a (sea (seaN f1 n)) f2 f3 f4 f5 f6 (u12 7) f8 f9 f10 f11 f12 f13 f20 f21 f22 f23 f24 f25) := hD
              refine xi_inc (lv' := [(4, .int (iI ((n : Int) + 1))), (3, .int (iI (bh at9))), (5, .int (iI (bh at9))), (0, .ref (a 0)), (1, .int (iI x)), (2, .int (iI y))]) hx hb dX5_walks_52 hl (k := 2) rfl (by decide) rfl (fun ls hl => ?_)
              refine lv_goto (tgt := 5) hx hb dX5_walks_55 (by decide) ?_
              have hq13 : ((n : Int) + 1) = ((n + 1) : Int) := by omega
              have hl : lv_has ls 6 [(4, .int (iI ((n : Int) + 1))), (3, .int (iI (bh at9))), (0, .ref (a 0)), (1, .int (iI x)), (2, .int (iI y))] := lv_sub hl [0, 1, 3, 4, 5] rfl
              have hl := Eq.mp (congrArg (fun z9 => lv_has ls 6 [(4, .int (iI z9)), (3, .int (iI (bh at9))), (0, .ref (a 0)), (1, .int (iI x)), (2, .int (iI y))]) hq13) hl
              have hq14 : (sea (seaN f1 n)) = (seaN f1 (n + 1)) := rfl
              have hP := Eq.mp (congrArg (fun z9 => va_P g.1 vwCl (wM g a z9 f2 f3 f4 f5 f6 (u12 7) f8 f9 f10 f11 f12 f13 f20 f21 f22 f23 f24 f25) H) hq14) hP
              have hD := Eq.mp (congrArg (fun z9 => va_D (va_A (wM g a f1 f2 f3 f4 f5 f6 f7 f8 f9 f10 f11 f12 f13 f20 f21 f22 f23 f24 f25) s.heap.size) (wM g a z9 f2 f3 f4 f5 f6 (u12 7) f8 f9 f10 f11 f12 f13 f20 f21 f22 f23 f24 f25)) hq14) hD
              exact ih5 (n + 1) (bh at9) (u12 7) (by omega) (by omega) (by rw [← i5_3, show 80 - n = (80 - (n + 1)) + 1 by omega]; first | exact (wkT_go (b := y) (at1 := at9) (s := seaN f1 n) (n := (n : Int)) (by omega) (by assumption) (by omega)).symm | exact (wkT_st (b := y) (at1 := at9) (s := seaN f1 n) (n := (n : Int)) (by omega) (fun z => absurd z.1 (by assumption))).symm | exact (wkT_st (b := y) (at1 := at9) (s := seaN f1 n) (n := (n : Int)) (by omega) (fun z => by have := z.2; omega)).symm) (by omega) ls hl H locs hP hD hS
          · refine xi_zt_eq (tgt := 46) hx hb ⟨by decide, by decide⟩ (by decide) dX5_walks_29 (by decide) ?_
            refine lv_iload_n hx hb dX5_walks_46 rfl (lv_at hl 2 rfl) ?_
            refine lv_istore_n (lv' := [(3, .int (iI at9)), (5, .int (iI (bh at9))), (4, .int (iI (n : Int))), (0, .ref (a 0)), (1, .int (iI x)), (2, .int (iI y))]) hx hb dX5_walks_47 rfl hl (by decide) rfl (fun ls hl => ?_)
            refine lv_aload_n hx hb dX5_walks_48 rfl (lv_at hl 3 rfl) ?_
            refine xm_v (rV (rest := []) hx hb hml hown hts hK hl (c_X5_season l g a (seaN f1 n) f2 f3 f4 f5 f6 l7 f8 f9 f10 f11 f12 f13 f20 f21 f22 f23 f24 f25 H.size (show InvK 0 (seaN f1 n) from hsn.1) (show (seaN f1 n) 0 < 20000 from by omega)) lk_X5_152 ⟨rfl, hP, hD.weaken (fun _ _ _ _ => trivial)⟩ (va_recv hK.1 hP (ci := 5) (q0 := 0) rfl rfl) rfl rfl rfl (Rm.of rfl) rfl rfl dX5_walks_49) hD hS hA (fun u15 H locs hw hP hD hS => ?_)
            have hP : va_P g.1 vwCl (wM g a (sea (seaN f1 n)) f2 f3 f4 f5 f6 (u15 7) f8 f9 f10 f11 f12 f13 f20 f21 f22 f23 f24 f25) H := hP
            have hD : va_D (va_A (wM g a f1 f2 f3 f4 f5 f6 f7 f8 f9 f10 f11 f12 f13 f20 f21 f22 f23 f24 f25) s.heap.size) (wM g a (sea (seaN f1 n)) f2 f3 f4 f5 f6 (u15 7) f8 f9 f10 f11 f12 f13 f20 f21 f22 f23 f24 f25) := hD
            refine xi_inc (lv' := [(4, .int (iI ((n : Int) + 1))), (3, .int (iI at9)), (5, .int (iI (bh at9))), (0, .ref (a 0)), (1, .int (iI x)), (2, .int (iI y))]) hx hb dX5_walks_52 hl (k := 2) rfl (by decide) rfl (fun ls hl => ?_)
            refine lv_goto (tgt := 5) hx hb dX5_walks_55 (by decide) ?_
            have hq16 : ((n : Int) + 1) = ((n + 1) : Int) := by omega
            have hl : lv_has ls 6 [(4, .int (iI ((n : Int) + 1))), (3, .int (iI at9)), (0, .ref (a 0)), (1, .int (iI x)), (2, .int (iI y))] := lv_sub hl [0, 1, 3, 4, 5] rfl
            have hl := Eq.mp (congrArg (fun z9 => lv_has ls 6 [(4, .int (iI z9)), (3, .int (iI at9)), (0, .ref (a 0)), (1, .int (iI x)), (2, .int (iI y))]) hq16) hl
            have hq17 : (sea (seaN f1 n)) = (seaN f1 (n + 1)) := rfl
            have hP := Eq.mp (congrArg (fun z9 => va_P g.1 vwCl (wM g a z9 f2 f3 f4 f5 f6 (u15 7) f8 f9 f10 f11 f12 f13 f20 f21 f22 f23 f24 f25) H) hq17) hP
            have hD := Eq.mp (congrArg (fun z9 => va_D (va_A (wM g a f1 f2 f3 f4 f5 f6 f7 f8 f9 f10 f11 f12 f13 f20 f21 f22 f23 f24 f25) s.heap.size) (wM g a z9 f2 f3 f4 f5 f6 (u15 7) f8 f9 f10 f11 f12 f13 f20 f21 f22 f23 f24 f25)) hq17) hD
            exact ih5 (n + 1) at9 (u15 7) (by omega) (by omega) (by rw [← i5_3, show 80 - n = (80 - (n + 1)) + 1 by omega]; first | exact (wkT_go (b := y) (at1 := at9) (s := seaN f1 n) (n := (n : Int)) (by omega) (by assumption) (by omega)).symm | exact (wkT_st (b := y) (at1 := at9) (s := seaN f1 n) (n := (n : Int)) (by omega) (fun z => absurd z.1 (by assumption))).symm | exact (wkT_st (b := y) (at1 := at9) (s := seaN f1 n) (n := (n : Int)) (by omega) (fun z => by have := z.2; omega)).symm) (by omega) ls hl H locs hP hD hS
  have hq18 : 0 = (0 : Int) := rfl
  have hl : lv_has ls 6 [(4, .int (iI 0)), (3, .int (iI x)), (0, .ref (a 0)), (1, .int (iI x)), (2, .int (iI y))] := lv_sub hl [0, 1, 2, 3, 4] rfl
  have hl := Eq.mp (congrArg (fun z9 => lv_has ls 6 [(4, .int (iI z9)), (3, .int (iI x)), (0, .ref (a 0)), (1, .int (iI x)), (2, .int (iI y))]) hq18) hl
  have hq19 : f1 = (seaN f1 0) := rfl
  have hP := Eq.mp (congrArg (fun z9 => va_P g.1 vwCl (wM g a z9 f2 f3 f4 f5 f6 f7 f8 f9 f10 f11 f12 f13 f20 f21 f22 f23 f24 f25) s.heap) hq19) hP
  have hD := Eq.mp (congrArg (fun z9 => va_D (va_A (wM g a f1 f2 f3 f4 f5 f6 f7 f8 f9 f10 f11 f12 f13 f20 f21 f22 f23 f24 f25) s.heap.size) (wM g a z9 f2 f3 f4 f5 f6 f7 f8 f9 f10 f11 f12 f13 f20 f21 f22 f23 f24 f25)) hq19) hD
  exact lp5 (80 + 1) 0 x f7 (by omega) (by omega) rfl (by omega) ls hl s.heap [] hP hD hS
abbrev rm_X5_journey : Room := { frames := 7, cells := 0, slots := 0, locals := 159 }
set_option maxRecDepth 100000 in
set_option maxHeartbeats 4000000 in
theorem c_X5_journey (l : Launch) (g : Gd) (a : Nat → Nat) (f1 : Int → Int) (f2 : Int → Int) (f3 : Int → Int) (f4 : Int → Int) (f5 : Int → Int) (f6 : Int → Int) (f7 : Int → Int) (f8 : Int → Int) (f9 : Int → Int) (f10 : Int → Int) (f11 : Int → Int) (f12 : Int → Int) (f13 : Int → Int) (f20 : Int) (f21 : Int) (f22 : Int) (f23 : Int) (f24 : Int) (f25 : Int) (x : Int) (y : Int) (sz : Nat) (h1 : InvK 0 f1) (h2 : f1 0 ≤ 9999) (h3 : IR x) (h4 : IR y) : Met l yX5_journey (wsOf yX5_journey cX5_journey 4 (some .int)) rm_X5_journey (PX g (wP g (wM g a f1 f2 f3 f4 f5 f6 f7 f8 f9 f10 f11 f12 f13 f20 f21 f22 f23 f24 f25) sz) [.ref (a 0), .int (iI x), .int (iI y)]) (QMi g (fun u9 : Nat → Int → Int => wM g a f1 f2 f3 (u9 4) f5 (fb (fJrn f1 x y) f6) (u9 7) f8 f9 f10 f11 f12 f13 f20 f21 f22 f23 f24 f25) (fun r9 _ => r9 = ab (fJrn f1 x y) (iI (wlk f1 x y))) (va_A (wM g a f1 f2 f3 f4 f5 f6 f7 f8 f9 f10 f11 f12 f13 f20 f21 f22 f23 f24 f25) sz)) 0 0 (va_A (wM g a f1 f2 f3 f4 f5 f6 f7 f8 f9 f10 f11 f12 f13 f20 f21 f22 f23 f24 f25) sz) := by
  refine me (g := g) (by decide) rfl ?_
  intro pq eq s mq below meth cq C hnm hB ls hl
  obtain ⟨hx, hb, hr, hml, hown, hts, hlocks, hK⟩ := C
  have hown : s.vm.findClass RX5 = some mq.cls := hown
  have hl : lv_has ls 4 [(0, .ref (a 0)), (1, .int (iI x)), (2, .int (iI y))] := hl
  obtain ⟨hsz, hP, hD0⟩ := hB
  subst hsz
  have hD := hD0.self (sz := s.heap.size)
  have hA : ∀ q : Nat, s.heap.size ≤ q → va_A (wM g a f1 f2 f3 f4 f5 f6 f7 f8 f9 f10 f11 f12 f13 f20 f21 f22 f23 f24 f25) s.heap.size q := fun q h => Or.inr h
  have hS : va_S (va_A (wM g a f1 f2 f3 f4 f5 f6 f7 f8 f9 f10 f11 f12 f13 f20 f21 f22 f23 f24 f25) s.heap.size) s.heap s.heap [] := va_S.rf
  have hI := h1
  have hI8 : Inv f1 := h1.mono (by omega)
  have hn := hI.num
  have hs := hI.sea
  have hv := hI.vil
  have q1 := h3.1
  have q3 := h4.1
  have q2 := h3.2
  have q4 := h4.2
  have hwk := wkT_b y 80 f1 x 0 (by omega)
  have hwl : wlk f1 x y = wkT y 80 f1 x 0 := rfl
  refine lv_iload_n hx hb dX5_journey_0 rfl (lv_at hl 1 rfl) ?_
  refine xu_b (P := 0 ≤ x ∧ x ≤ 23) (rS (rest := []) hx hb hml hown hts hK hl (c_X5_isCell l g x (show IR x from ⟨by omega, by omega⟩)) lk_X5_66 trivial rfl rfl rfl (Rm.of rfl) rfl rfl dX5_journey_1) (fun z1 => ?_) (fun z1 => ?_)
  · refine xi_zf_eq hx hb ⟨by decide, by decide⟩ (by decide) dX5_journey_4 ⟨14, by decide⟩ ?_
    refine lv_iload_n hx hb dX5_journey_7 rfl (lv_at hl 2 rfl) ?_
    refine xu_b (P := 0 ≤ y ∧ y ≤ 23) (rS (rest := []) hx hb hml hown hts hK hl (c_X5_isCell l g y (show IR y from ⟨by omega, by omega⟩)) lk_X5_66 trivial rfl rfl rfl (Rm.of rfl) rfl rfl dX5_journey_8) (fun z2 => ?_) (fun z2 => ?_)
    · refine xi_zt_ne (tgt := 21) hx hb ⟨by decide, by decide⟩ (by decide) dX5_journey_11 (by decide) ?_
      refine lv_aload_n hx hb dX5_journey_21 rfl (lv_at hl 0 rfl) ?_
      refine xm_v (rV (rest := []) hx hb hml hown hts hK hl (c_X5_laysAside l g a f1 f2 f3 f4 f5 f6 f7 f8 f9 f10 f11 f12 f13 f20 f21 f22 f23 f24 f25 (s.heap).size ) lk_X5_172 ⟨rfl, hP, hD.weaken (fun _ _ _ _ => trivial)⟩ (va_recv hK.1 hP (ci := 5) (q0 := 0) rfl rfl) rfl rfl rfl (Rm.of rfl) rfl rfl dX5_journey_22) hD hS hA (fun _ H locs hw hP hD hS => ?_)
      have hP : va_P g.1 vwCl (wM g a f1 f2 f3 f1 f5 f6 f7 f8 f9 f10 f11 f12 f13 f20 f21 f22 f23 f24 f25) H := hP
      have hD : va_D (va_A (wM g a f1 f2 f3 f4 f5 f6 f7 f8 f9 f10 f11 f12 f13 f20 f21 f22 f23 f24 f25) s.heap.size) (wM g a f1 f2 f3 f1 f5 f6 f7 f8 f9 f10 f11 f12 f13 f20 f21 f22 f23 f24 f25) := hD
      refine lv_aload_n hx hb dX5_journey_25 rfl (lv_at hl 0 rfl) ?_
      refine lv_aload_n hx hb dX5_journey_26 rfl (lv_at hl 0 rfl) ?_
      refine lv_iload_n hx hb dX5_journey_27 rfl (lv_at hl 1 rfl) ?_
      refine lv_iload_n hx hb dX5_journey_28 rfl (lv_at hl 2 rfl) ?_
      refine xm_i (rV (rest := [.ref (a 0)]) hx hb hml hown hts hK hl (c_X5_walks l g a f1 f2 f3 f1 f5 f6 f7 f8 f9 f10 f11 f12 f13 f20 f21 f22 f23 f24 f25 x y H.size (show InvK 0 f1 from h1) (show f1 0 ≤ 10050 from by omega) (show 0 ≤ x ∧ x ≤ 23 from by omega) (show 0 ≤ y ∧ y ≤ 23 from by omega)) lk_X5_201 ⟨rfl, hP, hD.weaken (fun _ _ _ _ => trivial)⟩ (va_recv hK.1 hP (ci := 5) (q0 := 0) rfl rfl) rfl rfl rfl (Rm.of rfl) rfl rfl dX5_journey_29) hD hS hA (fun x9 u4 H locs hw hP hD hS => ?_)
      obtain rfl : x9 = iI (wlk f1 x y) := hw
      have hP : va_P g.1 vwCl (wM g a (u4 1) f2 f3 f1 f5 f6 (u4 7) f8 f9 f10 f11 f12 f13 f20 f21 f22 f23 f24 f25) H := hP
      have hD : va_D (va_A (wM g a f1 f2 f3 f4 f5 f6 f7 f8 f9 f10 f11 f12 f13 f20 f21 f22 f23 f24 f25) s.heap.size) (wM g a (u4 1) f2 f3 f1 f5 f6 (u4 7) f8 f9 f10 f11 f12 f13 f20 f21 f22 f23 f24 f25) := hD
      refine xm_i (rV (rest := []) hx hb hml hown hts hK hl (c_X5_takesBack l g a (u4 1) f2 f3 f1 f5 f6 (u4 7) f8 f9 f10 f11 f12 f13 f20 f21 f22 f23 f24 f25 (iI (wlk f1 x y)) H.size ) lk_X5_175 ⟨rfl, hP, hD.weaken (fun _ _ _ _ => trivial)⟩ (va_recv hK.1 hP (ci := 5) (q0 := 0) rfl rfl) rfl rfl rfl (Rm.of rfl) rfl rfl dX5_journey_32) hD hS hA (fun x9 _ H locs hw hP hD hS => ?_)
      obtain rfl : x9 = (iI (wlk f1 x y)) := hw
      have hP : va_P g.1 vwCl (wM g a f1 f2 f3 f1 f5 f6 (u4 7) f8 f9 f10 f11 f12 f13 f20 f21 f22 f23 f24 f25) H := hP
      have hD : va_D (va_A (wM g a f1 f2 f3 f4 f5 f6 f7 f8 f9 f10 f11 f12 f13 f20 f21 f22 f23 f24 f25) s.heap.size) (wM g a f1 f2 f3 f1 f5 f6 (u4 7) f8 f9 f10 f11 f12 f13 f20 f21 f22 f23 f24 f25) := hD
      refine lv_istore_n (lv' := [(3, .int (iI (wlk f1 x y))), (0, .ref (a 0)), (1, .int (iI x)), (2, .int (iI y))]) hx hb dX5_journey_35 rfl hl (by decide) rfl (fun ls hl => ?_)
      refine lv_iload_n hx hb dX5_journey_36 rfl (lv_at hl 0 rfl) ?_
      refine xi_z_ge (tgt := 49) hx hb ⟨by omega, by omega⟩ dX5_journey_37 (by decide) (fun z6 => ?_) (fun z6 => ?_)
      · refine lv_iload_n hx hb dX5_journey_49 rfl (lv_at hl 0 rfl) ?_
        have hf : fJrn f1 x y = 0 := by unfold fJrn; (repeat (first | rw [if_pos (by omega)] | rw [if_neg (by omega)])); first | done | (exfalso; omega)
        have he7 : f6 = (fb (fJrn f1 x y) f6) := by rw [hf]; rfl
        have hP := Eq.mp (congrArg (fun z9 => va_P g.1 vwCl (wM g a f1 f2 f3 f1 f5 z9 (u4 7) f8 f9 f10 f11 f12 f13 f20 f21 f22 f23 f24 f25) H) he7) hP
        have hD := Eq.mp (congrArg (fun z9 => va_D (va_A (wM g a f1 f2 f3 f4 f5 f6 f7 f8 f9 f10 f11 f12 f13 f20 f21 f22 f23 f24 f25) s.heap.size) (wM g a f1 f2 f3 f1 f5 z9 (u4 7) f8 f9 f10 f11 f12 f13 f20 f21 f22 f23 f24 f25)) he7) hD
        have hP : va_P g.1 vwCl (wM g a f1 f2 f3 ((su (su (fun _ _ => 0) 4 f1) 7 (u4 7)) 4) f5 (fb (fJrn f1 x y) f6) ((su (su (fun _ _ => 0) 4 f1) 7 (u4 7)) 7) f8 f9 f10 f11 f12 f13 f20 f21 f22 f23 f24 f25) H := hP
        have hD : va_D (va_A (wM g a f1 f2 f3 f4 f5 f6 f7 f8 f9 f10 f11 f12 f13 f20 f21 f22 f23 f24 f25) s.heap.size) (wM g a f1 f2 f3 ((su (su (fun _ _ => 0) 4 f1) 7 (u4 7)) 4) f5 (fb (fJrn f1 x y) f6) ((su (su (fun _ _ => 0) 4 f1) 7 (u4 7)) 7) f8 f9 f10 f11 f12 f13 f20 f21 f22 f23 f24 f25) := hD
        exact W.iret hx hb hr (fun t ht hW => ⟨⟨_, (su (su (fun _ _ => 0) 4 f1) 7 (u4 7)), rfl, by rw [hf, ab_0], by rw [ht]; exact hP, hD⟩, hS.F ht⟩) hS.2.2 dX5_journey_50
      · refine lv_aload_n hx hb dX5_journey_40 rfl (lv_at hl 1 rfl) ?_
        refine xi_ldc hx hb hown hts kk_X5_178 dX5_journey_41 ?_
        refine xm_i (rV (rest := []) hx hb hml hown hts hK hl (c_X5_finds l g a f1 f2 f3 f1 f5 f6 (u4 7) f8 f9 f10 f11 f12 f13 f20 f21 f22 f23 f24 f25 (-1000000004) H.size (show 0 ≤ -1000000001 - (-1000000004) ∧ -1000000001 - (-1000000004) < 7 from by omega)) lk_X5_74 ⟨rfl, hP, hD.weaken (fun _ _ _ _ => trivial)⟩ (va_recv hK.1 hP (ci := 5) (q0 := 0) rfl rfl) rfl rfl rfl (Rm.of rfl) rfl rfl dX5_journey_43) hD hS hA (fun x9 _ H locs hw hP hD hS => ?_)
        obtain rfl : x9 = iI (-1000000004) := hw
        have hP : va_P g.1 vwCl (wM g a f1 f2 f3 f1 f5 (fb (-1000000000 - (-1000000004)) f6) (u4 7) f8 f9 f10 f11 f12 f13 f20 f21 f22 f23 f24 f25) H := hP
        have hD : va_D (va_A (wM g a f1 f2 f3 f4 f5 f6 f7 f8 f9 f10 f11 f12 f13 f20 f21 f22 f23 f24 f25) s.heap.size) (wM g a f1 f2 f3 f1 f5 (fb (-1000000000 - (-1000000004)) f6) (u4 7) f8 f9 f10 f11 f12 f13 f20 f21 f22 f23 f24 f25) := hD
        refine lv_goto (tgt := 50) hx hb dX5_journey_46 (by decide) ?_
        have hf : fJrn f1 x y = 4 := by unfold fJrn; (repeat (first | rw [if_pos (by omega)] | rw [if_neg (by omega)])); first | done | (exfalso; omega)
        have he9 : (fb (-1000000000 - (-1000000004)) f6) = (fb (fJrn f1 x y) f6) := by rw [hf]; rfl
        have hP := Eq.mp (congrArg (fun z9 => va_P g.1 vwCl (wM g a f1 f2 f3 f1 f5 z9 (u4 7) f8 f9 f10 f11 f12 f13 f20 f21 f22 f23 f24 f25) H) he9) hP
        have hD := Eq.mp (congrArg (fun z9 => va_D (va_A (wM g a f1 f2 f3 f4 f5 f6 f7 f8 f9 f10 f11 f12 f13 f20 f21 f22 f23 f24 f25) s.heap.size) (wM g a f1 f2 f3 f1 f5 z9 (u4 7) f8 f9 f10 f11 f12 f13 f20 f21 f22 f23 f24 f25)) he9) hD
        have hP : va_P g.1 vwCl (wM g a f1 f2 f3 ((su (su (fun _ _ => 0) 4 f1) 7 (u4 7)) 4) f5 (fb (fJrn f1 x y) f6) ((su (su (fun _ _ => 0) 4 f1) 7 (u4 7)) 7) f8 f9 f10 f11 f12 f13 f20 f21 f22 f23 f24 f25) H := hP
        have hD : va_D (va_A (wM g a f1 f2 f3 f4 f5 f6 f7 f8 f9 f10 f11 f12 f13 f20 f21 f22 f23 f24 f25) s.heap.size) (wM g a f1 f2 f3 ((su (su (fun _ _ => 0) 4 f1) 7 (u4 7)) 4) f5 (fb (fJrn f1 x y) f6) ((su (su (fun _ _ => 0) 4 f1) 7 (u4 7)) 7) f8 f9 f10 f11 f12 f13 f20 f21 f22 f23 f24 f25) := hD
        exact W.iret hx hb hr (fun t ht hW => ⟨⟨_, (su (su (fun _ _ => 0) 4 f1) 7 (u4 7)), rfl, by rw [hf]; rfl, by rw [ht]; exact hP, hD⟩, hS.F ht⟩) hS.2.2 dX5_journey_50
    · refine xi_zf_ne hx hb ⟨by decide, by decide⟩ (by decide) dX5_journey_11 ⟨21, by decide⟩ ?_
      refine lv_aload_n hx hb dX5_journey_14 rfl (lv_at hl 0 rfl) ?_
      refine xi_ldc hx hb hown hts kk_X5_50 dX5_journey_15 ?_
      refine xm_i (rV (rest := []) hx hb hml hown hts hK hl (c_X5_finds l g a f1 f2 f3 f4 f5 f6 f7 f8 f9 f10 f11 f12 f13 f20 f21 f22 f23 f24 f25 (-1000000001) (s.heap).size (show 0 ≤ -1000000001 - (-1000000001) ∧ -1000000001 - (-1000000001) < 7 from by omega)) lk_X5_74 ⟨rfl, hP, hD.weaken (fun _ _ _ _ => trivial)⟩ (va_recv hK.1 hP (ci := 5) (q0 := 0) rfl rfl) rfl rfl rfl (Rm.of rfl) rfl rfl dX5_journey_17) hD hS hA (fun x9 _ H locs hw hP hD hS => ?_)
      obtain rfl : x9 = iI (-1000000001) := hw
      have hP : va_P g.1 vwCl (wM g a f1 f2 f3 f4 f5 (fb (-1000000000 - (-1000000001)) f6) f7 f8 f9 f10 f11 f12 f13 f20 f21 f22 f23 f24 f25) H := hP
      have hD : va_D (va_A (wM g a f1 f2 f3 f4 f5 f6 f7 f8 f9 f10 f11 f12 f13 f20 f21 f22 f23 f24 f25) s.heap.size) (wM g a f1 f2 f3 f4 f5 (fb (-1000000000 - (-1000000001)) f6) f7 f8 f9 f10 f11 f12 f13 f20 f21 f22 f23 f24 f25) := hD
      have hf : fJrn f1 x y = 1 := by unfold fJrn; (repeat (first | rw [if_pos (by omega)] | rw [if_neg (by omega)])); first | done | (exfalso; omega)
      have he11 : (fb (-1000000000 - (-1000000001)) f6) = (fb (fJrn f1 x y) f6) := by rw [hf]; rfl
      have hP := Eq.mp (congrArg (fun z9 => va_P g.1 vwCl (wM g a f1 f2 f3 f4 f5 z9 f7 f8 f9 f10 f11 f12 f13 f20 f21 f22 f23 f24 f25) H) he11) hP
      have hD := Eq.mp (congrArg (fun z9 => va_D (va_A (wM g a f1 f2 f3 f4 f5 f6 f7 f8 f9 f10 f11 f12 f13 f20 f21 f22 f23 f24 f25) s.heap.size) (wM g a f1 f2 f3 f4 f5 z9 f7 f8 f9 f10 f11 f12 f13 f20 f21 f22 f23 f24 f25)) he11) hD
      have hP : va_P g.1 vwCl (wM g a f1 f2 f3 ((su (su (fun _ _ => 0) 4 f4) 7 f7) 4) f5 (fb (fJrn f1 x y) f6) ((su (su (fun _ _ => 0) 4 f4) 7 f7) 7) f8 f9 f10 f11 f12 f13 f20 f21 f22 f23 f24 f25) H := hP
      have hD : va_D (va_A (wM g a f1 f2 f3 f4 f5 f6 f7 f8 f9 f10 f11 f12 f13 f20 f21 f22 f23 f24 f25) s.heap.size) (wM g a f1 f2 f3 ((su (su (fun _ _ => 0) 4 f4) 7 f7) 4) f5 (fb (fJrn f1 x y) f6) ((su (su (fun _ _ => 0) 4 f4) 7 f7) 7) f8 f9 f10 f11 f12 f13 f20 f21 f22 f23 f24 f25) := hD
      exact W.iret hx hb hr (fun t ht hW => ⟨⟨_, (su (su (fun _ _ => 0) 4 f4) 7 f7), rfl, by rw [hf]; rfl, by rw [ht]; exact hP, hD⟩, hS.F ht⟩) hS.2.2 dX5_journey_20
  · refine xi_zt_eq (tgt := 14) hx hb ⟨by decide, by decide⟩ (by decide) dX5_journey_4 (by decide) ?_
    refine lv_aload_n hx hb dX5_journey_14 rfl (lv_at hl 0 rfl) ?_
    refine xi_ldc hx hb hown hts kk_X5_50 dX5_journey_15 ?_
    refine xm_i (rV (rest := []) hx hb hml hown hts hK hl (c_X5_finds l g a f1 f2 f3 f4 f5 f6 f7 f8 f9 f10 f11 f12 f13 f20 f21 f22 f23 f24 f25 (-1000000001) (s.heap).size (show 0 ≤ -1000000001 - (-1000000001) ∧ -1000000001 - (-1000000001) < 7 from by omega)) lk_X5_74 ⟨rfl, hP, hD.weaken (fun _ _ _ _ => trivial)⟩ (va_recv hK.1 hP (ci := 5) (q0 := 0) rfl rfl) rfl rfl rfl (Rm.of rfl) rfl rfl dX5_journey_17) hD hS hA (fun x9 _ H locs hw hP hD hS => ?_)
    obtain rfl : x9 = iI (-1000000001) := hw
    have hP : va_P g.1 vwCl (wM g a f1 f2 f3 f4 f5 (fb (-1000000000 - (-1000000001)) f6) f7 f8 f9 f10 f11 f12 f13 f20 f21 f22 f23 f24 f25) H := hP
    have hD : va_D (va_A (wM g a f1 f2 f3 f4 f5 f6 f7 f8 f9 f10 f11 f12 f13 f20 f21 f22 f23 f24 f25) s.heap.size) (wM g a f1 f2 f3 f4 f5 (fb (-1000000000 - (-1000000001)) f6) f7 f8 f9 f10 f11 f12 f13 f20 f21 f22 f23 f24 f25) := hD
    have hf : fJrn f1 x y = 1 := by unfold fJrn; (repeat (first | rw [if_pos (by omega)] | rw [if_neg (by omega)])); first | done | (exfalso; omega)
    have he13 : (fb (-1000000000 - (-1000000001)) f6) = (fb (fJrn f1 x y) f6) := by rw [hf]; rfl
    have hP := Eq.mp (congrArg (fun z9 => va_P g.1 vwCl (wM g a f1 f2 f3 f4 f5 z9 f7 f8 f9 f10 f11 f12 f13 f20 f21 f22 f23 f24 f25) H) he13) hP
    have hD := Eq.mp (congrArg (fun z9 => va_D (va_A (wM g a f1 f2 f3 f4 f5 f6 f7 f8 f9 f10 f11 f12 f13 f20 f21 f22 f23 f24 f25) s.heap.size) (wM g a f1 f2 f3 f4 f5 z9 f7 f8 f9 f10 f11 f12 f13 f20 f21 f22 f23 f24 f25)) he13) hD
    have hP : va_P g.1 vwCl (wM g a f1 f2 f3 ((su (su (fun _ _ => 0) 4 f4) 7 f7) 4) f5 (fb (fJrn f1 x y) f6) ((su (su (fun _ _ => 0) 4 f4) 7 f7) 7) f8 f9 f10 f11 f12 f13 f20 f21 f22 f23 f24 f25) H := hP
    have hD : va_D (va_A (wM g a f1 f2 f3 f4 f5 f6 f7 f8 f9 f10 f11 f12 f13 f20 f21 f22 f23 f24 f25) s.heap.size) (wM g a f1 f2 f3 ((su (su (fun _ _ => 0) 4 f4) 7 f7) 4) f5 (fb (fJrn f1 x y) f6) ((su (su (fun _ _ => 0) 4 f4) 7 f7) 7) f8 f9 f10 f11 f12 f13 f20 f21 f22 f23 f24 f25) := hD
    exact W.iret hx hb hr (fun t ht hW => ⟨⟨_, (su (su (fun _ _ => 0) 4 f4) 7 f7), rfl, by rw [hf]; rfl, by rw [ht]; exact hP, hD⟩, hS.F ht⟩) hS.2.2 dX5_journey_20
abbrev rm_X5_sets : Room := { frames := 7, cells := 0, slots := 0, locals := 159 }
set_option maxRecDepth 100000 in
set_option maxHeartbeats 4000000 in
theorem c_X5_sets (l : Launch) (g : Gd) (a : Nat → Nat) (f1 : Int → Int) (f2 : Int → Int) (f3 : Int → Int) (f4 : Int → Int) (f5 : Int → Int) (f6 : Int → Int) (f7 : Int → Int) (f8 : Int → Int) (f9 : Int → Int) (f10 : Int → Int) (f11 : Int → Int) (f12 : Int → Int) (f13 : Int → Int) (f20 : Int) (f21 : Int) (f22 : Int) (f23 : Int) (f24 : Int) (f25 : Int) (x : Int) (y : Int) (sz : Nat) (h1 : InvK 0 f1) (h2 : f1 0 ≤ 9999) (h3 : IR x) (h4 : IR y) : Met l yX5_sets (wsOf yX5_sets cX5_sets 8 (some .int)) rm_X5_sets (PX g (wP g (wM g a f1 f2 f3 f4 f5 f6 f7 f8 f9 f10 f11 f12 f13 f20 f21 f22 f23 f24 f25) sz) [.ref (a 0), .int (iI x), .int (iI y)]) (QMi g (fun u9 : Nat → Int → Int => wM g a f1 f2 f3 (u9 4) (u9 5) (fb (fSets f1 x y) f6) (u9 7) f8 f9 f10 f11 f12 f13 f20 f21 f22 f23 f24 f25) (fun r9 _ => r9 = ab (fSets f1 x y) (iI (bdT (bdV f1 x y) 21).1)) (va_A (wM g a f1 f2 f3 f4 f5 f6 f7 f8 f9 f10 f11 f12 f13 f20 f21 f22 f23 f24 f25) sz)) 0 0 (va_A (wM g a f1 f2 f3 f4 f5 f6 f7 f8 f9 f10 f11 f12 f13 f20 f21 f22 f23 f24 f25) sz) := by
  refine me (g := g) (by decide) rfl ?_
  intro pq eq s mq below meth cq C hnm hB ls hl
  obtain ⟨hx, hb, hr, hml, hown, hts, hlocks, hK⟩ := C
  have hown : s.vm.findClass RX5 = some mq.cls := hown
  have hl : lv_has ls 8 [(0, .ref (a 0)), (1, .int (iI x)), (2, .int (iI y))] := hl
  obtain ⟨hsz, hP, hD0⟩ := hB
  subst hsz
  have hD := hD0.self (sz := s.heap.size)
  have hA : ∀ q : Nat, s.heap.size ≤ q → va_A (wM g a f1 f2 f3 f4 f5 f6 f7 f8 f9 f10 f11 f12 f13 f20 f21 f22 f23 f24 f25) s.heap.size q := fun q h => Or.inr h
  have hS : va_S (va_A (wM g a f1 f2 f3 f4 f5 f6 f7 f8 f9 f10 f11 f12 f13 f20 f21 f22 f23 f24 f25) s.heap.size) s.heap s.heap [] := va_S.rf
  have hI := h1
  have hI8 : Inv f1 := h1.mono (by omega)
  have hn := hI.num
  have hs := hI.sea
  have hv := hI.vil
  have q1 := h3.1
  have q3 := h4.1
  have q2 := h3.2
  have q4 := h4.2
  refine lv_iload_n hx hb dX5_sets_0 rfl (lv_at hl 1 rfl) ?_
  refine xu_b (P := 0 ≤ x ∧ x ≤ 23) (rS (rest := []) hx hb hml hown hts hK hl (c_X5_isCell l g x (show IR x from ⟨by omega, by omega⟩)) lk_X5_66 trivial rfl rfl rfl (Rm.of rfl) rfl rfl dX5_sets_1) (fun z1 => ?_) (fun z1 => ?_)
  · refine xi_zf_eq hx hb ⟨by decide, by decide⟩ (by decide) dX5_sets_4 ⟨14, by decide⟩ ?_
    refine lv_iload_n hx hb dX5_sets_7 rfl (lv_at hl 2 rfl) ?_
    refine xu_b (P := 0 ≤ y ∧ y ≤ 23) (rS (rest := []) hx hb hml hown hts hK hl (c_X5_isCell l g y (show IR y from ⟨by omega, by omega⟩)) lk_X5_66 trivial rfl rfl rfl (Rm.of rfl) rfl rfl dX5_sets_8) (fun z2 => ?_) (fun z2 => ?_)
    · refine xi_zt_ne (tgt := 21) hx hb ⟨by decide, by decide⟩ (by decide) dX5_sets_11 (by decide) ?_
      refine lv_aload_n hx hb dX5_sets_21 rfl (lv_at hl 0 rfl) ?_
      refine xm_v (rV (rest := []) hx hb hml hown hts hK hl (c_X5_laysAside l g a f1 f2 f3 f4 f5 f6 f7 f8 f9 f10 f11 f12 f13 f20 f21 f22 f23 f24 f25 (s.heap).size ) lk_X5_172 ⟨rfl, hP, hD.weaken (fun _ _ _ _ => trivial)⟩ (va_recv hK.1 hP (ci := 5) (q0 := 0) rfl rfl) rfl rfl rfl (Rm.of rfl) rfl rfl dX5_sets_22) hD hS hA (fun _ H locs hw hP hD hS => ?_)
      have hP : va_P g.1 vwCl (wM g a f1 f2 f3 f1 f5 f6 f7 f8 f9 f10 f11 f12 f13 f20 f21 f22 f23 f24 f25) H := hP
      have hD : va_D (va_A (wM g a f1 f2 f3 f4 f5 f6 f7 f8 f9 f10 f11 f12 f13 f20 f21 f22 f23 f24 f25) s.heap.size) (wM g a f1 f2 f3 f1 f5 f6 f7 f8 f9 f10 f11 f12 f13 f20 f21 f22 f23 f24 f25) := hD
      refine lv_iconst (v := iI (-1)) hx hb dX5_sets_25 (by decide) ?_
      refine lv_istore_n (lv' := [(3, .int (iI (-1))), (0, .ref (a 0)), (1, .int (iI x)), (2, .int (iI y))]) hx hb dX5_sets_26 rfl hl (by decide) rfl (fun ls hl => ?_)
      refine lv_iconst (v := iI (0)) hx hb dX5_sets_27 (by decide) ?_
      refine lv_istore (lv' := [(4, .int (iI 0)), (3, .int (iI (-1))), (0, .ref (a 0)), (1, .int (iI x)), (2, .int (iI y))]) hx hb dX5_sets_28 hl (by decide) rfl (fun ls hl => ?_)
      refine lv_iconst (v := iI (0)) hx hb dX5_sets_30 (by decide) ?_
      refine lv_istore (lv' := [(5, .int (iI 0)), (4, .int (iI 0)), (3, .int (iI (-1))), (0, .ref (a 0)), (1, .int (iI x)), (2, .int (iI y))]) hx hb dX5_sets_31 hl (by decide) rfl (fun ls hl => ?_)
      have lp33 : ∀ (n33 : Nat) (k : Nat) (l5 : Int → Int) (l7 : Int → Int), (k ≤ 21) → (0 ≤ x ∧ x ≤ 23 ∧ 0 ≤ y ∧ y ≤ 23) → 21 - k < n33 → ∀ ls : Array Slot, lv_has ls 8 [(5, .int (iI (k : Int))), (4, .int (iI ((bdT (bdV f1 x y) k).2))), (3, .int (iI ((bdT (bdV f1 x y) k).1))), (0, .ref (a 0)), (1, .int (iI x)), (2, .int (iI y))] → ∀ (H : Heap) (locs : List Loc), va_P g.1 vwCl (wM g a (seaN f1 k) f2 f3 f1 l5 f6 l7 f8 f9 f10 f11 f12 f13 f20 f21 f22 f23 f24 f25) H → va_D (va_A (wM g a f1 f2 f3 f4 f5 f6 f7 f8 f9 f10 f11 f12 f13 f20 f21 f22 f23 f24 f25) s.heap.size) (wM g a (seaN f1 k) f2 f3 f1 l5 f6 l7 f8 f9 f10 f11 f12 f13 f20 f21 f22 f23 f24 f25) → va_S (va_A (wM g a f1 f2 f3 f4 f5 f6 f7 f8 f9 f10 f11 f12 f13 f20 f21 f22 f23 f24 f25) s.heap.size) s.heap H locs → W pq l eq rm_X5_sets s mq [.ref (a 0), .int (iI x), .int (iI y)].toArray below meth cq H locs 0 0 (MQ below (QMi g (fun u9 : Nat → Int → Int => wM g a f1 f2 f3 (u9 4) (u9 5) (fb (fSets f1 x y) f6) (u9 7) f8 f9 f10 f11 f12 f13 f20 f21 f22 f23 f24 f25) (fun r9 _ => r9 = ab (fSets f1 x y) (iI (bdT (bdV f1 x y) 21).1)) (va_A (wM g a f1 f2 f3 f4 f5 f6 f7 f8 f9 f10 f11 f12 f13 f20 f21 f22 f23 f24 f25) s.heap.size)) [.ref (a 0), .int (iI x), .int (iI y)].toArray s 0 0 (va_A (wM g a f1 f2 f3 f4 f5 f6 f7 f8 f9 f10 f11 f12 f13 f20 f21 f22 f23 f24 f25) s.heap.size)) (F0 mq 33 ls []) := by
        intro n33
        induction n33 with
        | zero => intro k l5 l7 i33_1 i33_2 hm; exact absurd hm (Nat.not_lt_zero _)
        | succ n33 ih33 =>
          intro k l5 l7 i33_1 i33_2 hm33 ls hl H locs hP hD hS
          have hsn := seaN_inv hI k (by omega)
          have hs0 := hsn.2.1
          have hbd := bdT_b (v := (bdV f1 x y)) (M := 80) (by omega) k (fun j hj => (wkT_b y 80 (seaN f1 j) x 0 (by omega)).2)
          have hwk := wkT_b y 80 (seaN f1 k) x 0 (by omega)
          have hwl : wlk (seaN f1 k) x y = wkT y 80 (seaN f1 k) x 0 := rfl
          have hv9 : bdV f1 x y k = wlk (seaN f1 k) x y := rfl
          refine lv_iload hx hb dX5_sets_33 (lv_at hl 0 rfl) ?_
          refine lv_bipush (v := iI (20)) hx hb dX5_sets_35 (by decide) ?_
          refine xi_c_gt (tgt := 141) hx hb ⟨by omega, by omega⟩ ⟨by decide, by decide⟩ dX5_sets_37 (by decide) (fun z4 => ?_) (fun z4 => ?_)
          · have hfs : bdT (bdV f1 x y) 21 = bdT (bdV f1 x y) k := by rw [show k = 21 by omega]
            refine lv_aload_n hx hb dX5_sets_141 rfl (lv_at hl 3 rfl) ?_
            refine lv_iload_n hx hb dX5_sets_142 rfl (lv_at hl 2 rfl) ?_
            refine xm_i (rV (rest := []) hx hb hml hown hts hK hl (c_X5_takesBack l g a (seaN f1 k) f2 f3 f1 l5 f6 l7 f8 f9 f10 f11 f12 f13 f20 f21 f22 f23 f24 f25 (iI ((bdT (bdV f1 x y) k).1)) H.size ) lk_X5_175 ⟨rfl, hP, hD.weaken (fun _ _ _ _ => trivial)⟩ (va_recv hK.1 hP (ci := 5) (q0 := 0) rfl rfl) rfl rfl rfl (Rm.of rfl) rfl rfl dX5_sets_143) hD hS hA (fun x9 _ H locs hw hP hD hS => ?_)
            obtain rfl : x9 = (iI ((bdT (bdV f1 x y) k).1)) := hw
            have hP : va_P g.1 vwCl (wM g a f1 f2 f3 f1 l5 f6 l7 f8 f9 f10 f11 f12 f13 f20 f21 f22 f23 f24 f25) H := hP
            have hD : va_D (va_A (wM g a f1 f2 f3 f4 f5 f6 f7 f8 f9 f10 f11 f12 f13 f20 f21 f22 f23 f24 f25) s.heap.size) (wM g a f1 f2 f3 f1 l5 f6 l7 f8 f9 f10 f11 f12 f13 f20 f21 f22 f23 f24 f25) := hD
            refine lv_istore (lv' := [(5, .int (iI ((bdT (bdV f1 x y) k).1))), (4, .int (iI ((bdT (bdV f1 x y) k).2))), (3, .int (iI ((bdT (bdV f1 x y) k).1))), (0, .ref (a 0)), (1, .int (iI x)), (2, .int (iI y))]) hx hb dX5_sets_146 hl (by decide) rfl (fun ls hl => ?_)
            refine lv_iload hx hb dX5_sets_148 (lv_at hl 0 rfl) ?_
            refine xi_z_ge (tgt := 162) hx hb ⟨by omega, by omega⟩ dX5_sets_150 (by decide) (fun z6 => ?_) (fun z6 => ?_)
            · refine lv_iload hx hb dX5_sets_162 (lv_at hl 0 rfl) ?_
              have hf : fSets f1 x y = 0 := by unfold fSets; rw [if_pos (by omega)]; first | (rw [hfs]; first | rw [if_pos (by omega)] | rw [if_neg (by omega)])
              have he7 : f6 = (fb (fSets f1 x y) f6) := by rw [hf]; rfl
              have hP := Eq.mp (congrArg (fun z9 => va_P g.1 vwCl (wM g a f1 f2 f3 f1 l5 z9 l7 f8 f9 f10 f11 f12 f13 f20 f21 f22 f23 f24 f25) H) he7) hP
              have hD := Eq.mp (congrArg (fun z9 => va_D (va_A (wM g a f1 f2 f3 f4 f5 f6 f7 f8 f9 f10 f11 f12 f13 f20 f21 f22 f23 f24 f25) s.heap.size) (wM g a f1 f2 f3 f1 l5 z9 l7 f8 f9 f10 f11 f12 f13 f20 f21 f22 f23 f24 f25)) he7) hD
              have hP : va_P g.1 vwCl (wM g a f1 f2 f3 ((su (su (su (fun _ _ => 0) 4 f1) 5 l5) 7 l7) 4) ((su (su (su (fun _ _ => 0) 4 f1) 5 l5) 7 l7) 5) (fb (fSets f1 x y) f6) ((su (su (su (fun _ _ => 0) 4 f1) 5 l5) 7 l7) 7) f8 f9 f10 f11 f12 f13 f20 f21 f22 f23 f24 f25) H := hP
              have hD : va_D (va_A (wM g a f1 f2 f3 f4 f5 f6 f7 f8 f9 f10 f11 f12 f13 f20 f21 f22 f23 f24 f25) s.heap.size) (wM g a f1 f2 f3 ((su (su (su (fun _ _ => 0) 4 f1) 5 l5) 7 l7) 4) ((su (su (su (fun _ _ => 0) 4 f1) 5 l5) 7 l7) 5) (fb (fSets f1 x y) f6) ((su (su (su (fun _ _ => 0) 4 f1) 5 l5) 7 l7) 7) f8 f9 f10 f11 f12 f13 f20 f21 f22 f23 f24 f25) := hD
              exact W.iret hx hb hr (fun t ht hW => ⟨⟨_, (su (su (su (fun _ _ => 0) 4 f1) 5 l5) 7 l7), rfl, by rw [hf, ab_0, hfs], by rw [ht]; exact hP, hD⟩, hS.F ht⟩) hS.2.2 dX5_sets_164
            · refine lv_aload_n hx hb dX5_sets_153 rfl (lv_at hl 3 rfl) ?_
              refine xi_ldc hx hb hown hts kk_X5_178 dX5_sets_154 ?_
              refine xm_i (rV (rest := []) hx hb hml hown hts hK hl (c_X5_finds l g a f1 f2 f3 f1 l5 f6 l7 f8 f9 f10 f11 f12 f13 f20 f21 f22 f23 f24 f25 (-1000000004) H.size (show 0 ≤ -1000000001 - (-1000000004) ∧ -1000000001 - (-1000000004) < 7 from by omega)) lk_X5_74 ⟨rfl, hP, hD.weaken (fun _ _ _ _ => trivial)⟩ (va_recv hK.1 hP (ci := 5) (q0 := 0) rfl rfl) rfl rfl rfl (Rm.of rfl) rfl rfl dX5_sets_156) hD hS hA (fun x9 _ H locs hw hP hD hS => ?_)
              obtain rfl : x9 = iI (-1000000004) := hw
              have hP : va_P g.1 vwCl (wM g a f1 f2 f3 f1 l5 (fb (-1000000000 - (-1000000004)) f6) l7 f8 f9 f10 f11 f12 f13 f20 f21 f22 f23 f24 f25) H := hP
              have hD : va_D (va_A (wM g a f1 f2 f3 f4 f5 f6 f7 f8 f9 f10 f11 f12 f13 f20 f21 f22 f23 f24 f25) s.heap.size) (wM g a f1 f2 f3 f1 l5 (fb (-1000000000 - (-1000000004)) f6) l7 f8 f9 f10 f11 f12 f13 f20 f21 f22 f23 f24 f25) := hD
              refine lv_goto (tgt := 164) hx hb dX5_sets_159 (by decide) ?_
              have hf : fSets f1 x y = 4 := by unfold fSets; rw [if_pos (by omega)]; first | (rw [hfs]; first | rw [if_pos (by omega)] | rw [if_neg (by omega)])
              have he9 : (fb (-1000000000 - (-1000000004)) f6) = (fb (fSets f1 x y) f6) := by rw [hf]; rfl
              have hP := Eq.mp (congrArg (fun z9 => va_P g.1 vwCl (wM g a f1 f2 f3 f1 l5 z9 l7 f8 f9 f10 f11 f12 f13 f20 f21 f22 f23 f24 f25) H) he9) hP
              have hD := Eq.mp (congrArg (fun z9 => va_D (va_A (wM g a f1 f2 f3 f4 f5 f6 f7 f8 f9 f10 f11 f12 f13 f20 f21 f22 f23 f24 f25) s.heap.size) (wM g a f1 f2 f3 f1 l5 z9 l7 f8 f9 f10 f11 f12 f13 f20 f21 f22 f23 f24 f25)) he9) hD
              have hP : va_P g.1 vwCl (wM g a f1 f2 f3 ((su (su (su (fun _ _ => 0) 4 f1) 5 l5) 7 l7) 4) ((su (su (su (fun _ _ => 0) 4 f1) 5 l5) 7 l7) 5) (fb (fSets f1 x y) f6) ((su (su (su (fun _ _ => 0) 4 f1) 5 l5) 7 l7) 7) f8 f9 f10 f11 f12 f13 f20 f21 f22 f23 f24 f25) H := hP
              have hD : va_D (va_A (wM g a f1 f2 f3 f4 f5 f6 f7 f8 f9 f10 f11 f12 f13 f20 f21 f22 f23 f24 f25) s.heap.size) (wM g a f1 f2 f3 ((su (su (su (fun _ _ => 0) 4 f1) 5 l5) 7 l7) 4) ((su (su (su (fun _ _ => 0) 4 f1) 5 l5) 7 l7) 5) (fb (fSets f1 x y) f6) ((su (su (su (fun _ _ => 0) 4 f1) 5 l5) 7 l7) 7) f8 f9 f10 f11 f12 f13 f20 f21 f22 f23 f24 f25) := hD
              exact W.iret hx hb hr (fun t ht hW => ⟨⟨_, (su (su (su (fun _ _ => 0) 4 f1) 5 l5) 7 l7), rfl, by rw [hf]; rfl, by rw [ht]; exact hP, hD⟩, hS.F ht⟩) hS.2.2 dX5_sets_164
          · refine lv_iconst (v := iI (0)) hx hb dX5_sets_40 (by decide) ?_
            refine lv_istore (lv' := [(6, .int (iI 0)), (5, .int (iI (k : Int))), (4, .int (iI ((bdT (bdV f1 x y) k).2))), (3, .int (iI ((bdT (bdV f1 x y) k).1))), (0, .ref (a 0)), (1, .int (iI x)), (2, .int (iI y))]) hx hb dX5_sets_41 hl (by decide) rfl (fun ls hl => ?_)
            have lp43 : ∀ (n43 : Nat) (i : Int), (0 ≤ i ∧ i ≤ 101) → (101 - i).toNat < n43 → ∀ ls : Array Slot, lv_has ls 8 [(6, .int (iI i)), (5, .int (iI (k : Int))), (4, .int (iI ((bdT (bdV f1 x y) k).2))), (3, .int (iI ((bdT (bdV f1 x y) k).1))), (0, .ref (a 0)), (1, .int (iI x)), (2, .int (iI y))] → ∀ (H : Heap) (locs : List Loc), va_P g.1 vwCl (wM g a (seaN f1 k) f2 f3 f1 (cpT (seaN f1 k) l5 i) f6 l7 f8 f9 f10 f11 f12 f13 f20 f21 f22 f23 f24 f25) H → va_D (va_A (wM g a f1 f2 f3 f4 f5 f6 f7 f8 f9 f10 f11 f12 f13 f20 f21 f22 f23 f24 f25) s.heap.size) (wM g a (seaN f1 k) f2 f3 f1 (cpT (seaN f1 k) l5 i) f6 l7 f8 f9 f10 f11 f12 f13 f20 f21 f22 f23 f24 f25) → va_S (va_A (wM g a f1 f2 f3 f4 f5 f6 f7 f8 f9 f10 f11 f12 f13 f20 f21 f22 f23 f24 f25) s.heap.size) s.heap H locs → W pq l eq rm_X5_sets s mq [.ref (a 0), .int (iI x), .int (iI y)].toArray below meth cq H locs 0 0 (MQ below (QMi g (fun u9 : Nat → Int → Int => wM g a f1 f2 f3 (u9 4) (u9 5) (fb (fSets f1 x y) f6) (u9 7) f8 f9 f10 f11 f12 f13 f20 f21 f22 f23 f24 f25) (fun r9 _ => r9 = ab (fSets f1 x y) (iI (bdT (bdV f1 x y) 21).1)) (va_A (wM g a f1 f2 f3 f4 f5 f6 f7 f8 f9 f10 f11 f12 f13 f20 f21 f22 f23 f24 f25) s.heap.size)) [.ref (a 0), .int (iI x), .int (iI y)].toArray s 0 0 (va_A (wM g a f1 f2 f3 f4 f5 f6 f7 f8 f9 f10 f11 f12 f13 f20 f21 f22 f23 f24 f25) s.heap.size)) (F0 mq 43 ls []) := by
              intro n43
              induction n43 with
              | zero => intro i i43_1 hm; exact absurd hm (Nat.not_lt_zero _)
              | succ n43 ih43 =>
                intro i i43_1 hm43 ls hl H locs hP hD hS
                refine lv_iload hx hb dX5_sets_43 (lv_at hl 0 rfl) ?_
                refine lv_bipush (v := iI (101)) hx hb dX5_sets_45 (by decide) ?_
                refine xi_c_ge (tgt := 70) hx hb ⟨by omega, by omega⟩ ⟨by decide, by decide⟩ dX5_sets_47 (by decide) (fun z10 => ?_) (fun z10 => ?_)
                · have hP := P_cong hP 5 (y := (101, .inl (ar (seaN f1 k)))) rfl (ar_cong (fun j h0 h1 => cpT_in h0 (by omega)))
                  have hD := va_D.set (e := .inl (g.2.1, (101, .inl (ar (seaN f1 k))))) hD (p := 5) rfl
                  have hP : va_P g.1 vwCl (wM g a (seaN f1 k) f2 f3 f1 (seaN f1 k) f6 l7 f8 f9 f10 f11 f12 f13 f20 f21 f22 f23 f24 f25) H := hP
                  have hD : va_D (va_A (wM g a f1 f2 f3 f4 f5 f6 f7 f8 f9 f10 f11 f12 f13 f20 f21 f22 f23 f24 f25) s.heap.size) (wM g a (seaN f1 k) f2 f3 f1 (seaN f1 k) f6 l7 f8 f9 f10 f11 f12 f13 f20 f21 f22 f23 f24 f25) := hD
                  refine lv_aload_n hx hb dX5_sets_70 rfl (lv_at hl 4 rfl) ?_
                  refine lv_iload_n hx hb dX5_sets_71 rfl (lv_at hl 5 rfl) ?_
                  refine lv_iload_n hx hb dX5_sets_72 rfl (lv_at hl 6 rfl) ?_
                  refine xm_i (rV (rest := []) hx hb hml hown hts hK hl (c_X5_walks l g a (seaN f1 k) f2 f3 f1 (seaN f1 k) f6 l7 f8 f9 f10 f11 f12 f13 f20 f21 f22 f23 f24 f25 x y H.size (show InvK 0 (seaN f1 k) from hsn.1) (show (seaN f1 k) 0 ≤ 10050 from by omega) (show 0 ≤ x ∧ x ≤ 23 from by omega) (show 0 ≤ y ∧ y ≤ 23 from by omega)) lk_X5_201 ⟨rfl, hP, hD.weaken (fun _ _ _ _ => trivial)⟩ (va_recv hK.1 hP (ci := 5) (q0 := 0) rfl rfl) rfl rfl rfl (Rm.of rfl) rfl rfl dX5_sets_73) hD hS hA (fun x9 u11 H locs hw hP hD hS => ?_)
                  obtain rfl : x9 = iI (wlk (seaN f1 k) x y) := hw
                  have hP : va_P g.1 vwCl (wM g a (u11 1) f2 f3 f1 (seaN f1 k) f6 (u11 7) f8 f9 f10 f11 f12 f13 f20 f21 f22 f23 f24 f25) H := hP
                  have hD : va_D (va_A (wM g a f1 f2 f3 f4 f5 f6 f7 f8 f9 f10 f11 f12 f13 f20 f21 f22 f23 f24 f25) s.heap.size) (wM g a (u11 1) f2 f3 f1 (seaN f1 k) f6 (u11 7) f8 f9 f10 f11 f12 f13 f20 f21 f22 f23 f24 f25) := hD
                  refine lv_istore (lv' := [(6, .int (iI (wlk (seaN f1 k) x y))), (5, .int (iI (k : Int))), (4, .int (iI ((bdT (bdV f1 x y) k).2))), (3, .int (iI ((bdT (bdV f1 x y) k).1))), (0, .ref (a 0)), (1, .int (iI x)), (2, .int (iI y))]) hx hb dX5_sets_76 hl (by decide) rfl (fun ls hl => ?_)
                  refine lv_iconst (v := iI (0)) hx hb dX5_sets_78 (by decide) ?_
                  refine lv_istore (lv' := [(7, .int (iI 0)), (6, .int (iI (wlk (seaN f1 k) x y))), (5, .int (iI (k : Int))), (4, .int (iI ((bdT (bdV f1 x y) k).2))), (3, .int (iI ((bdT (bdV f1 x y) k).1))), (0, .ref (a 0)), (1, .int (iI x)), (2, .int (iI y))]) hx hb dX5_sets_79 hl (by decide) rfl (fun ls hl => ?_)
                  have lp81 : ∀ (n81 : Nat) (i : Int), (0 ≤ i ∧ i ≤ 101) → (101 - i).toNat < n81 → ∀ ls : Array Slot, lv_has ls 8 [(7, .int (iI i)), (6, .int (iI (wlk (seaN f1 k) x y))), (5, .int (iI (k : Int))), (4, .int (iI ((bdT (bdV f1 x y) k).2))), (3, .int (iI ((bdT (bdV f1 x y) k).1))), (0, .ref (a 0)), (1, .int (iI x)), (2, .int (iI y))] → ∀ (H : Heap) (locs : List Loc), va_P g.1 vwCl (wM g a (cpT (seaN f1 k) (u11 1) i) f2 f3 f1 (seaN f1 k) f6 (u11 7) f8 f9 f10 f11 f12 f13 f20 f21 f22 f23 f24 f25) H → va_D (va_A (wM g a f1 f2 f3 f4 f5 f6 f7 f8 f9 f10 f11 f12 f13 f20 f21 f22 f23 f24 f25) s.heap.size) (wM g a (cpT (seaN f1 k) (u11 1) i) f2 f3 f1 (seaN f1 k) f6 (u11 7) f8 f9 f10 f11 f12 f13 f20 f21 f22 f23 f24 f25) → va_S (va_A (wM g a f1 f2 f3 f4 f5 f6 f7 f8 f9 f10 f11 f12 f13 f20 f21 f22 f23 f24 f25) s.heap.size) s.heap H locs → W pq l eq rm_X5_sets s mq [.ref (a 0), .int (iI x), .int (iI y)].toArray below meth cq H locs 0 0 (MQ below (QMi g (fun u9 : Nat → Int → Int => wM g a f1 f2 f3 (u9 4) (u9 5) (fb (fSets f1 x y) f6) (u9 7) f8 f9 f10 f11 f12 f13 f20 f21 f22 f23 f24 f25) (fun r9 _ => r9 = ab (fSets f1 x y) (iI (bdT (bdV f1 x y) 21).1)) (va_A (wM g a f1 f2 f3 f4 f5 f6 f7 f8 f9 f10 f11 f12 f13 f20 f21 f22 f23 f24 f25) s.heap.size)) [.ref (a 0), .int (iI x), .int (iI y)].toArray s 0 0 (va_A (wM g a f1 f2 f3 f4 f5 f6 f7 f8 f9 f10 f11 f12 f13 f20 f21 f22 f23 f24 f25) s.heap.size)) (F0 mq 81 ls []) := by
                    intro n81
                    induction n81 with
                    | zero => intro i i81_1 hm; exact absurd hm (Nat.not_lt_zero _)
                    | succ n81 ih81 =>
                      intro i i81_1 hm81 ls hl H locs hP hD hS
                      refine lv_iload hx hb dX5_sets_81 (lv_at hl 0 rfl) ?_
                      refine lv_bipush (v := iI (101)) hx hb dX5_sets_83 (by decide) ?_
                      refine xi_c_ge (tgt := 108) hx hb ⟨by omega, by omega⟩ ⟨by decide, by decide⟩ dX5_sets_85 (by decide) (fun z12 => ?_) (fun z12 => ?_)
                      · have hP := P_cong hP 1 (y := (101, .inl (ar (seaN f1 k)))) rfl (ar_cong (fun j h0 h1 => cpT_in h0 (by omega)))
                        have hD := va_D.set (e := .inl (g.2.1, (101, .inl (ar (seaN f1 k))))) hD (p := 1) rfl
                        have hP : va_P g.1 vwCl (wM g a (seaN f1 k) f2 f3 f1 (seaN f1 k) f6 (u11 7) f8 f9 f10 f11 f12 f13 f20 f21 f22 f23 f24 f25) H := hP
                        have hD : va_D (va_A (wM g a f1 f2 f3 f4 f5 f6 f7 f8 f9 f10 f11 f12 f13 f20 f21 f22 f23 f24 f25) s.heap.size) (wM g a (seaN f1 k) f2 f3 f1 (seaN f1 k) f6 (u11 7) f8 f9 f10 f11 f12 f13 f20 f21 f22 f23 f24 f25) := hD
                        refine lv_iload hx hb dX5_sets_108 (lv_at hl 1 rfl) ?_
                        refine xi_z_lt (tgt := 131) hx hb ⟨by omega, by omega⟩ dX5_sets_110 (by decide) (fun z13 => ?_) (fun z13 => ?_)
                        · refine lv_aload_n hx hb dX5_sets_131 rfl (lv_at hl 5 rfl) ?_
                          refine xm_v (rV (rest := []) hx hb hml hown hts hK hl (c_X5_season l g a (seaN f1 k) f2 f3 f1 (seaN f1 k) f6 (u11 7) f8 f9 f10 f11 f12 f13 f20 f21 f22 f23 f24 f25 H.size (show InvK 0 (seaN f1 k) from hsn.1) (show (seaN f1 k) 0 < 20000 from by omega)) lk_X5_152 ⟨rfl, hP, hD.weaken (fun _ _ _ _ => trivial)⟩ (va_recv hK.1 hP (ci := 5) (q0 := 0) rfl rfl) rfl rfl rfl (Rm.of rfl) rfl rfl dX5_sets_132) hD hS hA (fun u14 H locs hw hP hD hS => ?_)
                          have hP : va_P g.1 vwCl (wM g a (sea (seaN f1 k)) f2 f3 f1 (seaN f1 k) f6 (u14 7) f8 f9 f10 f11 f12 f13 f20 f21 f22 f23 f24 f25) H := hP
                          have hD : va_D (va_A (wM g a f1 f2 f3 f4 f5 f6 f7 f8 f9 f10 f11 f12 f13 f20 f21 f22 f23 f24 f25) s.heap.size) (wM g a (sea (seaN f1 k)) f2 f3 f1 (seaN f1 k) f6 (u14 7) f8 f9 f10 f11 f12 f13 f20 f21 f22 f23 f24 f25) := hD
                          refine xi_inc (lv' := [(5, .int (iI ((k : Int) + 1))), (7, .int (iI i)), (6, .int (iI (wlk (seaN f1 k) x y))), (4, .int (iI ((bdT (bdV f1 x y) k).2))), (3, .int (iI ((bdT (bdV f1 x y) k).1))), (0, .ref (a 0)), (1, .int (iI x)), (2, .int (iI y))]) hx hb dX5_sets_135 hl (k := 2) rfl (by decide) rfl (fun ls hl => ?_)
                          refine lv_goto (tgt := 33) hx hb dX5_sets_138 (by decide) ?_
                          have hq15 : ((k : Int) + 1) = ((k + 1) : Int) := by omega
                          have hq16 : ((bdT (bdV f1 x y) k).2) = ((bdT (bdV f1 x y) (k + 1)).2) := by simp only [bdT]; first | (rw [if_pos (by omega)]; done) | (rw [if_pos (by omega)]; dsimp only; omega) | (rw [if_neg (by omega)]; done) | (exfalso; omega)
                          have hq17 : ((bdT (bdV f1 x y) k).1) = ((bdT (bdV f1 x y) (k + 1)).1) := by simp only [bdT]; first | (rw [if_pos (by omega)]; done) | (rw [if_pos (by omega)]; dsimp only; omega) | (rw [if_neg (by omega)]; done) | (exfalso; omega)
                          have hl : lv_has ls 8 [(5, .int (iI ((k : Int) + 1))), (4, .int (iI ((bdT (bdV f1 x y) k).2))), (3, .int (iI ((bdT (bdV f1 x y) k).1))), (0, .ref (a 0)), (1, .int (iI x)), (2, .int (iI y))] := lv_sub hl [0, 3, 4, 5, 6, 7] rfl
                          have hl := Eq.mp (congrArg (fun z9 => lv_has ls 8 [(5, .int (iI z9)), (4, .int (iI ((bdT (bdV f1 x y) k).2))), (3, .int (iI ((bdT (bdV f1 x y) k).1))), (0, .ref (a 0)), (1, .int (iI x)), (2, .int (iI y))]) hq15) hl
                          have hl := Eq.mp (congrArg (fun z9 => lv_has ls 8 [(5, .int (iI ((k + 1) : Int))), (4, .int (iI z9)), (3, .int (iI ((bdT (bdV f1 x y) k).1))), (0, .ref (a 0)), (1, .int (iI x)), (2, .int (iI y))]) hq16) hl
                          have hl := Eq.mp (congrArg (fun z9 => lv_has ls 8 [(5, .int (iI ((k + 1) : Int))), (4, .int (iI ((bdT (bdV f1 x y) (k + 1)).2))), (3, .int (iI z9)), (0, .ref (a 0)), (1, .int (iI x)), (2, .int (iI y))]) hq17) hl
                          have hq18 : (sea (seaN f1 k)) = (seaN f1 (k + 1)) := rfl
                          have hP := Eq.mp (congrArg (fun z9 => va_P g.1 vwCl (wM g a z9 f2 f3 f1 (seaN f1 k) f6 (u14 7) f8 f9 f10 f11 f12 f13 f20 f21 f22 f23 f24 f25) H) hq18) hP
                          have hD := Eq.mp (congrArg (fun z9 => va_D (va_A (wM g a f1 f2 f3 f4 f5 f6 f7 f8 f9 f10 f11 f12 f13 f20 f21 f22 f23 f24 f25) s.heap.size) (wM g a z9 f2 f3 f1 (seaN f1 k) f6 (u14 7) f8 f9 f10 f11 f12 f13 f20 f21 f22 f23 f24 f25)) hq18) hD
                          exact ih33 (k + 1) (seaN f1 k) (u14 7) (by omega) (by omega) (by omega) ls hl H locs hP hD hS
                        · refine lv_iload_n hx hb dX5_sets_113 rfl (lv_at hl 4 rfl) ?_
                          refine xi_z_lt (tgt := 124) hx hb ⟨by omega, by omega⟩ dX5_sets_114 (by decide) (fun z19 => ?_) (fun z19 => ?_)
                          · refine lv_iload hx hb dX5_sets_124 (lv_at hl 2 rfl) ?_
                            refine lv_istore_n (lv' := [(3, .int (iI (k : Int))), (7, .int (iI i)), (6, .int (iI (wlk (seaN f1 k) x y))), (5, .int (iI (k : Int))), (4, .int (iI ((bdT (bdV f1 x y) k).2))), (0, .ref (a 0)), (1, .int (iI x)), (2, .int (iI y))]) hx hb dX5_sets_126 rfl hl (by decide) rfl (fun ls hl => ?_)
                            refine lv_iload hx hb dX5_sets_127 (lv_at hl 2 rfl) ?_
                            refine lv_istore (lv' := [(4, .int (iI (wlk (seaN f1 k) x y))), (3, .int (iI (k : Int))), (7, .int (iI i)), (6, .int (iI (wlk (seaN f1 k) x y))), (5, .int (iI (k : Int))), (0, .ref (a 0)), (1, .int (iI x)), (2, .int (iI y))]) hx hb dX5_sets_129 hl (by decide) rfl (fun ls hl => ?_)
                            refine lv_aload_n hx hb dX5_sets_131 rfl (lv_at hl 5 rfl) ?_
                            refine xm_v (rV (rest := []) hx hb hml hown hts hK hl (c_X5_season l g a (seaN f1 k) f2 f3 f1 (seaN f1 k) f6 (u11 7) f8 f9 f10 f11 f12 f13 f20 f21 f22 f23 f24 f25 H.size (show InvK 0 (seaN f1 k) from hsn.1) (show (seaN f1 k) 0 < 20000 from by omega)) lk_X5_152 ⟨rfl, hP, hD.weaken (fun _ _ _ _ => trivial)⟩ (va_recv hK.1 hP (ci := 5) (q0 := 0) rfl rfl) rfl rfl rfl (Rm.of rfl) rfl rfl dX5_sets_132) hD hS hA (fun u20 H locs hw hP hD hS => ?_)
                            have hP : va_P g.1 vwCl (wM g a (sea (seaN f1 k)) f2 f3 f1 (seaN f1 k) f6 (u20 7) f8 f9 f10 f11 f12 f13 f20 f21 f22 f23 f24 f25) H := hP
                            have hD : va_D (va_A (wM g a f1 f2 f3 f4 f5 f6 f7 f8 f9 f10 f11 f12 f13 f20 f21 f22 f23 f24 f25) s.heap.size) (wM g a (sea (seaN f1 k)) f2 f3 f1 (seaN f1 k) f6 (u20 7) f8 f9 f10 f11 f12 f13 f20 f21 f22 f23 f24 f25) := hD
                            refine xi_inc (lv' := [(5, .int (iI ((k : Int) + 1))), (4, .int (iI (wlk (seaN f1 k) x y))), (3, .int (iI (k : Int))), (7, .int (iI i)), (6, .int (iI (wlk (seaN f1 k) x y))), (0, .ref (a 0)), (1, .int (iI x)), (2, .int (iI y))]) hx hb dX5_sets_135 hl (k := 4) rfl (by decide) rfl (fun ls hl => ?_)
                            refine lv_goto (tgt := 33) hx hb dX5_sets_138 (by decide) ?_
                            have hq21 : ((k : Int) + 1) = ((k + 1) : Int) := by omega
                            have hq22 : (wlk (seaN f1 k) x y) = ((bdT (bdV f1 x y) (k + 1)).2) := by simp only [bdT]; first | (rw [if_pos (by omega)]; done) | (rw [if_pos (by omega)]; dsimp only; omega) | (rw [if_neg (by omega)]; done) | (exfalso; omega)
                            have hq23 : (k : Int) = ((bdT (bdV f1 x y) (k + 1)).1) := by simp only [bdT]; first | (rw [if_pos (by omega)]; done) | (rw [if_pos (by omega)]; dsimp only; omega) | (rw [if_neg (by omega)]; done) | (exfalso; omega)
                            have hl : lv_has ls 8 [(5, .int (iI ((k : Int) + 1))), (4, .int (iI (wlk (seaN f1 k) x y))), (3, .int (iI (k : Int))), (0, .ref (a 0)), (1, .int (iI x)), (2, .int (iI y))] := lv_sub hl [0, 1, 2, 5, 6, 7] rfl
                            have hl := Eq.mp (congrArg (fun z9 => lv_has ls 8 [(5, .int (iI z9)), (4, .int (iI (wlk (seaN f1 k) x y))), (3, .int (iI (k : Int))), (0, .ref (a 0)), (1, .int (iI x)), (2, .int (iI y))]) hq21) hl
                            have hl := Eq.mp (congrArg (fun z9 => lv_has ls 8 [(5, .int (iI ((k + 1) : Int))), (4, .int (iI z9)), (3, .int (iI (k : Int))), (0, .ref (a 0)), (1, .int (iI x)), (2, .int (iI y))]) hq22) hl
                            have hl := Eq.mp (congrArg (fun z9 => lv_has ls 8 [(5, .int (iI ((k + 1) : Int))), (4, .int (iI ((bdT (bdV f1 x y) (k + 1)).2))), (3, .int (iI z9)), (0, .ref (a 0)), (1, .int (iI x)), (2, .int (iI y))]) hq23) hl
                            have hq24 : (sea (seaN f1 k)) = (seaN f1 (k + 1)) := rfl
                            have hP := Eq.mp (congrArg (fun z9 => va_P g.1 vwCl (wM g a z9 f2 f3 f1 (seaN f1 k) f6 (u20 7) f8 f9 f10 f11 f12 f13 f20 f21 f22 f23 f24 f25) H) hq24) hP
                            have hD := Eq.mp (congrArg (fun z9 => va_D (va_A (wM g a f1 f2 f3 f4 f5 f6 f7 f8 f9 f10 f11 f12 f13 f20 f21 f22 f23 f24 f25) s.heap.size) (wM g a z9 f2 f3 f1 (seaN f1 k) f6 (u20 7) f8 f9 f10 f11 f12 f13 f20 f21 f22 f23 f24 f25)) hq24) hD
                            exact ih33 (k + 1) (seaN f1 k) (u20 7) (by omega) (by omega) (by omega) ls hl H locs hP hD hS
                          · refine lv_iload hx hb dX5_sets_117 (lv_at hl 1 rfl) ?_
                            refine lv_iload hx hb dX5_sets_119 (lv_at hl 3 rfl) ?_
                            refine xi_c_ge (tgt := 131) hx hb ⟨by omega, by omega⟩ ⟨by omega, by omega⟩ dX5_sets_121 (by decide) (fun z25 => ?_) (fun z25 => ?_)
                            · refine lv_aload_n hx hb dX5_sets_131 rfl (lv_at hl 5 rfl) ?_
                              refine xm_v (rV (rest := []) hx hb hml hown hts hK hl (c_X5_season l g a (seaN f1 k) f2 f3 f1 (seaN f1 k) f6 (u11 7) f8 f9 f10 f11 f12 f13 f20 f21 f22 f23 f24 f25 H.size (show InvK 0 (seaN f1 k) from hsn.1) (show (seaN f1 k) 0 < 20000 from by omega)) lk_X5_152 ⟨rfl, hP, hD.weaken (fun _ _ _ _ => trivial)⟩ (va_recv hK.1 hP (ci := 5) (q0 := 0) rfl rfl) rfl rfl rfl (Rm.of rfl) rfl rfl dX5_sets_132) hD hS hA (fun u26 H locs hw hP hD hS => ?_)
                              have hP : va_P g.1 vwCl (wM g a (sea (seaN f1 k)) f2 f3 f1 (seaN f1 k) f6 (u26 7) f8 f9 f10 f11 f12 f13 f20 f21 f22 f23 f24 f25) H := hP
                              have hD : va_D (va_A (wM g a f1 f2 f3 f4 f5 f6 f7 f8 f9 f10 f11 f12 f13 f20 f21 f22 f23 f24 f25) s.heap.size) (wM g a (sea (seaN f1 k)) f2 f3 f1 (seaN f1 k) f6 (u26 7) f8 f9 f10 f11 f12 f13 f20 f21 f22 f23 f24 f25) := hD
                              refine xi_inc (lv' := [(5, .int (iI ((k : Int) + 1))), (7, .int (iI i)), (6, .int (iI (wlk (seaN f1 k) x y))), (4, .int (iI ((bdT (bdV f1 x y) k).2))), (3, .int (iI ((bdT (bdV f1 x y) k).1))), (0, .ref (a 0)), (1, .int (iI x)), (2, .int (iI y))]) hx hb dX5_sets_135 hl (k := 2) rfl (by decide) rfl (fun ls hl => ?_)
                              refine lv_goto (tgt := 33) hx hb dX5_sets_138 (by decide) ?_
                              have hq27 : ((k : Int) + 1) = ((k + 1) : Int) := by omega
                              have hq28 : ((bdT (bdV f1 x y) k).2) = ((bdT (bdV f1 x y) (k + 1)).2) := by simp only [bdT]; first | (rw [if_pos (by omega)]; done) | (rw [if_pos (by omega)]; dsimp only; omega) | (rw [if_neg (by omega)]; done) | (exfalso; omega)
                              have hq29 : ((bdT (bdV f1 x y) k).1) = ((bdT (bdV f1 x y) (k + 1)).1) := by simp only [bdT]; first | (rw [if_pos (by omega)]; done) | (rw [if_pos (by omega)]; dsimp only; omega) | (rw [if_neg (by omega)]; done) | (exfalso; omega)
                              have hl : lv_has ls 8 [(5, .int (iI ((k : Int) + 1))), (4, .int (iI ((bdT (bdV f1 x y) k).2))), (3, .int (iI ((bdT (bdV f1 x y) k).1))), (0, .ref (a 0)), (1, .int (iI x)), (2, .int (iI y))] := lv_sub hl [0, 3, 4, 5, 6, 7] rfl
                              have hl := Eq.mp (congrArg (fun z9 => lv_has ls 8 [(5, .int (iI z9)), (4, .int (iI ((bdT (bdV f1 x y) k).2))), (3, .int (iI ((bdT (bdV f1 x y) k).1))), (0, .ref (a 0)), (1, .int (iI x)), (2, .int (iI y))]) hq27) hl
                              have hl := Eq.mp (congrArg (fun z9 => lv_has ls 8 [(5, .int (iI ((k + 1) : Int))), (4, .int (iI z9)), (3, .int (iI ((bdT (bdV f1 x y) k).1))), (0, .ref (a 0)), (1, .int (iI x)), (2, .int (iI y))]) hq28) hl
                              have hl := Eq.mp (congrArg (fun z9 => lv_has ls 8 [(5, .int (iI ((k + 1) : Int))), (4, .int (iI ((bdT (bdV f1 x y) (k + 1)).2))), (3, .int (iI z9)), (0, .ref (a 0)), (1, .int (iI x)), (2, .int (iI y))]) hq29) hl
                              have hq30 : (sea (seaN f1 k)) = (seaN f1 (k + 1)) := rfl
                              have hP := Eq.mp (congrArg (fun z9 => va_P g.1 vwCl (wM g a z9 f2 f3 f1 (seaN f1 k) f6 (u26 7) f8 f9 f10 f11 f12 f13 f20 f21 f22 f23 f24 f25) H) hq30) hP
                              have hD := Eq.mp (congrArg (fun z9 => va_D (va_A (wM g a f1 f2 f3 f4 f5 f6 f7 f8 f9 f10 f11 f12 f13 f20 f21 f22 f23 f24 f25) s.heap.size) (wM g a z9 f2 f3 f1 (seaN f1 k) f6 (u26 7) f8 f9 f10 f11 f12 f13 f20 f21 f22 f23 f24 f25)) hq30) hD
                              exact ih33 (k + 1) (seaN f1 k) (u26 7) (by omega) (by omega) (by omega) ls hl H locs hP hD hS
                            · refine lv_iload hx hb dX5_sets_124 (lv_at hl 2 rfl) ?_
                              refine lv_istore_n (lv' := [(3, .int (iI (k : Int))), (7, .int (iI i)), (6, .int (iI (wlk (seaN f1 k) x y))), (5, .int (iI (k : Int))), (4, .int (iI ((bdT (bdV f1 x y) k).2))), (0, .ref (a 0)), (1, .int (iI x)), (2, .int (iI y))]) hx hb dX5_sets_126 rfl hl (by decide) rfl (fun ls hl => ?_)
                              refine lv_iload hx hb dX5_sets_127 (lv_at hl 2 rfl) ?_
                              refine lv_istore (lv' := [(4, .int (iI (wlk (seaN f1 k) x y))), (3, .int (iI (k : Int))), (7, .int (iI i)), (6, .int (iI (wlk (seaN f1 k) x y))), (5, .int (iI (k : Int))), (0, .ref (a 0)), (1, .int (iI x)), (2, .int (iI y))]) hx hb dX5_sets_129 hl (by decide) rfl (fun ls hl => ?_)
                              refine lv_aload_n hx hb dX5_sets_131 rfl (lv_at hl 5 rfl) ?_
                              refine xm_v (rV (rest := []) hx hb hml hown hts hK hl (c_X5_season l g a (seaN f1 k) f2 f3 f1 (seaN f1 k) f6 (u11 7) f8 f9 f10 f11 f12 f13 f20 f21 f22 f23 f24 f25 H.size (show InvK 0 (seaN f1 k) from hsn.1) (show (seaN f1 k) 0 < 20000 from by omega)) lk_X5_152 ⟨rfl, hP, hD.weaken (fun _ _ _ _ => trivial)⟩ (va_recv hK.1 hP (ci := 5) (q0 := 0) rfl rfl) rfl rfl rfl (Rm.of rfl) rfl rfl dX5_sets_132) hD hS hA (fun u31 H locs hw hP hD hS => ?_)
                              have hP : va_P g.1 vwCl (wM g a (sea (seaN f1 k)) f2 f3 f1 (seaN f1 k) f6 (u31 7) f8 f9 f10 f11 f12 f13 f20 f21 f22 f23 f24 f25) H := hP
                              have hD : va_D (va_A (wM g a f1 f2 f3 f4 f5 f6 f7 f8 f9 f10 f11 f12 f13 f20 f21 f22 f23 f24 f25) s.heap.size) (wM g a (sea (seaN f1 k)) f2 f3 f1 (seaN f1 k) f6 (u31 7) f8 f9 f10 f11 f12 f13 f20 f21 f22 f23 f24 f25) := hD
                              refine xi_inc (lv' := [(5, .int (iI ((k : Int) + 1))), (4, .int (iI (wlk (seaN f1 k) x y))), (3, .int (iI (k : Int))), (7, .int (iI i)), (6, .int (iI (wlk (seaN f1 k) x y))), (0, .ref (a 0)), (1, .int (iI x)), (2, .int (iI y))]) hx hb dX5_sets_135 hl (k := 4) rfl (by decide) rfl (fun ls hl => ?_)
                              refine lv_goto (tgt := 33) hx hb dX5_sets_138 (by decide) ?_
                              have hq32 : ((k : Int) + 1) = ((k + 1) : Int) := by omega
                              have hq33 : (wlk (seaN f1 k) x y) = ((bdT (bdV f1 x y) (k + 1)).2) := by simp only [bdT]; first | (rw [if_pos (by omega)]; done) | (rw [if_pos (by omega)]; dsimp only; omega) | (rw [if_neg (by omega)]; done) | (exfalso; omega)
                              have hq34 : (k : Int) = ((bdT (bdV f1 x y) (k + 1)).1) := by simp only [bdT]; first | (rw [if_pos (by omega)]; done) | (rw [if_pos (by omega)]; dsimp only; omega) | (rw [if_neg (by omega)]; done) | (exfalso; omega)
                              have hl : lv_has ls 8 [(5, .int (iI ((k : Int) + 1))), (4, .int (iI (wlk (seaN f1 k) x y))), (3, .int (iI (k : Int))), (0, .ref (a 0)), (1, .int (iI x)), (2, .int (iI y))] := lv_sub hl [0, 1, 2, 5, 6, 7] rfl
                              have hl := Eq.mp (congrArg (fun z9 => lv_has ls 8 [(5, .int (iI z9)), (4, .int (iI (wlk (seaN f1 k) x y))), (3, .int (iI (k : Int))), (0, .ref (a 0)), (1, .int (iI x)), (2, .int (iI y))]) hq32) hl
                              have hl := Eq.mp (congrArg (fun z9 => lv_has ls 8 [(5, .int (iI ((k + 1) : Int))), (4, .int (iI z9)), (3, .int (iI (k : Int))), (0, .ref (a 0)), (1, .int (iI x)), (2, .int (iI y))]) hq33) hl
                              have hl := Eq.mp (congrArg (fun z9 => lv_has ls 8 [(5, .int (iI ((k + 1) : Int))), (4, .int (iI ((bdT (bdV f1 x y) (k + 1)).2))), (3, .int (iI z9)), (0, .ref (a 0)), (1, .int (iI x)), (2, .int (iI y))]) hq34) hl
                              have hq35 : (sea (seaN f1 k)) = (seaN f1 (k + 1)) := rfl
                              have hP := Eq.mp (congrArg (fun z9 => va_P g.1 vwCl (wM g a z9 f2 f3 f1 (seaN f1 k) f6 (u31 7) f8 f9 f10 f11 f12 f13 f20 f21 f22 f23 f24 f25) H) hq35) hP
                              have hD := Eq.mp (congrArg (fun z9 => va_D (va_A (wM g a f1 f2 f3 f4 f5 f6 f7 f8 f9 f10 f11 f12 f13 f20 f21 f22 f23 f24 f25) s.heap.size) (wM g a z9 f2 f3 f1 (seaN f1 k) f6 (u31 7) f8 f9 f10 f11 f12 f13 f20 f21 f22 f23 f24 f25)) hq35) hD
                              exact ih33 (k + 1) (seaN f1 k) (u31 7) (by omega) (by omega) (by omega) ls hl H locs hP hD hS
                      · refine lv_aload_n hx hb dX5_sets_88 rfl (lv_at hl 5 rfl) ?_
                        refine xg_X5 hx hb hts hown hK hP 0 rfl 0 (by decide) fk_X5_7 (v := .ref (a 1)) rfl dX5_sets_89 ?_
                        refine lv_iload hx hb dX5_sets_92 (lv_at hl 0 rfl) ?_
                        refine lv_aload_n hx hb dX5_sets_94 rfl (lv_at hl 5 rfl) ?_
                        refine xg_X5 hx hb hts hown hK hP 0 rfl 4 (by decide) fk_X5_22 (v := .ref (a 5)) rfl dX5_sets_95 ?_
                        refine lv_iload hx hb dX5_sets_98 (lv_at hl 0 rfl) ?_
                        refine xi_ald hx hb hK hP 5 (f := seaN f1 k) rfl (i := i) ⟨by omega, by omega⟩ rfl dX5_sets_100 ?_
                        refine xi_ast hx hb hK hP hD hS 1 (f := cpT (seaN f1 k) (u11 1) i) rfl (i := i) (v := (seaN f1 k) i) ⟨by omega, by omega⟩ rfl dX5_sets_101 (fun H locs hP hD hS => ?_)
                        have hP : va_P g.1 vwCl (wM g a (up (cpT (seaN f1 k) (u11 1) i) i ((seaN f1 k) i)) f2 f3 f1 (seaN f1 k) f6 (u11 7) f8 f9 f10 f11 f12 f13 f20 f21 f22 f23 f24 f25) H := hP
                        have hD : va_D (va_A (wM g a f1 f2 f3 f4 f5 f6 f7 f8 f9 f10 f11 f12 f13 f20 f21 f22 f23 f24 f25) s.heap.size) (wM g a (up (cpT (seaN f1 k) (u11 1) i) i ((seaN f1 k) i)) f2 f3 f1 (seaN f1 k) f6 (u11 7) f8 f9 f10 f11 f12 f13 f20 f21 f22 f23 f24 f25) := hD
                        refine xi_inc (lv' := [(7, .int (iI (i + 1))), (6, .int (iI (wlk (seaN f1 k) x y))), (5, .int (iI (k : Int))), (4, .int (iI ((bdT (bdV f1 x y) k).2))), (3, .int (iI ((bdT (bdV f1 x y) k).1))), (0, .ref (a 0)), (1, .int (iI x)), (2, .int (iI y))]) hx hb dX5_sets_102 hl (k := 0) rfl (by decide) rfl (fun ls hl => ?_)
                        refine lv_goto (tgt := 81) hx hb dX5_sets_105 (by decide) ?_
                        have hq36 : (up (cpT (seaN f1 k) (u11 1) i) i ((seaN f1 k) i)) = (cpT (seaN f1 k) (u11 1) (i + 1)) := cpT_S (seaN f1 k) (u11 1) i81_1.1
                        have hP := Eq.mp (congrArg (fun z9 => va_P g.1 vwCl (wM g a z9 f2 f3 f1 (seaN f1 k) f6 (u11 7) f8 f9 f10 f11 f12 f13 f20 f21 f22 f23 f24 f25) H) hq36) hP
                        have hD := Eq.mp (congrArg (fun z9 => va_D (va_A (wM g a f1 f2 f3 f4 f5 f6 f7 f8 f9 f10 f11 f12 f13 f20 f21 f22 f23 f24 f25) s.heap.size) (wM g a z9 f2 f3 f1 (seaN f1 k) f6 (u11 7) f8 f9 f10 f11 f12 f13 f20 f21 f22 f23 f24 f25)) hq36) hD
                        exact ih81 (i + 1) (by omega) (by omega) ls (lv_sub hl [0, 1, 2, 3, 4, 5, 6, 7] rfl) H locs hP hD hS
                  have hq37 : (u11 1) = (cpT (seaN f1 k) (u11 1) 0) := cpT_0 (seaN f1 k) (u11 1)
                  have hP := Eq.mp (congrArg (fun z9 => va_P g.1 vwCl (wM g a z9 f2 f3 f1 (seaN f1 k) f6 (u11 7) f8 f9 f10 f11 f12 f13 f20 f21 f22 f23 f24 f25) H) hq37) hP
                  have hD := Eq.mp (congrArg (fun z9 => va_D (va_A (wM g a f1 f2 f3 f4 f5 f6 f7 f8 f9 f10 f11 f12 f13 f20 f21 f22 f23 f24 f25) s.heap.size) (wM g a z9 f2 f3 f1 (seaN f1 k) f6 (u11 7) f8 f9 f10 f11 f12 f13 f20 f21 f22 f23 f24 f25)) hq37) hD
                  exact lp81 (101 + 1) 0 (by omega) (by omega) ls (lv_sub hl [0, 1, 2, 3, 4, 5, 6, 7] rfl) H locs hP hD hS
                · refine lv_aload_n hx hb dX5_sets_50 rfl (lv_at hl 4 rfl) ?_
                  refine xg_X5 hx hb hts hown hK hP 0 rfl 4 (by decide) fk_X5_22 (v := .ref (a 5)) rfl dX5_sets_51 ?_
                  refine lv_iload hx hb dX5_sets_54 (lv_at hl 0 rfl) ?_
                  refine lv_aload_n hx hb dX5_sets_56 rfl (lv_at hl 4 rfl) ?_
                  refine xg_X5 hx hb hts hown hK hP 0 rfl 0 (by decide) fk_X5_7 (v := .ref (a 1)) rfl dX5_sets_57 ?_
                  refine lv_iload hx hb dX5_sets_60 (lv_at hl 0 rfl) ?_
                  refine xi_ald hx hb hK hP 1 (f := seaN f1 k) rfl (i := i) ⟨by omega, by omega⟩ rfl dX5_sets_62 ?_
                  refine xi_ast hx hb hK hP hD hS 5 (f := cpT (seaN f1 k) l5 i) rfl (i := i) (v := (seaN f1 k) i) ⟨by omega, by omega⟩ rfl dX5_sets_63 (fun H locs hP hD hS => ?_)
                  have hP : va_P g.1 vwCl (wM g a (seaN f1 k) f2 f3 f1 (up (cpT (seaN f1 k) l5 i) i ((seaN f1 k) i)) f6 l7 f8 f9 f10 f11 f12 f13 f20 f21 f22 f23 f24 f25) H := hP
                  have hD : va_D (va_A (wM g a f1 f2 f3 f4 f5 f6 f7 f8 f9 f10 f11 f12 f13 f20 f21 f22 f23 f24 f25) s.heap.size) (wM g a (seaN f1 k) f2 f3 f1 (up (cpT (seaN f1 k) l5 i) i ((seaN f1 k) i)) f6 l7 f8 f9 f10 f11 f12 f13 f20 f21 f22 f23 f24 f25) := hD
                  refine xi_inc (lv' := [(6, .int (iI (i + 1))), (5, .int (iI (k : Int))), (4, .int (iI ((bdT (bdV f1 x y) k).2))), (3, .int (iI ((bdT (bdV f1 x y) k).1))), (0, .ref (a 0)), (1, .int (iI x)), (2, .int (iI y))]) hx hb dX5_sets_64 hl (k := 0) rfl (by decide) rfl (fun ls hl => ?_)
                  refine lv_goto (tgt := 43) hx hb dX5_sets_67 (by decide) ?_
                  have hq38 : (up (cpT (seaN f1 k) l5 i) i ((seaN f1 k) i)) = (cpT (seaN f1 k) l5 (i + 1)) := cpT_S (seaN f1 k) l5 i43_1.1
                  have hP := Eq.mp (congrArg (fun z9 => va_P g.1 vwCl (wM g a (seaN f1 k) f2 f3 f1 z9 f6 l7 f8 f9 f10 f11 f12 f13 f20 f21 f22 f23 f24 f25) H) hq38) hP
                  have hD := Eq.mp (congrArg (fun z9 => va_D (va_A (wM g a f1 f2 f3 f4 f5 f6 f7 f8 f9 f10 f11 f12 f13 f20 f21 f22 f23 f24 f25) s.heap.size) (wM g a (seaN f1 k) f2 f3 f1 z9 f6 l7 f8 f9 f10 f11 f12 f13 f20 f21 f22 f23 f24 f25)) hq38) hD
                  exact ih43 (i + 1) (by omega) (by omega) ls (lv_sub hl [0, 1, 2, 3, 4, 5, 6] rfl) H locs hP hD hS
            have hq39 : l5 = (cpT (seaN f1 k) l5 0) := cpT_0 (seaN f1 k) l5
            have hP := Eq.mp (congrArg (fun z9 => va_P g.1 vwCl (wM g a (seaN f1 k) f2 f3 f1 z9 f6 l7 f8 f9 f10 f11 f12 f13 f20 f21 f22 f23 f24 f25) H) hq39) hP
            have hD := Eq.mp (congrArg (fun z9 => va_D (va_A (wM g a f1 f2 f3 f4 f5 f6 f7 f8 f9 f10 f11 f12 f13 f20 f21 f22 f23 f24 f25) s.heap.size) (wM g a (seaN f1 k) f2 f3 f1 z9 f6 l7 f8 f9 f10 f11 f12 f13 f20 f21 f22 f23 f24 f25)) hq39) hD
            exact lp43 (101 + 1) 0 (by omega) (by omega) ls (lv_sub hl [0, 1, 2, 3, 4, 5, 6] rfl) H locs hP hD hS
      have hq40 : 0 = (0 : Int) := rfl
      have hq41 : 0 = ((bdT (bdV f1 x y) 0).2) := rfl
      have hq42 : (-1) = ((bdT (bdV f1 x y) 0).1) := rfl
      have hl : lv_has ls 8 [(5, .int (iI 0)), (4, .int (iI 0)), (3, .int (iI (-1))), (0, .ref (a 0)), (1, .int (iI x)), (2, .int (iI y))] := lv_sub hl [0, 1, 2, 3, 4, 5] rfl
      have hl := Eq.mp (congrArg (fun z9 => lv_has ls 8 [(5, .int (iI z9)), (4, .int (iI 0)), (3, .int (iI (-1))), (0, .ref (a 0)), (1, .int (iI x)), (2, .int (iI y))]) hq40) hl
      have hl := Eq.mp (congrArg (fun z9 => lv_has ls 8 [(5, .int (iI (0 : Int))), (4, .int (iI z9)), (3, .int (iI (-1))), (0, .ref (a 0)), (1, .int (iI x)), (2, .int (iI y))]) hq41) hl
      have hl := Eq.mp (congrArg (fun z9 => lv_has ls 8 [(5, .int (iI (0 : Int))), (4, .int (iI ((bdT (bdV f1 x y) 0).2))), (3, .int (iI z9)), (0, .ref (a 0)), (1, .int (iI x)), (2, .int (iI y))]) hq42) hl
      have hq43 : f1 = (seaN f1 0) := rfl
      have hP := Eq.mp (congrArg (fun z9 => va_P g.1 vwCl (wM g a z9 f2 f3 f1 f5 f6 f7 f8 f9 f10 f11 f12 f13 f20 f21 f22 f23 f24 f25) H) hq43) hP
      have hD := Eq.mp (congrArg (fun z9 => va_D (va_A (wM g a f1 f2 f3 f4 f5 f6 f7 f8 f9 f10 f11 f12 f13 f20 f21 f22 f23 f24 f25) s.heap.size) (wM g a z9 f2 f3 f1 f5 f6 f7 f8 f9 f10 f11 f12 f13 f20 f21 f22 f23 f24 f25)) hq43) hD
      exact lp33 (21 + 1) 0 f5 f7 (by omega) (by omega) (by omega) ls hl H locs hP hD hS
    · refine xi_zf_ne hx hb ⟨by decide, by decide⟩ (by decide) dX5_sets_11 ⟨21, by decide⟩ ?_
      refine lv_aload_n hx hb dX5_sets_14 rfl (lv_at hl 0 rfl) ?_
      refine xi_ldc hx hb hown hts kk_X5_50 dX5_sets_15 ?_
      refine xm_i (rV (rest := []) hx hb hml hown hts hK hl (c_X5_finds l g a f1 f2 f3 f4 f5 f6 f7 f8 f9 f10 f11 f12 f13 f20 f21 f22 f23 f24 f25 (-1000000001) (s.heap).size (show 0 ≤ -1000000001 - (-1000000001) ∧ -1000000001 - (-1000000001) < 7 from by omega)) lk_X5_74 ⟨rfl, hP, hD.weaken (fun _ _ _ _ => trivial)⟩ (va_recv hK.1 hP (ci := 5) (q0 := 0) rfl rfl) rfl rfl rfl (Rm.of rfl) rfl rfl dX5_sets_17) hD hS hA (fun x9 _ H locs hw hP hD hS => ?_)
      obtain rfl : x9 = iI (-1000000001) := hw
      have hP : va_P g.1 vwCl (wM g a f1 f2 f3 f4 f5 (fb (-1000000000 - (-1000000001)) f6) f7 f8 f9 f10 f11 f12 f13 f20 f21 f22 f23 f24 f25) H := hP
      have hD : va_D (va_A (wM g a f1 f2 f3 f4 f5 f6 f7 f8 f9 f10 f11 f12 f13 f20 f21 f22 f23 f24 f25) s.heap.size) (wM g a f1 f2 f3 f4 f5 (fb (-1000000000 - (-1000000001)) f6) f7 f8 f9 f10 f11 f12 f13 f20 f21 f22 f23 f24 f25) := hD
      have hf : fSets f1 x y = 1 := by unfold fSets; rw [if_neg (by omega)]
      have he45 : (fb (-1000000000 - (-1000000001)) f6) = (fb (fSets f1 x y) f6) := by rw [hf]; rfl
      have hP := Eq.mp (congrArg (fun z9 => va_P g.1 vwCl (wM g a f1 f2 f3 f4 f5 z9 f7 f8 f9 f10 f11 f12 f13 f20 f21 f22 f23 f24 f25) H) he45) hP
      have hD := Eq.mp (congrArg (fun z9 => va_D (va_A (wM g a f1 f2 f3 f4 f5 f6 f7 f8 f9 f10 f11 f12 f13 f20 f21 f22 f23 f24 f25) s.heap.size) (wM g a f1 f2 f3 f4 f5 z9 f7 f8 f9 f10 f11 f12 f13 f20 f21 f22 f23 f24 f25)) he45) hD
      have hP : va_P g.1 vwCl (wM g a f1 f2 f3 ((su (su (su (fun _ _ => 0) 4 f4) 5 f5) 7 f7) 4) ((su (su (su (fun _ _ => 0) 4 f4) 5 f5) 7 f7) 5) (fb (fSets f1 x y) f6) ((su (su (su (fun _ _ => 0) 4 f4) 5 f5) 7 f7) 7) f8 f9 f10 f11 f12 f13 f20 f21 f22 f23 f24 f25) H := hP
      have hD : va_D (va_A (wM g a f1 f2 f3 f4 f5 f6 f7 f8 f9 f10 f11 f12 f13 f20 f21 f22 f23 f24 f25) s.heap.size) (wM g a f1 f2 f3 ((su (su (su (fun _ _ => 0) 4 f4) 5 f5) 7 f7) 4) ((su (su (su (fun _ _ => 0) 4 f4) 5 f5) 7 f7) 5) (fb (fSets f1 x y) f6) ((su (su (su (fun _ _ => 0) 4 f4) 5 f5) 7 f7) 7) f8 f9 f10 f11 f12 f13 f20 f21 f22 f23 f24 f25) := hD
      exact W.iret hx hb hr (fun t ht hW => ⟨⟨_, (su (su (su (fun _ _ => 0) 4 f4) 5 f5) 7 f7), rfl, by rw [hf]; rfl, by rw [ht]; exact hP, hD⟩, hS.F ht⟩) hS.2.2 dX5_sets_20
  · refine xi_zt_eq (tgt := 14) hx hb ⟨by decide, by decide⟩ (by decide) dX5_sets_4 (by decide) ?_
    refine lv_aload_n hx hb dX5_sets_14 rfl (lv_at hl 0 rfl) ?_
    refine xi_ldc hx hb hown hts kk_X5_50 dX5_sets_15 ?_
    refine xm_i (rV (rest := []) hx hb hml hown hts hK hl (c_X5_finds l g a f1 f2 f3 f4 f5 f6 f7 f8 f9 f10 f11 f12 f13 f20 f21 f22 f23 f24 f25 (-1000000001) (s.heap).size (show 0 ≤ -1000000001 - (-1000000001) ∧ -1000000001 - (-1000000001) < 7 from by omega)) lk_X5_74 ⟨rfl, hP, hD.weaken (fun _ _ _ _ => trivial)⟩ (va_recv hK.1 hP (ci := 5) (q0 := 0) rfl rfl) rfl rfl rfl (Rm.of rfl) rfl rfl dX5_sets_17) hD hS hA (fun x9 _ H locs hw hP hD hS => ?_)
    obtain rfl : x9 = iI (-1000000001) := hw
    have hP : va_P g.1 vwCl (wM g a f1 f2 f3 f4 f5 (fb (-1000000000 - (-1000000001)) f6) f7 f8 f9 f10 f11 f12 f13 f20 f21 f22 f23 f24 f25) H := hP
    have hD : va_D (va_A (wM g a f1 f2 f3 f4 f5 f6 f7 f8 f9 f10 f11 f12 f13 f20 f21 f22 f23 f24 f25) s.heap.size) (wM g a f1 f2 f3 f4 f5 (fb (-1000000000 - (-1000000001)) f6) f7 f8 f9 f10 f11 f12 f13 f20 f21 f22 f23 f24 f25) := hD
    have hf : fSets f1 x y = 1 := by unfold fSets; rw [if_neg (by omega)]
    have he47 : (fb (-1000000000 - (-1000000001)) f6) = (fb (fSets f1 x y) f6) := by rw [hf]; rfl
    have hP := Eq.mp (congrArg (fun z9 => va_P g.1 vwCl (wM g a f1 f2 f3 f4 f5 z9 f7 f8 f9 f10 f11 f12 f13 f20 f21 f22 f23 f24 f25) H) he47) hP
    have hD := Eq.mp (congrArg (fun z9 => va_D (va_A (wM g a f1 f2 f3 f4 f5 f6 f7 f8 f9 f10 f11 f12 f13 f20 f21 f22 f23 f24 f25) s.heap.size) (wM g a f1 f2 f3 f4 f5 z9 f7 f8 f9 f10 f11 f12 f13 f20 f21 f22 f23 f24 f25)) he47) hD
    have hP : va_P g.1 vwCl (wM g a f1 f2 f3 ((su (su (su (fun _ _ => 0) 4 f4) 5 f5) 7 f7) 4) ((su (su (su (fun _ _ => 0) 4 f4) 5 f5) 7 f7) 5) (fb (fSets f1 x y) f6) ((su (su (su (fun _ _ => 0) 4 f4) 5 f5) 7 f7) 7) f8 f9 f10 f11 f12 f13 f20 f21 f22 f23 f24 f25) H := hP
    have hD : va_D (va_A (wM g a f1 f2 f3 f4 f5 f6 f7 f8 f9 f10 f11 f12 f13 f20 f21 f22 f23 f24 f25) s.heap.size) (wM g a f1 f2 f3 ((su (su (su (fun _ _ => 0) 4 f4) 5 f5) 7 f7) 4) ((su (su (su (fun _ _ => 0) 4 f4) 5 f5) 7 f7) 5) (fb (fSets f1 x y) f6) ((su (su (su (fun _ _ => 0) 4 f4) 5 f5) 7 f7) 7) f8 f9 f10 f11 f12 f13 f20 f21 f22 f23 f24 f25) := hD
    exact W.iret hx hb hr (fun t ht hW => ⟨⟨_, (su (su (su (fun _ _ => 0) 4 f4) 5 f5) 7 f7), rfl, by rw [hf]; rfl, by rw [ht]; exact hP, hD⟩, hS.F ht⟩) hS.2.2 dX5_sets_20

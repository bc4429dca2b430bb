abbrev rm_X5_laysPass : Room := { frames := 0, cells := 0, slots := 0, locals := 0 }
set_option maxRecDepth 100000 in
set_option maxHeartbeats 4000000 in
theorem c_X5_laysPass (l : Launch) (g : Gd) (a : Nat → Nat) (f1 : Int → Int) (f2 : Int → Int) (f3 : Int → Int) (f4 : Int → Int) (f5 : Int → Int) (f6 : Int → Int) (f7 : Int → Int) (f8 : Int → Int) (f9 : Int → Int) (f10 : Int → Int) (f11 : Int → Int) (f12 : Int → Int) (f13 : Int → Int) (f20 : Int) (f21 : Int) (f22 : Int) (f23 : Int) (f24 : Int) (f25 : Int) (ce : Int) (pe : Int) (op : Int) (sz : Nat) (h1 : 0 ≤ ce ∧ ce < 24) (h2 : IR pe) : Met l yX5_laysPass (wsOf yX5_laysPass cX5_laysPass 4 none) rm_X5_laysPass (PX g (wP g (wM g a f1 f2 f3 f4 f5 f6 f7 f8 f9 f10 f11 f12 f13 f20 f21 f22 f23 f24 f25) sz) [.ref (a 0), .int (iI ce), .int (iI pe), .int (iI op)]) (QMv g (fun _ : Unit => wM g a (up (up f1 (7 + ce) pe) (31 + ce) (if pe = 0 then 0 else op)) f2 f3 f4 f5 f6 f7 f8 f9 f10 f11 f12 f13 f20 f21 f22 f23 f24 f25) (fun _ => True) (va_A (wM g a f1 f2 f3 f4 f5 f6 f7 f8 f9 f10 f11 f12 f13 f20 f21 f22 f23 f24 f25) sz)) 0 0 (va_A (wM g a f1 f2 f3 f4 f5 f6 f7 f8 f9 f10 f11 f12 f13 f20 f21 f22 f23 f24 f25) sz) := by
  refine me (g := g) (by decide) rfl ?_
  intro pq eq s mq below meth cq C hnm hB ls hl
  obtain ⟨hx, hb, hr, hml, hown, hts, hlocks, hK⟩ := C
  have hown : s.vm.findClass RX5 = some mq.cls := hown
  have hl : lv_has ls 4 [(0, .ref (a 0)), (1, .int (iI ce)), (2, .int (iI pe)), (3, .int (iI op))] := hl
  obtain ⟨hsz, hP, hD0⟩ := hB
  subst hsz
  have hD := hD0.self (sz := s.heap.size)
  have hA : ∀ q : Nat, s.heap.size ≤ q → va_A (wM g a f1 f2 f3 f4 f5 f6 f7 f8 f9 f10 f11 f12 f13 f20 f21 f22 f23 f24 f25) s.heap.size q := fun q h => Or.inr h
  have hS : va_S (va_A (wM g a f1 f2 f3 f4 f5 f6 f7 f8 f9 f10 f11 f12 f13 f20 f21 f22 f23 f24 f25) s.heap.size) s.heap s.heap [] := va_S.rf
  have q1 := h2.1
  have q2 := h2.2
  refine lv_aload_n hx hb dX5_laysPass_0 rfl (lv_at hl 0 rfl) ?_
  refine xg_X5 hx hb hts hown hK hP 0 rfl 0 (by decide) fk_X5_7 (v := .ref (a 1)) rfl dX5_laysPass_1 ?_
  refine lv_bipush (v := iI (7)) hx hb dX5_laysPass_4 (by decide) ?_
  refine lv_iload_n hx hb dX5_laysPass_6 rfl (lv_at hl 1 rfl) ?_
  refine xi_add hx hb dX5_laysPass_7 ?_
  refine lv_iload_n hx hb dX5_laysPass_8 rfl (lv_at hl 2 rfl) ?_
  refine xi_ast hx hb hK hP hD hS 1 (f := f1) rfl (i := 7 + ce) (v := pe) ⟨by omega, by omega⟩ rfl dX5_laysPass_9 (fun H locs hP hD hS => ?_)
  have hP : va_P g.1 vwCl (wM g a (up f1 (7 + ce) pe) f2 f3 f4 f5 f6 f7 f8 f9 f10 f11 f12 f13 f20 f21 f22 f23 f24 f25) H := hP
  have hD : va_D (va_A (wM g a f1 f2 f3 f4 f5 f6 f7 f8 f9 f10 f11 f12 f13 f20 f21 f22 f23 f24 f25) s.heap.size) (wM g a (up f1 (7 + ce) pe) f2 f3 f4 f5 f6 f7 f8 f9 f10 f11 f12 f13 f20 f21 f22 f23 f24 f25) := hD
  refine lv_aload_n hx hb dX5_laysPass_10 rfl (lv_at hl 0 rfl) ?_
  refine xg_X5 hx hb hts hown hK hP 0 rfl 0 (by decide) fk_X5_7 (v := .ref (a 1)) rfl dX5_laysPass_11 ?_
  refine lv_bipush (v := iI (31)) hx hb dX5_laysPass_14 (by decide) ?_
  refine lv_iload_n hx hb dX5_laysPass_16 rfl (lv_at hl 1 rfl) ?_
  refine xi_add hx hb dX5_laysPass_17 ?_
  refine lv_iload_n hx hb dX5_laysPass_18 rfl (lv_at hl 2 rfl) ?_
  refine xi_z_ne (tgt := 26) hx hb ⟨by omega, by omega⟩ dX5_laysPass_19 (by decide) (fun z1 => ?_) (fun z1 => ?_)
  · refine lv_iload_n hx hb dX5_laysPass_26 rfl (lv_at hl 3 rfl) ?_
    refine xi_ast hx hb hK hP hD hS 1 (f := up f1 (7 + ce) pe) rfl (i := 31 + ce) (v := op) ⟨by omega, by omega⟩ rfl dX5_laysPass_27 (fun H locs hP hD hS => ?_)
    have hP : va_P g.1 vwCl (wM g a (up (up f1 (7 + ce) pe) (31 + ce) op) f2 f3 f4 f5 f6 f7 f8 f9 f10 f11 f12 f13 f20 f21 f22 f23 f24 f25) H := hP
    have hD : va_D (va_A (wM g a f1 f2 f3 f4 f5 f6 f7 f8 f9 f10 f11 f12 f13 f20 f21 f22 f23 f24 f25) s.heap.size) (wM g a (up (up f1 (7 + ce) pe) (31 + ce) op) f2 f3 f4 f5 f6 f7 f8 f9 f10 f11 f12 f13 f20 f21 f22 f23 f24 f25) := hD
    have he2 : (up (up f1 (7 + ce) pe) (31 + ce) op) = (up (up f1 (7 + ce) pe) (31 + ce) (if pe = 0 then 0 else op)) := by first | rw [if_pos (by omega)] | rw [if_neg (by omega)]
    have hP := Eq.mp (congrArg (fun z9 => va_P g.1 vwCl (wM g a z9 f2 f3 f4 f5 f6 f7 f8 f9 f10 f11 f12 f13 f20 f21 f22 f23 f24 f25) H) he2) hP
    have hD := Eq.mp (congrArg (fun z9 => va_D (va_A (wM g a f1 f2 f3 f4 f5 f6 f7 f8 f9 f10 f11 f12 f13 f20 f21 f22 f23 f24 f25) s.heap.size) (wM g a z9 f2 f3 f4 f5 f6 f7 f8 f9 f10 f11 f12 f13 f20 f21 f22 f23 f24 f25)) he2) hD
    have hP : va_P g.1 vwCl (wM g a (up (up f1 (7 + ce) pe) (31 + ce) (if pe = 0 then 0 else op)) f2 f3 f4 f5 f6 f7 f8 f9 f10 f11 f12 f13 f20 f21 f22 f23 f24 f25) H := hP
    have hD : va_D (va_A (wM g a f1 f2 f3 f4 f5 f6 f7 f8 f9 f10 f11 f12 f13 f20 f21 f22 f23 f24 f25) s.heap.size) (wM g a (up (up f1 (7 + ce) pe) (31 + ce) (if pe = 0 then 0 else op)) f2 f3 f4 f5 f6 f7 f8 f9 f10 f11 f12 f13 f20 f21 f22 f23 f24 f25) := hD
    exact W.vret hx hb hr (fun t ht hW => ⟨⟨(), rfl, trivial, by rw [ht]; exact hP, hD⟩, hS.F ht⟩) hS.2.2 dX5_laysPass_28
  · refine lv_iconst (v := iI (0)) hx hb dX5_laysPass_22 (by decide) ?_
    refine lv_goto (tgt := 27) hx hb dX5_laysPass_23 (by decide) ?_
    refine xi_ast hx hb hK hP hD hS 1 (f := up f1 (7 + ce) pe) rfl (i := 31 + ce) (v := 0) ⟨by omega, by omega⟩ rfl dX5_laysPass_27 (fun H locs hP hD hS => ?_)
    have hP : va_P g.1 vwCl (wM g a (up (up f1 (7 + ce) pe) (31 + ce) 0) f2 f3 f4 f5 f6 f7 f8 f9 f10 f11 f12 f13 f20 f21 f22 f23 f24 f25) H := hP
    have hD : va_D (va_A (wM g a f1 f2 f3 f4 f5 f6 f7 f8 f9 f10 f11 f12 f13 f20 f21 f22 f23 f24 f25) s.heap.size) (wM g a (up (up f1 (7 + ce) pe) (31 + ce) 0) f2 f3 f4 f5 f6 f7 f8 f9 f10 f11 f12 f13 f20 f21 f22 f23 f24 f25) := hD
    have he3 : (up (up f1 (7 + ce) pe) (31 + ce) 0) = (up (up f1 (7 + ce) pe) (31 + ce) (if pe = 0 then 0 else op)) := by first | rw [if_pos (by omega)] | rw [if_neg (by omega)]
    have hP := Eq.mp (congrArg (fun z9 => va_P g.1 vwCl (wM g a z9 f2 f3 f4 f5 f6 f7 f8 f9 f10 f11 f12 f13 f20 f21 f22 f23 f24 f25) H) he3) hP
    have hD := Eq.mp (congrArg (fun z9 => va_D (va_A (wM g a f1 f2 f3 f4 f5 f6 f7 f8 f9 f10 f11 f12 f13 f20 f21 f22 f23 f24 f25) s.heap.size) (wM g a z9 f2 f3 f4 f5 f6 f7 f8 f9 f10 f11 f12 f13 f20 f21 f22 f23 f24 f25)) he3) hD
    have hP : va_P g.1 vwCl (wM g a (up (up f1 (7 + ce) pe) (31 + ce) (if pe = 0 then 0 else op)) f2 f3 f4 f5 f6 f7 f8 f9 f10 f11 f12 f13 f20 f21 f22 f23 f24 f25) H := hP
    have hD : va_D (va_A (wM g a f1 f2 f3 f4 f5 f6 f7 f8 f9 f10 f11 f12 f13 f20 f21 f22 f23 f24 f25) s.heap.size) (wM g a (up (up f1 (7 + ce) pe) (31 + ce) (if pe = 0 then 0 else op)) f2 f3 f4 f5 f6 f7 f8 f9 f10 f11 f12 f13 f20 f21 f22 f23 f24 f25) := hD
    exact W.vret hx hb hr (fun t ht hW => ⟨⟨(), rfl, trivial, by rw [ht]; exact hP, hD⟩, hS.F ht⟩) hS.2.2 dX5_laysPass_28
abbrev rm_X5_isOpen : Room := { frames := 0, cells := 0, slots := 0, locals := 0 }
set_option maxRecDepth 100000 in
set_option maxHeartbeats 4000000 in
theorem c_X5_isOpen (l : Launch) (g : Gd) (a : Nat → Nat) (f1 : Int → Int) (f2 : Int → Int) (f3 : Int → Int) (f4 : Int → Int) (f5 : Int → Int) (f6 : Int → Int) (f7 : Int → Int) (f8 : Int → Int) (f9 : Int → Int) (f10 : Int → Int) (f11 : Int → Int) (f12 : Int → Int) (f13 : Int → Int) (f20 : Int) (f21 : Int) (f22 : Int) (f23 : Int) (f24 : Int) (f25 : Int) (ce : Int) (h1 : Inv f1) (h2 : 0 ≤ ce ∧ ce < 24) : Met l yX5_isOpen (wsOf yX5_isOpen cX5_isOpen 2 (some .boolean)) rm_X5_isOpen (PX g (va_P g.1 vwCl (wM g a f1 f2 f3 f4 f5 f6 f7 f8 f9 f10 f11 f12 f13 f20 f21 f22 f23 f24 f25)) [.ref (a 0), .int (iI ce)]) (vp_Si (fun r9 => r9 = iI (bI (opn f1 ce)))) 0 0 (fun _ => False) := by
  refine me (g := g) (by decide) rfl ?_
  intro pq eq s mq below meth cq C hnm hB ls hl
  obtain ⟨hx, hb, hr, hml, hown, hts, hlocks, hK⟩ := C
  have hown : s.vm.findClass RX5 = some mq.cls := hown
  have hl : lv_has ls 2 [(0, .ref (a 0)), (1, .int (iI ce))] := hl
  have hP : va_P g.1 vwCl (wM g a f1 f2 f3 f4 f5 f6 f7 f8 f9 f10 f11 f12 f13 f20 f21 f22 f23 f24 f25) s.heap := hB
  have hI := h1
  have hn := hI.num
  have hs := hI.sea
  have hp := hI.pas ce h2.1 h2.2
  refine lv_aload_n hx hb dX5_isOpen_0 rfl (lv_at hl 0 rfl) ?_
  refine xg_X5 hx hb hts hown hK hP 0 rfl 0 (by decide) fk_X5_7 (v := .ref (a 1)) rfl dX5_isOpen_1 ?_
  refine lv_bipush (v := iI (7)) hx hb dX5_isOpen_4 (by decide) ?_
  refine lv_iload_n hx hb dX5_isOpen_6 rfl (lv_at hl 1 rfl) ?_
  refine xi_add hx hb dX5_isOpen_7 ?_
  refine xi_ald hx hb hK hP 1 (f := f1) rfl (i := 7 + ce) ⟨by omega, by omega⟩ rfl dX5_isOpen_8 ?_
  refine xi_z_eq (tgt := 40) hx hb ⟨by omega, by omega⟩ dX5_isOpen_9 (by decide) (fun z1 => ?_) (fun z1 => ?_)
  · refine lv_iconst (v := iI (1)) hx hb dX5_isOpen_40 (by decide) ?_
    refine lv_goto (tgt := 45) hx hb dX5_isOpen_41 (by decide) ?_
    exact W.zret hx hb hr (by decide) (fun t ht hW => ⟨_, rfl, by rw [bI_t (by omega)], ht⟩) (fun q h => by cases h) dX5_isOpen_45
  · refine lv_aload_n hx hb dX5_isOpen_12 rfl (lv_at hl 0 rfl) ?_
    refine xg_X5 hx hb hts hown hK hP 0 rfl 0 (by decide) fk_X5_7 (v := .ref (a 1)) rfl dX5_isOpen_13 ?_
    refine lv_iconst (v := iI (0)) hx hb dX5_isOpen_16 (by decide) ?_
    refine xi_ald hx hb hK hP 1 (f := f1) rfl (i := 0) ⟨by omega, by omega⟩ rfl dX5_isOpen_17 ?_
    refine lv_aload_n hx hb dX5_isOpen_18 rfl (lv_at hl 0 rfl) ?_
    refine xg_X5 hx hb hts hown hK hP 0 rfl 0 (by decide) fk_X5_7 (v := .ref (a 1)) rfl dX5_isOpen_19 ?_
    refine lv_bipush (v := iI (7)) hx hb dX5_isOpen_22 (by decide) ?_
    refine lv_iload_n hx hb dX5_isOpen_24 rfl (lv_at hl 1 rfl) ?_
    refine xi_add hx hb dX5_isOpen_25 ?_
    refine xi_ald hx hb hK hP 1 (f := f1) rfl (i := 7 + ce) ⟨by omega, by omega⟩ rfl dX5_isOpen_26 ?_
    refine xi_rem hx hb ⟨by omega, by omega, by omega, by omega⟩ dX5_isOpen_27 ?_
    have hm1 := Int.emod_nonneg (f1 0) (show f1 (7 + ce) ≠ 0 by omega)
    have hm2 := Int.emod_lt_of_pos (f1 0) (show 0 < f1 (7 + ce) by omega)
    refine lv_aload_n hx hb dX5_isOpen_28 rfl (lv_at hl 0 rfl) ?_
    refine xg_X5 hx hb hts hown hK hP 0 rfl 0 (by decide) fk_X5_7 (v := .ref (a 1)) rfl dX5_isOpen_29 ?_
    refine lv_bipush (v := iI (31)) hx hb dX5_isOpen_32 (by decide) ?_
    refine lv_iload_n hx hb dX5_isOpen_34 rfl (lv_at hl 1 rfl) ?_
    refine xi_add hx hb dX5_isOpen_35 ?_
    refine xi_ald hx hb hK hP 1 (f := f1) rfl (i := 31 + ce) ⟨by omega, by omega⟩ rfl dX5_isOpen_36 ?_
    refine xi_c_ge (tgt := 44) hx hb ⟨by omega, by omega⟩ ⟨by omega, by omega⟩ dX5_isOpen_37 (by decide) (fun z2 => ?_) (fun z2 => ?_)
    · refine lv_iconst (v := iI (0)) hx hb dX5_isOpen_44 (by decide) ?_
      exact W.zret hx hb hr (by decide) (fun t ht hW => ⟨_, rfl, by rw [bI_f (by omega)], ht⟩) (fun q h => by cases h) dX5_isOpen_45
    · refine lv_iconst (v := iI (1)) hx hb dX5_isOpen_40 (by decide) ?_
      refine lv_goto (tgt := 45) hx hb dX5_isOpen_41 (by decide) ?_
      exact W.zret hx hb hr (by decide) (fun t ht hW => ⟨_, rfl, by rw [bI_t (by omega)], ht⟩) (fun q h => by cases h) dX5_isOpen_45
abbrev rm_X5_isIn : Room := { frames := 2, cells := 0, slots := 0, locals := 43 }
set_option maxRecDepth 100000 in
set_option maxHeartbeats 4000000 in
theorem c_X5_isIn (l : Launch) (g : Gd) (a : Nat → Nat) (f1 : Int → Int) (f2 : Int → Int) (f3 : Int → Int) (f4 : Int → Int) (f5 : Int → Int) (f6 : Int → Int) (f7 : Int → Int) (f8 : Int → Int) (f9 : Int → Int) (f10 : Int → Int) (f11 : Int → Int) (f12 : Int → Int) (f13 : Int → Int) (f20 : Int) (f21 : Int) (f22 : Int) (f23 : Int) (f24 : Int) (f25 : Int) (ce : Int) (h1 : Inv f1) (h2 : IR ce) : Met l yX5_isIn (wsOf yX5_isIn cX5_isIn 4 (some .int)) rm_X5_isIn (PX g (va_P g.1 vwCl (wM g a f1 f2 f3 f4 f5 f6 f7 f8 f9 f10 f11 f12 f13 f20 f21 f22 f23 f24 f25)) [.ref (a 0), .int (iI ce)]) (vp_Si (fun r9 => r9 = iI (who f1 ce))) 0 0 (fun _ => False) := by
  refine me (g := g) (by decide) rfl ?_
  intro pq eq s mq below meth cq C hnm hB ls hl
  obtain ⟨hx, hb, hr, hml, hown, hts, hlocks, hK⟩ := C
  have hown : s.vm.findClass RX5 = some mq.cls := hown
  have hl : lv_has ls 4 [(0, .ref (a 0)), (1, .int (iI ce))] := hl
  have hP : va_P g.1 vwCl (wM g a f1 f2 f3 f4 f5 f6 f7 f8 f9 f10 f11 f12 f13 f20 f21 f22 f23 f24 f25) s.heap := hB
  have hI := h1
  have hn := hI.num
  have hs := hI.sea
  have q1 := h2.1
  have q2 := h2.2
  refine lv_iconst (v := iI (-1)) hx hb dX5_isIn_0 (by decide) ?_
  refine lv_istore_n (lv' := [(2, .int (iI (-1))), (0, .ref (a 0)), (1, .int (iI ce))]) hx hb dX5_isIn_1 rfl hl (by decide) rfl (fun ls hl => ?_)
  refine lv_iconst (v := iI (0)) hx hb dX5_isIn_2 (by decide) ?_
  refine lv_istore_n (lv' := [(3, .int (iI 0)), (2, .int (iI (-1))), (0, .ref (a 0)), (1, .int (iI ce))]) hx hb dX5_isIn_3 rfl hl (by decide) rfl (fun ls hl => ?_)
  have lp4 : ∀ (n4 : Nat) (k : Nat), ((k : Int) ≤ f1 1) → 8 - k < n4 → ∀ ls : Array Slot, lv_has ls 4 [(3, .int (iI (k : Int))), (2, .int (iI (whoT f1 ce k))), (0, .ref (a 0)), (1, .int (iI ce))] → W pq l eq rm_X5_isIn s mq [.ref (a 0), .int (iI ce)].toArray below meth cq s.heap [] 0 0 (MQ below (vp_Si (fun r9 => r9 = iI (who f1 ce))) [.ref (a 0), .int (iI ce)].toArray s 0 0 (fun _ => False)) (F0 mq 4 ls []) := by
    intro n4
    induction n4 with
    | zero => intro k i4_1 hm; exact absurd hm (Nat.not_lt_zero _)
    | succ n4 ih4 =>
      intro k i4_1 hm4 ls hl
      refine lv_iload_n hx hb dX5_isIn_4 rfl (lv_at hl 0 rfl) ?_
      refine lv_aload_n hx hb dX5_isIn_5 rfl (lv_at hl 2 rfl) ?_
      refine xg_X5 hx hb hts hown hK hP 0 rfl 0 (by decide) fk_X5_7 (v := .ref (a 1)) rfl dX5_isIn_6 ?_
      refine lv_iconst (v := iI (1)) hx hb dX5_isIn_9 (by decide) ?_
      refine xi_ald hx hb hK hP 1 (f := f1) rfl (i := 1) ⟨by omega, by omega⟩ rfl dX5_isIn_10 ?_
      refine xi_c_ge (tgt := 36) hx hb ⟨by omega, by omega⟩ ⟨by omega, by omega⟩ dX5_isIn_11 (by decide) (fun z1 => ?_) (fun z1 => ?_)
      · refine lv_iload_n hx hb dX5_isIn_36 rfl (lv_at hl 1 rfl) ?_
        exact W.iret hx hb hr (fun t ht hW => ⟨_, rfl, congrArg (fun z => iI (whoT f1 ce z)) (show k = (f1 1).toNat by omega), ht⟩) (fun q h => by cases h) dX5_isIn_37
      · have hc := hI.ran (k : Int) (by omega) (by omega)
        refine lv_aload_n hx hb dX5_isIn_14 rfl (lv_at hl 2 rfl) ?_
        refine lv_iload_n hx hb dX5_isIn_15 rfl (lv_at hl 0 rfl) ?_
        refine lv_iconst (v := iI (1)) hx hb dX5_isIn_16 (by decide) ?_
        refine xu_i (x := iI (f1 (61 + 5 * (k : Int) + 1))) (rV (rest := []) hx hb hml hown hts hK hl (c_X5_its l g a f1 f2 f3 f4 f5 f6 f7 f8 f9 f10 f11 f12 f13 f20 f21 f22 f23 f24 f25 (k : Int) 1 (show 0 ≤ 61 + 5 * (k : Int) + 1 ∧ 61 + 5 * (k : Int) + 1 < 101 from by omega)) lk_X5_63 hP (va_recv hK.1 hP (ci := 5) (q0 := 0) rfl rfl) rfl rfl rfl (Rm.of rfl) rfl rfl dX5_isIn_17) ?_
        refine lv_iload_n hx hb dX5_isIn_20 rfl (lv_at hl 3 rfl) ?_
        refine xi_c_ne (tgt := 28) hx hb ⟨by omega, by omega⟩ ⟨by omega, by omega⟩ dX5_isIn_21 (by decide) (fun z3 => ?_) (fun z3 => ?_)
        · refine lv_iload_n hx hb dX5_isIn_28 rfl (lv_at hl 1 rfl) ?_
          refine lv_istore_n (lv' := [(2, .int (iI (whoT f1 ce k))), (3, .int (iI (k : Int))), (0, .ref (a 0)), (1, .int (iI ce))]) hx hb dX5_isIn_29 rfl hl (by decide) rfl (fun ls hl => ?_)
          refine xi_inc (lv' := [(3, .int (iI ((k : Int) + 1))), (2, .int (iI (whoT f1 ce k))), (0, .ref (a 0)), (1, .int (iI ce))]) hx hb dX5_isIn_30 hl (k := 1) rfl (by decide) rfl (fun ls hl => ?_)
          refine lv_goto (tgt := 4) hx hb dX5_isIn_33 (by decide) ?_
          have hq4 : ((k : Int) + 1) = ((k + 1) : Int) := by omega
          have hq5 : (whoT f1 ce k) = (whoT f1 ce (k + 1)) := by first | (simp only [whoT]; rw [if_pos (by omega)]) | (simp only [whoT]; rw [if_neg (by omega)])
          have hl : lv_has ls 4 [(3, .int (iI ((k : Int) + 1))), (2, .int (iI (whoT f1 ce k))), (0, .ref (a 0)), (1, .int (iI ce))] := lv_sub hl [0, 1, 2, 3] rfl
          have hl := Eq.mp (congrArg (fun z9 => lv_has ls 4 [(3, .int (iI z9)), (2, .int (iI (whoT f1 ce k))), (0, .ref (a 0)), (1, .int (iI ce))]) hq4) hl
          have hl := Eq.mp (congrArg (fun z9 => lv_has ls 4 [(3, .int (iI ((k + 1) : Int))), (2, .int (iI z9)), (0, .ref (a 0)), (1, .int (iI ce))]) hq5) hl
          exact ih4 (k + 1) (by omega) (by omega) ls hl
        · refine lv_iload_n hx hb dX5_isIn_24 rfl (lv_at hl 0 rfl) ?_
          refine lv_goto (tgt := 29) hx hb dX5_isIn_25 (by decide) ?_
          refine lv_istore_n (lv' := [(2, .int (iI (k : Int))), (3, .int (iI (k : Int))), (0, .ref (a 0)), (1, .int (iI ce))]) hx hb dX5_isIn_29 rfl hl (by decide) rfl (fun ls hl => ?_)
          refine xi_inc (lv' := [(3, .int (iI ((k : Int) + 1))), (2, .int (iI (k : Int))), (0, .ref (a 0)), (1, .int (iI ce))]) hx hb dX5_isIn_30 hl (k := 1) rfl (by decide) rfl (fun ls hl => ?_)
          refine lv_goto (tgt := 4) hx hb dX5_isIn_33 (by decide) ?_
          have hq6 : ((k : Int) + 1) = ((k + 1) : Int) := by omega
          have hq7 : (k : Int) = (whoT f1 ce (k + 1)) := by first | (simp only [whoT]; rw [if_pos (by omega)]) | (simp only [whoT]; rw [if_neg (by omega)])
          have hl : lv_has ls 4 [(3, .int (iI ((k : Int) + 1))), (2, .int (iI (k : Int))), (0, .ref (a 0)), (1, .int (iI ce))] := lv_sub hl [0, 1, 2, 3] rfl
          have hl := Eq.mp (congrArg (fun z9 => lv_has ls 4 [(3, .int (iI z9)), (2, .int (iI (k : Int))), (0, .ref (a 0)), (1, .int (iI ce))]) hq6) hl
          have hl := Eq.mp (congrArg (fun z9 => lv_has ls 4 [(3, .int (iI ((k + 1) : Int))), (2, .int (iI z9)), (0, .ref (a 0)), (1, .int (iI ce))]) hq7) hl
          exact ih4 (k + 1) (by omega) (by omega) ls hl
  have hq8 : 0 = (0 : Int) := rfl
  have hq9 : (-1) = (whoT f1 ce 0) := rfl
  have hl : lv_has ls 4 [(3, .int (iI 0)), (2, .int (iI (-1))), (0, .ref (a 0)), (1, .int (iI ce))] := lv_sub hl [0, 1, 2, 3] rfl
  have hl := Eq.mp (congrArg (fun z9 => lv_has ls 4 [(3, .int (iI z9)), (2, .int (iI (-1))), (0, .ref (a 0)), (1, .int (iI ce))]) hq8) hl
  have hl := Eq.mp (congrArg (fun z9 => lv_has ls 4 [(3, .int (iI (0 : Int))), (2, .int (iI z9)), (0, .ref (a 0)), (1, .int (iI ce))]) hq9) hl
  exact lp4 (8 + 1) 0 (by omega) (by omega) ls hl
abbrev rm_X5_isLit : Room := { frames := 3, cells := 0, slots := 0, locals := 66 }
set_option maxRecDepth 100000 in
set_option maxHeartbeats 4000000 in
theorem c_X5_isLit (l : Launch) (g : Gd) (a : Nat → Nat) (f1 : Int → Int) (f2 : Int → Int) (f3 : Int → Int) (f4 : Int → Int) (f5 : Int → Int) (f6 : Int → Int) (f7 : Int → Int) (f8 : Int → Int) (f9 : Int → Int) (f10 : Int → Int) (f11 : Int → Int) (f12 : Int → Int) (f13 : Int → Int) (f20 : Int) (f21 : Int) (f22 : Int) (f23 : Int) (f24 : Int) (f25 : Int) (v : Int) (h1 : Inv f1) (h2 : 0 ≤ v ∧ v < f1 2) : Met l yX5_isLit (wsOf yX5_isLit cX5_isLit 3 (some .boolean)) rm_X5_isLit (PX g (va_P g.1 vwCl (wM g a f1 f2 f3 f4 f5 f6 f7 f8 f9 f10 f11 f12 f13 f20 f21 f22 f23 f24 f25)) [.ref (a 0), .int (iI v)]) (vp_Si (fun r9 => r9 = iI (bI (litP f1 v)))) 0 0 (fun _ => False) := by
  refine me (g := g) (by decide) rfl ?_
  intro pq eq s mq below meth cq C hnm hB ls hl
  obtain ⟨hx, hb, hr, hml, hown, hts, hlocks, hK⟩ := C
  have hown : s.vm.findClass RX5 = some mq.cls := hown
  have hl : lv_has ls 3 [(0, .ref (a 0)), (1, .int (iI v))] := hl
  have hP : va_P g.1 vwCl (wM g a f1 f2 f3 f4 f5 f6 f7 f8 f9 f10 f11 f12 f13 f20 f21 f22 f23 f24 f25) s.heap := hB
  have hI := h1
  have hn := hI.num
  have hs := hI.sea
  have hv := hI.vil
  have hh := hI.home v h2.1 h2.2
  have b1 := who_b (f1 (55 + v)) hn
  have b2 := who_b (bh (f1 (55 + v))) hn
  have b3 := bh_b hh
  refine lv_aload_n hx hb dX5_isLit_0 rfl (lv_at hl 0 rfl) ?_
  refine xg_X5 hx hb hts hown hK hP 0 rfl 0 (by decide) fk_X5_7 (v := .ref (a 1)) rfl dX5_isLit_1 ?_
  refine lv_bipush (v := iI (55)) hx hb dX5_isLit_4 (by decide) ?_
  refine lv_iload_n hx hb dX5_isLit_6 rfl (lv_at hl 1 rfl) ?_
  refine xi_add hx hb dX5_isLit_7 ?_
  refine xi_ald hx hb hK hP 1 (f := f1) rfl (i := 55 + v) ⟨by omega, by omega⟩ rfl dX5_isLit_8 ?_
  refine lv_istore_n (lv' := [(2, .int (iI (f1 (55 + v)))), (0, .ref (a 0)), (1, .int (iI v))]) hx hb dX5_isLit_9 rfl hl (by decide) rfl (fun ls hl => ?_)
  refine lv_aload_n hx hb dX5_isLit_10 rfl (lv_at hl 1 rfl) ?_
  refine lv_iload_n hx hb dX5_isLit_11 rfl (lv_at hl 0 rfl) ?_
  refine xu_i (x := iI (who f1 (f1 (55 + v)))) (rV (rest := []) hx hb hml hown hts hK hl (c_X5_isIn l g a f1 f2 f3 f4 f5 f6 f7 f8 f9 f10 f11 f12 f13 f20 f21 f22 f23 f24 f25 (f1 (55 + v)) (show Inv f1 from h1) (show IR (f1 (55 + v)) from ⟨by omega, by omega⟩)) lk_X5_87 hP (va_recv hK.1 hP (ci := 5) (q0 := 0) rfl rfl) rfl rfl rfl (Rm.of rfl) rfl rfl dX5_isLit_12) ?_
  refine xi_z_ge (tgt := 33) hx hb ⟨by omega, by omega⟩ dX5_isLit_15 (by decide) (fun z2 => ?_) (fun z2 => ?_)
  · refine lv_iconst (v := iI (0)) hx hb dX5_isLit_33 (by decide) ?_
    exact W.zret hx hb hr (by decide) (fun t ht hW => ⟨_, rfl, by rw [bI_f (by omega)], ht⟩) (fun q h => by cases h) dX5_isLit_34
  · refine lv_aload_n hx hb dX5_isLit_18 rfl (lv_at hl 1 rfl) ?_
    refine lv_iload_n hx hb dX5_isLit_19 rfl (lv_at hl 0 rfl) ?_
    refine xu_i (x := iI (bh (f1 (55 + v)))) (rS (rest := [.ref (a 0)]) hx hb hml hown hts hK hl (c_X5_behind l g (f1 (55 + v)) (show IR (f1 (55 + v)) from ⟨by omega, by omega⟩)) lk_X5_91 trivial rfl rfl rfl (Rm.of rfl) rfl rfl dX5_isLit_20) ?_
    refine xu_i (x := iI (who f1 (bh (f1 (55 + v))))) (rV (rest := []) hx hb hml hown hts hK hl (c_X5_isIn l g a f1 f2 f3 f4 f5 f6 f7 f8 f9 f10 f11 f12 f13 f20 f21 f22 f23 f24 f25 (bh (f1 (55 + v))) (show Inv f1 from h1) (show IR (bh (f1 (55 + v))) from ⟨by omega, by omega⟩)) lk_X5_87 hP (va_recv hK.1 hP (ci := 5) (q0 := 0) rfl rfl) rfl rfl rfl (Rm.of rfl) rfl rfl dX5_isLit_23) ?_
    refine xi_z_ge (tgt := 33) hx hb ⟨by omega, by omega⟩ dX5_isLit_26 (by decide) (fun z5 => ?_) (fun z5 => ?_)
    · refine lv_iconst (v := iI (0)) hx hb dX5_isLit_33 (by decide) ?_
      exact W.zret hx hb hr (by decide) (fun t ht hW => ⟨_, rfl, by rw [bI_f (by omega)], ht⟩) (fun q h => by cases h) dX5_isLit_34
    · refine lv_iconst (v := iI (1)) hx hb dX5_isLit_29 (by decide) ?_
      refine lv_goto (tgt := 34) hx hb dX5_isLit_30 (by decide) ?_
      exact W.zret hx hb hr (by decide) (fun t ht hW => ⟨_, rfl, by rw [bI_t (by omega)], ht⟩) (fun q h => by cases h) dX5_isLit_34
abbrev rm_X5_isSummer : Room := { frames := 0, cells := 0, slots := 0, locals := 0 }
set_option maxRecDepth 100000 in
set_option maxHeartbeats 4000000 in
theorem c_X5_isSummer (l : Launch) (g : Gd) (a : Nat → Nat) (f1 : Int → Int) (f2 : Int → Int) (f3 : Int → Int) (f4 : Int → Int) (f5 : Int → Int) (f6 : Int → Int) (f7 : Int → Int) (f8 : Int → Int) (f9 : Int → Int) (f10 : Int → Int) (f11 : Int → Int) (f12 : Int → Int) (f13 : Int → Int) (f20 : Int) (f21 : Int) (f22 : Int) (f23 : Int) (f24 : Int) (f25 : Int) (h1 : Inv f1) : Met l yX5_isSummer (wsOf yX5_isSummer cX5_isSummer 1 (some .boolean)) rm_X5_isSummer (PX g (va_P g.1 vwCl (wM g a f1 f2 f3 f4 f5 f6 f7 f8 f9 f10 f11 f12 f13 f20 f21 f22 f23 f24 f25)) [.ref (a 0)]) (vp_Si (fun r9 => r9 = iI (bI (f1 0 % 4 < 2)))) 0 0 (fun _ => False) := by
  refine me (g := g) (by decide) rfl ?_
  intro pq eq s mq below meth cq C hnm hB ls hl
  obtain ⟨hx, hb, hr, hml, hown, hts, hlocks, hK⟩ := C
  have hown : s.vm.findClass RX5 = some mq.cls := hown
  have hl : lv_has ls 1 [(0, .ref (a 0))] := hl
  have hP : va_P g.1 vwCl (wM g a f1 f2 f3 f4 f5 f6 f7 f8 f9 f10 f11 f12 f13 f20 f21 f22 f23 f24 f25) s.heap := hB
  have hI := h1
  have hn := hI.num
  have hs := hI.sea
  refine lv_aload_n hx hb dX5_isSummer_0 rfl (lv_at hl 0 rfl) ?_
  refine xg_X5 hx hb hts hown hK hP 0 rfl 0 (by decide) fk_X5_7 (v := .ref (a 1)) rfl dX5_isSummer_1 ?_
  refine lv_iconst (v := iI (0)) hx hb dX5_isSummer_4 (by decide) ?_
  refine xi_ald hx hb hK hP 1 (f := f1) rfl (i := 0) ⟨by omega, by omega⟩ rfl dX5_isSummer_5 ?_
  refine lv_iconst (v := iI (4)) hx hb dX5_isSummer_6 (by decide) ?_
  refine xi_rem hx hb ⟨by omega, by omega, by omega, by omega⟩ dX5_isSummer_7 ?_
  refine lv_iconst (v := iI (2)) hx hb dX5_isSummer_8 (by decide) ?_
  refine xi_c_ge (tgt := 16) hx hb ⟨by omega, by omega⟩ ⟨by decide, by decide⟩ dX5_isSummer_9 (by decide) (fun z1 => ?_) (fun z1 => ?_)
  · refine lv_iconst (v := iI (0)) hx hb dX5_isSummer_16 (by decide) ?_
    exact W.zret hx hb hr (by decide) (fun t ht hW => ⟨_, rfl, by rw [bI_f (by omega)], ht⟩) (fun q h => by cases h) dX5_isSummer_17
  · refine lv_iconst (v := iI (1)) hx hb dX5_isSummer_12 (by decide) ?_
    refine lv_goto (tgt := 17) hx hb dX5_isSummer_13 (by decide) ?_
    exact W.zret hx hb hr (by decide) (fun t ht hW => ⟨_, rfl, by rw [bI_t (by omega)], ht⟩) (fun q h => by cases h) dX5_isSummer_17
abbrev rm_X5_twins : Room := { frames := 2, cells := 0, slots := 0, locals := 43 }
set_option maxRecDepth 100000 in
set_option maxHeartbeats 4000000 in
theorem c_X5_twins (l : Launch) (g : Gd) (a : Nat → Nat) (f1 : Int → Int) (f2 : Int → Int) (f3 : Int → Int) (f4 : Int → Int) (f5 : Int → Int) (f6 : Int → Int) (f7 : Int → Int) (f8 : Int → Int) (f9 : Int → Int) (f10 : Int → Int) (f11 : Int → Int) (f12 : Int → Int) (f13 : Int → Int) (f20 : Int) (f21 : Int) (f22 : Int) (f23 : Int) (f24 : Int) (f25 : Int) (h1 : Inv f1) : Met l yX5_twins (wsOf yX5_twins cX5_twins 3 (some .int)) rm_X5_twins (PX g (va_P g.1 vwCl (wM g a f1 f2 f3 f4 f5 f6 f7 f8 f9 f10 f11 f12 f13 f20 f21 f22 f23 f24 f25)) [.ref (a 0)]) (vp_Si (fun r9 => r9 = iI (twins f1))) 0 0 (fun _ => False) := by
  refine me (g := g) (by decide) rfl ?_
  intro pq eq s mq below meth cq C hnm hB ls hl
  obtain ⟨hx, hb, hr, hml, hown, hts, hlocks, hK⟩ := C
  have hown : s.vm.findClass RX5 = some mq.cls := hown
  have hl : lv_has ls 3 [(0, .ref (a 0))] := hl
  have hP : va_P g.1 vwCl (wM g a f1 f2 f3 f4 f5 f6 f7 f8 f9 f10 f11 f12 f13 f20 f21 f22 f23 f24 f25) s.heap := hB
  have hI := h1
  have hn := hI.num
  have hs := hI.sea
  refine lv_iconst (v := iI (0)) hx hb dX5_twins_0 (by decide) ?_
  refine lv_istore_n (lv' := [(1, .int (iI 0)), (0, .ref (a 0))]) hx hb dX5_twins_1 rfl hl (by decide) rfl (fun ls hl => ?_)
  refine lv_iconst (v := iI (0)) hx hb dX5_twins_2 (by decide) ?_
  refine lv_istore_n (lv' := [(2, .int (iI 0)), (1, .int (iI 0)), (0, .ref (a 0))]) hx hb dX5_twins_3 rfl hl (by decide) rfl (fun ls hl => ?_)
  have lp4 : ∀ (n4 : Nat) (k : Nat), ((k : Int) ≤ f1 1) → 8 - k < n4 → ∀ ls : Array Slot, lv_has ls 3 [(2, .int (iI (k : Int))), (1, .int (iI (twT f1 k))), (0, .ref (a 0))] → W pq l eq rm_X5_twins s mq [.ref (a 0)].toArray below meth cq s.heap [] 0 0 (MQ below (vp_Si (fun r9 => r9 = iI (twins f1))) [.ref (a 0)].toArray s 0 0 (fun _ => False)) (F0 mq 4 ls []) := by
    intro n4
    induction n4 with
    | zero => intro k i4_1 hm; exact absurd hm (Nat.not_lt_zero _)
    | succ n4 ih4 =>
      intro k i4_1 hm4 ls hl
      refine lv_iload_n hx hb dX5_twins_4 rfl (lv_at hl 0 rfl) ?_
      refine lv_aload_n hx hb dX5_twins_5 rfl (lv_at hl 2 rfl) ?_
      refine xg_X5 hx hb hts hown hK hP 0 rfl 0 (by decide) fk_X5_7 (v := .ref (a 1)) rfl dX5_twins_6 ?_
      refine lv_iconst (v := iI (1)) hx hb dX5_twins_9 (by decide) ?_
      refine xi_ald hx hb hK hP 1 (f := f1) rfl (i := 1) ⟨by omega, by omega⟩ rfl dX5_twins_10 ?_
      refine xi_c_ge (tgt := 38) hx hb ⟨by omega, by omega⟩ ⟨by omega, by omega⟩ dX5_twins_11 (by decide) (fun z1 => ?_) (fun z1 => ?_)
      · refine lv_iload_n hx hb dX5_twins_38 rfl (lv_at hl 1 rfl) ?_
        exact W.iret hx hb hr (fun t ht hW => ⟨_, rfl, congrArg (fun z => iI (twT f1 z)) (show k = (f1 1).toNat by omega), ht⟩) (fun q h => by cases h) dX5_twins_39
      · have hc := hI.ran (k : Int) (by omega) (by omega)
        refine lv_iload_n hx hb dX5_twins_14 rfl (lv_at hl 1 rfl) ?_
        refine lv_aload_n hx hb dX5_twins_15 rfl (lv_at hl 2 rfl) ?_
        refine lv_iload_n hx hb dX5_twins_16 rfl (lv_at hl 0 rfl) ?_
        refine lv_iconst (v := iI (0)) hx hb dX5_twins_17 (by decide) ?_
        refine xu_i (x := iI (f1 (61 + 5 * (k : Int) + 0))) (rV (rest := [.int (iI (twT f1 k))]) hx hb hml hown hts hK hl (c_X5_its l g a f1 f2 f3 f4 f5 f6 f7 f8 f9 f10 f11 f12 f13 f20 f21 f22 f23 f24 f25 (k : Int) 0 (show 0 ≤ 61 + 5 * (k : Int) + 0 ∧ 61 + 5 * (k : Int) + 0 < 101 from by omega)) lk_X5_63 hP (va_recv hK.1 hP (ci := 5) (q0 := 0) rfl rfl) rfl rfl rfl (Rm.of rfl) rfl rfl dX5_twins_18) ?_
        refine lv_iconst (v := iI (5)) hx hb dX5_twins_21 (by decide) ?_
        refine xi_c_ne (tgt := 29) hx hb ⟨by omega, by omega⟩ ⟨by decide, by decide⟩ dX5_twins_22 (by decide) (fun z3 => ?_) (fun z3 => ?_)
        · refine lv_iconst (v := iI (0)) hx hb dX5_twins_29 (by decide) ?_
          refine xi_add hx hb dX5_twins_30 ?_
          refine lv_istore_n (lv' := [(1, .int (iI (twT f1 k + 0))), (2, .int (iI (k : Int))), (0, .ref (a 0))]) hx hb dX5_twins_31 rfl hl (by decide) rfl (fun ls hl => ?_)
          refine xi_inc (lv' := [(2, .int (iI ((k : Int) + 1))), (1, .int (iI (twT f1 k + 0))), (0, .ref (a 0))]) hx hb dX5_twins_32 hl (k := 1) rfl (by decide) rfl (fun ls hl => ?_)
          refine lv_goto (tgt := 4) hx hb dX5_twins_35 (by decide) ?_
          have hq4 : ((k : Int) + 1) = ((k + 1) : Int) := by omega
          have hq5 : (twT f1 k + 0) = (twT f1 (k + 1)) := by first | (simp only [twT]; rw [if_pos (by omega)]) | (simp only [twT]; rw [if_neg (by omega)])
          have hl : lv_has ls 3 [(2, .int (iI ((k : Int) + 1))), (1, .int (iI (twT f1 k + 0))), (0, .ref (a 0))] := lv_sub hl [0, 1, 2] rfl
          have hl := Eq.mp (congrArg (fun z9 => lv_has ls 3 [(2, .int (iI z9)), (1, .int (iI (twT f1 k + 0))), (0, .ref (a 0))]) hq4) hl
          have hl := Eq.mp (congrArg (fun z9 => lv_has ls 3 [(2, .int (iI ((k + 1) : Int))), (1, .int (iI z9)), (0, .ref (a 0))]) hq5) hl
          exact ih4 (k + 1) (by omega) (by omega) ls hl
        · refine lv_iconst (v := iI (1)) hx hb dX5_twins_25 (by decide) ?_
          refine lv_goto (tgt := 30) hx hb dX5_twins_26 (by decide) ?_
          refine xi_add hx hb dX5_twins_30 ?_
          refine lv_istore_n (lv' := [(1, .int (iI (twT f1 k + 1))), (2, .int (iI (k : Int))), (0, .ref (a 0))]) hx hb dX5_twins_31 rfl hl (by decide) rfl (fun ls hl => ?_)
          refine xi_inc (lv' := [(2, .int (iI ((k : Int) + 1))), (1, .int (iI (twT f1 k + 1))), (0, .ref (a 0))]) hx hb dX5_twins_32 hl (k := 1) rfl (by decide) rfl (fun ls hl => ?_)
          refine lv_goto (tgt := 4) hx hb dX5_twins_35 (by decide) ?_
          have hq6 : ((k : Int) + 1) = ((k + 1) : Int) := by omega
          have hq7 : (twT f1 k + 1) = (twT f1 (k + 1)) := by first | (simp only [twT]; rw [if_pos (by omega)]) | (simp only [twT]; rw [if_neg (by omega)])
          have hl : lv_has ls 3 [(2, .int (iI ((k : Int) + 1))), (1, .int (iI (twT f1 k + 1))), (0, .ref (a 0))] := lv_sub hl [0, 1, 2] rfl
          have hl := Eq.mp (congrArg (fun z9 => lv_has ls 3 [(2, .int (iI z9)), (1, .int (iI (twT f1 k + 1))), (0, .ref (a 0))]) hq6) hl
          have hl := Eq.mp (congrArg (fun z9 => lv_has ls 3 [(2, .int (iI ((k + 1) : Int))), (1, .int (iI z9)), (0, .ref (a 0))]) hq7) hl
          exact ih4 (k + 1) (by omega) (by omega) ls hl
  have hq8 : 0 = (0 : Int) := rfl
  have hq9 : 0 = (twT f1 0) := rfl
  have hl : lv_has ls 3 [(2, .int (iI 0)), (1, .int (iI 0)), (0, .ref (a 0))] := lv_sub hl [0, 1, 2] rfl
  have hl := Eq.mp (congrArg (fun z9 => lv_has ls 3 [(2, .int (iI z9)), (1, .int (iI 0)), (0, .ref (a 0))]) hq8) hl
  have hl := Eq.mp (congrArg (fun z9 => lv_has ls 3 [(2, .int (iI (0 : Int))), (1, .int (iI z9)), (0, .ref (a 0))]) hq9) hl
  exact lp4 (8 + 1) 0 (by omega) (by omega) ls hl
abbrev rm_X5_strideOf : Room := { frames := 3, cells := 0, slots := 0, locals := 65 }
set_option maxRecDepth 100000 in
set_option maxHeartbeats 4000000 in
theorem c_X5_strideOf (l : Launch) (g : Gd) (a : Nat → Nat) (f1 : Int → Int) (f2 : Int → Int) (f3 : Int → Int) (f4 : Int → Int) (f5 : Int → Int) (f6 : Int → Int) (f7 : Int → Int) (f8 : Int → Int) (f9 : Int → Int) (f10 : Int → Int) (f11 : Int → Int) (f12 : Int → Int) (f13 : Int → Int) (f20 : Int) (f21 : Int) (f22 : Int) (f23 : Int) (f24 : Int) (f25 : Int) (r : Int) (h1 : Inv f1) (h2 : 0 ≤ r ∧ r < f1 1) : Met l yX5_strideOf (wsOf yX5_strideOf cX5_strideOf 3 (some .int)) rm_X5_strideOf (PX g (va_P g.1 vwCl (wM g a f1 f2 f3 f4 f5 f6 f7 f8 f9 f10 f11 f12 f13 f20 f21 f22 f23 f24 f25)) [.ref (a 0), .int (iI r)]) (vp_Si (fun r9 => r9 = iI (stride f1 r))) 0 0 (fun _ => False) := by
  refine me (g := g) (by decide) rfl ?_
  intro pq eq s mq below meth cq C hnm hB ls hl
  obtain ⟨hx, hb, hr, hml, hown, hts, hlocks, hK⟩ := C
  have hown : s.vm.findClass RX5 = some mq.cls := hown
  have hl : lv_has ls 3 [(0, .ref (a 0)), (1, .int (iI r))] := hl
  have hP : va_P g.1 vwCl (wM g a f1 f2 f3 f4 f5 f6 f7 f8 f9 f10 f11 f12 f13 f20 f21 f22 f23 f24 f25) s.heap := hB
  have hI := h1
  have hn := hI.num
  have hs := hI.sea
  have hc := hI.ran r h2.1 h2.2
  have ht := twins_b hn
  refine lv_iconst (v := iI (2)) hx hb dX5_strideOf_0 (by decide) ?_
  refine lv_aload_n hx hb dX5_strideOf_1 rfl (lv_at hl 0 rfl) ?_
  refine lv_iload_n hx hb dX5_strideOf_2 rfl (lv_at hl 1 rfl) ?_
  refine lv_iconst (v := iI (2)) hx hb dX5_strideOf_3 (by decide) ?_
  refine xu_i (x := iI (f1 (61 + 5 * r + 2))) (rV (rest := [.int (iI 2)]) hx hb hml hown hts hK hl (c_X5_its l g a f1 f2 f3 f4 f5 f6 f7 f8 f9 f10 f11 f12 f13 f20 f21 f22 f23 f24 f25 r 2 (show 0 ≤ 61 + 5 * r + 2 ∧ 61 + 5 * r + 2 < 101 from by omega)) lk_X5_63 hP (va_recv hK.1 hP (ci := 5) (q0 := 0) rfl rfl) rfl rfl rfl (Rm.of rfl) rfl rfl dX5_strideOf_4) ?_
  refine lv_iconst (v := iI (3)) hx hb dX5_strideOf_7 (by decide) ?_
  refine xi_div hx hb ⟨by omega, by omega, by omega, by omega⟩ dX5_strideOf_8 ?_
  refine xi_add hx hb dX5_strideOf_9 ?_
  refine lv_istore_n (lv' := [(2, .int (iI (2 + ((f1 (61 + 5 * r + 2)) / 3)))), (0, .ref (a 0)), (1, .int (iI r))]) hx hb dX5_strideOf_10 rfl hl (by decide) rfl (fun ls hl => ?_)
  refine lv_aload_n hx hb dX5_strideOf_11 rfl (lv_at hl 1 rfl) ?_
  refine lv_iload_n hx hb dX5_strideOf_12 rfl (lv_at hl 2 rfl) ?_
  refine lv_iconst (v := iI (0)) hx hb dX5_strideOf_13 (by decide) ?_
  refine xu_i (x := iI (f1 (61 + 5 * r + 0))) (rV (rest := []) hx hb hml hown hts hK hl (c_X5_its l g a f1 f2 f3 f4 f5 f6 f7 f8 f9 f10 f11 f12 f13 f20 f21 f22 f23 f24 f25 r 0 (show 0 ≤ 61 + 5 * r + 0 ∧ 61 + 5 * r + 0 < 101 from by omega)) lk_X5_63 hP (va_recv hK.1 hP (ci := 5) (q0 := 0) rfl rfl) rfl rfl rfl (Rm.of rfl) rfl rfl dX5_strideOf_14) ?_
  have hir3 : IR (f1 (61 + 5 * r + 0)) := ⟨by omega, by omega⟩
  rcases (show (f1 (61 + 5 * r + 0)) = 1 ∨ (f1 (61 + 5 * r + 0)) = 2 ∨ (f1 (61 + 5 * r + 0)) = 3 ∨ (f1 (61 + 5 * r + 0)) = 4 ∨ (f1 (61 + 5 * r + 0)) = 5 ∨ ((f1 (61 + 5 * r + 0)) < 1 ∨ 5 < (f1 (61 + 5 * r + 0))) by omega) with z3 | z3 | z3 | z3 | z3 | z3
  · refine lv_tableIn (tgt := 52) (off := 35) hx hb dX5_strideOf_17 (by rw [iI_toInt hir3, z3]; decide) (by rw [iI_toInt hir3, z3]; decide) (by rw [iI_toInt hir3, z3]; rfl) (by decide) ?_
    refine lv_iload_n hx hb dX5_strideOf_52 rfl (lv_at hl 0 rfl) ?_
    refine lv_iconst (v := iI (1)) hx hb dX5_strideOf_53 (by decide) ?_
    refine xi_add hx hb dX5_strideOf_54 ?_
    exact W.iret hx hb hr (fun t ht hW => ⟨_, rfl, congrArg iI (by first | (rw [st1 (by omega)]; done) | (rw [st1 (by omega)]; omega) | (rw [st2 (by omega)]; done) | (rw [st2 (by omega)]; omega) | (rw [st3 (by omega)]; rw [if_pos (by omega)]; done) | (rw [st3 (by omega)]; rw [if_neg (by omega)]; done) | (rw [st4 (by omega)]; done) | (rw [st4 (by omega)]; omega) | (rw [st5 (by omega)]; done) | (rw [st5 (by omega)]; omega) | (rw [st0 (by omega)]; done) | (rw [st0 (by omega)]; omega)), ht⟩) (fun q h => by cases h) dX5_strideOf_55
  · refine lv_tableIn (tgt := 56) (off := 39) hx hb dX5_strideOf_17 (by rw [iI_toInt hir3, z3]; decide) (by rw [iI_toInt hir3, z3]; decide) (by rw [iI_toInt hir3, z3]; rfl) (by decide) ?_
    refine lv_iload_n hx hb dX5_strideOf_56 rfl (lv_at hl 0 rfl) ?_
    refine lv_iconst (v := iI (2)) hx hb dX5_strideOf_57 (by decide) ?_
    refine xi_div hx hb ⟨by omega, by omega, by omega, by omega⟩ dX5_strideOf_58 ?_
    exact W.iret hx hb hr (fun t ht hW => ⟨_, rfl, congrArg iI (by first | (rw [st1 (by omega)]; done) | (rw [st1 (by omega)]; omega) | (rw [st2 (by omega)]; done) | (rw [st2 (by omega)]; omega) | (rw [st3 (by omega)]; rw [if_pos (by omega)]; done) | (rw [st3 (by omega)]; rw [if_neg (by omega)]; done) | (rw [st4 (by omega)]; done) | (rw [st4 (by omega)]; omega) | (rw [st5 (by omega)]; done) | (rw [st5 (by omega)]; omega) | (rw [st0 (by omega)]; done) | (rw [st0 (by omega)]; omega)), ht⟩) (fun q h => by cases h) dX5_strideOf_59
  · refine lv_tableIn (tgt := 60) (off := 43) hx hb dX5_strideOf_17 (by rw [iI_toInt hir3, z3]; decide) (by rw [iI_toInt hir3, z3]; decide) (by rw [iI_toInt hir3, z3]; rfl) (by decide) ?_
    refine lv_aload_n hx hb dX5_strideOf_60 rfl (lv_at hl 1 rfl) ?_
    refine xu_b (P := f1 0 % 4 < 2) (rV (rest := []) hx hb hml hown hts hK hl (c_X5_isSummer l g a f1 f2 f3 f4 f5 f6 f7 f8 f9 f10 f11 f12 f13 f20 f21 f22 f23 f24 f25 (show Inv f1 from h1)) lk_X5_105 hP (va_recv hK.1 hP (ci := 5) (q0 := 0) rfl rfl) rfl rfl rfl (Rm.of rfl) rfl rfl dX5_strideOf_61) (fun z4 => ?_) (fun z4 => ?_)
    · refine xi_zf_eq hx hb ⟨by decide, by decide⟩ (by decide) dX5_strideOf_64 ⟨71, by decide⟩ ?_
      refine lv_iload_n hx hb dX5_strideOf_67 rfl (lv_at hl 0 rfl) ?_
      refine lv_goto (tgt := 72) hx hb dX5_strideOf_68 (by decide) ?_
      exact W.iret hx hb hr (fun t ht hW => ⟨_, rfl, congrArg iI (by first | (rw [st1 (by omega)]; done) | (rw [st1 (by omega)]; omega) | (rw [st2 (by omega)]; done) | (rw [st2 (by omega)]; omega) | (rw [st3 (by omega)]; rw [if_pos (by omega)]; done) | (rw [st3 (by omega)]; rw [if_neg (by omega)]; done) | (rw [st4 (by omega)]; done) | (rw [st4 (by omega)]; omega) | (rw [st5 (by omega)]; done) | (rw [st5 (by omega)]; omega) | (rw [st0 (by omega)]; done) | (rw [st0 (by omega)]; omega)), ht⟩) (fun q h => by cases h) dX5_strideOf_72
    · refine xi_zt_eq (tgt := 71) hx hb ⟨by decide, by decide⟩ (by decide) dX5_strideOf_64 (by decide) ?_
      refine lv_iconst (v := iI (0)) hx hb dX5_strideOf_71 (by decide) ?_
      exact W.iret hx hb hr (fun t ht hW => ⟨_, rfl, congrArg iI (by first | (rw [st1 (by omega)]; done) | (rw [st1 (by omega)]; omega) | (rw [st2 (by omega)]; done) | (rw [st2 (by omega)]; omega) | (rw [st3 (by omega)]; rw [if_pos (by omega)]; done) | (rw [st3 (by omega)]; rw [if_neg (by omega)]; done) | (rw [st4 (by omega)]; done) | (rw [st4 (by omega)]; omega) | (rw [st5 (by omega)]; done) | (rw [st5 (by omega)]; omega) | (rw [st0 (by omega)]; done) | (rw [st0 (by omega)]; omega)), ht⟩) (fun q h => by cases h) dX5_strideOf_72
  · refine lv_tableIn (tgt := 73) (off := 56) hx hb dX5_strideOf_17 (by rw [iI_toInt hir3, z3]; decide) (by rw [iI_toInt hir3, z3]; decide) (by rw [iI_toInt hir3, z3]; rfl) (by decide) ?_
    refine lv_iload_n hx hb dX5_strideOf_73 rfl (lv_at hl 0 rfl) ?_
    refine lv_iconst (v := iI (1)) hx hb dX5_strideOf_74 (by decide) ?_
    refine xi_c_ge (tgt := 82) hx hb ⟨by omega, by omega⟩ ⟨by decide, by decide⟩ dX5_strideOf_75 (by decide) (fun z5 => ?_) (fun z5 => ?_)
    · refine lv_iload_n hx hb dX5_strideOf_82 rfl (lv_at hl 0 rfl) ?_
      refine lv_iconst (v := iI (1)) hx hb dX5_strideOf_83 (by decide) ?_
      refine xi_sub hx hb dX5_strideOf_84 ?_
      exact W.iret hx hb hr (fun t ht hW => ⟨_, rfl, congrArg iI (by first | (rw [st1 (by omega)]; done) | (rw [st1 (by omega)]; omega) | (rw [st2 (by omega)]; done) | (rw [st2 (by omega)]; omega) | (rw [st3 (by omega)]; rw [if_pos (by omega)]; done) | (rw [st3 (by omega)]; rw [if_neg (by omega)]; done) | (rw [st4 (by omega)]; done) | (rw [st4 (by omega)]; omega) | (rw [st5 (by omega)]; done) | (rw [st5 (by omega)]; omega) | (rw [st0 (by omega)]; done) | (rw [st0 (by omega)]; omega)), ht⟩) (fun q h => by cases h) dX5_strideOf_85
    · refine lv_iconst (v := iI (0)) hx hb dX5_strideOf_78 (by decide) ?_
      refine lv_goto (tgt := 85) hx hb dX5_strideOf_79 (by decide) ?_
      exact W.iret hx hb hr (fun t ht hW => ⟨_, rfl, congrArg iI (by first | (rw [st1 (by omega)]; done) | (rw [st1 (by omega)]; omega) | (rw [st2 (by omega)]; done) | (rw [st2 (by omega)]; omega) | (rw [st3 (by omega)]; rw [if_pos (by omega)]; done) | (rw [st3 (by omega)]; rw [if_neg (by omega)]; done) | (rw [st4 (by omega)]; done) | (rw [st4 (by omega)]; omega) | (rw [st5 (by omega)]; done) | (rw [st5 (by omega)]; omega) | (rw [st0 (by omega)]; done) | (rw [st0 (by omega)]; omega)), ht⟩) (fun q h => by cases h) dX5_strideOf_85
  · refine lv_tableIn (tgt := 86) (off := 69) hx hb dX5_strideOf_17 (by rw [iI_toInt hir3, z3]; decide) (by rw [iI_toInt hir3, z3]; decide) (by rw [iI_toInt hir3, z3]; rfl) (by decide) ?_
    refine lv_iload_n hx hb dX5_strideOf_86 rfl (lv_at hl 0 rfl) ?_
    refine lv_iconst (v := iI (2)) hx hb dX5_strideOf_87 (by decide) ?_
    refine xi_div hx hb ⟨by omega, by omega, by omega, by omega⟩ dX5_strideOf_88 ?_
    refine lv_aload_n hx hb dX5_strideOf_89 rfl (lv_at hl 1 rfl) ?_
    refine xu_i (x := iI (twins f1)) (rV (rest := [.int (iI ((2 + ((f1 (61 + 5 * r + 2)) / 3)) / 2))]) hx hb hml hown hts hK hl (c_X5_twins l g a f1 f2 f3 f4 f5 f6 f7 f8 f9 f10 f11 f12 f13 f20 f21 f22 f23 f24 f25 (show Inv f1 from h1)) lk_X5_109 hP (va_recv hK.1 hP (ci := 5) (q0 := 0) rfl rfl) rfl rfl rfl (Rm.of rfl) rfl rfl dX5_strideOf_90) ?_
    refine xi_add hx hb dX5_strideOf_93 ?_
    refine lv_iconst (v := iI (1)) hx hb dX5_strideOf_94 (by decide) ?_
    refine xi_sub hx hb dX5_strideOf_95 ?_
    exact W.iret hx hb hr (fun t ht hW => ⟨_, rfl, congrArg iI (by first | (rw [st1 (by omega)]; done) | (rw [st1 (by omega)]; omega) | (rw [st2 (by omega)]; done) | (rw [st2 (by omega)]; omega) | (rw [st3 (by omega)]; rw [if_pos (by omega)]; done) | (rw [st3 (by omega)]; rw [if_neg (by omega)]; done) | (rw [st4 (by omega)]; done) | (rw [st4 (by omega)]; omega) | (rw [st5 (by omega)]; done) | (rw [st5 (by omega)]; omega) | (rw [st0 (by omega)]; done) | (rw [st0 (by omega)]; omega)), ht⟩) (fun q h => by cases h) dX5_strideOf_96
  · refine lv_tableOut (tgt := 97) hx hb dX5_strideOf_17 (by rw [iI_toInt hir3]; exact z3) (by decide) ?_
    refine lv_iload_n hx hb dX5_strideOf_97 rfl (lv_at hl 0 rfl) ?_
    exact W.iret hx hb hr (fun t ht hW => ⟨_, rfl, congrArg iI (by first | (rw [st1 (by omega)]; done) | (rw [st1 (by omega)]; omega) | (rw [st2 (by omega)]; done) | (rw [st2 (by omega)]; omega) | (rw [st3 (by omega)]; rw [if_pos (by omega)]; done) | (rw [st3 (by omega)]; rw [if_neg (by omega)]; done) | (rw [st4 (by omega)]; done) | (rw [st4 (by omega)]; omega) | (rw [st5 (by omega)]; done) | (rw [st5 (by omega)]; omega) | (rw [st0 (by omega)]; done) | (rw [st0 (by omega)]; omega)), ht⟩) (fun q h => by cases h) dX5_strideOf_98
abbrev rm_X5_valueOf : Room := { frames := 2, cells := 0, slots := 0, locals := 43 }
set_option maxRecDepth 100000 in
set_option maxHeartbeats 4000000 in
theorem c_X5_valueOf (l : Launch) (g : Gd) (a : Nat → Nat) (f1 : Int → Int) (f2 : Int → Int) (f3 : Int → Int) (f4 : Int → Int) (f5 : Int → Int) (f6 : Int → Int) (f7 : Int → Int) (f8 : Int → Int) (f9 : Int → Int) (f10 : Int → Int) (f11 : Int → Int) (f12 : Int → Int) (f13 : Int → Int) (f20 : Int) (f21 : Int) (f22 : Int) (f23 : Int) (f24 : Int) (f25 : Int) (r : Int) (h1 : 0 ≤ r ∧ r < 8) : Met l yX5_valueOf (wsOf yX5_valueOf cX5_valueOf 2 (some .int)) rm_X5_valueOf (PX g (va_P g.1 vwCl (wM g a f1 f2 f3 f4 f5 f6 f7 f8 f9 f10 f11 f12 f13 f20 f21 f22 f23 f24 f25)) [.ref (a 0), .int (iI r)]) (vp_Si (fun r9 => r9 = iI (val f1 r))) 0 0 (fun _ => False) := by
  refine me (g := g) (by decide) rfl ?_
  intro pq eq s mq below meth cq C hnm hB ls hl
  obtain ⟨hx, hb, hr, hml, hown, hts, hlocks, hK⟩ := C
  have hown : s.vm.findClass RX5 = some mq.cls := hown
  have hl : lv_has ls 2 [(0, .ref (a 0)), (1, .int (iI r))] := hl
  have hP : va_P g.1 vwCl (wM g a f1 f2 f3 f4 f5 f6 f7 f8 f9 f10 f11 f12 f13 f20 f21 f22 f23 f24 f25) s.heap := hB
  refine lv_iload_n hx hb dX5_valueOf_0 rfl (lv_at hl 1 rfl) ?_
  refine lv_aload_n hx hb dX5_valueOf_1 rfl (lv_at hl 0 rfl) ?_
  refine xg_X5 hx hb hts hown hK hP 0 rfl 0 (by decide) fk_X5_7 (v := .ref (a 1)) rfl dX5_valueOf_2 ?_
  refine lv_iconst (v := iI (3)) hx hb dX5_valueOf_5 (by decide) ?_
  refine xi_ald hx hb hK hP 1 (f := f1) rfl (i := 3) ⟨by omega, by omega⟩ rfl dX5_valueOf_6 ?_
  refine xi_mul hx hb dX5_valueOf_7 ?_
  refine lv_aload_n hx hb dX5_valueOf_8 rfl (lv_at hl 0 rfl) ?_
  refine lv_iload_n hx hb dX5_valueOf_9 rfl (lv_at hl 1 rfl) ?_
  refine lv_iconst (v := iI (2)) hx hb dX5_valueOf_10 (by decide) ?_
  refine xu_i (x := iI (f1 (61 + 5 * r + 2))) (rV (rest := [.int (iI (r * (f1 3)))]) hx hb hml hown hts hK hl (c_X5_its l g a f1 f2 f3 f4 f5 f6 f7 f8 f9 f10 f11 f12 f13 f20 f21 f22 f23 f24 f25 r 2 (show 0 ≤ 61 + 5 * r + 2 ∧ 61 + 5 * r + 2 < 101 from by omega)) lk_X5_63 hP (va_recv hK.1 hP (ci := 5) (q0 := 0) rfl rfl) rfl rfl rfl (Rm.of rfl) rfl rfl dX5_valueOf_11) ?_
  refine lv_aload_n hx hb dX5_valueOf_14 rfl (lv_at hl 0 rfl) ?_
  refine xg_X5 hx hb hts hown hK hP 0 rfl 0 (by decide) fk_X5_7 (v := .ref (a 1)) rfl dX5_valueOf_15 ?_
  refine lv_iconst (v := iI (4)) hx hb dX5_valueOf_18 (by decide) ?_
  refine xi_ald hx hb hK hP 1 (f := f1) rfl (i := 4) ⟨by omega, by omega⟩ rfl dX5_valueOf_19 ?_
  refine xi_mul hx hb dX5_valueOf_20 ?_
  refine xi_add hx hb dX5_valueOf_21 ?_
  refine lv_aload_n hx hb dX5_valueOf_22 rfl (lv_at hl 0 rfl) ?_
  refine lv_iload_n hx hb dX5_valueOf_23 rfl (lv_at hl 1 rfl) ?_
  refine lv_iconst (v := iI (3)) hx hb dX5_valueOf_24 (by decide) ?_
  refine xu_i (x := iI (f1 (61 + 5 * r + 3))) (rV (rest := [.int (iI (r * (f1 3) + ((f1 (61 + 5 * r + 2)) * (f1 4))))]) hx hb hml hown hts hK hl (c_X5_its l g a f1 f2 f3 f4 f5 f6 f7 f8 f9 f10 f11 f12 f13 f20 f21 f22 f23 f24 f25 r 3 (show 0 ≤ 61 + 5 * r + 3 ∧ 61 + 5 * r + 3 < 101 from by omega)) lk_X5_63 hP (va_recv hK.1 hP (ci := 5) (q0 := 0) rfl rfl) rfl rfl rfl (Rm.of rfl) rfl rfl dX5_valueOf_25) ?_
  refine lv_aload_n hx hb dX5_valueOf_28 rfl (lv_at hl 0 rfl) ?_
  refine xg_X5 hx hb hts hown hK hP 0 rfl 0 (by decide) fk_X5_7 (v := .ref (a 1)) rfl dX5_valueOf_29 ?_
  refine lv_iconst (v := iI (5)) hx hb dX5_valueOf_32 (by decide) ?_
  refine xi_ald hx hb hK hP 1 (f := f1) rfl (i := 5) ⟨by omega, by omega⟩ rfl dX5_valueOf_33 ?_
  refine xi_mul hx hb dX5_valueOf_34 ?_
  refine xi_add hx hb dX5_valueOf_35 ?_
  refine lv_aload_n hx hb dX5_valueOf_36 rfl (lv_at hl 0 rfl) ?_
  refine lv_iload_n hx hb dX5_valueOf_37 rfl (lv_at hl 1 rfl) ?_
  refine lv_iconst (v := iI (1)) hx hb dX5_valueOf_38 (by decide) ?_
  refine xu_i (x := iI (f1 (61 + 5 * r + 1))) (rV (rest := [.int (iI (r * (f1 3) + ((f1 (61 + 5 * r + 2)) * (f1 4)) + ((f1 (61 + 5 * r + 3)) * (f1 5))))]) hx hb hml hown hts hK hl (c_X5_its l g a f1 f2 f3 f4 f5 f6 f7 f8 f9 f10 f11 f12 f13 f20 f21 f22 f23 f24 f25 r 1 (show 0 ≤ 61 + 5 * r + 1 ∧ 61 + 5 * r + 1 < 101 from by omega)) lk_X5_63 hP (va_recv hK.1 hP (ci := 5) (q0 := 0) rfl rfl) rfl rfl rfl (Rm.of rfl) rfl rfl dX5_valueOf_39) ?_
  refine lv_aload_n hx hb dX5_valueOf_42 rfl (lv_at hl 0 rfl) ?_
  refine xg_X5 hx hb hts hown hK hP 0 rfl 0 (by decide) fk_X5_7 (v := .ref (a 1)) rfl dX5_valueOf_43 ?_
  refine lv_bipush (v := iI (6)) hx hb dX5_valueOf_46 (by decide) ?_
  refine xi_ald hx hb hK hP 1 (f := f1) rfl (i := 6) ⟨by omega, by omega⟩ rfl dX5_valueOf_48 ?_
  refine xi_mul hx hb dX5_valueOf_49 ?_
  refine xi_add hx hb dX5_valueOf_50 ?_
  exact W.iret hx hb hr (fun t ht hW => ⟨_, rfl, rfl, ht⟩) (fun q h => by cases h) dX5_valueOf_51
abbrev rm_X5_goesFirst : Room := { frames := 3, cells := 0, slots := 0, locals := 64 }
set_option maxRecDepth 100000 in
set_option maxHeartbeats 4000000 in
theorem c_X5_goesFirst (l : Launch) (g : Gd) (a : Nat → Nat) (f1 : Int → Int) (f2 : Int → Int) (f3 : Int → Int) (f4 : Int → Int) (f5 : Int → Int) (f6 : Int → Int) (f7 : Int → Int) (f8 : Int → Int) (f9 : Int → Int) (f10 : Int → Int) (f11 : Int → Int) (f12 : Int → Int) (f13 : Int → Int) (f20 : Int) (f21 : Int) (f22 : Int) (f23 : Int) (f24 : Int) (f25 : Int) (r : Int) (q : Int) (h1 : Inv f1) (h2 : 0 ≤ r ∧ r < f1 1) (h3 : 0 ≤ q ∧ q < f1 1) : Met l yX5_goesFirst (wsOf yX5_goesFirst cX5_goesFirst 3 (some .boolean)) rm_X5_goesFirst (PX g (va_P g.1 vwCl (wM g a f1 f2 f3 f4 f5 f6 f7 f8 f9 f10 f11 f12 f13 f20 f21 f22 f23 f24 f25)) [.ref (a 0), .int (iI r), .int (iI q)]) (vp_Si (fun r9 => r9 = iI (bI (gf f1 r q)))) 0 0 (fun _ => False) := by
  refine me (g := g) (by decide) rfl ?_
  intro pq eq s mq below meth cq C hnm hB ls hl
  obtain ⟨hx, hb, hr, hml, hown, hts, hlocks, hK⟩ := C
  have hown : s.vm.findClass RX5 = some mq.cls := hown
  have hl : lv_has ls 3 [(0, .ref (a 0)), (1, .int (iI r)), (2, .int (iI q))] := hl
  have hP : va_P g.1 vwCl (wM g a f1 f2 f3 f4 f5 f6 f7 f8 f9 f10 f11 f12 f13 f20 f21 f22 f23 f24 f25) s.heap := hB
  have hI := h1
  have hn := hI.num
  have hs := hI.sea
  have b1 := val_b hI h2.1 h2.2
  have b2 := val_b hI h3.1 h3.2
  refine lv_aload_n hx hb dX5_goesFirst_0 rfl (lv_at hl 0 rfl) ?_
  refine lv_iload_n hx hb dX5_goesFirst_1 rfl (lv_at hl 1 rfl) ?_
  refine xu_i (x := iI (val f1 r)) (rV (rest := []) hx hb hml hown hts hK hl (c_X5_valueOf l g a f1 f2 f3 f4 f5 f6 f7 f8 f9 f10 f11 f12 f13 f20 f21 f22 f23 f24 f25 r (show 0 ≤ r ∧ r < 8 from by omega)) lk_X5_113 hP (va_recv hK.1 hP (ci := 5) (q0 := 0) rfl rfl) rfl rfl rfl (Rm.of rfl) rfl rfl dX5_goesFirst_2) ?_
  refine lv_aload_n hx hb dX5_goesFirst_5 rfl (lv_at hl 0 rfl) ?_
  refine lv_iload_n hx hb dX5_goesFirst_6 rfl (lv_at hl 2 rfl) ?_
  refine xu_i (x := iI (val f1 q)) (rV (rest := [.int (iI (val f1 r))]) hx hb hml hown hts hK hl (c_X5_valueOf l g a f1 f2 f3 f4 f5 f6 f7 f8 f9 f10 f11 f12 f13 f20 f21 f22 f23 f24 f25 q (show 0 ≤ q ∧ q < 8 from by omega)) lk_X5_113 hP (va_recv hK.1 hP (ci := 5) (q0 := 0) rfl rfl) rfl rfl rfl (Rm.of rfl) rfl rfl dX5_goesFirst_7) ?_
  refine xi_c_lt (tgt := 31) hx hb ⟨by omega, by omega⟩ ⟨by omega, by omega⟩ dX5_goesFirst_10 (by decide) (fun z3 => ?_) (fun z3 => ?_)
  · refine lv_iconst (v := iI (1)) hx hb dX5_goesFirst_31 (by decide) ?_
    refine lv_goto (tgt := 36) hx hb dX5_goesFirst_32 (by decide) ?_
    exact W.zret hx hb hr (by decide) (fun t ht hW => ⟨_, rfl, by rw [bI_t (by omega)], ht⟩) (fun q h => by cases h) dX5_goesFirst_36
  · refine lv_aload_n hx hb dX5_goesFirst_13 rfl (lv_at hl 0 rfl) ?_
    refine lv_iload_n hx hb dX5_goesFirst_14 rfl (lv_at hl 1 rfl) ?_
    refine xu_i (x := iI (val f1 r)) (rV (rest := []) hx hb hml hown hts hK hl (c_X5_valueOf l g a f1 f2 f3 f4 f5 f6 f7 f8 f9 f10 f11 f12 f13 f20 f21 f22 f23 f24 f25 r (show 0 ≤ r ∧ r < 8 from by omega)) lk_X5_113 hP (va_recv hK.1 hP (ci := 5) (q0 := 0) rfl rfl) rfl rfl rfl (Rm.of rfl) rfl rfl dX5_goesFirst_15) ?_
    refine lv_aload_n hx hb dX5_goesFirst_18 rfl (lv_at hl 0 rfl) ?_
    refine lv_iload_n hx hb dX5_goesFirst_19 rfl (lv_at hl 2 rfl) ?_
    refine xu_i (x := iI (val f1 q)) (rV (rest := [.int (iI (val f1 r))]) hx hb hml hown hts hK hl (c_X5_valueOf l g a f1 f2 f3 f4 f5 f6 f7 f8 f9 f10 f11 f12 f13 f20 f21 f22 f23 f24 f25 q (show 0 ≤ q ∧ q < 8 from by omega)) lk_X5_113 hP (va_recv hK.1 hP (ci := 5) (q0 := 0) rfl rfl) rfl rfl rfl (Rm.of rfl) rfl rfl dX5_goesFirst_20) ?_
    refine xi_c_ne (tgt := 35) hx hb ⟨by omega, by omega⟩ ⟨by omega, by omega⟩ dX5_goesFirst_23 (by decide) (fun z6 => ?_) (fun z6 => ?_)
    · refine lv_iconst (v := iI (0)) hx hb dX5_goesFirst_35 (by decide) ?_
      exact W.zret hx hb hr (by decide) (fun t ht hW => ⟨_, rfl, by rw [bI_f (by omega)], ht⟩) (fun q h => by cases h) dX5_goesFirst_36
    · refine lv_iload_n hx hb dX5_goesFirst_26 rfl (lv_at hl 1 rfl) ?_
      refine lv_iload_n hx hb dX5_goesFirst_27 rfl (lv_at hl 2 rfl) ?_
      refine xi_c_ge (tgt := 35) hx hb ⟨by omega, by omega⟩ ⟨by omega, by omega⟩ dX5_goesFirst_28 (by decide) (fun z7 => ?_) (fun z7 => ?_)
      · refine lv_iconst (v := iI (0)) hx hb dX5_goesFirst_35 (by decide) ?_
        exact W.zret hx hb hr (by decide) (fun t ht hW => ⟨_, rfl, by rw [bI_f (by omega)], ht⟩) (fun q h => by cases h) dX5_goesFirst_36
      · refine lv_iconst (v := iI (1)) hx hb dX5_goesFirst_31 (by decide) ?_
        refine lv_goto (tgt := 36) hx hb dX5_goesFirst_32 (by decide) ?_
        exact W.zret hx hb hr (by decide) (fun t ht hW => ⟨_, rfl, by rw [bI_t (by omega)], ht⟩) (fun q h => by cases h) dX5_goesFirst_36
abbrev rm_X5_rightAhead : Room := { frames := 4, cells := 0, slots := 0, locals := 86 }
set_option maxRecDepth 100000 in
set_option maxHeartbeats 4000000 in
theorem c_X5_rightAhead (l : Launch) (g : Gd) (a : Nat → Nat) (f1 : Int → Int) (f2 : Int → Int) (f3 : Int → Int) (f4 : Int → Int) (f5 : Int → Int) (f6 : Int → Int) (f7 : Int → Int) (f8 : Int → Int) (f9 : Int → Int) (f10 : Int → Int) (f11 : Int → Int) (f12 : Int → Int) (f13 : Int → Int) (f20 : Int) (f21 : Int) (f22 : Int) (f23 : Int) (f24 : Int) (f25 : Int) (q : Int) (h1 : Inv f1) (h2 : 0 ≤ q ∧ q < f1 1) : Met l yX5_rightAhead (wsOf yX5_rightAhead cX5_rightAhead 4 (some .int)) rm_X5_rightAhead (PX g (va_P g.1 vwCl (wM g a f1 f2 f3 f4 f5 f6 f7 f8 f9 f10 f11 f12 f13 f20 f21 f22 f23 f24 f25)) [.ref (a 0), .int (iI q)]) (vp_Si (fun r9 => r9 = iI (raT f1 q (f1 1).toNat))) 0 0 (fun _ => False) := by
  refine me (g := g) (by decide) rfl ?_
  intro pq eq s mq below meth cq C hnm hB ls hl
  obtain ⟨hx, hb, hr, hml, hown, hts, hlocks, hK⟩ := C
  have hown : s.vm.findClass RX5 = some mq.cls := hown
  have hl : lv_has ls 4 [(0, .ref (a 0)), (1, .int (iI q))] := hl
  have hP : va_P g.1 vwCl (wM g a f1 f2 f3 f4 f5 f6 f7 f8 f9 f10 f11 f12 f13 f20 f21 f22 f23 f24 f25) s.heap := hB
  have hI := h1
  have hn := hI.num
  have hs := hI.sea
  refine lv_iconst (v := iI (-1)) hx hb dX5_rightAhead_0 (by decide) ?_
  refine lv_istore_n (lv' := [(2, .int (iI (-1))), (0, .ref (a 0)), (1, .int (iI q))]) hx hb dX5_rightAhead_1 rfl hl (by decide) rfl (fun ls hl => ?_)
  refine lv_iconst (v := iI (0)) hx hb dX5_rightAhead_2 (by decide) ?_
  refine lv_istore_n (lv' := [(3, .int (iI 0)), (2, .int (iI (-1))), (0, .ref (a 0)), (1, .int (iI q))]) hx hb dX5_rightAhead_3 rfl hl (by decide) rfl (fun ls hl => ?_)
  have lp4 : ∀ (n4 : Nat) (k : Nat), ((k : Int) ≤ f1 1) → 8 - k < n4 → ∀ ls : Array Slot, lv_has ls 4 [(3, .int (iI (k : Int))), (2, .int (iI (raT f1 q k))), (0, .ref (a 0)), (1, .int (iI q))] → W pq l eq rm_X5_rightAhead s mq [.ref (a 0), .int (iI q)].toArray below meth cq s.heap [] 0 0 (MQ below (vp_Si (fun r9 => r9 = iI (raT f1 q (f1 1).toNat))) [.ref (a 0), .int (iI q)].toArray s 0 0 (fun _ => False)) (F0 mq 4 ls []) := by
    intro n4
    induction n4 with
    | zero => intro k i4_1 hm; exact absurd hm (Nat.not_lt_zero _)
    | succ n4 ih4 =>
      intro k i4_1 hm4 ls hl
      have hb7 := raT_b f1 q k
      refine lv_iload_n hx hb dX5_rightAhead_4 rfl (lv_at hl 0 rfl) ?_
      refine lv_aload_n hx hb dX5_rightAhead_5 rfl (lv_at hl 2 rfl) ?_
      refine xg_X5 hx hb hts hown hK hP 0 rfl 0 (by decide) fk_X5_7 (v := .ref (a 1)) rfl dX5_rightAhead_6 ?_
      refine lv_iconst (v := iI (1)) hx hb dX5_rightAhead_9 (by decide) ?_
      refine xi_ald hx hb hK hP 1 (f := f1) rfl (i := 1) ⟨by omega, by omega⟩ rfl dX5_rightAhead_10 ?_
      refine xi_c_ge (tgt := 53) hx hb ⟨by omega, by omega⟩ ⟨by omega, by omega⟩ dX5_rightAhead_11 (by decide) (fun z1 => ?_) (fun z1 => ?_)
      · refine lv_iload_n hx hb dX5_rightAhead_53 rfl (lv_at hl 1 rfl) ?_
        exact W.iret hx hb hr (fun t ht hW => ⟨_, rfl, congrArg (fun z => iI (raT f1 q z)) (show k = (f1 1).toNat by omega), ht⟩) (fun q h => by cases h) dX5_rightAhead_54
      · refine lv_iload_n hx hb dX5_rightAhead_14 rfl (lv_at hl 0 rfl) ?_
        refine lv_iload_n hx hb dX5_rightAhead_15 rfl (lv_at hl 3 rfl) ?_
        refine xi_c_eq (tgt := 45) hx hb ⟨by omega, by omega⟩ ⟨by omega, by omega⟩ dX5_rightAhead_16 (by decide) (fun z2 => ?_) (fun z2 => ?_)
        · refine lv_iload_n hx hb dX5_rightAhead_45 rfl (lv_at hl 1 rfl) ?_
          refine lv_istore_n (lv' := [(2, .int (iI (raT f1 q k))), (3, .int (iI (k : Int))), (0, .ref (a 0)), (1, .int (iI q))]) hx hb dX5_rightAhead_46 rfl hl (by decide) rfl (fun ls hl => ?_)
          refine xi_inc (lv' := [(3, .int (iI ((k : Int) + 1))), (2, .int (iI (raT f1 q k))), (0, .ref (a 0)), (1, .int (iI q))]) hx hb dX5_rightAhead_47 hl (k := 1) rfl (by decide) rfl (fun ls hl => ?_)
          refine lv_goto (tgt := 4) hx hb dX5_rightAhead_50 (by decide) ?_
          have hq3 : ((k : Int) + 1) = ((k + 1) : Int) := by omega
          have hq4 : (raT f1 q k) = (raT f1 q (k + 1)) := by first | (simp only [raT]; rw [if_pos (by omega)]) | (simp only [raT]; rw [if_neg (by omega)])
          have hl : lv_has ls 4 [(3, .int (iI ((k : Int) + 1))), (2, .int (iI (raT f1 q k))), (0, .ref (a 0)), (1, .int (iI q))] := lv_sub hl [0, 1, 2, 3] rfl
          have hl := Eq.mp (congrArg (fun z9 => lv_has ls 4 [(3, .int (iI z9)), (2, .int (iI (raT f1 q k))), (0, .ref (a 0)), (1, .int (iI q))]) hq3) hl
          have hl := Eq.mp (congrArg (fun z9 => lv_has ls 4 [(3, .int (iI ((k + 1) : Int))), (2, .int (iI z9)), (0, .ref (a 0)), (1, .int (iI q))]) hq4) hl
          exact ih4 (k + 1) (by omega) (by omega) ls hl
        · refine lv_aload_n hx hb dX5_rightAhead_19 rfl (lv_at hl 2 rfl) ?_
          refine lv_iload_n hx hb dX5_rightAhead_20 rfl (lv_at hl 0 rfl) ?_
          refine lv_iload_n hx hb dX5_rightAhead_21 rfl (lv_at hl 3 rfl) ?_
          refine xu_b (P := gf f1 (k : Int) q) (rV (rest := []) hx hb hml hown hts hK hl (c_X5_goesFirst l g a f1 f2 f3 f4 f5 f6 f7 f8 f9 f10 f11 f12 f13 f20 f21 f22 f23 f24 f25 (k : Int) q (show Inv f1 from h1) (show 0 ≤ (k : Int) ∧ (k : Int) < f1 1 from by omega) (show 0 ≤ q ∧ q < f1 1 from by omega)) lk_X5_116 hP (va_recv hK.1 hP (ci := 5) (q0 := 0) rfl rfl) rfl rfl rfl (Rm.of rfl) rfl rfl dX5_rightAhead_22) (fun z5 => ?_) (fun z5 => ?_)
          · refine xi_zf_eq hx hb ⟨by decide, by decide⟩ (by decide) dX5_rightAhead_25 ⟨45, by decide⟩ ?_
            refine lv_iload_n hx hb dX5_rightAhead_28 rfl (lv_at hl 1 rfl) ?_
            refine xi_z_lt (tgt := 41) hx hb ⟨by omega, by omega⟩ dX5_rightAhead_29 (by decide) (fun z6 => ?_) (fun z6 => ?_)
            · refine lv_iload_n hx hb dX5_rightAhead_41 rfl (lv_at hl 0 rfl) ?_
              refine lv_goto (tgt := 46) hx hb dX5_rightAhead_42 (by decide) ?_
              refine lv_istore_n (lv' := [(2, .int (iI (k : Int))), (3, .int (iI (k : Int))), (0, .ref (a 0)), (1, .int (iI q))]) hx hb dX5_rightAhead_46 rfl hl (by decide) rfl (fun ls hl => ?_)
              refine xi_inc (lv' := [(3, .int (iI ((k : Int) + 1))), (2, .int (iI (k : Int))), (0, .ref (a 0)), (1, .int (iI q))]) hx hb dX5_rightAhead_47 hl (k := 1) rfl (by decide) rfl (fun ls hl => ?_)
              refine lv_goto (tgt := 4) hx hb dX5_rightAhead_50 (by decide) ?_
              have hq7 : ((k : Int) + 1) = ((k + 1) : Int) := by omega
              have hq8 : (k : Int) = (raT f1 q (k + 1)) := by first | (simp only [raT]; rw [if_pos (by omega)]) | (simp only [raT]; rw [if_neg (by omega)])
              have hl : lv_has ls 4 [(3, .int (iI ((k : Int) + 1))), (2, .int (iI (k : Int))), (0, .ref (a 0)), (1, .int (iI q))] := lv_sub hl [0, 1, 2, 3] rfl
              have hl := Eq.mp (congrArg (fun z9 => lv_has ls 4 [(3, .int (iI z9)), (2, .int (iI (k : Int))), (0, .ref (a 0)), (1, .int (iI q))]) hq7) hl
              have hl := Eq.mp (congrArg (fun z9 => lv_has ls 4 [(3, .int (iI ((k + 1) : Int))), (2, .int (iI z9)), (0, .ref (a 0)), (1, .int (iI q))]) hq8) hl
              exact ih4 (k + 1) (by omega) (by omega) ls hl
            · refine lv_aload_n hx hb dX5_rightAhead_32 rfl (lv_at hl 2 rfl) ?_
              refine lv_iload_n hx hb dX5_rightAhead_33 rfl (lv_at hl 1 rfl) ?_
              refine lv_iload_n hx hb dX5_rightAhead_34 rfl (lv_at hl 0 rfl) ?_
              refine xu_b (P := gf f1 (raT f1 q k) (k : Int)) (rV (rest := []) hx hb hml hown hts hK hl (c_X5_goesFirst l g a f1 f2 f3 f4 f5 f6 f7 f8 f9 f10 f11 f12 f13 f20 f21 f22 f23 f24 f25 (raT f1 q k) (k : Int) (show Inv f1 from h1) (show 0 ≤ (raT f1 q k) ∧ (raT f1 q k) < f1 1 from by omega) (show 0 ≤ (k : Int) ∧ (k : Int) < f1 1 from by omega)) lk_X5_116 hP (va_recv hK.1 hP (ci := 5) (q0 := 0) rfl rfl) rfl rfl rfl (Rm.of rfl) rfl rfl dX5_rightAhead_35) (fun z9 => ?_) (fun z9 => ?_)
              · refine xi_zf_eq hx hb ⟨by decide, by decide⟩ (by decide) dX5_rightAhead_38 ⟨45, by decide⟩ ?_
                refine lv_iload_n hx hb dX5_rightAhead_41 rfl (lv_at hl 0 rfl) ?_
                refine lv_goto (tgt := 46) hx hb dX5_rightAhead_42 (by decide) ?_
                refine lv_istore_n (lv' := [(2, .int (iI (k : Int))), (3, .int (iI (k : Int))), (0, .ref (a 0)), (1, .int (iI q))]) hx hb dX5_rightAhead_46 rfl hl (by decide) rfl (fun ls hl => ?_)
                refine xi_inc (lv' := [(3, .int (iI ((k : Int) + 1))), (2, .int (iI (k : Int))), (0, .ref (a 0)), (1, .int (iI q))]) hx hb dX5_rightAhead_47 hl (k := 1) rfl (by decide) rfl (fun ls hl => ?_)
                refine lv_goto (tgt := 4) hx hb dX5_rightAhead_50 (by decide) ?_
                have hq10 : ((k : Int) + 1) = ((k + 1) : Int) := by omega
                have hq11 : (k : Int) = (raT f1 q (k + 1)) := by first | (simp only [raT]; rw [if_pos (by omega)]) | (simp only [raT]; rw [if_neg (by omega)])
                have hl : lv_has ls 4 [(3, .int (iI ((k : Int) + 1))), (2, .int (iI (k : Int))), (0, .ref (a 0)), (1, .int (iI q))] := lv_sub hl [0, 1, 2, 3] rfl
                have hl := Eq.mp (congrArg (fun z9 => lv_has ls 4 [(3, .int (iI z9)), (2, .int (iI (k : Int))), (0, .ref (a 0)), (1, .int (iI q))]) hq10) hl
                have hl := Eq.mp (congrArg (fun z9 => lv_has ls 4 [(3, .int (iI ((k + 1) : Int))), (2, .int (iI z9)), (0, .ref (a 0)), (1, .int (iI q))]) hq11) hl
                exact ih4 (k + 1) (by omega) (by omega) ls hl
              · refine xi_zt_eq (tgt := 45) hx hb ⟨by decide, by decide⟩ (by decide) dX5_rightAhead_38 (by decide) ?_
                refine lv_iload_n hx hb dX5_rightAhead_45 rfl (lv_at hl 1 rfl) ?_
                refine lv_istore_n (lv' := [(2, .int (iI (raT f1 q k))), (3, .int (iI (k : Int))), (0, .ref (a 0)), (1, .int (iI q))]) hx hb dX5_rightAhead_46 rfl hl (by decide) rfl (fun ls hl => ?_)
                refine xi_inc (lv' := [(3, .int (iI ((k : Int) + 1))), (2, .int (iI (raT f1 q k))), (0, .ref (a 0)), (1, .int (iI q))]) hx hb dX5_rightAhead_47 hl (k := 1) rfl (by decide) rfl (fun ls hl => ?_)
                refine lv_goto (tgt := 4) hx hb dX5_rightAhead_50 (by decide) ?_
                have hq12 : ((k : Int) + 1) = ((k + 1) : Int) := by omega
                have hq13 : (raT f1 q k) = (raT f1 q (k + 1)) := by first | (simp only [raT]; rw [if_pos (by omega)]) | (simp only [raT]; rw [if_neg (by omega)])
                have hl : lv_has ls 4 [(3, .int (iI ((k : Int) + 1))), (2, .int (iI (raT f1 q k))), (0, .ref (a 0)), (1, .int (iI q))] := lv_sub hl [0, 1, 2, 3] rfl
                have hl := Eq.mp (congrArg (fun z9 => lv_has ls 4 [(3, .int (iI z9)), (2, .int (iI (raT f1 q k))), (0, .ref (a 0)), (1, .int (iI q))]) hq12) hl
                have hl := Eq.mp (congrArg (fun z9 => lv_has ls 4 [(3, .int (iI ((k + 1) : Int))), (2, .int (iI z9)), (0, .ref (a 0)), (1, .int (iI q))]) hq13) hl
                exact ih4 (k + 1) (by omega) (by omega) ls hl
          · refine xi_zt_eq (tgt := 45) hx hb ⟨by decide, by decide⟩ (by decide) dX5_rightAhead_25 (by decide) ?_
            refine lv_iload_n hx hb dX5_rightAhead_45 rfl (lv_at hl 1 rfl) ?_
            refine lv_istore_n (lv' := [(2, .int (iI (raT f1 q k))), (3, .int (iI (k : Int))), (0, .ref (a 0)), (1, .int (iI q))]) hx hb dX5_rightAhead_46 rfl hl (by decide) rfl (fun ls hl => ?_)
            refine xi_inc (lv' := [(3, .int (iI ((k : Int) + 1))), (2, .int (iI (raT f1 q k))), (0, .ref (a 0)), (1, .int (iI q))]) hx hb dX5_rightAhead_47 hl (k := 1) rfl (by decide) rfl (fun ls hl => ?_)
            refine lv_goto (tgt := 4) hx hb dX5_rightAhead_50 (by decide) ?_
            have hq14 : ((k : Int) + 1) = ((k + 1) : Int) := by omega
            have hq15 : (raT f1 q k) = (raT f1 q (k + 1)) := by first | (simp only [raT]; rw [if_pos (by omega)]) | (simp only [raT]; rw [if_neg (by omega)])
            have hl : lv_has ls 4 [(3, .int (iI ((k : Int) + 1))), (2, .int (iI (raT f1 q k))), (0, .ref (a 0)), (1, .int (iI q))] := lv_sub hl [0, 1, 2, 3] rfl
            have hl := Eq.mp (congrArg (fun z9 => lv_has ls 4 [(3, .int (iI z9)), (2, .int (iI (raT f1 q k))), (0, .ref (a 0)), (1, .int (iI q))]) hq14) hl
            have hl := Eq.mp (congrArg (fun z9 => lv_has ls 4 [(3, .int (iI ((k + 1) : Int))), (2, .int (iI z9)), (0, .ref (a 0)), (1, .int (iI q))]) hq15) hl
            exact ih4 (k + 1) (by omega) (by omega) ls hl
  have hq16 : 0 = (0 : Int) := rfl
  have hq17 : (-1) = (raT f1 q 0) := rfl
  have hl : lv_has ls 4 [(3, .int (iI 0)), (2, .int (iI (-1))), (0, .ref (a 0)), (1, .int (iI q))] := lv_sub hl [0, 1, 2, 3] rfl
  have hl := Eq.mp (congrArg (fun z9 => lv_has ls 4 [(3, .int (iI z9)), (2, .int (iI (-1))), (0, .ref (a 0)), (1, .int (iI q))]) hq16) hl
  have hl := Eq.mp (congrArg (fun z9 => lv_has ls 4 [(3, .int (iI (0 : Int))), (2, .int (iI z9)), (0, .ref (a 0)), (1, .int (iI q))]) hq17) hl
  exact lp4 (8 + 1) 0 (by omega) (by omega) ls hl
abbrev rm_X5_above : Room := { frames := 0, cells := 0, slots := 0, locals := 0 }
set_option maxRecDepth 100000 in
set_option maxHeartbeats 4000000 in
theorem c_X5_above (l : Launch) (g : Gd) (k : Int) (h1 : IR k) : Met l yX5_above (wsOf yX5_above cX5_above 1 (some .int)) rm_X5_above (PX g (fun _ => True) [.int (iI k)]) (vp_Si (fun r9 => r9 = iI (if k = 4 then 1 else if k = 5 then 2 else 0))) 0 0 (fun _ => False) := by
  refine me (g := g) (by decide) rfl ?_
  intro pq eq s mq below meth cq C hnm hB ls hl
  obtain ⟨hx, hb, hr, hml, hown, hts, hlocks, hK⟩ := C
  have hown : s.vm.findClass RX5 = some mq.cls := hown
  have hl : lv_has ls 1 [(0, .int (iI k))] := hl
  have q1 := h1.1
  have q2 := h1.2
  refine lv_iload_n hx hb dX5_above_0 rfl (lv_at hl 0 rfl) ?_
  refine lv_iconst (v := iI (4)) hx hb dX5_above_1 (by decide) ?_
  refine xi_c_ne (tgt := 9) hx hb ⟨by omega, by omega⟩ ⟨by decide, by decide⟩ dX5_above_2 (by decide) (fun z1 => ?_) (fun z1 => ?_)
  · refine lv_iload_n hx hb dX5_above_9 rfl (lv_at hl 0 rfl) ?_
    refine lv_iconst (v := iI (5)) hx hb dX5_above_10 (by decide) ?_
    refine xi_c_ne (tgt := 18) hx hb ⟨by omega, by omega⟩ ⟨by decide, by decide⟩ dX5_above_11 (by decide) (fun z2 => ?_) (fun z2 => ?_)
    · refine lv_iconst (v := iI (0)) hx hb dX5_above_18 (by decide) ?_
      exact W.iret hx hb hr (fun t ht hW => ⟨_, rfl, congrArg iI (by split <;> (try split) <;> omega), ht⟩) (fun q h => by cases h) dX5_above_19
    · refine lv_iconst (v := iI (2)) hx hb dX5_above_14 (by decide) ?_
      refine lv_goto (tgt := 19) hx hb dX5_above_15 (by decide) ?_
      exact W.iret hx hb hr (fun t ht hW => ⟨_, rfl, congrArg iI (by split <;> (try split) <;> omega), ht⟩) (fun q h => by cases h) dX5_above_19
  · refine lv_iconst (v := iI (1)) hx hb dX5_above_5 (by decide) ?_
    refine lv_goto (tgt := 19) hx hb dX5_above_6 (by decide) ?_
    exact W.iret hx hb hr (fun t ht hW => ⟨_, rfl, congrArg iI (by split <;> (try split) <;> omega), ht⟩) (fun q h => by cases h) dX5_above_19
abbrev rm_X5_adds : Room := { frames := 1, cells := 0, slots := 0, locals := 21 }
set_option maxRecDepth 100000 in
set_option maxHeartbeats 4000000 in
theorem c_X5_adds (l : Launch) (g : Gd) (a : Nat → Nat) (f1 : Int → Int) (f2 : Int → Int) (f3 : Int → Int) (f4 : Int → Int) (f5 : Int → Int) (f6 : Int → Int) (f7 : Int → Int) (f8 : Int → Int) (f9 : Int → Int) (f10 : Int → Int) (f11 : Int → Int) (f12 : Int → Int) (f13 : Int → Int) (f20 : Int) (f21 : Int) (f22 : Int) (f23 : Int) (f24 : Int) (f25 : Int) (k : Int) (ce : Int) (sz : Nat) (h1 : 0 ≤ f1 1 ∧ f1 1 < 8) : Met l yX5_adds (wsOf yX5_adds cX5_adds 4 (some .int)) rm_X5_adds (PX g (wP g (wM g a f1 f2 f3 f4 f5 f6 f7 f8 f9 f10 f11 f12 f13 f20 f21 f22 f23 f24 f25) sz) [.ref (a 0), .int (iI k), .int (iI ce)]) (QMi g (fun _ : Unit => wM g a (addR f1 k ce 0) f2 f3 f4 f5 f6 f7 f8 f9 f10 f11 f12 f13 f20 f21 f22 f23 f24 f25) (fun r9 _ => r9 = iI (f1 1)) (va_A (wM g a f1 f2 f3 f4 f5 f6 f7 f8 f9 f10 f11 f12 f13 f20 f21 f22 f23 f24 f25) sz)) 0 0 (va_A (wM g a f1 f2 f3 f4 f5 f6 f7 f8 f9 f10 f11 f12 f13 f20 f21 f22 f23 f24 f25) sz) := by
  refine me (g := g) (by decide) rfl ?_
  intro pq eq s mq below meth cq C hnm hB ls hl
  obtain ⟨hx, hb, hr, hml, hown, hts, hlocks, hK⟩ := C
  have hown : s.vm.findClass RX5 = some mq.cls := hown
  have hl : lv_has ls 4 [(0, .ref (a 0)), (1, .int (iI k)), (2, .int (iI ce))] := hl
  obtain ⟨hsz, hP, hD0⟩ := hB
  subst hsz
  have hD := hD0.self (sz := s.heap.size)
  have hA : ∀ q : Nat, s.heap.size ≤ q → va_A (wM g a f1 f2 f3 f4 f5 f6 f7 f8 f9 f10 f11 f12 f13 f20 f21 f22 f23 f24 f25) s.heap.size q := fun q h => Or.inr h
  have hS : va_S (va_A (wM g a f1 f2 f3 f4 f5 f6 f7 f8 f9 f10 f11 f12 f13 f20 f21 f22 f23 f24 f25) s.heap.size) s.heap s.heap [] := va_S.rf
  refine lv_aload_n hx hb dX5_adds_0 rfl (lv_at hl 0 rfl) ?_
  refine xg_X5 hx hb hts hown hK hP 0 rfl 0 (by decide) fk_X5_7 (v := .ref (a 1)) rfl dX5_adds_1 ?_
  refine lv_iconst (v := iI (1)) hx hb dX5_adds_4 (by decide) ?_
  refine xi_ald hx hb hK hP 1 (f := f1) rfl (i := 1) ⟨by omega, by omega⟩ rfl dX5_adds_5 ?_
  refine lv_istore_n (lv' := [(3, .int (iI (f1 1))), (0, .ref (a 0)), (1, .int (iI k)), (2, .int (iI ce))]) hx hb dX5_adds_6 rfl hl (by decide) rfl (fun ls hl => ?_)
  refine lv_aload_n hx hb dX5_adds_7 rfl (lv_at hl 1 rfl) ?_
  refine xg_X5 hx hb hts hown hK hP 0 rfl 0 (by decide) fk_X5_7 (v := .ref (a 1)) rfl dX5_adds_8 ?_
  refine lv_iload_n hx hb dX5_adds_11 rfl (lv_at hl 0 rfl) ?_
  refine lv_iconst (v := iI (0)) hx hb dX5_adds_12 (by decide) ?_
  refine xu_i (x := iI (61 + 5 * (f1 1) + 0)) (rS (rest := [.ref (a 1)]) hx hb hml hown hts hK hl (c_X5_spot l g (f1 1) 0 ) lk_X5_59 trivial rfl rfl rfl (Rm.of rfl) rfl rfl dX5_adds_13) ?_
  refine lv_iload_n hx hb dX5_adds_16 rfl (lv_at hl 2 rfl) ?_
  refine xi_ast hx hb hK hP hD hS 1 (f := f1) rfl (i := 61 + 5 * (f1 1) + 0) (v := k) ⟨by omega, by omega⟩ rfl dX5_adds_17 (fun H locs hP hD hS => ?_)
  have hP : va_P g.1 vwCl (wM g a (up f1 (61 + 5 * (f1 1) + 0) k) f2 f3 f4 f5 f6 f7 f8 f9 f10 f11 f12 f13 f20 f21 f22 f23 f24 f25) H := hP
  have hD : va_D (va_A (wM g a f1 f2 f3 f4 f5 f6 f7 f8 f9 f10 f11 f12 f13 f20 f21 f22 f23 f24 f25) s.heap.size) (wM g a (up f1 (61 + 5 * (f1 1) + 0) k) f2 f3 f4 f5 f6 f7 f8 f9 f10 f11 f12 f13 f20 f21 f22 f23 f24 f25) := hD
  refine lv_aload_n hx hb dX5_adds_18 rfl (lv_at hl 1 rfl) ?_
  refine xg_X5 hx hb hts hown hK hP 0 rfl 0 (by decide) fk_X5_7 (v := .ref (a 1)) rfl dX5_adds_19 ?_
  refine lv_iload_n hx hb dX5_adds_22 rfl (lv_at hl 0 rfl) ?_
  refine lv_iconst (v := iI (1)) hx hb dX5_adds_23 (by decide) ?_
  refine xu_i (x := iI (61 + 5 * (f1 1) + 1)) (rS (rest := [.ref (a 1)]) hx hb hml hown hts hK hl (c_X5_spot l g (f1 1) 1 ) lk_X5_59 trivial rfl rfl rfl (Rm.of rfl) rfl rfl dX5_adds_24) ?_
  refine lv_iload_n hx hb dX5_adds_27 rfl (lv_at hl 3 rfl) ?_
  refine xi_ast hx hb hK hP hD hS 1 (f := up f1 (61 + 5 * (f1 1) + 0) k) rfl (i := 61 + 5 * (f1 1) + 1) (v := ce) ⟨by omega, by omega⟩ rfl dX5_adds_28 (fun H locs hP hD hS => ?_)
  have hP : va_P g.1 vwCl (wM g a (up (up f1 (61 + 5 * (f1 1) + 0) k) (61 + 5 * (f1 1) + 1) ce) f2 f3 f4 f5 f6 f7 f8 f9 f10 f11 f12 f13 f20 f21 f22 f23 f24 f25) H := hP
  have hD : va_D (va_A (wM g a f1 f2 f3 f4 f5 f6 f7 f8 f9 f10 f11 f12 f13 f20 f21 f22 f23 f24 f25) s.heap.size) (wM g a (up (up f1 (61 + 5 * (f1 1) + 0) k) (61 + 5 * (f1 1) + 1) ce) f2 f3 f4 f5 f6 f7 f8 f9 f10 f11 f12 f13 f20 f21 f22 f23 f24 f25) := hD
  refine lv_aload_n hx hb dX5_adds_29 rfl (lv_at hl 1 rfl) ?_
  refine xg_X5 hx hb hts hown hK hP 0 rfl 0 (by decide) fk_X5_7 (v := .ref (a 1)) rfl dX5_adds_30 ?_
  refine lv_iload_n hx hb dX5_adds_33 rfl (lv_at hl 0 rfl) ?_
  refine lv_iconst (v := iI (2)) hx hb dX5_adds_34 (by decide) ?_
  refine xu_i (x := iI (61 + 5 * (f1 1) + 2)) (rS (rest := [.ref (a 1)]) hx hb hml hown hts hK hl (c_X5_spot l g (f1 1) 2 ) lk_X5_59 trivial rfl rfl rfl (Rm.of rfl) rfl rfl dX5_adds_35) ?_
  refine lv_iconst (v := iI (0)) hx hb dX5_adds_38 (by decide) ?_
  refine xi_ast hx hb hK hP hD hS 1 (f := up (up f1 (61 + 5 * (f1 1) + 0) k) (61 + 5 * (f1 1) + 1) ce) rfl (i := 61 + 5 * (f1 1) + 2) (v := 0) ⟨by omega, by omega⟩ rfl dX5_adds_39 (fun H locs hP hD hS => ?_)
  have hP : va_P g.1 vwCl (wM g a (up (up (up f1 (61 + 5 * (f1 1) + 0) k) (61 + 5 * (f1 1) + 1) ce) (61 + 5 * (f1 1) + 2) 0) f2 f3 f4 f5 f6 f7 f8 f9 f10 f11 f12 f13 f20 f21 f22 f23 f24 f25) H := hP
  have hD : va_D (va_A (wM g a f1 f2 f3 f4 f5 f6 f7 f8 f9 f10 f11 f12 f13 f20 f21 f22 f23 f24 f25) s.heap.size) (wM g a (up (up (up f1 (61 + 5 * (f1 1) + 0) k) (61 + 5 * (f1 1) + 1) ce) (61 + 5 * (f1 1) + 2) 0) f2 f3 f4 f5 f6 f7 f8 f9 f10 f11 f12 f13 f20 f21 f22 f23 f24 f25) := hD
  refine lv_aload_n hx hb dX5_adds_40 rfl (lv_at hl 1 rfl) ?_
  refine xg_X5 hx hb hts hown hK hP 0 rfl 0 (by decide) fk_X5_7 (v := .ref (a 1)) rfl dX5_adds_41 ?_
  refine lv_iload_n hx hb dX5_adds_44 rfl (lv_at hl 0 rfl) ?_
  refine lv_iconst (v := iI (3)) hx hb dX5_adds_45 (by decide) ?_
  refine xu_i (x := iI (61 + 5 * (f1 1) + 3)) (rS (rest := [.ref (a 1)]) hx hb hml hown hts hK hl (c_X5_spot l g (f1 1) 3 ) lk_X5_59 trivial rfl rfl rfl (Rm.of rfl) rfl rfl dX5_adds_46) ?_
  refine lv_iconst (v := iI (0)) hx hb dX5_adds_49 (by decide) ?_
  refine xi_ast hx hb hK hP hD hS 1 (f := up (up (up f1 (61 + 5 * (f1 1) + 0) k) (61 + 5 * (f1 1) + 1) ce) (61 + 5 * (f1 1) + 2) 0) rfl (i := 61 + 5 * (f1 1) + 3) (v := 0) ⟨by omega, by omega⟩ rfl dX5_adds_50 (fun H locs hP hD hS => ?_)
  have hP : va_P g.1 vwCl (wM g a (up (up (up (up f1 (61 + 5 * (f1 1) + 0) k) (61 + 5 * (f1 1) + 1) ce) (61 + 5 * (f1 1) + 2) 0) (61 + 5 * (f1 1) + 3) 0) f2 f3 f4 f5 f6 f7 f8 f9 f10 f11 f12 f13 f20 f21 f22 f23 f24 f25) H := hP
  have hD : va_D (va_A (wM g a f1 f2 f3 f4 f5 f6 f7 f8 f9 f10 f11 f12 f13 f20 f21 f22 f23 f24 f25) s.heap.size) (wM g a (up (up (up (up f1 (61 + 5 * (f1 1) + 0) k) (61 + 5 * (f1 1) + 1) ce) (61 + 5 * (f1 1) + 2) 0) (61 + 5 * (f1 1) + 3) 0) f2 f3 f4 f5 f6 f7 f8 f9 f10 f11 f12 f13 f20 f21 f22 f23 f24 f25) := hD
  refine lv_aload_n hx hb dX5_adds_51 rfl (lv_at hl 1 rfl) ?_
  refine xg_X5 hx hb hts hown hK hP 0 rfl 0 (by decide) fk_X5_7 (v := .ref (a 1)) rfl dX5_adds_52 ?_
  refine lv_iload_n hx hb dX5_adds_55 rfl (lv_at hl 0 rfl) ?_
  refine lv_iconst (v := iI (4)) hx hb dX5_adds_56 (by decide) ?_
  refine xu_i (x := iI (61 + 5 * (f1 1) + 4)) (rS (rest := [.ref (a 1)]) hx hb hml hown hts hK hl (c_X5_spot l g (f1 1) 4 ) lk_X5_59 trivial rfl rfl rfl (Rm.of rfl) rfl rfl dX5_adds_57) ?_
  refine lv_iconst (v := iI (0)) hx hb dX5_adds_60 (by decide) ?_
  refine xi_ast hx hb hK hP hD hS 1 (f := up (up (up (up f1 (61 + 5 * (f1 1) + 0) k) (61 + 5 * (f1 1) + 1) ce) (61 + 5 * (f1 1) + 2) 0) (61 + 5 * (f1 1) + 3) 0) rfl (i := 61 + 5 * (f1 1) + 4) (v := 0) ⟨by omega, by omega⟩ rfl dX5_adds_61 (fun H locs hP hD hS => ?_)
  have hP : va_P g.1 vwCl (wM g a (up (up (up (up (up f1 (61 + 5 * (f1 1) + 0) k) (61 + 5 * (f1 1) + 1) ce) (61 + 5 * (f1 1) + 2) 0) (61 + 5 * (f1 1) + 3) 0) (61 + 5 * (f1 1) + 4) 0) f2 f3 f4 f5 f6 f7 f8 f9 f10 f11 f12 f13 f20 f21 f22 f23 f24 f25) H := hP
  have hD : va_D (va_A (wM g a f1 f2 f3 f4 f5 f6 f7 f8 f9 f10 f11 f12 f13 f20 f21 f22 f23 f24 f25) s.heap.size) (wM g a (up (up (up (up (up f1 (61 + 5 * (f1 1) + 0) k) (61 + 5 * (f1 1) + 1) ce) (61 + 5 * (f1 1) + 2) 0) (61 + 5 * (f1 1) + 3) 0) (61 + 5 * (f1 1) + 4) 0) f2 f3 f4 f5 f6 f7 f8 f9 f10 f11 f12 f13 f20 f21 f22 f23 f24 f25) := hD
  refine lv_aload_n hx hb dX5_adds_62 rfl (lv_at hl 1 rfl) ?_
  refine xg_X5 hx hb hts hown hK hP 0 rfl 0 (by decide) fk_X5_7 (v := .ref (a 1)) rfl dX5_adds_63 ?_
  refine lv_iconst (v := iI (1)) hx hb dX5_adds_66 (by decide) ?_
  refine lv_dup2_11 hx hb dX5_adds_67 rfl rfl ?_
  refine xi_ald hx hb hK hP 1 (f := up (up (up (up (up f1 (61 + 5 * (f1 1) + 0) k) (61 + 5 * (f1 1) + 1) ce) (61 + 5 * (f1 1) + 2) 0) (61 + 5 * (f1 1) + 3) 0) (61 + 5 * (f1 1) + 4) 0) rfl (i := 1) ⟨by omega, by omega⟩ rfl dX5_adds_68 ?_
  refine lv_iconst (v := iI (1)) hx hb dX5_adds_69 (by decide) ?_
  refine xi_add hx hb dX5_adds_70 ?_
  refine xi_ast hx hb hK hP hD hS 1 (f := up (up (up (up (up f1 (61 + 5 * (f1 1) + 0) k) (61 + 5 * (f1 1) + 1) ce) (61 + 5 * (f1 1) + 2) 0) (61 + 5 * (f1 1) + 3) 0) (61 + 5 * (f1 1) + 4) 0) rfl (i := 1) (v := (up (up (up (up (up f1 (61 + 5 * (f1 1) + 0) k) (61 + 5 * (f1 1) + 1) ce) (61 + 5 * (f1 1) + 2) 0) (61 + 5 * (f1 1) + 3) 0) (61 + 5 * (f1 1) + 4) 0) 1 + 1) ⟨by omega, by omega⟩ rfl dX5_adds_71 (fun H locs hP hD hS => ?_)
  have hP : va_P g.1 vwCl (wM g a (up (up (up (up (up (up f1 (61 + 5 * (f1 1) + 0) k) (61 + 5 * (f1 1) + 1) ce) (61 + 5 * (f1 1) + 2) 0) (61 + 5 * (f1 1) + 3) 0) (61 + 5 * (f1 1) + 4) 0) 1 ((up (up (up (up (up f1 (61 + 5 * (f1 1) + 0) k) (61 + 5 * (f1 1) + 1) ce) (61 + 5 * (f1 1) + 2) 0) (61 + 5 * (f1 1) + 3) 0) (61 + 5 * (f1 1) + 4) 0) 1 + 1)) f2 f3 f4 f5 f6 f7 f8 f9 f10 f11 f12 f13 f20 f21 f22 f23 f24 f25) H := hP
  have hD : va_D (va_A (wM g a f1 f2 f3 f4 f5 f6 f7 f8 f9 f10 f11 f12 f13 f20 f21 f22 f23 f24 f25) s.heap.size) (wM g a (up (up (up (up (up (up f1 (61 + 5 * (f1 1) + 0) k) (61 + 5 * (f1 1) + 1) ce) (61 + 5 * (f1 1) + 2) 0) (61 + 5 * (f1 1) + 3) 0) (61 + 5 * (f1 1) + 4) 0) 1 ((up (up (up (up (up f1 (61 + 5 * (f1 1) + 0) k) (61 + 5 * (f1 1) + 1) ce) (61 + 5 * (f1 1) + 2) 0) (61 + 5 * (f1 1) + 3) 0) (61 + 5 * (f1 1) + 4) 0) 1 + 1)) f2 f3 f4 f5 f6 f7 f8 f9 f10 f11 f12 f13 f20 f21 f22 f23 f24 f25) := hD
  refine lv_iload_n hx hb dX5_adds_72 rfl (lv_at hl 0 rfl) ?_
  have he6 : (up (up (up (up (up (up f1 (61 + 5 * (f1 1) + 0) k) (61 + 5 * (f1 1) + 1) ce) (61 + 5 * (f1 1) + 2) 0) (61 + 5 * (f1 1) + 3) 0) (61 + 5 * (f1 1) + 4) 0) 1 ((up (up (up (up (up f1 (61 + 5 * (f1 1) + 0) k) (61 + 5 * (f1 1) + 1) ce) (61 + 5 * (f1 1) + 2) 0) (61 + 5 * (f1 1) + 3) 0) (61 + 5 * (f1 1) + 4) 0) 1 + 1)) = (addR f1 k ce 0) := by unfold addR; rw [up_n (by omega), up_n (by omega), up_n (by omega), up_n (by omega), up_n (by omega)]
  have hP := Eq.mp (congrArg (fun z9 => va_P g.1 vwCl (wM g a z9 f2 f3 f4 f5 f6 f7 f8 f9 f10 f11 f12 f13 f20 f21 f22 f23 f24 f25) H) he6) hP
  have hD := Eq.mp (congrArg (fun z9 => va_D (va_A (wM g a f1 f2 f3 f4 f5 f6 f7 f8 f9 f10 f11 f12 f13 f20 f21 f22 f23 f24 f25) s.heap.size) (wM g a z9 f2 f3 f4 f5 f6 f7 f8 f9 f10 f11 f12 f13 f20 f21 f22 f23 f24 f25)) he6) hD
  have hP : va_P g.1 vwCl (wM g a (addR f1 k ce 0) f2 f3 f4 f5 f6 f7 f8 f9 f10 f11 f12 f13 f20 f21 f22 f23 f24 f25) H := hP
  have hD : va_D (va_A (wM g a f1 f2 f3 f4 f5 f6 f7 f8 f9 f10 f11 f12 f13 f20 f21 f22 f23 f24 f25) s.heap.size) (wM g a (addR f1 k ce 0) f2 f3 f4 f5 f6 f7 f8 f9 f10 f11 f12 f13 f20 f21 f22 f23 f24 f25) := hD
  exact W.iret hx hb hr (fun t ht hW => ⟨⟨_, (), rfl, rfl, by rw [ht]; exact hP, hD⟩, hS.F ht⟩) hS.2.2 dX5_adds_73
abbrev rm_X5_levels : Room := { frames := 1, cells := 0, slots := 0, locals := 21 }
set_option maxRecDepth 100000 in
set_option maxHeartbeats 4000000 in
theorem c_X5_levels (l : Launch) (g : Gd) (a : Nat → Nat) (f1 : Int → Int) (f2 : Int → Int) (f3 : Int → Int) (f4 : Int → Int) (f5 : Int → Int) (f6 : Int → Int) (f7 : Int → Int) (f8 : Int → Int) (f9 : Int → Int) (f10 : Int → Int) (f11 : Int → Int) (f12 : Int → Int) (f13 : Int → Int) (f20 : Int) (f21 : Int) (f22 : Int) (f23 : Int) (f24 : Int) (f25 : Int) (r : Int) (sz : Nat) (h1 : 0 ≤ r ∧ r < f1 1) (h2 : 0 ≤ f1 1 ∧ f1 1 ≤ 8) : Met l yX5_levels (wsOf yX5_levels cX5_levels 3 none) rm_X5_levels (PX g (wP g (wM g a f1 f2 f3 f4 f5 f6 f7 f8 f9 f10 f11 f12 f13 f20 f21 f22 f23 f24 f25) sz) [.ref (a 0), .int (iI r)]) (QMv g (fun _ : Unit => wM g a (up (lvT f1 (61 + 5 * r + 0) (61 + 5 * (f1 1 - 1) + 0)) 1 (f1 1 - 1)) f2 f3 f4 f5 f6 f7 f8 f9 f10 f11 f12 f13 f20 f21 f22 f23 f24 f25) (fun _ => True) (va_A (wM g a f1 f2 f3 f4 f5 f6 f7 f8 f9 f10 f11 f12 f13 f20 f21 f22 f23 f24 f25) sz)) 0 0 (va_A (wM g a f1 f2 f3 f4 f5 f6 f7 f8 f9 f10 f11 f12 f13 f20 f21 f22 f23 f24 f25) sz) := by
  refine me (g := g) (by decide) rfl ?_
  intro pq eq s mq below meth cq C hnm hB ls hl
  obtain ⟨hx, hb, hr, hml, hown, hts, hlocks, hK⟩ := C
  have hown : s.vm.findClass RX5 = some mq.cls := hown
  have hl : lv_has ls 3 [(0, .ref (a 0)), (1, .int (iI r))] := hl
  obtain ⟨hsz, hP, hD0⟩ := hB
  subst hsz
  have hD := hD0.self (sz := s.heap.size)
  have hA : ∀ q : Nat, s.heap.size ≤ q → va_A (wM g a f1 f2 f3 f4 f5 f6 f7 f8 f9 f10 f11 f12 f13 f20 f21 f22 f23 f24 f25) s.heap.size q := fun q h => Or.inr h
  have hS : va_S (va_A (wM g a f1 f2 f3 f4 f5 f6 f7 f8 f9 f10 f11 f12 f13 f20 f21 f22 f23 f24 f25) s.heap.size) s.heap s.heap [] := va_S.rf
  refine lv_iload_n hx hb dX5_levels_0 rfl (lv_at hl 1 rfl) ?_
  refine lv_iconst (v := iI (0)) hx hb dX5_levels_1 (by decide) ?_
  refine xu_i (x := iI (61 + 5 * r + 0)) (rS (rest := []) hx hb hml hown hts hK hl (c_X5_spot l g r 0 ) lk_X5_59 trivial rfl rfl rfl (Rm.of rfl) rfl rfl dX5_levels_2) ?_
  refine lv_istore_n (lv' := [(2, .int (iI (61 + 5 * r + 0))), (0, .ref (a 0)), (1, .int (iI r))]) hx hb dX5_levels_5 rfl hl (by decide) rfl (fun ls hl => ?_)
  have lp6 : ∀ (n6 : Nat) (k : Int), (61 + 5 * r + 0 ≤ k ∧ k ≤ 61 + 5 * (f1 1 - 1) + 0) → (101 - k).toNat < n6 → ∀ ls : Array Slot, lv_has ls 3 [(2, .int (iI k)), (0, .ref (a 0)), (1, .int (iI r))] → ∀ (H : Heap) (locs : List Loc), va_P g.1 vwCl (wM g a (lvT f1 (61 + 5 * r + 0) k) f2 f3 f4 f5 f6 f7 f8 f9 f10 f11 f12 f13 f20 f21 f22 f23 f24 f25) H → va_D (va_A (wM g a f1 f2 f3 f4 f5 f6 f7 f8 f9 f10 f11 f12 f13 f20 f21 f22 f23 f24 f25) s.heap.size) (wM g a (lvT f1 (61 + 5 * r + 0) k) f2 f3 f4 f5 f6 f7 f8 f9 f10 f11 f12 f13 f20 f21 f22 f23 f24 f25) → va_S (va_A (wM g a f1 f2 f3 f4 f5 f6 f7 f8 f9 f10 f11 f12 f13 f20 f21 f22 f23 f24 f25) s.heap.size) s.heap H locs → W pq l eq rm_X5_levels s mq [.ref (a 0), .int (iI r)].toArray below meth cq H locs 0 0 (MQ below (QMv g (fun _ : Unit => wM g a (up (lvT f1 (61 + 5 * r + 0) (61 + 5 * (f1 1 - 1) + 0)) 1 (f1 1 - 1)) f2 f3 f4 f5 f6 f7 f8 f9 f10 f11 f12 f13 f20 f21 f22 f23 f24 f25) (fun _ => True) (va_A (wM g a f1 f2 f3 f4 f5 f6 f7 f8 f9 f10 f11 f12 f13 f20 f21 f22 f23 f24 f25) s.heap.size)) [.ref (a 0), .int (iI r)].toArray s 0 0 (va_A (wM g a f1 f2 f3 f4 f5 f6 f7 f8 f9 f10 f11 f12 f13 f20 f21 f22 f23 f24 f25) s.heap.size)) (F0 mq 6 ls []) := by
    intro n6
    induction n6 with
    | zero => intro k i6_1 hm; exact absurd hm (Nat.not_lt_zero _)
    | succ n6 ih6 =>
      intro k i6_1 hm6 ls hl H locs hP hD hS
      have e1 : lvT f1 (61 + 5 * r + 0) k 1 = f1 1 := lvT_o (by omega)
      refine lv_iload_n hx hb dX5_levels_6 rfl (lv_at hl 0 rfl) ?_
      refine lv_aload_n hx hb dX5_levels_7 rfl (lv_at hl 1 rfl) ?_
      refine xg_X5 hx hb hts hown hK hP 0 rfl 0 (by decide) fk_X5_7 (v := .ref (a 1)) rfl dX5_levels_8 ?_
      refine lv_iconst (v := iI (1)) hx hb dX5_levels_11 (by decide) ?_
      refine xi_ald hx hb hK hP 1 (f := lvT f1 (61 + 5 * r + 0) k) rfl (i := 1) ⟨by omega, by omega⟩ rfl dX5_levels_12 ?_
      refine lv_iconst (v := iI (1)) hx hb dX5_levels_13 (by decide) ?_
      refine xi_sub hx hb dX5_levels_14 ?_
      refine lv_iconst (v := iI (0)) hx hb dX5_levels_15 (by decide) ?_
      refine xu_i (x := iI (61 + 5 * ((lvT f1 (61 + 5 * r + 0) k) 1 - 1) + 0)) (rS (rest := [.int (iI k)]) hx hb hml hown hts hK hl (c_X5_spot l g ((lvT f1 (61 + 5 * r + 0) k) 1 - 1) 0 ) lk_X5_59 trivial rfl rfl rfl (Rm.of rfl) rfl rfl dX5_levels_16) ?_
      refine xi_c_ge (tgt := 42) hx hb ⟨by omega, by omega⟩ ⟨by omega, by omega⟩ dX5_levels_19 (by decide) (fun z3 => ?_) (fun z3 => ?_)
      · refine lv_aload_n hx hb dX5_levels_42 rfl (lv_at hl 1 rfl) ?_
        refine xg_X5 hx hb hts hown hK hP 0 rfl 0 (by decide) fk_X5_7 (v := .ref (a 1)) rfl dX5_levels_43 ?_
        refine lv_iconst (v := iI (1)) hx hb dX5_levels_46 (by decide) ?_
        refine lv_dup2_11 hx hb dX5_levels_47 rfl rfl ?_
        refine xi_ald hx hb hK hP 1 (f := lvT f1 (61 + 5 * r + 0) k) rfl (i := 1) ⟨by omega, by omega⟩ rfl dX5_levels_48 ?_
        refine lv_iconst (v := iI (1)) hx hb dX5_levels_49 (by decide) ?_
        refine xi_sub hx hb dX5_levels_50 ?_
        refine xi_ast hx hb hK hP hD hS 1 (f := lvT f1 (61 + 5 * r + 0) k) rfl (i := 1) (v := (lvT f1 (61 + 5 * r + 0) k) 1 - 1) ⟨by omega, by omega⟩ rfl dX5_levels_51 (fun H locs hP hD hS => ?_)
        have hP : va_P g.1 vwCl (wM g a (up (lvT f1 (61 + 5 * r + 0) k) 1 ((lvT f1 (61 + 5 * r + 0) k) 1 - 1)) f2 f3 f4 f5 f6 f7 f8 f9 f10 f11 f12 f13 f20 f21 f22 f23 f24 f25) H := hP
        have hD : va_D (va_A (wM g a f1 f2 f3 f4 f5 f6 f7 f8 f9 f10 f11 f12 f13 f20 f21 f22 f23 f24 f25) s.heap.size) (wM g a (up (lvT f1 (61 + 5 * r + 0) k) 1 ((lvT f1 (61 + 5 * r + 0) k) 1 - 1)) f2 f3 f4 f5 f6 f7 f8 f9 f10 f11 f12 f13 f20 f21 f22 f23 f24 f25) := hD
        have he4 : (up (lvT f1 (61 + 5 * r + 0) k) 1 ((lvT f1 (61 + 5 * r + 0) k) 1 - 1)) = (up (lvT f1 (61 + 5 * r + 0) (61 + 5 * (f1 1 - 1) + 0)) 1 (f1 1 - 1)) := by rw [e1, show k = 61 + 5 * (f1 1 - 1) + 0 by omega]
        have hP := Eq.mp (congrArg (fun z9 => va_P g.1 vwCl (wM g a z9 f2 f3 f4 f5 f6 f7 f8 f9 f10 f11 f12 f13 f20 f21 f22 f23 f24 f25) H) he4) hP
        have hD := Eq.mp (congrArg (fun z9 => va_D (va_A (wM g a f1 f2 f3 f4 f5 f6 f7 f8 f9 f10 f11 f12 f13 f20 f21 f22 f23 f24 f25) s.heap.size) (wM g a z9 f2 f3 f4 f5 f6 f7 f8 f9 f10 f11 f12 f13 f20 f21 f22 f23 f24 f25)) he4) hD
        have hP : va_P g.1 vwCl (wM g a (up (lvT f1 (61 + 5 * r + 0) (61 + 5 * (f1 1 - 1) + 0)) 1 (f1 1 - 1)) f2 f3 f4 f5 f6 f7 f8 f9 f10 f11 f12 f13 f20 f21 f22 f23 f24 f25) H := hP
        have hD : va_D (va_A (wM g a f1 f2 f3 f4 f5 f6 f7 f8 f9 f10 f11 f12 f13 f20 f21 f22 f23 f24 f25) s.heap.size) (wM g a (up (lvT f1 (61 + 5 * r + 0) (61 + 5 * (f1 1 - 1) + 0)) 1 (f1 1 - 1)) f2 f3 f4 f5 f6 f7 f8 f9 f10 f11 f12 f13 f20 f21 f22 f23 f24 f25) := hD
        exact W.vret hx hb hr (fun t ht hW => ⟨⟨(), rfl, trivial, by rw [ht]; exact hP, hD⟩, hS.F ht⟩) hS.2.2 dX5_levels_52
      · refine lv_aload_n hx hb dX5_levels_22 rfl (lv_at hl 1 rfl) ?_
        refine xg_X5 hx hb hts hown hK hP 0 rfl 0 (by decide) fk_X5_7 (v := .ref (a 1)) rfl dX5_levels_23 ?_
        refine lv_iload_n hx hb dX5_levels_26 rfl (lv_at hl 0 rfl) ?_
        refine lv_aload_n hx hb dX5_levels_27 rfl (lv_at hl 1 rfl) ?_
        refine xg_X5 hx hb hts hown hK hP 0 rfl 0 (by decide) fk_X5_7 (v := .ref (a 1)) rfl dX5_levels_28 ?_
        refine lv_iload_n hx hb dX5_levels_31 rfl (lv_at hl 0 rfl) ?_
        refine lv_iconst (v := iI (5)) hx hb dX5_levels_32 (by decide) ?_
        refine xi_add hx hb dX5_levels_33 ?_
        refine xi_ald hx hb hK hP 1 (f := lvT f1 (61 + 5 * r + 0) k) rfl (i := k + 5) ⟨by omega, by omega⟩ rfl dX5_levels_34 ?_
        refine xi_ast hx hb hK hP hD hS 1 (f := lvT f1 (61 + 5 * r + 0) k) rfl (i := k) (v := (lvT f1 (61 + 5 * r + 0) k) (k + 5)) ⟨by omega, by omega⟩ rfl dX5_levels_35 (fun H locs hP hD hS => ?_)
        have hP : va_P g.1 vwCl (wM g a (up (lvT f1 (61 + 5 * r + 0) k) k ((lvT f1 (61 + 5 * r + 0) k) (k + 5))) f2 f3 f4 f5 f6 f7 f8 f9 f10 f11 f12 f13 f20 f21 f22 f23 f24 f25) H := hP
        have hD : va_D (va_A (wM g a f1 f2 f3 f4 f5 f6 f7 f8 f9 f10 f11 f12 f13 f20 f21 f22 f23 f24 f25) s.heap.size) (wM g a (up (lvT f1 (61 + 5 * r + 0) k) k ((lvT f1 (61 + 5 * r + 0) k) (k + 5))) f2 f3 f4 f5 f6 f7 f8 f9 f10 f11 f12 f13 f20 f21 f22 f23 f24 f25) := hD
        refine xi_inc (lv' := [(2, .int (iI (k + 1))), (0, .ref (a 0)), (1, .int (iI r))]) hx hb dX5_levels_36 hl (k := 0) rfl (by decide) rfl (fun ls hl => ?_)
        refine lv_goto (tgt := 6) hx hb dX5_levels_39 (by decide) ?_
        have hq5 : (up (lvT f1 (61 + 5 * r + 0) k) k ((lvT f1 (61 + 5 * r + 0) k) (k + 5))) = (lvT f1 (61 + 5 * r + 0) (k + 1)) := lvT_S f1 i6_1.1
        have hP := Eq.mp (congrArg (fun z9 => va_P g.1 vwCl (wM g a z9 f2 f3 f4 f5 f6 f7 f8 f9 f10 f11 f12 f13 f20 f21 f22 f23 f24 f25) H) hq5) hP
        have hD := Eq.mp (congrArg (fun z9 => va_D (va_A (wM g a f1 f2 f3 f4 f5 f6 f7 f8 f9 f10 f11 f12 f13 f20 f21 f22 f23 f24 f25) s.heap.size) (wM g a z9 f2 f3 f4 f5 f6 f7 f8 f9 f10 f11 f12 f13 f20 f21 f22 f23 f24 f25)) hq5) hD
        exact ih6 (k + 1) (by omega) (by omega) ls (lv_sub hl [0, 1, 2] rfl) H locs hP hD hS
  have hq6 : f1 = (lvT f1 (61 + 5 * r + 0) (61 + 5 * r + 0)) := lvT_0 f1 (61 + 5 * r + 0)
  have hP := Eq.mp (congrArg (fun z9 => va_P g.1 vwCl (wM g a z9 f2 f3 f4 f5 f6 f7 f8 f9 f10 f11 f12 f13 f20 f21 f22 f23 f24 f25) s.heap) hq6) hP
  have hD := Eq.mp (congrArg (fun z9 => va_D (va_A (wM g a f1 f2 f3 f4 f5 f6 f7 f8 f9 f10 f11 f12 f13 f20 f21 f22 f23 f24 f25) s.heap.size) (wM g a z9 f2 f3 f4 f5 f6 f7 f8 f9 f10 f11 f12 f13 f20 f21 f22 f23 f24 f25)) hq6) hD
  exact lp6 (101 + 1) (61 + 5 * r + 0) (by omega) (by omega) ls (lv_sub hl [0, 1, 2] rfl) s.heap [] hP hD hS

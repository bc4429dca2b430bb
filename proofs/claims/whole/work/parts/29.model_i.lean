abbrev rm_X5_narrowed : Room := { frames := 0, cells := 0, slots := 0, locals := 0 }
set_option maxRecDepth 100000 in
set_option maxHeartbeats 4000000 in
theorem c_X5_narrowed (l : Launch) (g : Gd) (b : Int) (v : Int) (h1 : IR b) : Met l yX5_narrowed (wsOf yX5_narrowed cX5_narrowed 3 (some .long)) rm_X5_narrowed (PX g (fun _ => True) [.int (iI b), .long (lI v)]) (vp_Sl (fun r9 => r9 = lI (nrw b v))) 0 0 (fun _ => False) := by
  refine me (g := g) (by decide) rfl ?_
  intro pq eq s mq below meth cq C hnm hB ls hl
  obtain ⟨hx, hb, hr, hml, hown, hts, hlocks, hK⟩ := C
  have hown : s.vm.findClass RX5 = some mq.cls := hown
  have hl : lv_has ls 3 [(0, .int (iI b)), (1, .long (lI v))] := hl
  have q1 := h1.1
  have q2 := h1.2
  refine lv_iload_n hx hb dX5_narrowed_0 rfl (lv_at hl 0 rfl) ?_
  refine lv_bipush (v := iI (8)) hx hb dX5_narrowed_1 (by decide) ?_
  refine xi_c_ne (tgt := 13) hx hb ⟨by omega, by omega⟩ ⟨by decide, by decide⟩ dX5_narrowed_3 (by decide) (fun z1 => ?_) (fun z1 => ?_)
  · refine lv_iload_n hx hb dX5_narrowed_13 rfl (lv_at hl 0 rfl) ?_
    refine lv_bipush (v := iI (16)) hx hb dX5_narrowed_14 (by decide) ?_
    refine xi_c_ne (tgt := 26) hx hb ⟨by omega, by omega⟩ ⟨by decide, by decide⟩ dX5_narrowed_16 (by decide) (fun z2 => ?_) (fun z2 => ?_)
    · refine lv_lload_n hx hb dX5_narrowed_26 rfl (lv_at hl 1 rfl) ?_
      exact W.lret hx hb hr (fun t ht hW => ⟨_, rfl, congrArg lI (by unfold nrw; (repeat (first | rw [if_pos (by omega)] | rw [if_neg (by omega)]))), ht⟩) (fun q h => by cases h) dX5_narrowed_27
    · refine lv_lload_n hx hb dX5_narrowed_19 rfl (lv_at hl 1 rfl) ?_
      refine xi_l2i hx hb dX5_narrowed_20 ?_
      refine xi_i2s hx hb dX5_narrowed_21 ?_
      have hb3 := n16_b v
      refine xi_i2l hx hb ⟨by omega, by omega⟩ dX5_narrowed_22 ?_
      refine lv_goto (tgt := 27) hx hb dX5_narrowed_23 (by decide) ?_
      exact W.lret hx hb hr (fun t ht hW => ⟨_, rfl, congrArg lI (by unfold nrw; (repeat (first | rw [if_pos (by omega)] | rw [if_neg (by omega)]))), ht⟩) (fun q h => by cases h) dX5_narrowed_27
  · refine lv_lload_n hx hb dX5_narrowed_6 rfl (lv_at hl 1 rfl) ?_
    refine xi_l2i hx hb dX5_narrowed_7 ?_
    refine xi_i2b hx hb dX5_narrowed_8 ?_
    have hb4 := n8_b v
    refine xi_i2l hx hb ⟨by omega, by omega⟩ dX5_narrowed_9 ?_
    refine lv_goto (tgt := 27) hx hb dX5_narrowed_10 (by decide) ?_
    exact W.lret hx hb hr (fun t ht hW => ⟨_, rfl, congrArg lI (by unfold nrw; (repeat (first | rw [if_pos (by omega)] | rw [if_neg (by omega)]))), ht⟩) (fun q h => by cases h) dX5_narrowed_27
abbrev rm_X5_wrong : Room := { frames := 2, cells := 0, slots := 0, locals := 45 }
set_option maxRecDepth 100000 in
set_option maxHeartbeats 4000000 in
theorem c_X5_wrong (l : Launch) (g : Gd) (a : Nat → Nat) (f1 : Int → Int) (f2 : Int → Int) (f3 : Int → Int) (f4 : Int → Int) (f5 : Int → Int) (f6 : Int → Int) (f7 : Int → Int) (f8 : Int → Int) (f9 : Int → Int) (f10 : Int → Int) (f11 : Int → Int) (f12 : Int → Int) (f13 : Int → Int) (f20 : Int) (f21 : Int) (f22 : Int) (f23 : Int) (f24 : Int) (f25 : Int) (k : Int) (h1 : IR k) (h2 : InvS f10 f11) : Met l yX5_wrong (wsOf yX5_wrong cX5_wrong 2 (some .int)) rm_X5_wrong (PX g (va_P g.1 vwCl (wM g a f1 f2 f3 f4 f5 f6 f7 f8 f9 f10 f11 f12 f13 f20 f21 f22 f23 f24 f25)) [.ref (a 0), .int (iI k)]) (vp_Si (fun r9 => r9 = iI (abL (fWro f10 k) 0))) 0 0 (fun _ => False) := by
  refine me (g := g) (by decide) rfl ?_
  intro pq eq s mq below meth cq C hnm hB ls hl
  obtain ⟨hx, hb, hr, hml, hown, hts, hlocks, hK⟩ := C
  have hown : s.vm.findClass RX5 = some mq.cls := hown
  have hl : lv_has ls 2 [(0, .ref (a 0)), (1, .int (iI k))] := hl
  have hP : va_P g.1 vwCl (wM g a f1 f2 f3 f4 f5 f6 f7 f8 f9 f10 f11 f12 f13 f20 f21 f22 f23 f24 f25) s.heap := hB
  have q1 := h1.1
  have q2 := h1.2
  have hS9 := h2 k
  refine lv_iload_n hx hb dX5_wrong_0 rfl (lv_at hl 1 rfl) ?_
  refine xu_b (P := 0 ≤ k ∧ k ≤ 3) (rS (rest := []) hx hb hml hown hts hK hl (c_X5_isOne l g k (show IR k from ⟨by omega, by omega⟩)) lk_X5_312 trivial rfl rfl rfl (Rm.of rfl) rfl rfl dX5_wrong_1) (fun z1 => ?_) (fun z1 => ?_)
  · refine xi_zt_ne (tgt := 12) hx hb ⟨by decide, by decide⟩ (by decide) dX5_wrong_4 (by decide) ?_
    refine lv_aload_n hx hb dX5_wrong_12 rfl (lv_at hl 0 rfl) ?_
    refine xg_X5 hx hb hts hown hK hP 0 rfl 15 (by decide) fk_X5_37 (v := .ref (a 10)) rfl dX5_wrong_13 ?_
    refine lv_iload_n hx hb dX5_wrong_16 rfl (lv_at hl 1 rfl) ?_
    refine xi_ald hx hb hK hP 10 (f := f10) rfl (i := k) ⟨by omega, by omega⟩ rfl dX5_wrong_17 ?_
    refine xi_z_ne (tgt := 27) hx hb ⟨by have := (hS9 (by omega) (by omega)).1; omega, by have := (hS9 (by omega) (by omega)).1; omega⟩ dX5_wrong_18 (by decide) (fun z2 => ?_) (fun z2 => ?_)
    · refine lv_iconst (v := iI (0)) hx hb dX5_wrong_27 (by decide) ?_
      exact W.iret hx hb hr (fun t ht hW => ⟨_, rfl, congrArg iI (by unfold abL fWro; (repeat (first | rw [if_pos (by omega)] | rw [if_neg (by omega)])); first | done | omega | decide), ht⟩) (fun q h => by cases h) dX5_wrong_28
    · refine xi_ldcw hx hb hown hts kk_X5_316 dX5_wrong_21 ?_
      refine lv_goto (tgt := 28) hx hb dX5_wrong_24 (by decide) ?_
      exact W.iret hx hb hr (fun t ht hW => ⟨_, rfl, congrArg iI (by unfold abL fWro; (repeat (first | rw [if_pos (by omega)] | rw [if_neg (by omega)])); first | done | omega | decide), ht⟩) (fun q h => by cases h) dX5_wrong_28
  · refine xi_zf_ne hx hb ⟨by decide, by decide⟩ (by decide) dX5_wrong_4 ⟨12, by decide⟩ ?_
    refine xi_ldc hx hb hown hts kk_X5_50 dX5_wrong_7 ?_
    refine lv_goto (tgt := 28) hx hb dX5_wrong_9 (by decide) ?_
    exact W.iret hx hb hr (fun t ht hW => ⟨_, rfl, congrArg iI (by unfold abL fWro; (repeat (first | rw [if_pos (by omega)] | rw [if_neg (by omega)])); first | done | omega | decide), ht⟩) (fun q h => by cases h) dX5_wrong_28
abbrev rm_X5_wrongBook : Room := { frames := 3, cells := 0, slots := 0, locals := 66 }
set_option maxRecDepth 100000 in
set_option maxHeartbeats 4000000 in
theorem c_X5_wrongBook (l : Launch) (g : Gd) (a : Nat → Nat) (f1 : Int → Int) (f2 : Int → Int) (f3 : Int → Int) (f4 : Int → Int) (f5 : Int → Int) (f6 : Int → Int) (f7 : Int → Int) (f8 : Int → Int) (f9 : Int → Int) (f10 : Int → Int) (f11 : Int → Int) (f12 : Int → Int) (f13 : Int → Int) (f20 : Int) (f21 : Int) (f22 : Int) (f23 : Int) (f24 : Int) (f25 : Int) (k : Int) (r : Int) (h1 : IR k) (h2 : InvS f10 f11) (h3 : IR r) (h4 : 0 ≤ f1 1 ∧ f1 1 ≤ 8) : Met l yX5_wrongBook (wsOf yX5_wrongBook cX5_wrongBook 4 (some .int)) rm_X5_wrongBook (PX g (va_P g.1 vwCl (wM g a f1 f2 f3 f4 f5 f6 f7 f8 f9 f10 f11 f12 f13 f20 f21 f22 f23 f24 f25)) [.ref (a 0), .int (iI k), .int (iI r)]) (vp_Si (fun r9 => r9 = iI (abL (fBok f1 f10 k r) 0))) 0 0 (fun _ => False) := by
  refine me (g := g) (by decide) rfl ?_
  intro pq eq s mq below meth cq C hnm hB ls hl
  obtain ⟨hx, hb, hr, hml, hown, hts, hlocks, hK⟩ := C
  have hown : s.vm.findClass RX5 = some mq.cls := hown
  have hl : lv_has ls 4 [(0, .ref (a 0)), (1, .int (iI k)), (2, .int (iI r))] := hl
  have hP : va_P g.1 vwCl (wM g a f1 f2 f3 f4 f5 f6 f7 f8 f9 f10 f11 f12 f13 f20 f21 f22 f23 f24 f25) s.heap := hB
  have q1 := h1.1
  have q2 := h1.2
  have q3 := h3.1
  have q4 := h3.2
  refine lv_aload_n hx hb dX5_wrongBook_0 rfl (lv_at hl 0 rfl) ?_
  refine lv_iload_n hx hb dX5_wrongBook_1 rfl (lv_at hl 1 rfl) ?_
  refine xu_i (x := iI (abL (fWro f10 k) 0)) (rV (rest := []) hx hb hml hown hts hK hl (c_X5_wrong l g a f1 f2 f3 f4 f5 f6 f7 f8 f9 f10 f11 f12 f13 f20 f21 f22 f23 f24 f25 k (show IR k from h1) (show InvS f10 f11 from h2)) lk_X5_317 hP (va_recv hK.1 hP (ci := 5) (q0 := 0) rfl rfl) rfl rfl rfl (Rm.of rfl) rfl rfl dX5_wrongBook_2) ?_
  rcases (show (((0 ≤ k ∧ k ≤ 3) ∧ ¬ f10 k = 0) ∧ abL (fWro f10 k) 0 = 0) ∨ ((¬ (0 ≤ k ∧ k ≤ 3)) ∧ abL (fWro f10 k) 0 = -1000000001) ∨ (((0 ≤ k ∧ k ≤ 3) ∧ f10 k = 0) ∧ abL (fWro f10 k) 0 = -1000000006) from wroC f10 k) with ⟨z1, e1⟩ | ⟨z1, e1⟩ | ⟨z1, e1⟩
  · rw [e1]
    refine lv_istore_n (lv' := [(3, .int (iI 0)), (0, .ref (a 0)), (1, .int (iI k)), (2, .int (iI r))]) hx hb dX5_wrongBook_5 rfl hl (by decide) rfl (fun ls hl => ?_)
    refine lv_iload_n hx hb dX5_wrongBook_6 rfl (lv_at hl 0 rfl) ?_
    refine xi_zt_eq (tgt := 14) hx hb ⟨by decide, by decide⟩ (by decide) dX5_wrongBook_7 (by decide) ?_
    refine lv_aload_n hx hb dX5_wrongBook_14 rfl (lv_at hl 1 rfl) ?_
    refine lv_iload_n hx hb dX5_wrongBook_15 rfl (lv_at hl 3 rfl) ?_
    refine xu_b (P := 0 ≤ r ∧ r ≤ f1 1 - 1) (rV (rest := []) hx hb hml hown hts hK hl (c_X5_isRange l g a f1 f2 f3 f4 f5 f6 f7 f8 f9 f10 f11 f12 f13 f20 f21 f22 f23 f24 f25 r (show IR r from ⟨by omega, by omega⟩) (show 0 ≤ f1 1 ∧ f1 1 ≤ 8 from by omega)) lk_X5_127 hP (va_recv hK.1 hP (ci := 5) (q0 := 0) rfl rfl) rfl rfl rfl (Rm.of rfl) rfl rfl dX5_wrongBook_16) (fun z2 => ?_) (fun z2 => ?_)
    · refine xi_zf_eq hx hb ⟨by decide, by decide⟩ (by decide) dX5_wrongBook_19 ⟨26, by decide⟩ ?_
      refine lv_iconst (v := iI (0)) hx hb dX5_wrongBook_22 (by decide) ?_
      refine lv_goto (tgt := 28) hx hb dX5_wrongBook_23 (by decide) ?_
      exact W.iret hx hb hr (fun t ht hW => ⟨_, rfl, congrArg iI (by unfold abL fBok fWro; (repeat (first | rw [if_pos (by omega)] | rw [if_neg (by omega)])); first | done | omega | decide), ht⟩) (fun q h => by cases h) dX5_wrongBook_28
    · refine xi_zt_eq (tgt := 26) hx hb ⟨by decide, by decide⟩ (by decide) dX5_wrongBook_19 (by decide) ?_
      refine xi_ldc hx hb hown hts kk_X5_50 dX5_wrongBook_26 ?_
      exact W.iret hx hb hr (fun t ht hW => ⟨_, rfl, congrArg iI (by unfold abL fBok fWro; (repeat (first | rw [if_pos (by omega)] | rw [if_neg (by omega)])); first | done | omega | decide), ht⟩) (fun q h => by cases h) dX5_wrongBook_28
  · rw [e1]
    refine lv_istore_n (lv' := [(3, .int (iI (-1000000001))), (0, .ref (a 0)), (1, .int (iI k)), (2, .int (iI r))]) hx hb dX5_wrongBook_5 rfl hl (by decide) rfl (fun ls hl => ?_)
    refine lv_iload_n hx hb dX5_wrongBook_6 rfl (lv_at hl 0 rfl) ?_
    refine xi_zf_eq hx hb ⟨by decide, by decide⟩ (by decide) dX5_wrongBook_7 ⟨14, by decide⟩ ?_
    refine lv_iload_n hx hb dX5_wrongBook_10 rfl (lv_at hl 0 rfl) ?_
    refine lv_goto (tgt := 28) hx hb dX5_wrongBook_11 (by decide) ?_
    exact W.iret hx hb hr (fun t ht hW => ⟨_, rfl, congrArg iI (by unfold abL fBok fWro; (repeat (first | rw [if_pos (by omega)] | rw [if_neg (by omega)])); first | done | omega | decide), ht⟩) (fun q h => by cases h) dX5_wrongBook_28
  · rw [e1]
    refine lv_istore_n (lv' := [(3, .int (iI (-1000000006))), (0, .ref (a 0)), (1, .int (iI k)), (2, .int (iI r))]) hx hb dX5_wrongBook_5 rfl hl (by decide) rfl (fun ls hl => ?_)
    refine lv_iload_n hx hb dX5_wrongBook_6 rfl (lv_at hl 0 rfl) ?_
    refine xi_zf_eq hx hb ⟨by decide, by decide⟩ (by decide) dX5_wrongBook_7 ⟨14, by decide⟩ ?_
    refine lv_iload_n hx hb dX5_wrongBook_10 rfl (lv_at hl 0 rfl) ?_
    refine lv_goto (tgt := 28) hx hb dX5_wrongBook_11 (by decide) ?_
    exact W.iret hx hb hr (fun t ht hW => ⟨_, rfl, congrArg iI (by unfold abL fBok fWro; (repeat (first | rw [if_pos (by omega)] | rw [if_neg (by omega)])); first | done | omega | decide), ht⟩) (fun q h => by cases h) dX5_wrongBook_28
abbrev rm_X5_sheet : Room := { frames := 2, cells := 0, slots := 0, locals := 45 }
set_option maxRecDepth 100000 in
set_option maxHeartbeats 4000000 in
theorem c_X5_sheet (l : Launch) (g : Gd) (a : Nat → Nat) (f1 : Int → Int) (f2 : Int → Int) (f3 : Int → Int) (f4 : Int → Int) (f5 : Int → Int) (f6 : Int → Int) (f7 : Int → Int) (f8 : Int → Int) (f9 : Int → Int) (f10 : Int → Int) (f11 : Int → Int) (f12 : Int → Int) (f13 : Int → Int) (f20 : Int) (f21 : Int) (f22 : Int) (f23 : Int) (f24 : Int) (f25 : Int) (k : Int) (bits : Int) (n : Int) (sz : Nat) (h1 : InvK 0 f1) (h2 : f1 0 ≤ 9999) (h3 : IR k) (h4 : IR bits) (h5 : IR n) (h6 : InvS f10 f11) : Met l yX5_sheet (wsOf yX5_sheet cX5_sheet 5 (some .int)) rm_X5_sheet (PX g (wP g (wM g a f1 f2 f3 f4 f5 f6 f7 f8 f9 f10 f11 f12 f13 f20 f21 f22 f23 f24 f25) sz) [.ref (a 0), .int (iI k), .int (iI bits), .int (iI n)]) (QMi g (fun _ : Unit => wM g a f1 f2 f3 f4 f5 (fb (fSht k bits n) f6) f7 f8 f9 (if fSht k bits n = 0 then up f10 k bits else f10) (if fSht k bits n = 0 then up f11 k (if bits = 0 then 0 else n) else f11) (if fSht k bits n = 0 then zrT f12 (40 * k) 40 else f12) f13 f20 f21 f22 f23 f24 f25) (fun r9 _ => r9 = ab (fSht k bits n) (iI (if bits = 0 then 0 else n))) (va_A (wM g a f1 f2 f3 f4 f5 f6 f7 f8 f9 f10 f11 f12 f13 f20 f21 f22 f23 f24 f25) sz)) 0 0 (va_A (wM g a f1 f2 f3 f4 f5 f6 f7 f8 f9 f10 f11 f12 f13 f20 f21 f22 f23 f24 f25) sz) := by
  refine me (g := g) (by decide) rfl ?_
  intro pq eq s mq below meth cq C hnm hB ls hl
  obtain ⟨hx, hb, hr, hml, hown, hts, hlocks, hK⟩ := C
  have hown : s.vm.findClass RX5 = some mq.cls := hown
  have hl : lv_has ls 5 [(0, .ref (a 0)), (1, .int (iI k)), (2, .int (iI bits)), (3, .int (iI n))] := hl
  obtain ⟨hsz, hP, hD0⟩ := hB
  subst hsz
  have hD := hD0.self (sz := s.heap.size)
  have hA : ∀ q : Nat, s.heap.size ≤ q → va_A (wM g a f1 f2 f3 f4 f5 f6 f7 f8 f9 f10 f11 f12 f13 f20 f21 f22 f23 f24 f25) s.heap.size q := fun q h => Or.inr h
  have hS : va_S (va_A (wM g a f1 f2 f3 f4 f5 f6 f7 f8 f9 f10 f11 f12 f13 f20 f21 f22 f23 f24 f25) s.heap.size) s.heap s.heap [] := va_S.rf
  have hI := h1
  have hI8 : Inv f1 := h1.mono (by omega)
  have hn := hI.num
  have hs := hI.sea
  have hv := hI.vil
  have q1 := h3.1
  have q3 := h4.1
  have q5 := h5.1
  have q2 := h3.2
  have q4 := h4.2
  have q6 := h5.2
  refine lv_iload_n hx hb dX5_sheet_0 rfl (lv_at hl 1 rfl) ?_
  refine xu_b (P := 0 ≤ k ∧ k ≤ 3) (rS (rest := []) hx hb hml hown hts hK hl (c_X5_isOne l g k (show IR k from ⟨by omega, by omega⟩)) lk_X5_312 trivial rfl rfl rfl (Rm.of rfl) rfl rfl dX5_sheet_1) (fun z1 => ?_) (fun z1 => ?_)
  · refine xi_zf_eq hx hb ⟨by decide, by decide⟩ (by decide) dX5_sheet_4 ⟨29, by decide⟩ ?_
    refine lv_iload_n hx hb dX5_sheet_7 rfl (lv_at hl 2 rfl) ?_
    refine xi_z_eq (tgt := 36) hx hb ⟨by omega, by omega⟩ dX5_sheet_8 (by decide) (fun z2 => ?_) (fun z2 => ?_)
    · refine lv_iload_n hx hb dX5_sheet_36 rfl (lv_at hl 3 rfl) ?_
      refine xi_z_ge (tgt := 48) hx hb ⟨by omega, by omega⟩ dX5_sheet_37 (by decide) (fun z3 => ?_) (fun z3 => ?_)
      · refine lv_iload_n hx hb dX5_sheet_48 rfl (lv_at hl 3 rfl) ?_
        refine lv_bipush (v := iI (40)) hx hb dX5_sheet_49 (by decide) ?_
        refine xi_c_le (tgt := 61) hx hb ⟨by omega, by omega⟩ ⟨by decide, by decide⟩ dX5_sheet_51 (by decide) (fun z4 => ?_) (fun z4 => ?_)
        · refine lv_aload_n hx hb dX5_sheet_61 rfl (lv_at hl 0 rfl) ?_
          refine xg_X5 hx hb hts hown hK hP 0 rfl 15 (by decide) fk_X5_37 (v := .ref (a 10)) rfl dX5_sheet_62 ?_
          refine lv_iload_n hx hb dX5_sheet_65 rfl (lv_at hl 1 rfl) ?_
          refine lv_iload_n hx hb dX5_sheet_66 rfl (lv_at hl 2 rfl) ?_
          refine xi_ast hx hb hK hP hD hS 10 (f := f10) rfl (i := k) (v := bits) ⟨by omega, by omega⟩ rfl dX5_sheet_67 (fun H locs hP hD hS => ?_)
          have hP : va_P g.1 vwCl (wM g a f1 f2 f3 f4 f5 f6 f7 f8 f9 (up f10 k bits) f11 f12 f13 f20 f21 f22 f23 f24 f25) H := hP
          have hD : va_D (va_A (wM g a f1 f2 f3 f4 f5 f6 f7 f8 f9 f10 f11 f12 f13 f20 f21 f22 f23 f24 f25) s.heap.size) (wM g a f1 f2 f3 f4 f5 f6 f7 f8 f9 (up f10 k bits) f11 f12 f13 f20 f21 f22 f23 f24 f25) := hD
          refine lv_aload_n hx hb dX5_sheet_68 rfl (lv_at hl 0 rfl) ?_
          refine xg_X5 hx hb hts hown hK hP 0 rfl 16 (by decide) fk_X5_40 (v := .ref (a 11)) rfl dX5_sheet_69 ?_
          refine lv_iload_n hx hb dX5_sheet_72 rfl (lv_at hl 1 rfl) ?_
          refine lv_iload_n hx hb dX5_sheet_73 rfl (lv_at hl 2 rfl) ?_
          refine xi_z_ne (tgt := 81) hx hb ⟨by omega, by omega⟩ dX5_sheet_74 (by decide) (fun z5 => ?_) (fun z5 => ?_)
          · refine lv_iload_n hx hb dX5_sheet_81 rfl (lv_at hl 3 rfl) ?_
            refine xi_ast hx hb hK hP hD hS 11 (f := f11) rfl (i := k) (v := n) ⟨by omega, by omega⟩ rfl dX5_sheet_82 (fun H locs hP hD hS => ?_)
            have hP : va_P g.1 vwCl (wM g a f1 f2 f3 f4 f5 f6 f7 f8 f9 (up f10 k bits) (up f11 k n) f12 f13 f20 f21 f22 f23 f24 f25) H := hP
            have hD : va_D (va_A (wM g a f1 f2 f3 f4 f5 f6 f7 f8 f9 f10 f11 f12 f13 f20 f21 f22 f23 f24 f25) s.heap.size) (wM g a f1 f2 f3 f4 f5 f6 f7 f8 f9 (up f10 k bits) (up f11 k n) f12 f13 f20 f21 f22 f23 f24 f25) := hD
            refine lv_iconst (v := iI (0)) hx hb dX5_sheet_83 (by decide) ?_
            refine lv_istore (lv' := [(4, .int (iI 0)), (0, .ref (a 0)), (1, .int (iI k)), (2, .int (iI bits)), (3, .int (iI n))]) hx hb dX5_sheet_84 hl (by decide) rfl (fun ls hl => ?_)
            have lp86 : ∀ (n86 : Nat) (i : Int), (0 ≤ i ∧ i ≤ 40) → (40 - i).toNat < n86 → ∀ ls : Array Slot, lv_has ls 5 [(4, .int (iI i)), (0, .ref (a 0)), (1, .int (iI k)), (2, .int (iI bits)), (3, .int (iI n))] → ∀ (H : Heap) (locs : List Loc), va_P g.1 vwCl (wM g a f1 f2 f3 f4 f5 f6 f7 f8 f9 (up f10 k bits) (up f11 k n) (zrT f12 (40 * k) i) f13 f20 f21 f22 f23 f24 f25) H → va_D (va_A (wM g a f1 f2 f3 f4 f5 f6 f7 f8 f9 f10 f11 f12 f13 f20 f21 f22 f23 f24 f25) s.heap.size) (wM g a f1 f2 f3 f4 f5 f6 f7 f8 f9 (up f10 k bits) (up f11 k n) (zrT f12 (40 * k) i) f13 f20 f21 f22 f23 f24 f25) → va_S (va_A (wM g a f1 f2 f3 f4 f5 f6 f7 f8 f9 f10 f11 f12 f13 f20 f21 f22 f23 f24 f25) s.heap.size) s.heap H locs → W pq l eq rm_X5_sheet s mq [.ref (a 0), .int (iI k), .int (iI bits), .int (iI n)].toArray below meth cq H locs 0 0 (MQ below (QMi g (fun _ : Unit => wM g a f1 f2 f3 f4 f5 (fb (fSht k bits n) f6) f7 f8 f9 (if fSht k bits n = 0 then up f10 k bits else f10) (if fSht k bits n = 0 then up f11 k (if bits = 0 then 0 else n) else f11) (if fSht k bits n = 0 then zrT f12 (40 * k) 40 else f12) f13 f20 f21 f22 f23 f24 f25) (fun r9 _ => r9 = ab (fSht k bits n) (iI (if bits = 0 then 0 else n))) (va_A (wM g a f1 f2 f3 f4 f5 f6 f7 f8 f9 f10 f11 f12 f13 f20 f21 f22 f23 f24 f25) s.heap.size)) [.ref (a 0), .int (iI k), .int (iI bits), .int (iI n)].toArray s 0 0 (va_A (wM g a f1 f2 f3 f4 f5 f6 f7 f8 f9 f10 f11 f12 f13 f20 f21 f22 f23 f24 f25) s.heap.size)) (F0 mq 86 ls []) := by
              intro n86
              induction n86 with
              | zero => intro i i86_1 hm; exact absurd hm (Nat.not_lt_zero _)
              | succ n86 ih86 =>
                intro i i86_1 hm86 ls hl H locs hP hD hS
                refine lv_iload hx hb dX5_sheet_86 (lv_at hl 0 rfl) ?_
                refine lv_bipush (v := iI (40)) hx hb dX5_sheet_88 (by decide) ?_
                refine xi_c_ge (tgt := 112) hx hb ⟨by omega, by omega⟩ ⟨by decide, by decide⟩ dX5_sheet_90 (by decide) (fun z6 => ?_) (fun z6 => ?_)
                · refine lv_aload_n hx hb dX5_sheet_112 rfl (lv_at hl 1 rfl) ?_
                  refine xg_X5 hx hb hts hown hK hP 0 rfl 16 (by decide) fk_X5_40 (v := .ref (a 11)) rfl dX5_sheet_113 ?_
                  refine lv_iload_n hx hb dX5_sheet_116 rfl (lv_at hl 2 rfl) ?_
                  refine xi_ald hx hb hK hP 11 (f := up f11 k n) rfl (i := k) ⟨by omega, by omega⟩ rfl dX5_sheet_117 ?_
                  have hf : fSht k bits n = 0 := by unfold fSht; (repeat (first | rw [if_pos (by omega)] | rw [if_neg (by omega)])); first | done | (exfalso; omega)
                  have he7 : (up f10 k bits) = (if fSht k bits n = 0 then up f10 k bits else f10) := by rw [hf]; rfl
                  have hP := Eq.mp (congrArg (fun z9 => va_P g.1 vwCl (wM g a f1 f2 f3 f4 f5 f6 f7 f8 f9 z9 (up f11 k n) (zrT f12 (40 * k) i) f13 f20 f21 f22 f23 f24 f25) H) he7) hP
                  have hD := Eq.mp (congrArg (fun z9 => va_D (va_A (wM g a f1 f2 f3 f4 f5 f6 f7 f8 f9 f10 f11 f12 f13 f20 f21 f22 f23 f24 f25) s.heap.size) (wM g a f1 f2 f3 f4 f5 f6 f7 f8 f9 z9 (up f11 k n) (zrT f12 (40 * k) i) f13 f20 f21 f22 f23 f24 f25)) he7) hD
                  have he8 : (up f11 k n) = (if fSht k bits n = 0 then up f11 k (if bits = 0 then 0 else n) else f11) := by rw [hf, if_pos rfl]; first | (rw [if_pos (by omega)]; done) | (rw [if_neg (by omega)]; done) | (exfalso; omega)
                  have hP := Eq.mp (congrArg (fun z9 => va_P g.1 vwCl (wM g a f1 f2 f3 f4 f5 f6 f7 f8 f9 (if fSht k bits n = 0 then up f10 k bits else f10) z9 (zrT f12 (40 * k) i) f13 f20 f21 f22 f23 f24 f25) H) he8) hP
                  have hD := Eq.mp (congrArg (fun z9 => va_D (va_A (wM g a f1 f2 f3 f4 f5 f6 f7 f8 f9 f10 f11 f12 f13 f20 f21 f22 f23 f24 f25) s.heap.size) (wM g a f1 f2 f3 f4 f5 f6 f7 f8 f9 (if fSht k bits n = 0 then up f10 k bits else f10) z9 (zrT f12 (40 * k) i) f13 f20 f21 f22 f23 f24 f25)) he8) hD
                  have he9 : (zrT f12 (40 * k) i) = (if fSht k bits n = 0 then zrT f12 (40 * k) 40 else f12) := by rw [hf, if_pos rfl, show i = 40 by omega]
                  have hP := Eq.mp (congrArg (fun z9 => va_P g.1 vwCl (wM g a f1 f2 f3 f4 f5 f6 f7 f8 f9 (if fSht k bits n = 0 then up f10 k bits else f10) (if fSht k bits n = 0 then up f11 k (if bits = 0 then 0 else n) else f11) z9 f13 f20 f21 f22 f23 f24 f25) H) he9) hP
                  have hD := Eq.mp (congrArg (fun z9 => va_D (va_A (wM g a f1 f2 f3 f4 f5 f6 f7 f8 f9 f10 f11 f12 f13 f20 f21 f22 f23 f24 f25) s.heap.size) (wM g a f1 f2 f3 f4 f5 f6 f7 f8 f9 (if fSht k bits n = 0 then up f10 k bits else f10) (if fSht k bits n = 0 then up f11 k (if bits = 0 then 0 else n) else f11) z9 f13 f20 f21 f22 f23 f24 f25)) he9) hD
                  have he10 : f6 = (fb (fSht k bits n) f6) := by rw [hf]; rfl
                  have hP := Eq.mp (congrArg (fun z9 => va_P g.1 vwCl (wM g a f1 f2 f3 f4 f5 z9 f7 f8 f9 (if fSht k bits n = 0 then up f10 k bits else f10) (if fSht k bits n = 0 then up f11 k (if bits = 0 then 0 else n) else f11) (if fSht k bits n = 0 then zrT f12 (40 * k) 40 else f12) f13 f20 f21 f22 f23 f24 f25) H) he10) hP
                  have hD := Eq.mp (congrArg (fun z9 => va_D (va_A (wM g a f1 f2 f3 f4 f5 f6 f7 f8 f9 f10 f11 f12 f13 f20 f21 f22 f23 f24 f25) s.heap.size) (wM g a f1 f2 f3 f4 f5 z9 f7 f8 f9 (if fSht k bits n = 0 then up f10 k bits else f10) (if fSht k bits n = 0 then up f11 k (if bits = 0 then 0 else n) else f11) (if fSht k bits n = 0 then zrT f12 (40 * k) 40 else f12) f13 f20 f21 f22 f23 f24 f25)) he10) hD
                  have hP : va_P g.1 vwCl (wM g a f1 f2 f3 f4 f5 (fb (fSht k bits n) f6) f7 f8 f9 (if fSht k bits n = 0 then up f10 k bits else f10) (if fSht k bits n = 0 then up f11 k (if bits = 0 then 0 else n) else f11) (if fSht k bits n = 0 then zrT f12 (40 * k) 40 else f12) f13 f20 f21 f22 f23 f24 f25) H := hP
                  have hD : va_D (va_A (wM g a f1 f2 f3 f4 f5 f6 f7 f8 f9 f10 f11 f12 f13 f20 f21 f22 f23 f24 f25) s.heap.size) (wM g a f1 f2 f3 f4 f5 (fb (fSht k bits n) f6) f7 f8 f9 (if fSht k bits n = 0 then up f10 k bits else f10) (if fSht k bits n = 0 then up f11 k (if bits = 0 then 0 else n) else f11) (if fSht k bits n = 0 then zrT f12 (40 * k) 40 else f12) f13 f20 f21 f22 f23 f24 f25) := hD
                  exact W.iret hx hb hr (fun t ht hW => ⟨⟨_, (), rfl, by rw [hf, ab_0]; exact congrArg iI (by rw [up_s]; first | (rw [if_pos (by omega)]; done) | (rw [if_neg (by omega)]; done) | (exfalso; omega)), by rw [ht]; exact hP, hD⟩, hS.F ht⟩) hS.2.2 dX5_sheet_118
                · refine lv_aload_n hx hb dX5_sheet_93 rfl (lv_at hl 1 rfl) ?_
                  refine xg_X5 hx hb hts hown hK hP 0 rfl 17 (by decide) fk_X5_43 (v := .ref (a 12)) rfl dX5_sheet_94 ?_
                  refine lv_bipush (v := iI (40)) hx hb dX5_sheet_97 (by decide) ?_
                  refine lv_iload_n hx hb dX5_sheet_99 rfl (lv_at hl 2 rfl) ?_
                  refine xi_mul hx hb dX5_sheet_100 ?_
                  refine lv_iload hx hb dX5_sheet_101 (lv_at hl 0 rfl) ?_
                  refine xi_add hx hb dX5_sheet_103 ?_
                  refine lv_lconst (v := lI (0)) hx hb dX5_sheet_104 (by decide) ?_
                  refine xl_ast hx hb hK hP hD hS 12 (f := zrT f12 (40 * k) i) rfl (i := 40 * k + i) (v := 0) ⟨by omega, by omega⟩ rfl dX5_sheet_105 (fun H locs hP hD hS => ?_)
                  have hP : va_P g.1 vwCl (wM g a f1 f2 f3 f4 f5 f6 f7 f8 f9 (up f10 k bits) (up f11 k n) (up (zrT f12 (40 * k) i) (40 * k + i) 0) f13 f20 f21 f22 f23 f24 f25) H := hP
                  have hD : va_D (va_A (wM g a f1 f2 f3 f4 f5 f6 f7 f8 f9 f10 f11 f12 f13 f20 f21 f22 f23 f24 f25) s.heap.size) (wM g a f1 f2 f3 f4 f5 f6 f7 f8 f9 (up f10 k bits) (up f11 k n) (up (zrT f12 (40 * k) i) (40 * k + i) 0) f13 f20 f21 f22 f23 f24 f25) := hD
                  refine xi_inc (lv' := [(4, .int (iI (i + 1))), (0, .ref (a 0)), (1, .int (iI k)), (2, .int (iI bits)), (3, .int (iI n))]) hx hb dX5_sheet_106 hl (k := 0) rfl (by decide) rfl (fun ls hl => ?_)
                  refine lv_goto (tgt := 86) hx hb dX5_sheet_109 (by decide) ?_
                  have hq11 : (up (zrT f12 (40 * k) i) (40 * k + i) 0) = (zrT f12 (40 * k) (i + 1)) := zrT_S f12 (40 * k) i86_1.1
                  have hP := Eq.mp (congrArg (fun z9 => va_P g.1 vwCl (wM g a f1 f2 f3 f4 f5 f6 f7 f8 f9 (up f10 k bits) (up f11 k n) z9 f13 f20 f21 f22 f23 f24 f25) H) hq11) hP
                  have hD := Eq.mp (congrArg (fun z9 => va_D (va_A (wM g a f1 f2 f3 f4 f5 f6 f7 f8 f9 f10 f11 f12 f13 f20 f21 f22 f23 f24 f25) s.heap.size) (wM g a f1 f2 f3 f4 f5 f6 f7 f8 f9 (up f10 k bits) (up f11 k n) z9 f13 f20 f21 f22 f23 f24 f25)) hq11) hD
                  exact ih86 (i + 1) (by omega) (by omega) ls (lv_sub hl [0, 1, 2, 3, 4] rfl) H locs hP hD hS
            have hq12 : f12 = (zrT f12 (40 * k) 0) := zrT_0 f12 (40 * k)
            have hP := Eq.mp (congrArg (fun z9 => va_P g.1 vwCl (wM g a f1 f2 f3 f4 f5 f6 f7 f8 f9 (up f10 k bits) (up f11 k n) z9 f13 f20 f21 f22 f23 f24 f25) H) hq12) hP
            have hD := Eq.mp (congrArg (fun z9 => va_D (va_A (wM g a f1 f2 f3 f4 f5 f6 f7 f8 f9 f10 f11 f12 f13 f20 f21 f22 f23 f24 f25) s.heap.size) (wM g a f1 f2 f3 f4 f5 f6 f7 f8 f9 (up f10 k bits) (up f11 k n) z9 f13 f20 f21 f22 f23 f24 f25)) hq12) hD
            exact lp86 (40 + 1) 0 (by omega) (by omega) ls (lv_sub hl [0, 1, 2, 3, 4] rfl) H locs hP hD hS
          · refine lv_iconst (v := iI (0)) hx hb dX5_sheet_77 (by decide) ?_
            refine lv_goto (tgt := 82) hx hb dX5_sheet_78 (by decide) ?_
            refine xi_ast hx hb hK hP hD hS 11 (f := f11) rfl (i := k) (v := 0) ⟨by omega, by omega⟩ rfl dX5_sheet_82 (fun H locs hP hD hS => ?_)
            have hP : va_P g.1 vwCl (wM g a f1 f2 f3 f4 f5 f6 f7 f8 f9 (up f10 k bits) (up f11 k 0) f12 f13 f20 f21 f22 f23 f24 f25) H := hP
            have hD : va_D (va_A (wM g a f1 f2 f3 f4 f5 f6 f7 f8 f9 f10 f11 f12 f13 f20 f21 f22 f23 f24 f25) s.heap.size) (wM g a f1 f2 f3 f4 f5 f6 f7 f8 f9 (up f10 k bits) (up f11 k 0) f12 f13 f20 f21 f22 f23 f24 f25) := hD
            refine lv_iconst (v := iI (0)) hx hb dX5_sheet_83 (by decide) ?_
            refine lv_istore (lv' := [(4, .int (iI 0)), (0, .ref (a 0)), (1, .int (iI k)), (2, .int (iI bits)), (3, .int (iI n))]) hx hb dX5_sheet_84 hl (by decide) rfl (fun ls hl => ?_)
            have lp86 : ∀ (n86 : Nat) (i : Int), (0 ≤ i ∧ i ≤ 40) → (40 - i).toNat < n86 → ∀ ls : Array Slot, lv_has ls 5 [(4, .int (iI i)), (0, .ref (a 0)), (1, .int (iI k)), (2, .int (iI bits)), (3, .int (iI n))] → ∀ (H : Heap) (locs : List Loc), va_P g.1 vwCl (wM g a f1 f2 f3 f4 f5 f6 f7 f8 f9 (up f10 k bits) (up f11 k 0) (zrT f12 (40 * k) i) f13 f20 f21 f22 f23 f24 f25) H → va_D (va_A (wM g a f1 f2 f3 f4 f5 f6 f7 f8 f9 f10 f11 f12 f13 f20 f21 f22 f23 f24 f25) s.heap.size) (wM g a f1 f2 f3 f4 f5 f6 f7 f8 f9 (up f10 k bits) (up f11 k 0) (zrT f12 (40 * k) i) f13 f20 f21 f22 f23 f24 f25) → va_S (va_A (wM g a f1 f2 f3 f4 f5 f6 f7 f8 f9 f10 f11 f12 f13 f20 f21 f22 f23 f24 f25) s.heap.size) s.heap H locs → W pq l eq rm_X5_sheet s mq [.ref (a 0), .int (iI k), .int (iI bits), .int (iI n)].toArray below meth cq H locs 0 0 (MQ below (QMi g (fun _ : Unit => wM g a f1 f2 f3 f4 f5 (fb (fSht k bits n) f6) f7 f8 f9 (if fSht k bits n = 0 then up f10 k bits else f10) (if fSht k bits n = 0 then up f11 k (if bits = 0 then 0 else n) else f11) (if fSht k bits n = 0 then zrT f12 (40 * k) 40 else f12) f13 f20 f21 f22 f23 f24 f25) (fun r9 _ => r9 = ab (fSht k bits n) (iI (if bits = 0 then 0 else n))) (va_A (wM g a f1 f2 f3 f4 f5 f6 f7 f8 f9 f10 f11 f12 f13 f20 f21 f22 f23 f24 f25) s.heap.size)) [.ref (a 0), .int (iI k), .int (iI bits), .int (iI n)].toArray s 0 0 (va_A (wM g a f1 f2 f3 f4 f5 f6 f7 f8 f9 f10 f11 f12 f13 f20 f21 f22 f23 f24 f25) s.heap.size)) (F0 mq 86 ls []) := by
              intro n86
              induction n86 with
              | zero => intro i i86_1 hm; exact absurd hm (Nat.not_lt_zero _)
              | succ n86 ih86 =>
                intro i i86_1 hm86 ls hl H locs hP hD hS
                refine lv_iload hx hb dX5_sheet_86 (lv_at hl 0 rfl) ?_
                refine lv_bipush (v := iI (40)) hx hb dX5_sheet_88 (by decide) ?_
                refine xi_c_ge (tgt := 112) hx hb ⟨by omega, by omega⟩ ⟨by decide, by decide⟩ dX5_sheet_90 (by decide) (fun z13 => ?_) (fun z13 => ?_)
                · refine lv_aload_n hx hb dX5_sheet_112 rfl (lv_at hl 1 rfl) ?_
                  refine xg_X5 hx hb hts hown hK hP 0 rfl 16 (by decide) fk_X5_40 (v := .ref (a 11)) rfl dX5_sheet_113 ?_
                  refine lv_iload_n hx hb dX5_sheet_116 rfl (lv_at hl 2 rfl) ?_
                  refine xi_ald hx hb hK hP 11 (f := up f11 k 0) rfl (i := k) ⟨by omega, by omega⟩ rfl dX5_sheet_117 ?_
                  have hf : fSht k bits n = 0 := by unfold fSht; (repeat (first | rw [if_pos (by omega)] | rw [if_neg (by omega)])); first | done | (exfalso; omega)
                  have he14 : (up f10 k bits) = (if fSht k bits n = 0 then up f10 k bits else f10) := by rw [hf]; rfl
                  have hP := Eq.mp (congrArg (fun z9 => va_P g.1 vwCl (wM g a f1 f2 f3 f4 f5 f6 f7 f8 f9 z9 (up f11 k 0) (zrT f12 (40 * k) i) f13 f20 f21 f22 f23 f24 f25) H) he14) hP
                  have hD := Eq.mp (congrArg (fun z9 => va_D (va_A (wM g a f1 f2 f3 f4 f5 f6 f7 f8 f9 f10 f11 f12 f13 f20 f21 f22 f23 f24 f25) s.heap.size) (wM g a f1 f2 f3 f4 f5 f6 f7 f8 f9 z9 (up f11 k 0) (zrT f12 (40 * k) i) f13 f20 f21 f22 f23 f24 f25)) he14) hD
                  have he15 : (up f11 k 0) = (if fSht k bits n = 0 then up f11 k (if bits = 0 then 0 else n) else f11) := by rw [hf, if_pos rfl]; first | (rw [if_pos (by omega)]; done) | (rw [if_neg (by omega)]; done) | (exfalso; omega)
                  have hP := Eq.mp (congrArg (fun z9 => va_P g.1 vwCl (wM g a f1 f2 f3 f4 f5 f6 f7 f8 f9 (if fSht k bits n = 0 then up f10 k bits else f10) z9 (zrT f12 (40 * k) i) f13 f20 f21 f22 f23 f24 f25) H) he15) hP
                  have hD := Eq.mp (congrArg (fun z9 => va_D (va_A (wM g a f1 f2 f3 f4 f5 f6 f7 f8 f9 f10 f11 f12 f13 f20 f21 f22 f23 f24 f25) s.heap.size) (wM g a f1 f2 f3 f4 f5 f6 f7 f8 f9 (if fSht k bits n = 0 then up f10 k bits else f10) z9 (zrT f12 (40 * k) i) f13 f20 f21 f22 f23 f24 f25)) he15) hD
                  have he16 : (zrT f12 (40 * k) i) = (if fSht k bits n = 0 then zrT f12 (40 * k) 40 else f12) := by rw [hf, if_pos rfl, show i = 40 by omega]
                  have hP := Eq.mp (congrArg (fun z9 => va_P g.1 vwCl (wM g a f1 f2 f3 f4 f5 f6 f7 f8 f9 (if fSht k bits n = 0 then up f10 k bits else f10) (if fSht k bits n = 0 then up f11 k (if bits = 0 then 0 else n) else f11) z9 f13 f20 f21 f22 f23 f24 f25) H) he16) hP
                  have hD := Eq.mp (congrArg (fun z9 => va_D (va_A (wM g a f1 f2 f3 f4 f5 f6 f7 f8 f9 f10 f11 f12 f13 f20 f21 f22 f23 f24 f25) s.heap.size) (wM g a f1 f2 f3 f4 f5 f6 f7 f8 f9 (if fSht k bits n = 0 then up f10 k bits else f10) (if fSht k bits n = 0 then up f11 k (if bits = 0 then 0 else n) else f11) z9 f13 f20 f21 f22 f23 f24 f25)) he16) hD
                  have he17 : f6 = (fb (fSht k bits n) f6) := by rw [hf]; rfl
                  have hP := Eq.mp (congrArg (fun z9 => va_P g.1 vwCl (wM g a f1 f2 f3 f4 f5 z9 f7 f8 f9 (if fSht k bits n = 0 then up f10 k bits else f10) (if fSht k bits n = 0 then up f11 k (if bits = 0 then 0 else n) else f11) (if fSht k bits n = 0 then zrT f12 (40 * k) 40 else f12) f13 f20 f21 f22 f23 f24 f25) H) he17) hP
                  have hD := Eq.mp (congrArg (fun z9 => va_D (va_A (wM g a f1 f2 f3 f4 f5 f6 f7 f8 f9 f10 f11 f12 f13 f20 f21 f22 f23 f24 f25) s.heap.size) (wM g a f1 f2 f3 f4 f5 z9 f7 f8 f9 (if fSht k bits n = 0 then up f10 k bits else f10) (if fSht k bits n = 0 then up f11 k (if bits = 0 then 0 else n) else f11) (if fSht k bits n = 0 then zrT f12 (40 * k) 40 else f12) f13 f20 f21 f22 f23 f24 f25)) he17) hD
                  have hP : va_P g.1 vwCl (wM g a f1 f2 f3 f4 f5 (fb (fSht k bits n) f6) f7 f8 f9 (if fSht k bits n = 0 then up f10 k bits else f10) (if fSht k bits n = 0 then up f11 k (if bits = 0 then 0 else n) else f11) (if fSht k bits n = 0 then zrT f12 (40 * k) 40 else f12) f13 f20 f21 f22 f23 f24 f25) H := hP
                  have hD : va_D (va_A (wM g a f1 f2 f3 f4 f5 f6 f7 f8 f9 f10 f11 f12 f13 f20 f21 f22 f23 f24 f25) s.heap.size) (wM g a f1 f2 f3 f4 f5 (fb (fSht k bits n) f6) f7 f8 f9 (if fSht k bits n = 0 then up f10 k bits else f10) (if fSht k bits n = 0 then up f11 k (if bits = 0 then 0 else n) else f11) (if fSht k bits n = 0 then zrT f12 (40 * k) 40 else f12) f13 f20 f21 f22 f23 f24 f25) := hD
                  exact W.iret hx hb hr (fun t ht hW => ⟨⟨_, (), rfl, by rw [hf, ab_0]; exact congrArg iI (by rw [up_s]; first | (rw [if_pos (by omega)]; done) | (rw [if_neg (by omega)]; done) | (exfalso; omega)), by rw [ht]; exact hP, hD⟩, hS.F ht⟩) hS.2.2 dX5_sheet_118
                · refine lv_aload_n hx hb dX5_sheet_93 rfl (lv_at hl 1 rfl) ?_
                  refine xg_X5 hx hb hts hown hK hP 0 rfl 17 (by decide) fk_X5_43 (v := .ref (a 12)) rfl dX5_sheet_94 ?_
                  refine lv_bipush (v := iI (40)) hx hb dX5_sheet_97 (by decide) ?_
                  refine lv_iload_n hx hb dX5_sheet_99 rfl (lv_at hl 2 rfl) ?_
                  refine xi_mul hx hb dX5_sheet_100 ?_
                  refine lv_iload hx hb dX5_sheet_101 (lv_at hl 0 rfl) ?_
                  refine xi_add hx hb dX5_sheet_103 ?_
                  refine lv_lconst (v := lI (0)) hx hb dX5_sheet_104 (by decide) ?_
                  refine xl_ast hx hb hK hP hD hS 12 (f := zrT f12 (40 * k) i) rfl (i := 40 * k + i) (v := 0) ⟨by omega, by omega⟩ rfl dX5_sheet_105 (fun H locs hP hD hS => ?_)
                  have hP : va_P g.1 vwCl (wM g a f1 f2 f3 f4 f5 f6 f7 f8 f9 (up f10 k bits) (up f11 k 0) (up (zrT f12 (40 * k) i) (40 * k + i) 0) f13 f20 f21 f22 f23 f24 f25) H := hP
                  have hD : va_D (va_A (wM g a f1 f2 f3 f4 f5 f6 f7 f8 f9 f10 f11 f12 f13 f20 f21 f22 f23 f24 f25) s.heap.size) (wM g a f1 f2 f3 f4 f5 f6 f7 f8 f9 (up f10 k bits) (up f11 k 0) (up (zrT f12 (40 * k) i) (40 * k + i) 0) f13 f20 f21 f22 f23 f24 f25) := hD
                  refine xi_inc (lv' := [(4, .int (iI (i + 1))), (0, .ref (a 0)), (1, .int (iI k)), (2, .int (iI bits)), (3, .int (iI n))]) hx hb dX5_sheet_106 hl (k := 0) rfl (by decide) rfl (fun ls hl => ?_)
                  refine lv_goto (tgt := 86) hx hb dX5_sheet_109 (by decide) ?_
                  have hq18 : (up (zrT f12 (40 * k) i) (40 * k + i) 0) = (zrT f12 (40 * k) (i + 1)) := zrT_S f12 (40 * k) i86_1.1
                  have hP := Eq.mp (congrArg (fun z9 => va_P g.1 vwCl (wM g a f1 f2 f3 f4 f5 f6 f7 f8 f9 (up f10 k bits) (up f11 k 0) z9 f13 f20 f21 f22 f23 f24 f25) H) hq18) hP
                  have hD := Eq.mp (congrArg (fun z9 => va_D (va_A (wM g a f1 f2 f3 f4 f5 f6 f7 f8 f9 f10 f11 f12 f13 f20 f21 f22 f23 f24 f25) s.heap.size) (wM g a f1 f2 f3 f4 f5 f6 f7 f8 f9 (up f10 k bits) (up f11 k 0) z9 f13 f20 f21 f22 f23 f24 f25)) hq18) hD
                  exact ih86 (i + 1) (by omega) (by omega) ls (lv_sub hl [0, 1, 2, 3, 4] rfl) H locs hP hD hS
            have hq19 : f12 = (zrT f12 (40 * k) 0) := zrT_0 f12 (40 * k)
            have hP := Eq.mp (congrArg (fun z9 => va_P g.1 vwCl (wM g a f1 f2 f3 f4 f5 f6 f7 f8 f9 (up f10 k bits) (up f11 k 0) z9 f13 f20 f21 f22 f23 f24 f25) H) hq19) hP
            have hD := Eq.mp (congrArg (fun z9 => va_D (va_A (wM g a f1 f2 f3 f4 f5 f6 f7 f8 f9 f10 f11 f12 f13 f20 f21 f22 f23 f24 f25) s.heap.size) (wM g a f1 f2 f3 f4 f5 f6 f7 f8 f9 (up f10 k bits) (up f11 k 0) z9 f13 f20 f21 f22 f23 f24 f25)) hq19) hD
            exact lp86 (40 + 1) 0 (by omega) (by omega) ls (lv_sub hl [0, 1, 2, 3, 4] rfl) H locs hP hD hS
        · refine lv_aload_n hx hb dX5_sheet_54 rfl (lv_at hl 0 rfl) ?_
          refine xi_ldc hx hb hown hts kk_X5_50 dX5_sheet_55 ?_
          refine xm_i (rV (rest := []) hx hb hml hown hts hK hl (c_X5_finds l g a f1 f2 f3 f4 f5 f6 f7 f8 f9 f10 f11 f12 f13 f20 f21 f22 f23 f24 f25 (-1000000001) (s.heap).size (show 0 ≤ -1000000001 - (-1000000001) ∧ -1000000001 - (-1000000001) < 7 from by omega)) lk_X5_74 ⟨rfl, hP, hD.weaken (fun _ _ _ _ => trivial)⟩ (va_recv hK.1 hP (ci := 5) (q0 := 0) rfl rfl) rfl rfl rfl (Rm.of rfl) rfl rfl dX5_sheet_57) hD hS hA (fun x9 _ H locs hw hP hD hS => ?_)
          obtain rfl : x9 = iI (-1000000001) := hw
          have hP : va_P g.1 vwCl (wM g a f1 f2 f3 f4 f5 (fb (-1000000000 - (-1000000001)) f6) f7 f8 f9 f10 f11 f12 f13 f20 f21 f22 f23 f24 f25) H := hP
          have hD : va_D (va_A (wM g a f1 f2 f3 f4 f5 f6 f7 f8 f9 f10 f11 f12 f13 f20 f21 f22 f23 f24 f25) s.heap.size) (wM g a f1 f2 f3 f4 f5 (fb (-1000000000 - (-1000000001)) f6) f7 f8 f9 f10 f11 f12 f13 f20 f21 f22 f23 f24 f25) := hD
          have hf : fSht k bits n = 1 := by unfold fSht; (repeat (first | rw [if_pos (by omega)] | rw [if_neg (by omega)])); first | done | (exfalso; omega)
          have he21 : f10 = (if fSht k bits n = 0 then up f10 k bits else f10) := by rw [hf]; rfl
          have hP := Eq.mp (congrArg (fun z9 => va_P g.1 vwCl (wM g a f1 f2 f3 f4 f5 (fb (-1000000000 - (-1000000001)) f6) f7 f8 f9 z9 f11 f12 f13 f20 f21 f22 f23 f24 f25) H) he21) hP
          have hD := Eq.mp (congrArg (fun z9 => va_D (va_A (wM g a f1 f2 f3 f4 f5 f6 f7 f8 f9 f10 f11 f12 f13 f20 f21 f22 f23 f24 f25) s.heap.size) (wM g a f1 f2 f3 f4 f5 (fb (-1000000000 - (-1000000001)) f6) f7 f8 f9 z9 f11 f12 f13 f20 f21 f22 f23 f24 f25)) he21) hD
          have he22 : f11 = (if fSht k bits n = 0 then up f11 k (if bits = 0 then 0 else n) else f11) := by rw [hf]; rfl
          have hP := Eq.mp (congrArg (fun z9 => va_P g.1 vwCl (wM g a f1 f2 f3 f4 f5 (fb (-1000000000 - (-1000000001)) f6) f7 f8 f9 (if fSht k bits n = 0 then up f10 k bits else f10) z9 f12 f13 f20 f21 f22 f23 f24 f25) H) he22) hP
          have hD := Eq.mp (congrArg (fun z9 => va_D (va_A (wM g a f1 f2 f3 f4 f5 f6 f7 f8 f9 f10 f11 f12 f13 f20 f21 f22 f23 f24 f25) s.heap.size) (wM g a f1 f2 f3 f4 f5 (fb (-1000000000 - (-1000000001)) f6) f7 f8 f9 (if fSht k bits n = 0 then up f10 k bits else f10) z9 f12 f13 f20 f21 f22 f23 f24 f25)) he22) hD
          have he23 : f12 = (if fSht k bits n = 0 then zrT f12 (40 * k) 40 else f12) := by rw [hf]; rfl
          have hP := Eq.mp (congrArg (fun z9 => va_P g.1 vwCl (wM g a f1 f2 f3 f4 f5 (fb (-1000000000 - (-1000000001)) f6) f7 f8 f9 (if fSht k bits n = 0 then up f10 k bits else f10) (if fSht k bits n = 0 then up f11 k (if bits = 0 then 0 else n) else f11) z9 f13 f20 f21 f22 f23 f24 f25) H) he23) hP
          have hD := Eq.mp (congrArg (fun z9 => va_D (va_A (wM g a f1 f2 f3 f4 f5 f6 f7 f8 f9 f10 f11 f12 f13 f20 f21 f22 f23 f24 f25) s.heap.size) (wM g a f1 f2 f3 f4 f5 (fb (-1000000000 - (-1000000001)) f6) f7 f8 f9 (if fSht k bits n = 0 then up f10 k bits else f10) (if fSht k bits n = 0 then up f11 k (if bits = 0 then 0 else n) else f11) z9 f13 f20 f21 f22 f23 f24 f25)) he23) hD
          have he24 : (fb (-1000000000 - (-1000000001)) f6) = (fb (fSht k bits n) f6) := by rw [hf]; rfl
          have hP := Eq.mp (congrArg (fun z9 => va_P g.1 vwCl (wM g a f1 f2 f3 f4 f5 z9 f7 f8 f9 (if fSht k bits n = 0 then up f10 k bits else f10) (if fSht k bits n = 0 then up f11 k (if bits = 0 then 0 else n) else f11) (if fSht k bits n = 0 then zrT f12 (40 * k) 40 else f12) f13 f20 f21 f22 f23 f24 f25) H) he24) hP
          have hD := Eq.mp (congrArg (fun z9 => va_D (va_A (wM g a f1 f2 f3 f4 f5 f6 f7 f8 f9 f10 f11 f12 f13 f20 f21 f22 f23 f24 f25) s.heap.size) (wM g a f1 f2 f3 f4 f5 z9 f7 f8 f9 (if fSht k bits n = 0 then up f10 k bits else f10) (if fSht k bits n = 0 then up f11 k (if bits = 0 then 0 else n) else f11) (if fSht k bits n = 0 then zrT f12 (40 * k) 40 else f12) f13 f20 f21 f22 f23 f24 f25)) he24) hD
          have hP : va_P g.1 vwCl (wM g a f1 f2 f3 f4 f5 (fb (fSht k bits n) f6) f7 f8 f9 (if fSht k bits n = 0 then up f10 k bits else f10) (if fSht k bits n = 0 then up f11 k (if bits = 0 then 0 else n) else f11) (if fSht k bits n = 0 then zrT f12 (40 * k) 40 else f12) f13 f20 f21 f22 f23 f24 f25) H := hP
          have hD : va_D (va_A (wM g a f1 f2 f3 f4 f5 f6 f7 f8 f9 f10 f11 f12 f13 f20 f21 f22 f23 f24 f25) s.heap.size) (wM g a f1 f2 f3 f4 f5 (fb (fSht k bits n) f6) f7 f8 f9 (if fSht k bits n = 0 then up f10 k bits else f10) (if fSht k bits n = 0 then up f11 k (if bits = 0 then 0 else n) else f11) (if fSht k bits n = 0 then zrT f12 (40 * k) 40 else f12) f13 f20 f21 f22 f23 f24 f25) := hD
          exact W.iret hx hb hr (fun t ht hW => ⟨⟨_, (), rfl, by rw [hf]; rfl, by rw [ht]; exact hP, hD⟩, hS.F ht⟩) hS.2.2 dX5_sheet_60
      · refine lv_aload_n hx hb dX5_sheet_40 rfl (lv_at hl 0 rfl) ?_
        refine xi_ldcw hx hb hown hts kk_X5_315 dX5_sheet_41 ?_
        refine xm_i (rV (rest := []) hx hb hml hown hts hK hl (c_X5_finds l g a f1 f2 f3 f4 f5 f6 f7 f8 f9 f10 f11 f12 f13 f20 f21 f22 f23 f24 f25 (-1000000007) (s.heap).size (show 0 ≤ -1000000001 - (-1000000007) ∧ -1000000001 - (-1000000007) < 7 from by omega)) lk_X5_74 ⟨rfl, hP, hD.weaken (fun _ _ _ _ => trivial)⟩ (va_recv hK.1 hP (ci := 5) (q0 := 0) rfl rfl) rfl rfl rfl (Rm.of rfl) rfl rfl dX5_sheet_44) hD hS hA (fun x9 _ H locs hw hP hD hS => ?_)
        obtain rfl : x9 = iI (-1000000007) := hw
        have hP : va_P g.1 vwCl (wM g a f1 f2 f3 f4 f5 (fb (-1000000000 - (-1000000007)) f6) f7 f8 f9 f10 f11 f12 f13 f20 f21 f22 f23 f24 f25) H := hP
        have hD : va_D (va_A (wM g a f1 f2 f3 f4 f5 f6 f7 f8 f9 f10 f11 f12 f13 f20 f21 f22 f23 f24 f25) s.heap.size) (wM g a f1 f2 f3 f4 f5 (fb (-1000000000 - (-1000000007)) f6) f7 f8 f9 f10 f11 f12 f13 f20 f21 f22 f23 f24 f25) := hD
        have hf : fSht k bits n = 7 := by unfold fSht; (repeat (first | rw [if_pos (by omega)] | rw [if_neg (by omega)])); first | done | (exfalso; omega)
        have he26 : f10 = (if fSht k bits n = 0 then up f10 k bits else f10) := by rw [hf]; rfl
        have hP := Eq.mp (congrArg (fun z9 => va_P g.1 vwCl (wM g a f1 f2 f3 f4 f5 (fb (-1000000000 - (-1000000007)) f6) f7 f8 f9 z9 f11 f12 f13 f20 f21 f22 f23 f24 f25) H) he26) hP
        have hD := Eq.mp (congrArg (fun z9 => va_D (va_A (wM g a f1 f2 f3 f4 f5 f6 f7 f8 f9 f10 f11 f12 f13 f20 f21 f22 f23 f24 f25) s.heap.size) (wM g a f1 f2 f3 f4 f5 (fb (-1000000000 - (-1000000007)) f6) f7 f8 f9 z9 f11 f12 f13 f20 f21 f22 f23 f24 f25)) he26) hD
        have he27 : f11 = (if fSht k bits n = 0 then up f11 k (if bits = 0 then 0 else n) else f11) := by rw [hf]; rfl
        have hP := Eq.mp (congrArg (fun z9 => va_P g.1 vwCl (wM g a f1 f2 f3 f4 f5 (fb (-1000000000 - (-1000000007)) f6) f7 f8 f9 (if fSht k bits n = 0 then up f10 k bits else f10) z9 f12 f13 f20 f21 f22 f23 f24 f25) H) he27) hP
        have hD := Eq.mp (congrArg (fun z9 => va_D (va_A (wM g a f1 f2 f3 f4 f5 f6 f7 f8 f9 f10 f11 f12 f13 f20 f21 f22 f23 f24 f25) s.heap.size) (wM g a f1 f2 f3 f4 f5 (fb (-1000000000 - (-1000000007)) f6) f7 f8 f9 (if fSht k bits n = 0 then up f10 k bits else f10) z9 f12 f13 f20 f21 f22 f23 f24 f25)) he27) hD
        have he28 : f12 = (if fSht k bits n = 0 then zrT f12 (40 * k) 40 else f12) := by rw [hf]; rfl
        have hP := Eq.mp (congrArg (fun z9 => va_P g.1 vwCl (wM g a f1 f2 f3 f4 f5 (fb (-1000000000 - (-1000000007)) f6) f7 f8 f9 (if fSht k bits n = 0 then up f10 k bits else f10) (if fSht k bits n = 0 then up f11 k (if bits = 0 then 0 else n) else f11) z9 f13 f20 f21 f22 f23 f24 f25) H) he28) hP
        have hD := Eq.mp (congrArg (fun z9 => va_D (va_A (wM g a f1 f2 f3 f4 f5 f6 f7 f8 f9 f10 f11 f12 f13 f20 f21 f22 f23 f24 f25) s.heap.size) (wM g a f1 f2 f3 f4 f5 (fb (-1000000000 - (-1000000007)) f6) f7 f8 f9 (if fSht k bits n = 0 then up f10 k bits else f10) (if fSht k bits n = 0 then up f11 k (if bits = 0 then 0 else n) else f11) z9 f13 f20 f21 f22 f23 f24 f25)) he28) hD
        have he29 : (fb (-1000000000 - (-1000000007)) f6) = (fb (fSht k bits n) f6) := by rw [hf]; rfl
        have hP := Eq.mp (congrArg (fun z9 => va_P g.1 vwCl (wM g a f1 f2 f3 f4 f5 z9 f7 f8 f9 (if fSht k bits n = 0 then up f10 k bits else f10) (if fSht k bits n = 0 then up f11 k (if bits = 0 then 0 else n) else f11) (if fSht k bits n = 0 then zrT f12 (40 * k) 40 else f12) f13 f20 f21 f22 f23 f24 f25) H) he29) hP
        have hD := Eq.mp (congrArg (fun z9 => va_D (va_A (wM g a f1 f2 f3 f4 f5 f6 f7 f8 f9 f10 f11 f12 f13 f20 f21 f22 f23 f24 f25) s.heap.size) (wM g a f1 f2 f3 f4 f5 z9 f7 f8 f9 (if fSht k bits n = 0 then up f10 k bits else f10) (if fSht k bits n = 0 then up f11 k (if bits = 0 then 0 else n) else f11) (if fSht k bits n = 0 then zrT f12 (40 * k) 40 else f12) f13 f20 f21 f22 f23 f24 f25)) he29) hD
        have hP : va_P g.1 vwCl (wM g a f1 f2 f3 f4 f5 (fb (fSht k bits n) f6) f7 f8 f9 (if fSht k bits n = 0 then up f10 k bits else f10) (if fSht k bits n = 0 then up f11 k (if bits = 0 then 0 else n) else f11) (if fSht k bits n = 0 then zrT f12 (40 * k) 40 else f12) f13 f20 f21 f22 f23 f24 f25) H := hP
        have hD : va_D (va_A (wM g a f1 f2 f3 f4 f5 f6 f7 f8 f9 f10 f11 f12 f13 f20 f21 f22 f23 f24 f25) s.heap.size) (wM g a f1 f2 f3 f4 f5 (fb (fSht k bits n) f6) f7 f8 f9 (if fSht k bits n = 0 then up f10 k bits else f10) (if fSht k bits n = 0 then up f11 k (if bits = 0 then 0 else n) else f11) (if fSht k bits n = 0 then zrT f12 (40 * k) 40 else f12) f13 f20 f21 f22 f23 f24 f25) := hD
        exact W.iret hx hb hr (fun t ht hW => ⟨⟨_, (), rfl, by rw [hf]; rfl, by rw [ht]; exact hP, hD⟩, hS.F ht⟩) hS.2.2 dX5_sheet_47
    · refine lv_iload_n hx hb dX5_sheet_11 rfl (lv_at hl 2 rfl) ?_
      refine lv_bipush (v := iI (8)) hx hb dX5_sheet_12 (by decide) ?_
      refine xi_c_eq (tgt := 36) hx hb ⟨by omega, by omega⟩ ⟨by decide, by decide⟩ dX5_sheet_14 (by decide) (fun z30 => ?_) (fun z30 => ?_)
      · refine lv_iload_n hx hb dX5_sheet_36 rfl (lv_at hl 3 rfl) ?_
        refine xi_z_ge (tgt := 48) hx hb ⟨by omega, by omega⟩ dX5_sheet_37 (by decide) (fun z31 => ?_) (fun z31 => ?_)
        · refine lv_iload_n hx hb dX5_sheet_48 rfl (lv_at hl 3 rfl) ?_
          refine lv_bipush (v := iI (40)) hx hb dX5_sheet_49 (by decide) ?_
          refine xi_c_le (tgt := 61) hx hb ⟨by omega, by omega⟩ ⟨by decide, by decide⟩ dX5_sheet_51 (by decide) (fun z32 => ?_) (fun z32 => ?_)
          · refine lv_aload_n hx hb dX5_sheet_61 rfl (lv_at hl 0 rfl) ?_
            refine xg_X5 hx hb hts hown hK hP 0 rfl 15 (by decide) fk_X5_37 (v := .ref (a 10)) rfl dX5_sheet_62 ?_
            refine lv_iload_n hx hb dX5_sheet_65 rfl (lv_at hl 1 rfl) ?_
            refine lv_iload_n hx hb dX5_sheet_66 rfl (lv_at hl 2 rfl) ?_
            refine xi_ast hx hb hK hP hD hS 10 (f := f10) rfl (i := k) (v := bits) ⟨by omega, by omega⟩ rfl dX5_sheet_67 (fun H locs hP hD hS => ?_)
            have hP : va_P g.1 vwCl (wM g a f1 f2 f3 f4 f5 f6 f7 f8 f9 (up f10 k bits) f11 f12 f13 f20 f21 f22 f23 f24 f25) H := hP
            have hD : va_D (va_A (wM g a f1 f2 f3 f4 f5 f6 f7 f8 f9 f10 f11 f12 f13 f20 f21 f22 f23 f24 f25) s.heap.size) (wM g a f1 f2 f3 f4 f5 f6 f7 f8 f9 (up f10 k bits) f11 f12 f13 f20 f21 f22 f23 f24 f25) := hD
            refine lv_aload_n hx hb dX5_sheet_68 rfl (lv_at hl 0 rfl) ?_
            refine xg_X5 hx hb hts hown hK hP 0 rfl 16 (by decide) fk_X5_40 (v := .ref (a 11)) rfl dX5_sheet_69 ?_
            refine lv_iload_n hx hb dX5_sheet_72 rfl (lv_at hl 1 rfl) ?_
            refine lv_iload_n hx hb dX5_sheet_73 rfl (lv_at hl 2 rfl) ?_
            refine xi_z_ne (tgt := 81) hx hb ⟨by omega, by omega⟩ dX5_sheet_74 (by decide) (fun z33 => ?_) (fun z33 => ?_)
            · refine lv_iload_n hx hb dX5_sheet_81 rfl (lv_at hl 3 rfl) ?_
              refine xi_ast hx hb hK hP hD hS 11 (f := f11) rfl (i := k) (v := n) ⟨by omega, by omega⟩ rfl dX5_sheet_82 (fun H locs hP hD hS => ?_)
              have hP : va_P g.1 vwCl (wM g a f1 f2 f3 f4 f5 f6 f7 f8 f9 (up f10 k bits) (up f11 k n) f12 f13 f20 f21 f22 f23 f24 f25) H := hP
              have hD : va_D (va_A (wM g a f1 f2 f3 f4 f5 f6 f7 f8 f9 f10 f11 f12 f13 f20 f21 f22 f23 f24 f25) s.heap.size) (wM g a f1 f2 f3 f4 f5 f6 f7 f8 f9 (up f10 k bits) (up f11 k n) f12 f13 f20 f21 f22 f23 f24 f25) := hD
              refine lv_iconst (v := iI (0)) hx hb dX5_sheet_83 (by decide) ?_
              refine lv_istore (lv' := [(4, .int (iI 0)), (0, .ref (a 0)), (1, .int (iI k)), (2, .int (iI bits)), (3, .int (iI n))]) hx hb dX5_sheet_84 hl (by decide) rfl (fun ls hl => ?_)
              have lp86 : ∀ (n86 : Nat) (i : Int), (0 ≤ i ∧ i ≤ 40) → (40 - i).toNat < n86 → ∀ ls : Array Slot, lv_has ls 5 [(4, .int (iI i)), (0, .ref (a 0)), (1, .int (iI k)), (2, .int (iI bits)), (3, .int (iI n))] → ∀ (H : Heap) (locs : List Loc), va_P g.1 vwCl (wM g a f1 f2 f3 f4 f5 f6 f7 f8 f9 (up f10 k bits) (up f11 k n) (zrT f12 (40 * k) i) f13 f20 f21 f22 f23 f24 f25) H → va_D (va_A (wM g a f1 f2 f3 f4 f5 f6 f7 f8 f9 f10 f11 f12 f13 f20 f21 f22 f23 f24 f25) s.heap.size) (wM g a f1 f2 f3 f4 f5 f6 f7 f8 f9 (up f10 k bits) (up f11 k n) (zrT f12 (40 * k) i) f13 f20 f21 f22 f23 f24 f25) → va_S (va_A (wM g a f1 f2 f3 f4 f5 f6 f7 f8 f9 f10 f11 f12 f13 f20 f21 f22 f23 f24 f25) s.heap.size) s.heap H locs → W pq l eq rm_X5_sheet s mq [.ref (a 0), .int (iI k), .int (iI bits), .int (iI n)].toArray below meth cq H locs 0 0 (MQ below (QMi g (fun _ : Unit => wM g a f1 f2 f3 f4 f5 (fb (fSht k bits n) f6) f7 f8 f9 (if fSht k bits n = 0 then up f10 k bits else f10) (if fSht k bits n = 0 then up f11 k (if bits = 0 then 0 else n) else f11) (if fSht k bits n = 0 then zrT f12 (40 * k) 40 else f12) f13 f20 f21 f22 f23 f24 f25) (fun r9 _ => r9 = ab (fSht k bits n) (iI (if bits = 0 then 0 else n))) (va_A (wM g a f1 f2 f3 f4 f5 f6 f7 f8 f9 f10 f11 f12 f13 f20 f21 f22 f23 f24 f25) s.heap.size)) [.ref (a 0), .int (iI k), .int (iI bits), .int (iI n)].toArray s 0 0 (va_A (wM g a f1 f2 f3 f4 f5 f6 f7 f8 f9 f10 f11 f12 f13 f20 f21 f22 f23 f24 f25) s.heap.size)) (F0 mq 86 ls []) := by
                intro n86
                induction n86 with
                | zero => intro i i86_1 hm; exact absurd hm (Nat.not_lt_zero _)
                | succ n86 ih86 =>
                  intro i i86_1 hm86 ls hl H locs hP hD hS
                  refine lv_iload hx hb dX5_sheet_86 (lv_at hl 0 rfl) ?_
                  refine lv_bipush (v := iI (40)) hx hb dX5_sheet_88 (by decide) ?_
                  refine xi_c_ge (tgt := 112) hx hb ⟨by omega, by omega⟩ ⟨by decide, by decide⟩ dX5_sheet_90 (by decide) (fun z34 => ?_) (fun z34 => ?_)
                  · refine lv_aload_n hx hb dX5_sheet_112 rfl (lv_at hl 1 rfl) ?_
                    refine xg_X5 hx hb hts hown hK hP 0 rfl 16 (by decide) fk_X5_40 (v := .ref (a 11)) rfl dX5_sheet_113 ?_
                    refine lv_iload_n hx hb dX5_sheet_116 rfl (lv_at hl 2 rfl) ?_
                    refine xi_ald hx hb hK hP 11 (f := up f11 k n) rfl (i := k) ⟨by omega, by omega⟩ rfl dX5_sheet_117 ?_
                    have hf : fSht k bits n = 0 := by unfold fSht; (repeat (first | rw [if_pos (by omega)] | rw [if_neg (by omega)])); first | done | (exfalso; omega)
                    have he35 : (up f10 k bits) = (if fSht k bits n = 0 then up f10 k bits else f10) := by rw [hf]; rfl
                    have hP := Eq.mp (congrArg (fun z9 => va_P g.1 vwCl (wM g a f1 f2 f3 f4 f5 f6 f7 f8 f9 z9 (up f11 k n) (zrT f12 (40 * k) i) f13 f20 f21 f22 f23 f24 f25) H) he35) hP
                    have hD := Eq.mp (congrArg (fun z9 => va_D (va_A (wM g a f1 f2 f3 f4 f5 f6 f7 f8 f9 f10 f11 f12 f13 f20 f21 f22 f23 f24 f25) s.heap.size) (wM g a f1 f2 f3 f4 f5 f6 f7 f8 f9 z9 (up f11 k n) (zrT f12 (40 * k) i) f13 f20 f21 f22 f23 f24 f25)) he35) hD
                    have he36 : (up f11 k n) = (if fSht k bits n = 0 then up f11 k (if bits = 0 then 0 else n) else f11) := by rw [hf, if_pos rfl]; first | (rw [if_pos (by omega)]; done) | (rw [if_neg (by omega)]; done) | (exfalso; omega)
                    have hP := Eq.mp (congrArg (fun z9 => va_P g.1 vwCl (wM g a f1 f2 f3 f4 f5 f6 f7 f8 f9 (if fSht k bits n = 0 then up f10 k bits else f10) z9 (zrT f12 (40 * k) i) f13 f20 f21 f22 f23 f24 f25) H) he36) hP
                    have hD := Eq.mp (congrArg (fun z9 => va_D (va_A (wM g a f1 f2 f3 f4 f5 f6 f7 f8 f9 f10 f11 f12 f13 f20 f21 f22 f23 f24 f25) s.heap.size) (wM g a f1 f2 f3 f4 f5 f6 f7 f8 f9 (if fSht k bits n = 0 then up f10 k bits else f10) z9 (zrT f12 (40 * k) i) f13 f20 f21 f22 f23 f24 f25)) he36) hD
                    have he37 : (zrT f12 (40 * k) i) = (if fSht k bits n = 0 then zrT f12 (40 * k) 40 else f12) := by rw [hf, if_pos rfl, show i = 40 by omega]
                    have hP := Eq.mp (congrArg (fun z9 => va_P g.1 vwCl (wM g a f1 f2 f3 f4 f5 f6 f7 f8 f9 (if fSht k bits n = 0 then up f10 k bits else f10) (if fSht k bits n = 0 then up f11 k (if bits = 0 then 0 else n) else f11) z9 f13 f20 f21 f22 f23 f24 f25) H) he37) hP
                    have hD := Eq.mp (congrArg (fun z9 => va_D (va_A (wM g a f1 f2 f3 f4 f5 f6 f7 f8 f9 f10 f11 f12 f13 f20 f21 f22 f23 f24 f25) s.heap.size) (wM g a f1 f2 f3 f4 f5 f6 f7 f8 f9 (if fSht k bits n = 0 then up f10 k bits else f10) (if fSht k bits n = 0 then up f11 k (if bits = 0 then 0 else n) else f11) z9 f13 f20 f21 f22 f23 f24 f25)) he37) hD
                    have he38 : f6 = (fb (fSht k bits n) f6) := by rw [hf]; rfl
                    have hP := Eq.mp (congrArg (fun z9 => va_P g.1 vwCl (wM g a f1 f2 f3 f4 f5 z9 f7 f8 f9 (if fSht k bits n = 0 then up f10 k bits else f10) (if fSht k bits n = 0 then up f11 k (if bits = 0 then 0 else n) else f11) (if fSht k bits n = 0 then zrT f12 (40 * k) 40 else f12) f13 f20 f21 f22 f23 f24 f25) H) he38) hP
                    have hD := Eq.mp (congrArg (fun z9 => va_D (va_A (wM g a f1 f2 f3 f4 f5 f6 f7 f8 f9 f10 f11 f12 f13 f20 f21 f22 f23 f24 f25) s.heap.size) (wM g a f1 f2 f3 f4 f5 z9 f7 f8 f9 (if fSht k bits n = 0 then up f10 k bits else f10) (if fSht k bits n = 0 then up f11 k (if bits = 0 then 0 else n) else f11) (if fSht k bits n = 0 then zrT f12 (40 * k) 40 else f12) f13 f20 f21 f22 f23 f24 f25)) he38) hD
                    have hP : va_P g.1 vwCl (wM g a f1 f2 f3 f4 f5 (fb (fSht k bits n) f6) f7 f8 f9 (if fSht k bits n = 0 then up f10 k bits else f10) (if fSht k bits n = 0 then up f11 k (if bits = 0 then 0 else n) else f11) (if fSht k bits n = 0 then zrT f12 (40 * k) 40 else f12) f13 f20 f21 f22 f23 f24 f25) H := hP
                    have hD : va_D (va_A (wM g a f1 f2 f3 f4 f5 f6 f7 f8 f9 f10 f11 f12 f13 f20 f21 f22 f23 f24 f25) s.heap.size) (wM g a f1 f2 f3 f4 f5 (fb (fSht k bits n) f6) f7 f8 f9 (if fSht k bits n = 0 then up f10 k bits else f10) (if fSht k bits n = 0 then up f11 k (if bits = 0 then 0 else n) else f11) (if fSht k bits n = 0 then zrT f12 (40 * k) 40 else f12) f13 f20 f21 f22 f23 f24 f25) := hD
                    exact W.iret hx hb hr (fun t ht hW => ⟨⟨_, (), rfl, by rw [hf, ab_0]; exact congrArg iI (by rw [up_s]; first | (rw [if_pos (by omega)]; done) | (rw [if_neg (by omega)]; done) | (exfalso; omega)), by rw [ht]; exact hP, hD⟩, hS.F ht⟩) hS.2.2 dX5_sheet_118
                  · refine lv_aload_n hx hb dX5_sheet_93 rfl (lv_at hl 1 rfl) ?_
                    refine xg_X5 hx hb hts hown hK hP 0 rfl 17 (by decide) fk_X5_43 (v := .ref (a 12)) rfl dX5_sheet_94 ?_
                    refine lv_bipush (v := iI (40)) hx hb dX5_sheet_97 (by decide) ?_
                    refine lv_iload_n hx hb dX5_sheet_99 rfl (lv_at hl 2 rfl) ?_
                    refine xi_mul hx hb dX5_sheet_100 ?_
                    refine lv_iload hx hb dX5_sheet_101 (lv_at hl 0 rfl) ?_
                    refine xi_add hx hb dX5_sheet_103 ?_
                    refine lv_lconst (v := lI (0)) hx hb dX5_sheet_104 (by decide) ?_
                    refine xl_ast hx hb hK hP hD hS 12 (f := zrT f12 (40 * k) i) rfl (i := 40 * k + i) (v := 0) ⟨by omega, by omega⟩ rfl dX5_sheet_105 (fun H locs hP hD hS => ?_)
                    have hP : va_P g.1 vwCl (wM g a f1 f2 f3 f4 f5 f6 f7 f8 f9 (up f10 k bits) (up f11 k n) (up (zrT f12 (40 * k) i) (40 * k + i) 0) f13 f20 f21 f22 f23 f24 f25) H := hP
                    have hD : va_D (va_A (wM g a f1 f2 f3 f4 f5 f6 f7 f8 f9 f10 f11 f12 f13 f20 f21 f22 f23 f24 f25) s.heap.size) (wM g a f1 f2 f3 f4 f5 f6 f7 f8 f9 (up f10 k bits) (up f11 k n) (up (zrT f12 (40 * k) i) (40 * k + i) 0) f13 f20 f21 f22 f23 f24 f25) := hD
                    refine xi_inc (lv' := [(4, .int (iI (i + 1))), (0, .ref (a 0)), (1, .int (iI k)), (2, .int (iI bits)), (3, .int (iI n))]) hx hb dX5_sheet_106 hl (k := 0) rfl (by decide) rfl (fun ls hl => ?_)
                    refine lv_goto (tgt := 86) hx hb dX5_sheet_109 (by decide) ?_
                    have hq39 : (up (zrT f12 (40 * k) i) (40 * k + i) 0) = (zrT f12 (40 * k) (i + 1)) := zrT_S f12 (40 * k) i86_1.1
                    have hP := Eq.mp (congrArg (fun z9 => va_P g.1 vwCl (wM g a f1 f2 f3 f4 f5 f6 f7 f8 f9 (up f10 k bits) (up f11 k n) z9 f13 f20 f21 f22 f23 f24 f25) H) hq39) hP
                    have hD := Eq.mp (congrArg (fun z9 => va_D (va_A (wM g a f1 f2 f3 f4 f5 f6 f7 f8 f9 f10 f11 f12 f13 f20 f21 f22 f23 f24 f25) s.heap.size) (wM g a f1 f2 f3 f4 f5 f6 f7 f8 f9 (up f10 k bits) (up f11 k n) z9 f13 f20 f21 f22 f23 f24 f25)) hq39) hD
                    exact ih86 (i + 1) (by omega) (by omega) ls (lv_sub hl [0, 1, 2, 3, 4] rfl) H locs hP hD hS
              have hq40 : f12 = (zrT f12 (40 * k) 0) := zrT_0 f12 (40 * k)
              have hP := Eq.mp (congrArg (fun z9 => va_P g.1 vwCl (wM g a f1 f2 f3 f4 f5 f6 f7 f8 f9 (up f10 k bits) (up f11 k n) z9 f13 f20 f21 f22 f23 f24 f25) H) hq40) hP
              have hD := Eq.mp (congrArg (fun z9 => va_D (va_A (wM g a f1 f2 f3 f4 f5 f6 f7 f8 f9 f10 f11 f12 f13 f20 f21 f22 f23 f24 f25) s.heap.size) (wM g a f1 f2 f3 f4 f5 f6 f7 f8 f9 (up f10 k bits) (up f11 k n) z9 f13 f20 f21 f22 f23 f24 f25)) hq40) hD
              exact lp86 (40 + 1) 0 (by omega) (by omega) ls (lv_sub hl [0, 1, 2, 3, 4] rfl) H locs hP hD hS
            · refine lv_iconst (v := iI (0)) hx hb dX5_sheet_77 (by decide) ?_
              refine lv_goto (tgt := 82) hx hb dX5_sheet_78 (by decide) ?_
              refine xi_ast hx hb hK hP hD hS 11 (f := f11) rfl (i := k) (v := 0) ⟨by omega, by omega⟩ rfl dX5_sheet_82 (fun H locs hP hD hS => ?_)
              have hP : va_P g.1 vwCl (wM g a f1 f2 f3 f4 f5 f6 f7 f8 f9 (up f10 k bits) (up f11 k 0) f12 f13 f20 f21 f22 f23 f24 f25) H := hP
              have hD : va_D (va_A (wM g a f1 f2 f3 f4 f5 f6 f7 f8 f9 f10 f11 f12 f13 f20 f21 f22 f23 f24 f25) s.heap.size) (wM g a f1 f2 f3 f4 f5 f6 f7 f8 f9 (up f10 k bits) (up f11 k 0) f12 f13 f20 f21 f22 f23 f24 f25) := hD
              refine lv_iconst (v := iI (0)) hx hb dX5_sheet_83 (by decide) ?_
              refine lv_istore (lv' := [(4, .int (iI 0)), (0, .ref (a 0)), (1, .int (iI k)), (2, .int (iI bits)), (3, .int (iI n))]) hx hb dX5_sheet_84 hl (by decide) rfl (fun ls hl => ?_)
              have lp86 : ∀ (n86 : Nat) (i : Int), (0 ≤ i ∧ i ≤ 40) → (40 - i).toNat < n86 → ∀ ls : Array Slot, lv_has ls 5 [(4, .int (iI i)), (0, .ref (a 0)), (1, .int (iI k)), (2, .int (iI bits)), (3, .int (iI n))] → ∀ (H : Heap) (locs : List Loc), va_P g.1 vwCl (wM g a f1 f2 f3 f4 f5 f6 f7 f8 f9 (up f10 k bits) (up f11 k 0) (zrT f12 (40 * k) i) f13 f20 f21 f22 f23 f24 f25) H → va_D (va_A (wM g a f1 f2 f3 f4 f5 f6 f7 f8 f9 f10 f11 f12 f13 f20 f21 f22 f23 f24 f25) s.heap.size) (wM g a f1 f2 f3 f4 f5 f6 f7 f8 f9 (up f10 k bits) (up f11 k 0) (zrT f12 (40 * k) i) f13 f20 f21 f22 f23 f24 f25) → va_S (va_A (wM g a f1 f2 f3 f4 f5 f6 f7 f8 f9 f10 f11 f12 f13 f20 f21 f22 f23 f24 f25) s.heap.size) s.heap H locs → W pq l eq rm_X5_sheet s mq [.ref (a 0), .int (iI k), .int (iI bits), .int (iI n)].toArray below meth cq H locs 0 0 (MQ below (QMi g (fun _ : Unit => wM g a f1 f2 f3 f4 f5 (fb (fSht k bits n) f6) f7 f8 f9 (if fSht k bits n = 0 then up f10 k bits else f10) (if fSht k bits n = 0 then up f11 k (if bits = 0 then 0 else n) else f11) (if fSht k bits n = 0 then zrT f12 (40 * k) 40 else f12) f13 f20 f21 f22 f23 f24 f25) (fun r9 _ => r9 = ab (fSht k bits n) (iI (if bits = 0 then 0 else n))) (va_A (wM g a f1 f2 f3 f4 f5 f6 f7 f8 f9 f10 f11 f12 f13 f20 f21 f22 f23 f24 f25) s.heap.size)) [.ref (a 0), .int (iI k), .int (iI bits), .int (iI n)].toArray s 0 0 (va_A (wM g a f1 f2 f3 f4 f5 f6 f7 f8 f9 f10 f11 f12 f13 f20 f21 f22 f23 f24 f25) s.heap.size)) (F0 mq 86 ls []) := by
                intro n86
                induction n86 with
                | zero => intro i i86_1 hm; exact absurd hm (Nat.not_lt_zero _)
                | succ n86 ih86 =>
                  intro i i86_1 hm86 ls hl H locs hP hD hS
                  refine lv_iload hx hb dX5_sheet_86 (lv_at hl 0 rfl) ?_
                  refine lv_bipush (v := iI (40)) hx hb dX5_sheet_88 (by decide) ?_
                  refine xi_c_ge (tgt := 112) hx hb ⟨by omega, by omega⟩ ⟨by decide, by decide⟩ dX5_sheet_90 (by decide) (fun z41 => ?_) (fun z41 => ?_)
                  · refine lv_aload_n hx hb dX5_sheet_112 rfl (lv_at hl 1 rfl) ?_
                    refine xg_X5 hx hb hts hown hK hP 0 rfl 16 (by decide) fk_X5_40 (v := .ref (a 11)) rfl dX5_sheet_113 ?_
                    refine lv_iload_n hx hb dX5_sheet_116 rfl (lv_at hl 2 rfl) ?_
                    refine xi_ald hx hb hK hP 11 (f := up f11 k 0) rfl (i := k) ⟨by omega, by omega⟩ rfl dX5_sheet_117 ?_
                    have hf : fSht k bits n = 0 := by unfold fSht; (repeat (first | rw [if_pos (by omega)] | rw [if_neg (by omega)])); first | done | (exfalso; omega)
                    have he42 : (up f10 k bits) = (if fSht k bits n = 0 then up f10 k bits else f10) := by rw [hf]; rfl
                    have hP := Eq.mp (congrArg (fun z9 => va_P g.1 vwCl (wM g a f1 f2 f3 f4 f5 f6 f7 f8 f9 z9 (up f11 k 0) (zrT f12 (40 * k) i) f13 f20 f21 f22 f23 f24 f25) H) he42) hP
                    have hD := Eq.mp (congrArg (fun z9 => va_D (va_A (wM g a f1 f2 f3 f4 f5 f6 f7 f8 f9 f10 f11 f12 f13 f20 f21 f22 f23 f24 f25) s.heap.size) (wM g a f1 f2 f3 f4 f5 f6 f7 f8 f9 z9 (up f11 k 0) (zrT f12 (40 * k) i) f13 f20 f21 f22 f23 f24 f25)) he42) hD
                    have he43 : (up f11 k 0) = (if fSht k bits n = 0 then up f11 k (if bits = 0 then 0 else n) else f11) := by rw [hf, if_pos rfl]; first | (rw [if_pos (by omega)]; done) | (rw [if_neg (by omega)]; done) | (exfalso; omega)
                    have hP := Eq.mp (congrArg (fun z9 => va_P g.1 vwCl (wM g a f1 f2 f3 f4 f5 f6 f7 f8 f9 (if fSht k bits n = 0 then up f10 k bits else f10) z9 (zrT f12 (40 * k) i) f13 f20 f21 f22 f23 f24 f25) H) he43) hP
                    have hD := Eq.mp (congrArg (fun z9 => va_D (va_A (wM g a f1 f2 f3 f4 f5 f6 f7 f8 f9 f10 f11 f12 f13 f20 f21 f22 f23 f24 f25) s.heap.size) (wM g a f1 f2 f3 f4 f5 f6 f7 f8 f9 (if fSht k bits n = 0 then up f10 k bits else f10) z9 (zrT f12 (40 * k) i) f13 f20 f21 f22 f23 f24 f25)) he43) hD
                    have he44 : (zrT f12 (40 * k) i) = (if fSht k bits n = 0 then zrT f12 (40 * k) 40 else f12) := by rw [hf, if_pos rfl, show i = 40 by omega]
                    have hP := Eq.mp (congrArg (fun z9 => va_P g.1 vwCl (wM g a f1 f2 f3 f4 f5 f6 f7 f8 f9 (if fSht k bits n = 0 then up f10 k bits else f10) (if fSht k bits n = 0 then up f11 k (if bits = 0 then 0 else n) else f11) z9 f13 f20 f21 f22 f23 f24 f25) H) he44) hP
                    have hD := Eq.mp (congrArg (fun z9 => va_D (va_A (wM g a f1 f2 f3 f4 f5 f6 f7 f8 f9 f10 f11 f12 f13 f20 f21 f22 f23 f24 f25) s.heap.size) (wM g a f1 f2 f3 f4 f5 f6 f7 f8 f9 (if fSht k bits n = 0 then up f10 k bits else f10) (if fSht k bits n = 0 then up f11 k (if bits = 0 then 0 else n) else f11) z9 f13 f20 f21 f22 f23 f24 f25)) he44) hD
                    have he45 : f6 = (fb (fSht k bits n) f6) := by rw [hf]; rfl
                    have hP := Eq.mp (congrArg (fun z9 => va_P g.1 vwCl (wM g a f1 f2 f3 f4 f5 z9 f7 f8 f9 (if fSht k bits n = 0 then up f10 k bits else f10) (if fSht k bits n = 0 then up f11 k (if bits = 0 then 0 else n) else f11) (if fSht k bits n = 0 then zrT f12 (40 * k) 40 else f12) f13 f20 f21 f22 f23 f24 f25) H) he45) hP
                    have hD := Eq.mp (congrArg (fun z9 => va_D (va_A (wM g a f1 f2 f3 f4 f5 f6 f7 f8 f9 f10 f11 f12 f13 f20 f21 f22 f23 f24 f25) s.heap.size) (wM g a f1 f2 f3 f4 f5 z9 f7 f8 f9 (if fSht k bits n = 0 then up f10 k bits else f10) (if fSht k bits n = 0 then up f11 k (if bits = 0 then 0 else n) else f11) (if fSht k bits n = 0 then zrT f12 (40 * k) 40 else f12) f13 f20 f21 f22 f23 f24 f25)) he45) hD
                    have hP : va_P g.1 vwCl (wM g a f1 f2 f3 f4 f5 (fb (fSht k bits n) f6) f7 f8 f9 (if fSht k bits n = 0 then up f10 k bits else f10) (if fSht k bits n = 0 then up f11 k (if bits = 0 then 0 else n) else f11) (if fSht k bits n = 0 then zrT f12 (40 * k) 40 else f12) f13 f20 f21 f22 f23 f24 f25) H := hP
                    have hD : va_D (va_A (wM g a f1 f2 f3 f4 f5 f6 f7 f8 f9 f10 f11 f12 f13 f20 f21 f22 f23 f24 f25) s.heap.size) (wM g a f1 f2 f3 f4 f5 (fb (fSht k bits n) f6) f7 f8 f9 (if fSht k bits n = 0 then up f10 k bits else f10) (if fSht k bits n = 0 then up f11 k (if bits = 0 then 0 else n) else f11) (if fSht k bits n = 0 then zrT f12 (40 * k) 40 else f12) f13 f20 f21 f22 f23 f24 f25) := hD
                    exact W.iret hx hb hr (fun t ht hW => ⟨⟨_, (), rfl, by rw [hf, ab_0]; exact congrArg iI (by rw [up_s]; first | (rw [if_pos (by omega)]; done) | (rw [if_neg (by omega)]; done) | (exfalso; omega)), by rw [ht]; exact hP, hD⟩, hS.F ht⟩) hS.2.2 dX5_sheet_118
                  · refine lv_aload_n hx hb dX5_sheet_93 rfl (lv_at hl 1 rfl) ?_
                    refine xg_X5 hx hb hts hown hK hP 0 rfl 17 (by decide) fk_X5_43 (v := .ref (a 12)) rfl dX5_sheet_94 ?_
                    refine lv_bipush (v := iI (40)) hx hb dX5_sheet_97 (by decide) ?_
                    refine lv_iload_n hx hb dX5_sheet_99 rfl (lv_at hl 2 rfl) ?_
                    refine xi_mul hx hb dX5_sheet_100 ?_
                    refine lv_iload hx hb dX5_sheet_101 (lv_at hl 0 rfl) ?_
                    refine xi_add hx hb dX5_sheet_103 ?_
                    refine lv_lconst (v := lI (0)) hx hb dX5_sheet_104 (by decide) ?_
                    refine xl_ast hx hb hK hP hD hS 12 (f := zrT f12 (40 * k) i) rfl (i := 40 * k + i) (v := 0) ⟨by omega, by omega⟩ rfl dX5_sheet_105 (fun H locs hP hD hS => ?_)
                    have hP : va_P g.1 vwCl (wM g a f1 f2 f3 f4 f5 f6 f7 f8 f9 (up f10 k bits) (up f11 k 0) (up (zrT f12 (40 * k) i) (40 * k + i) 0) f13 f20 f21 f22 f23 f24 f25) H := hP
                    have hD : va_D (va_A (wM g a f1 f2 f3 f4 f5 f6 f7 f8 f9 f10 f11 f12 f13 f20 f21 f22 f23 f24 f25) s.heap.size) (wM g a f1 f2 f3 f4 f5 f6 f7 f8 f9 (up f10 k bits) (up f11 k 0) (up (zrT f12 (40 * k) i) (40 * k + i) 0) f13 f20 f21 f22 f23 f24 f25) := hD
                    refine xi_inc (lv' := [(4, .int (iI (i + 1))), (0, .ref (a 0)), (1, .int (iI k)), (2, .int (iI bits)), (3, .int (iI n))]) hx hb dX5_sheet_106 hl (k := 0) rfl (by decide) rfl (fun ls hl => ?_)
                    refine lv_goto (tgt := 86) hx hb dX5_sheet_109 (by decide) ?_
                    have hq46 : (up (zrT f12 (40 * k) i) (40 * k + i) 0) = (zrT f12 (40 * k) (i + 1)) := zrT_S f12 (40 * k) i86_1.1
                    have hP := Eq.mp (congrArg (fun z9 => va_P g.1 vwCl (wM g a f1 f2 f3 f4 f5 f6 f7 f8 f9 (up f10 k bits) (up f11 k 0) z9 f13 f20 f21 f22 f23 f24 f25) H) hq46) hP
                    have hD := Eq.mp (congrArg (fun z9 => va_D (va_A (wM g a f1 f2 f3 f4 f5 f6 f7 f8 f9 f10 f11 f12 f13 f20 f21 f22 f23 f24 f25) s.heap.size) (wM g a f1 f2 f3 f4 f5 f6 f7 f8 f9 (up f10 k bits) (up f11 k 0) z9 f13 f20 f21 f22 f23 f24 f25)) hq46) hD
                    exact ih86 (i + 1) (by omega) (by omega) ls (lv_sub hl [0, 1, 2, 3, 4] rfl) H locs hP hD hS
              have hq47 : f12 = (zrT f12 (40 * k) 0) := zrT_0 f12 (40 * k)
              have hP := Eq.mp (congrArg (fun z9 => va_P g.1 vwCl (wM g a f1 f2 f3 f4 f5 f6 f7 f8 f9 (up f10 k bits) (up f11 k 0) z9 f13 f20 f21 f22 f23 f24 f25) H) hq47) hP
              have hD := Eq.mp (congrArg (fun z9 => va_D (va_A (wM g a f1 f2 f3 f4 f5 f6 f7 f8 f9 f10 f11 f12 f13 f20 f21 f22 f23 f24 f25) s.heap.size) (wM g a f1 f2 f3 f4 f5 f6 f7 f8 f9 (up f10 k bits) (up f11 k 0) z9 f13 f20 f21 f22 f23 f24 f25)) hq47) hD
              exact lp86 (40 + 1) 0 (by omega) (by omega) ls (lv_sub hl [0, 1, 2, 3, 4] rfl) H locs hP hD hS
          · refine lv_aload_n hx hb dX5_sheet_54 rfl (lv_at hl 0 rfl) ?_
            refine xi_ldc hx hb hown hts kk_X5_50 dX5_sheet_55 ?_
            refine xm_i (rV (rest := []) hx hb hml hown hts hK hl (c_X5_finds l g a f1 f2 f3 f4 f5 f6 f7 f8 f9 f10 f11 f12 f13 f20 f21 f22 f23 f24 f25 (-1000000001) (s.heap).size (show 0 ≤ -1000000001 - (-1000000001) ∧ -1000000001 - (-1000000001) < 7 from by omega)) lk_X5_74 ⟨rfl, hP, hD.weaken (fun _ _ _ _ => trivial)⟩ (va_recv hK.1 hP (ci := 5) (q0 := 0) rfl rfl) rfl rfl rfl (Rm.of rfl) rfl rfl dX5_sheet_57) hD hS hA (fun x9 _ H locs hw hP hD hS => ?_)
            obtain rfl : x9 = iI (-1000000001) := hw
            have hP : va_P g.1 vwCl (wM g a f1 f2 f3 f4 f5 (fb (-1000000000 - (-1000000001)) f6) f7 f8 f9 f10 f11 f12 f13 f20 f21 f22 f23 f24 f25) H := hP
            have hD : va_D (va_A (wM g a f1 f2 f3 f4 f5 f6 f7 f8 f9 f10 f11 f12 f13 f20 f21 f22 f23 f24 f25) s.heap.size) (wM g a f1 f2 f3 f4 f5 (fb (-1000000000 - (-1000000001)) f6) f7 f8 f9 f10 f11 f12 f13 f20 f21 f22 f23 f24 f25) := hD
            have hf : fSht k bits n = 1 := by unfold fSht; (repeat (first | rw [if_pos (by omega)] | rw [if_neg (by omega)])); first | done | (exfalso; omega)
            have he49 : f10 = (if fSht k bits n = 0 then up f10 k bits else f10) := by rw [hf]; rfl
            have hP := Eq.mp (congrArg (fun z9 => va_P g.1 vwCl (wM g a f1 f2 f3 f4 f5 (fb (-1000000000 - (-1000000001)) f6) f7 f8 f9 z9 f11 f12 f13 f20 f21 f22 f23 f24 f25) H) he49) hP
            have hD := Eq.mp (congrArg (fun z9 => va_D (va_A (wM g a f1 f2 f3 f4 f5 f6 f7 f8 f9 f10 f11 f12 f13 f20 f21 f22 f23 f24 f25) s.heap.size) (wM g a f1 f2 f3 f4 f5 (fb (-1000000000 - (-1000000001)) f6) f7 f8 f9 z9 f11 f12 f13 f20 f21 f22 f23 f24 f25)) he49) hD
            have he50 : f11 = (if fSht k bits n = 0 then up f11 k (if bits = 0 then 0 else n) else f11) := by rw [hf]; rfl
            have hP := Eq.mp (congrArg (fun z9 => va_P g.1 vwCl (wM g a f1 f2 f3 f4 f5 (fb (-1000000000 - (-1000000001)) f6) f7 f8 f9 (if fSht k bits n = 0 then up f10 k bits else f10) z9 f12 f13 f20 f21 f22 f23 f24 f25) H) he50) hP
            have hD := Eq.mp (congrArg (fun z9 => va_D (va_A (wM g a f1 f2 f3 f4 f5 f6 f7 f8 f9 f10 f11 f12 f13 f20 f21 f22 f23 f24 f25) s.heap.size) (wM g a f1 f2 f3 f4 f5 (fb (-1000000000 - (-1000000001)) f6) f7 f8 f9 (if fSht k bits n = 0 then up f10 k bits else f10) z9 f12 f13 f20 f21 f22 f23 f24 f25)) he50) hD
            have he51 : f12 = (if fSht k bits n = 0 then zrT f12 (40 * k) 40 else f12) := by rw [hf]; rfl
            have hP := Eq.mp (congrArg (fun z9 => va_P g.1 vwCl (wM g a f1 f2 f3 f4 f5 (fb (-1000000000 - (-1000000001)) f6) f7 f8 f9 (if fSht k bits n = 0 then up f10 k bits else f10) (if fSht k bits n = 0 then up f11 k (if bits = 0 then 0 else n) else f11) z9 f13 f20 f21 f22 f23 f24 f25) H) he51) hP
            have hD := Eq.mp (congrArg (fun z9 => va_D (va_A (wM g a f1 f2 f3 f4 f5 f6 f7 f8 f9 f10 f11 f12 f13 f20 f21 f22 f23 f24 f25) s.heap.size) (wM g a f1 f2 f3 f4 f5 (fb (-1000000000 - (-1000000001)) f6) f7 f8 f9 (if fSht k bits n = 0 then up f10 k bits else f10) (if fSht k bits n = 0 then up f11 k (if bits = 0 then 0 else n) else f11) z9 f13 f20 f21 f22 f23 f24 f25)) he51) hD
            have he52 : (fb (-1000000000 - (-1000000001)) f6) = (fb (fSht k bits n) f6) := by rw [hf]; rfl
            have hP := Eq.mp (congrArg (fun z9 => va_P g.1 vwCl (wM g a f1 f2 f3 f4 f5 z9 f7 f8 f9 (if fSht k bits n = 0 then up f10 k bits else f10) (if fSht k bits n = 0 then up f11 k (if bits = 0 then 0 else n) else f11) (if fSht k bits n = 0 then zrT f12 (40 * k) 40 else f12) f13 f20 f21 f22 f23 f24 f25) H) he52) hP
            have hD := Eq.mp (congrArg (fun z9 => va_D (va_A (wM g a f1 f2 f3 f4 f5 f6 f7 f8 f9 f10 f11 f12 f13 f20 f21 f22 f23 f24 f25) s.heap.size) (wM g a f1 f2 f3 f4 f5 z9 f7 f8 f9 (if fSht k bits n = 0 then up f10 k bits else f10) (if fSht k bits n = 0 then up f11 k (if bits = 0 then 0 else n) else f11) (if fSht k bits n = 0 then zrT f12 (40 * k) 40 else f12) f13 f20 f21 f22 f23 f24 f25)) he52) hD
            have hP : va_P g.1 vwCl (wM g a f1 f2 f3 f4 f5 (fb (fSht k bits n) f6) f7 f8 f9 (if fSht k bits n = 0 then up f10 k bits else f10) (if fSht k bits n = 0 then up f11 k (if bits = 0 then 0 else n) else f11) (if fSht k bits n = 0 then zrT f12 (40 * k) 40 else f12) f13 f20 f21 f22 f23 f24 f25) H := hP
            have hD : va_D (va_A (wM g a f1 f2 f3 f4 f5 f6 f7 f8 f9 f10 f11 f12 f13 f20 f21 f22 f23 f24 f25) s.heap.size) (wM g a f1 f2 f3 f4 f5 (fb (fSht k bits n) f6) f7 f8 f9 (if fSht k bits n = 0 then up f10 k bits else f10) (if fSht k bits n = 0 then up f11 k (if bits = 0 then 0 else n) else f11) (if fSht k bits n = 0 then zrT f12 (40 * k) 40 else f12) f13 f20 f21 f22 f23 f24 f25) := hD
            exact W.iret hx hb hr (fun t ht hW => ⟨⟨_, (), rfl, by rw [hf]; rfl, by rw [ht]; exact hP, hD⟩, hS.F ht⟩) hS.2.2 dX5_sheet_60
        · refine lv_aload_n hx hb dX5_sheet_40 rfl (lv_at hl 0 rfl) ?_
          refine xi_ldcw hx hb hown hts kk_X5_315 dX5_sheet_41 ?_
          refine xm_i (rV (rest := []) hx hb hml hown hts hK hl (c_X5_finds l g a f1 f2 f3 f4 f5 f6 f7 f8 f9 f10 f11 f12 f13 f20 f21 f22 f23 f24 f25 (-1000000007) (s.heap).size (show 0 ≤ -1000000001 - (-1000000007) ∧ -1000000001 - (-1000000007) < 7 from by omega)) lk_X5_74 ⟨rfl, hP, hD.weaken (fun _ _ _ _ => trivial)⟩ (va_recv hK.1 hP (ci := 5) (q0 := 0) rfl rfl) rfl rfl rfl (Rm.of rfl) rfl rfl dX5_sheet_44) hD hS hA (fun x9 _ H locs hw hP hD hS => ?_)
          obtain rfl : x9 = iI (-1000000007) := hw
          have hP : va_P g.1 vwCl (wM g a f1 f2 f3 f4 f5 (fb (-1000000000 - (-1000000007)) f6) f7 f8 f9 f10 f11 f12 f13 f20 f21 f22 f23 f24 f25) H := hP
          have hD : va_D (va_A (wM g a f1 f2 f3 f4 f5 f6 f7 f8 f9 f10 f11 f12 f13 f20 f21 f22 f23 f24 f25) s.heap.size) (wM g a f1 f2 f3 f4 f5 (fb (-1000000000 - (-1000000007)) f6) f7 f8 f9 f10 f11 f12 f13 f20 f21 f22 f23 f24 f25) := hD
          have hf : fSht k bits n = 7 := by unfold fSht; (repeat (first | rw [if_pos (by omega)] | rw [if_neg (by omega)])); first | done | (exfalso; omega)
          have he54 : f10 = (if fSht k bits n = 0 then up f10 k bits else f10) := by rw [hf]; rfl
          have hP := Eq.mp (congrArg (fun z9 => va_P g.1 vwCl (wM g a f1 f2 f3 f4 f5 (fb (-1000000000 - (-1000000007)) f6) f7 f8 f9 z9 f11 f12 f13 f20 f21 f22 f23 f24 f25) H) he54) hP
          have hD := Eq.mp (congrArg (fun z9 => va_D (va_A (wM g a f1 f2 f3 f4 f5 f6 f7 f8 f9 f10 f11 f12 f13 f20 f21 f22 f23 f24 f25) s.heap.size) (wM g a f1 f2 f3 f4 f5 (fb (-1000000000 - (-1000000007)) f6) f7 f8 f9 z9 f11 f12 f13 f20 f21 f22 f23 f24 f25)) he54) hD
          have he55 : f11 = (if fSht k bits n = 0 then up f11 k (if bits = 0 then 0 else n) else f11) := by rw [hf]; rfl
          have hP := Eq.mp (congrArg (fun z9 => va_P g.1 vwCl (wM g a f1 f2 f3 f4 f5 (fb (-1000000000 - (-1000000007)) f6) f7 f8 f9 (if fSht k bits n = 0 then up f10 k bits else f10) z9 f12 f13 f20 f21 f22 f23 f24 f25) H) he55) hP
          have hD := Eq.mp (congrArg (fun z9 => va_D (va_A (wM g a f1 f2 f3 f4 f5 f6 f7 f8 f9 f10 f11 f12 f13 f20 f21 f22 f23 f24 f25) s.heap.size) (wM g a f1 f2 f3 f4 f5 (fb (-1000000000 - (-1000000007)) f6) f7 f8 f9 (if fSht k bits n = 0 then up f10 k bits else f10) z9 f12 f13 f20 f21 f22 f23 f24 f25)) he55) hD
          have he56 : f12 = (if fSht k bits n = 0 then zrT f12 (40 * k) 40 else f12) := by rw [hf]; rfl
          have hP := Eq.mp (congrArg (fun z9 => va_P g.1 vwCl (wM g a f1 f2 f3 f4 f5 (fb (-1000000000 - (-1000000007)) f6) f7 f8 f9 (if fSht k bits n = 0 then up f10 k bits else f10) (if fSht k bits n = 0 then up f11 k (if bits = 0 then 0 else n) else f11) z9 f13 f20 f21 f22 f23 f24 f25) H) he56) hP
          have hD := Eq.mp (congrArg (fun z9 => va_D (va_A (wM g a f1 f2 f3 f4 f5 f6 f7 f8 f9 f10 f11 f12 f13 f20 f21 f22 f23 f24 f25) s.heap.size) (wM g a f1 f2 f3 f4 f5 (fb (-1000000000 - (-1000000007)) f6) f7 f8 f9 (if fSht k bits n = 0 then up f10 k bits else f10) (if fSht k bits n = 0 then up f11 k (if bits = 0 then 0 else n) else f11) z9 f13 f20 f21 f22 f23 f24 f25)) he56) hD
          have he57 : (fb (-1000000000 - (-1000000007)) f6) = (fb (fSht k bits n) f6) := by rw [hf]; rfl
          have hP := Eq.mp (congrArg (fun z9 => va_P g.1 vwCl (wM g a f1 f2 f3 f4 f5 z9 f7 f8 f9 (if fSht k bits n = 0 then up f10 k bits else f10) (if fSht k bits n = 0 then up f11 k (if bits = 0 then 0 else n) else f11) (if fSht k bits n = 0 then zrT f12 (40 * k) 40 else f12) f13 f20 f21 f22 f23 f24 f25) H) he57) hP
          have hD := Eq.mp (congrArg (fun z9 => va_D (va_A (wM g a f1 f2 f3 f4 f5 f6 f7 f8 f9 f10 f11 f12 f13 f20 f21 f22 f23 f24 f25) s.heap.size) (wM g a f1 f2 f3 f4 f5 z9 f7 f8 f9 (if fSht k bits n = 0 then up f10 k bits else f10) (if fSht k bits n = 0 then up f11 k (if bits = 0 then 0 else n) else f11) (if fSht k bits n = 0 then zrT f12 (40 * k) 40 else f12) f13 f20 f21 f22 f23 f24 f25)) he57) hD
          have hP : va_P g.1 vwCl (wM g a f1 f2 f3 f4 f5 (fb (fSht k bits n) f6) f7 f8 f9 (if fSht k bits n = 0 then up f10 k bits else f10) (if fSht k bits n = 0 then up f11 k (if bits = 0 then 0 else n) else f11) (if fSht k bits n = 0 then zrT f12 (40 * k) 40 else f12) f13 f20 f21 f22 f23 f24 f25) H := hP
          have hD : va_D (va_A (wM g a f1 f2 f3 f4 f5 f6 f7 f8 f9 f10 f11 f12 f13 f20 f21 f22 f23 f24 f25) s.heap.size) (wM g a f1 f2 f3 f4 f5 (fb (fSht k bits n) f6) f7 f8 f9 (if fSht k bits n = 0 then up f10 k bits else f10) (if fSht k bits n = 0 then up f11 k (if bits = 0 then 0 else n) else f11) (if fSht k bits n = 0 then zrT f12 (40 * k) 40 else f12) f13 f20 f21 f22 f23 f24 f25) := hD
          exact W.iret hx hb hr (fun t ht hW => ⟨⟨_, (), rfl, by rw [hf]; rfl, by rw [ht]; exact hP, hD⟩, hS.F ht⟩) hS.2.2 dX5_sheet_47
      · refine lv_iload_n hx hb dX5_sheet_17 rfl (lv_at hl 2 rfl) ?_
        refine lv_bipush (v := iI (16)) hx hb dX5_sheet_18 (by decide) ?_
        refine xi_c_eq (tgt := 36) hx hb ⟨by omega, by omega⟩ ⟨by decide, by decide⟩ dX5_sheet_20 (by decide) (fun z58 => ?_) (fun z58 => ?_)
        · refine lv_iload_n hx hb dX5_sheet_36 rfl (lv_at hl 3 rfl) ?_
          refine xi_z_ge (tgt := 48) hx hb ⟨by omega, by omega⟩ dX5_sheet_37 (by decide) (fun z59 => ?_) (fun z59 => ?_)
          · refine lv_iload_n hx hb dX5_sheet_48 rfl (lv_at hl 3 rfl) ?_
            refine lv_bipush (v := iI (40)) hx hb dX5_sheet_49 (by decide) ?_
            refine xi_c_le (tgt := 61) hx hb ⟨by omega, by omega⟩ ⟨by decide, by decide⟩ dX5_sheet_51 (by decide) (fun z60 => ?_) (fun z60 => ?_)
            · refine lv_aload_n hx hb dX5_sheet_61 rfl (lv_at hl 0 rfl) ?_
              refine xg_X5 hx hb hts hown hK hP 0 rfl 15 (by decide) fk_X5_37 (v := .ref (a 10)) rfl dX5_sheet_62 ?_
              refine lv_iload_n hx hb dX5_sheet_65 rfl (lv_at hl 1 rfl) ?_
              refine lv_iload_n hx hb dX5_sheet_66 rfl (lv_at hl 2 rfl) ?_
              refine xi_ast hx hb hK hP hD hS 10 (f := f10) rfl (i := k) (v := bits) ⟨by omega, by omega⟩ rfl dX5_sheet_67 (fun H locs hP hD hS => ?_)
              have hP : va_P g.1 vwCl (wM g a f1 f2 f3 f4 f5 f6 f7 f8 f9 (up f10 k bits) f11 f12 f13 f20 f21 f22 f23 f24 f25) H := hP
              have hD : va_D (va_A (wM g a f1 f2 f3 f4 f5 f6 f7 f8 f9 f10 f11 f12 f13 f20 f21 f22 f23 f24 f25) s.heap.size) (wM g a f1 f2 f3 f4 f5 f6 f7 f8 f9 (up f10 k bits) f11 f12 f13 f20 f21 f22 f23 f24 f25) := hD
              refine lv_aload_n hx hb dX5_sheet_68 rfl (lv_at hl 0 rfl) ?_
              refine xg_X5 hx hb hts hown hK hP 0 rfl 16 (by decide) fk_X5_40 (v := .ref (a 11)) rfl dX5_sheet_69 ?_
              refine lv_iload_n hx hb dX5_sheet_72 rfl (lv_at hl 1 rfl) ?_
              refine lv_iload_n hx hb dX5_sheet_73 rfl (lv_at hl 2 rfl) ?_
              refine xi_z_ne (tgt := 81) hx hb ⟨by omega, by omega⟩ dX5_sheet_74 (by decide) (fun z61 => ?_) (fun z61 => ?_)
              · refine lv_iload_n hx hb dX5_sheet_81 rfl (lv_at hl 3 rfl) ?_
                refine xi_ast hx hb hK hP hD hS 11 (f := f11) rfl (i := k) (v := n) ⟨by omega, by omega⟩ rfl dX5_sheet_82 (fun H locs hP hD hS => ?_)
                have hP : va_P g.1 vwCl (wM g a f1 f2 f3 f4 f5 f6 f7 f8 f9 (up f10 k bits) (up f11 k n) f12 f13 f20 f21 f22 f23 f24 f25) H := hP
                have hD : va_D (va_A (wM g a f1 f2 f3 f4 f5 f6 f7 f8 f9 f10 f11 f12 f13 f20 f21 f22 f23 f24 f25) s.heap.size) (wM g a f1 f2 f3 f4 f5 f6 f7 f8 f9 (up f10 k bits) (up f11 k n) f12 f13 f20 f21 f22 f23 f24 f25) := hD
                refine lv_iconst (v := iI (0)) hx hb dX5_sheet_83 (by decide) ?_
                refine lv_istore (lv' := [(4, .int (iI 0)), (0, .ref (a 0)), (1, .int (iI k)), (2, .int (iI bits)), (3, .int (iI n))]) hx hb dX5_sheet_84 hl (by decide) rfl (fun ls hl => ?_)
                have lp86 : ∀ (n86 : Nat) (i : Int), (0 ≤ i ∧ i ≤ 40) → (40 - i).toNat < n86 → ∀ ls : Array Slot, lv_has ls 5 [(4, .int (iI i)), (0, .ref (a 0)), (1, .int (iI k)), (2, .int (iI bits)), (3, .int (iI n))] → ∀ (H : Heap) (locs : List Loc), va_P g.1 vwCl (wM g a f1 f2 f3 f4 f5 f6 f7 f8 f9 (up f10 k bits) (up f11 k n) (zrT f12 (40 * k) i) f13 f20 f21 f22 f23 f24 f25) H → va_D (va_A (wM g a f1 f2 f3 f4 f5 f6 f7 f8 f9 f10 f11 f12 f13 f20 f21 f22 f23 f24 f25) s.heap.size) (wM g a f1 f2 f3 f4 f5 f6 f7 f8 f9 (up f10 k bits) (up f11 k n) (zrT f12 (40 * k) i) f13 f20 f21 f22 f23 f24 f25) → va_S (va_A (wM g a f1 f2 f3 f4 f5 f6 f7 f8 f9 f10 f11 f12 f13 f20 f21 f22 f23 f24 f25) s.heap.size) s.heap H locs → W pq l eq rm_X5_sheet s mq [.ref (a 0), .int (iI k), .int (iI bits), .int (iI n)].toArray below meth cq H locs 0 0 (MQ below (QMi g (fun _ : Unit => wM g a f1 f2 f3 f4 f5 (fb (fSht k bits n) f6) f7 f8 f9 (if fSht k bits n = 0 then up f10 k bits else f10) (if fSht k bits n = 0 then up f11 k (if bits = 0 then 0 else n) else f11) (if fSht k bits n = 0 then zrT f12 (40 * k) 40 else f12) f13 f20 f21 f22 f23 f24 f25) (fun r9 _ => r9 = ab (fSht k bits n) (iI (if bits = 0 then 0 else n))) (va_A (wM g a f1 f2 f3 f4 f5 f6 f7 f8 f9 f10 f11 f12 f13 f20 f21 f22 f23 f24 f25) s.heap.size)) [.ref (a 0), .int (iI k), .int (iI bits), .int (iI n)].toArray s 0 0 (va_A (wM g a f1 f2 f3 f4 f5 f6 f7 f8 f9 f10 f11 f12 f13 f20 f21 f22 f23 f24 f25) s.heap.size)) (F0 mq 86 ls []) := by
                  intro n86
                  induction n86 with
                  | zero => intro i i86_1 hm; exact absurd hm (Nat.not_lt_zero _)
                  | succ n86 ih86 =>
                    intro i i86_1 hm86 ls hl H locs hP hD hS
                    refine lv_iload hx hb dX5_sheet_86 (lv_at hl 0 rfl) ?_
                    refine lv_bipush (v := iI (40)) hx hb dX5_sheet_88 (by decide) ?_
                    refine xi_c_ge (tgt := 112) hx hb ⟨by omega, by omega⟩ ⟨by decide, by decide⟩ dX5_sheet_90 (by decide) (fun z62 => ?_) (fun z62 => ?_)
                    · refine lv_aload_n hx hb dX5_sheet_112 rfl (lv_at hl 1 rfl) ?_
                      refine xg_X5 hx hb hts hown hK hP 0 rfl 16 (by decide) fk_X5_40 (v := .ref (a 11)) rfl dX5_sheet_113 ?_
                      refine lv_iload_n hx hb dX5_sheet_116 rfl (lv_at hl 2 rfl) ?_
                      refine xi_ald hx hb hK hP 11 (f := up f11 k n) rfl (i := k) ⟨by omega, by omega⟩ rfl dX5_sheet_117 ?_
                      have hf : fSht k bits n = 0 := by unfold fSht; (repeat (first | rw [if_pos (by omega)] | rw [if_neg (by omega)])); first | done | (exfalso; omega)
                      have he63 : (up f10 k bits) = (if fSht k bits n = 0 then up f10 k bits else f10) := by rw [hf]; rfl
                      have hP := Eq.mp (congrArg (fun z9 => va_P g.1 vwCl (wM g a f1 f2 f3 f4 f5 f6 f7 f8 f9 z9 (up f11 k n) (zrT f12 (40 * k) i) f13 f20 f21 f22 f23 f24 f25) H) he63) hP
                      have hD := Eq.mp (congrArg (fun z9 => va_D (va_A (wM g a f1 f2 f3 f4 f5 f6 f7 f8 f9 f10 f11 f12 f13 f20 f21 f22 f23 f24 f25) s.heap.size) (wM g a f1 f2 f3 f4 f5 f6 f7 f8 f9 z9 (up f11 k n) (zrT f12 (40 * k) i) f13 f20 f21 f22 f23 f24 f25)) he63) hD
                      have he64 : (up f11 k n) = (if fSht k bits n = 0 then up f11 k (if bits = 0 then 0 else n) else f11) := by rw [hf, if_pos rfl]; first | (rw [if_pos (by omega)]; done) | (rw [if_neg (by omega)]; done) | (exfalso; omega)
                      have hP := Eq.mp (congrArg (fun z9 => va_P g.1 vwCl (wM g a f1 f2 f3 f4 f5 f6 f7 f8 f9 (if fSht k bits n = 0 then up f10 k bits else f10) z9 (zrT f12 (40 * k) i) f13 f20 f21 f22 f23 f24 f25) H) he64) hP
                      have hD := Eq.mp (congrArg (fun z9 => va_D (va_A (wM g a f1 f2 f3 f4 f5 f6 f7 f8 f9 f10 f11 f12 f13 f20 f21 f22 f23 f24 f25) s.heap.size) (wM g a f1 f2 f3 f4 f5 f6 f7 f8 f9 (if fSht k bits n = 0 then up f10 k bits else f10) z9 (zrT f12 (40 * k) i) f13 f20 f21 f22 f23 f24 f25)) he64) hD
                      have he65 : (zrT f12 (40 * k) i) = (if fSht k bits n = 0 then zrT f12 (40 * k) 40 else f12) := by rw [hf, if_pos rfl, show i = 40 by omega]
                      have hP := Eq.mp (congrArg (fun z9 => va_P g.1 vwCl (wM g a f1 f2 f3 f4 f5 f6 f7 f8 f9 (if fSht k bits n = 0 then up f10 k bits else f10) (if fSht k bits n = 0 then up f11 k (if bits = 0 then 0 else n) else f11) z9 f13 f20 f21 f22 f23 f24 f25) H) he65) hP
                      have hD := Eq.mp (congrArg (fun z9 => va_D (va_A (wM g a f1 f2 f3 f4 f5 f6 f7 f8 f9 f10 f11 f12 f13 f20 f21 f22 f23 f24 f25) s.heap.size) (wM g a f1 f2 f3 f4 f5 f6 f7 f8 f9 (if fSht k bits n = 0 then up f10 k bits else f10) (if fSht k bits n = 0 then up f11 k (if bits = 0 then 0 else n) else f11) z9 f13 f20 f21 f22 f23 f24 f25)) he65) hD
                      have he66 : f6 = (fb (fSht k bits n) f6) := by rw [hf]; rfl
                      have hP := Eq.mp (congrArg (fun z9 => va_P g.1 vwCl (wM g a f1 f2 f3 f4 f5 z9 f7 f8 f9 (if fSht k bits n = 0 then up f10 k bits else f10) (if fSht k bits n = 0 then up f11 k (if bits = 0 then 0 else n) else f11) (if fSht k bits n = 0 then zrT f12 (40 * k) 40 else f12) f13 f20 f21 f22 f23 f24 f25) H) he66) hP
                      have hD := Eq.mp (congrArg (fun z9 => va_D (va_A (wM g a f1 f2 f3 f4 f5 f6 f7 f8 f9 f10 f11 f12 f13 f20 f21 f22 f23 f24 f25) s.heap.size) (wM g a f1 f2 f3 f4 f5 z9 f7 f8 f9 (if fSht k bits n = 0 then up f10 k bits else f10) (if fSht k bits n = 0 then up f11 k (if bits = 0 then 0 else n) else f11) (if fSht k bits n = 0 then zrT f12 (40 * k) 40 else f12) f13 f20 f21 f22 f23 f24 f25)) he66) hD
                      have hP : va_P g.1 vwCl (wM g a f1 f2 f3 f4 f5 (fb (fSht k bits n) f6) f7 f8 f9 (if fSht k bits n = 0 then up f10 k bits else f10) (if fSht k bits n = 0 then up f11 k (if bits = 0 then 0 else n) else f11) (if fSht k bits n = 0 then zrT f12 (40 * k) 40 else f12) f13 f20 f21 f22 f23 f24 f25) H := hP
                      have hD : va_D (va_A (wM g a f1 f2 f3 f4 f5 f6 f7 f8 f9 f10 f11 f12 f13 f20 f21 f22 f23 f24 f25) s.heap.size) (wM g a f1 f2 f3 f4 f5 (fb (fSht k bits n) f6) f7 f8 f9 (if fSht k bits n = 0 then up f10 k bits else f10) (if fSht k bits n = 0 then up f11 k (if bits = 0 then 0 else n) else f11) (if fSht k bits n = 0 then zrT f12 (40 * k) 40 else f12) f13 f20 f21 f22 f23 f24 f25) := hD
                      exact W.iret hx hb hr (fun t ht hW => ⟨⟨_, (), rfl, by rw [hf, ab_0]; exact congrArg iI (by rw [up_s]; first | (rw [if_pos (by omega)]; done) | (rw [if_neg (by omega)]; done) | (exfalso; omega)), by rw [ht]; exact hP, hD⟩, hS.F ht⟩) hS.2.2 dX5_sheet_118
                    · refine lv_aload_n hx hb dX5_sheet_93 rfl (lv_at hl 1 rfl) ?_
                      refine xg_X5 hx hb hts hown hK hP 0 rfl 17 (by decide) fk_X5_43 (v := .ref (a 12)) rfl dX5_sheet_94 ?_
                      refine lv_bipush (v := iI (40)) hx hb dX5_sheet_97 (by decide) ?_
                      refine lv_iload_n hx hb dX5_sheet_99 rfl (lv_at hl 2 rfl) ?_
                      refine xi_mul hx hb dX5_sheet_100 ?_
                      refine lv_iload hx hb dX5_sheet_101 (lv_at hl 0 rfl) ?_
                      refine xi_add hx hb dX5_sheet_103 ?_
                      refine lv_lconst (v := lI (0)) hx hb dX5_sheet_104 (by decide) ?_
                      refine xl_ast hx hb hK hP hD hS 12 (f := zrT f12 (40 * k) i) rfl (i := 40 * k + i) (v := 0) ⟨by omega, by omega⟩ rfl dX5_sheet_105 (fun H locs hP hD hS => ?_)
                      have hP : va_P g.1 vwCl (wM g a f1 f2 f3 f4 f5 f6 f7 f8 f9 (up f10 k bits) (up f11 k n) (up (zrT f12 (40 * k) i) (40 * k + i) 0) f13 f20 f21 f22 f23 f24 f25) H := hP
                      have hD : va_D (va_A (wM g a f1 f2 f3 f4 f5 f6 f7 f8 f9 f10 f11 f12 f13 f20 f21 f22 f23 f24 f25) s.heap.size) (wM g a f1 f2 f3 f4 f5 f6 f7 f8 f9 (up f10 k bits) (up f11 k n) (up (zrT f12 (40 * k) i) (40 * k + i) 0) f13 f20 f21 f22 f23 f24 f25) := hD
                      refine xi_inc (lv' := [(4, .int (iI (i + 1))), (0, .ref (a 0)), (1, .int (iI k)), (2, .int (iI bits)), (3, .int (iI n))]) hx hb dX5_sheet_106 hl (k := 0) rfl (by decide) rfl (fun ls hl => ?_)
                      refine lv_goto (tgt := 86) hx hb dX5_sheet_109 (by decide) ?_
                      have hq67 : (up (zrT f12 (40 * k) i) (40 * k + i) 0) = (zrT f12 (40 * k) (i + 1)) := zrT_S f12 (40 * k) i86_1.1
                      have hP := Eq.mp (congrArg (fun z9 => va_P g.1 vwCl (wM g a f1 f2 f3 f4 f5 f6 f7 f8 f9 (up f10 k bits) (up f11 k n) z9 f13 f20 f21 f22 f23 f24 f25) H) hq67) hP
                      have hD := Eq.mp (congrArg (fun z9 => va_D (va_A (wM g a f1 f2 f3 f4 f5 f6 f7 f8 f9 f10 f11 f12 f13 f20 f21 f22 f23 f24 f25) s.heap.size) (wM g a f1 f2 f3 f4 f5 f6 f7 f8 f9 (up f10 k bits) (up f11 k n) z9 f13 f20 f21 f22 f23 f24 f25)) hq67) hD
                      exact ih86 (i + 1) (by omega) (by omega) ls (lv_sub hl [0, 1, 2, 3, 4] rfl) H locs hP hD hS
                have hq68 : f12 = (zrT f12 (40 * k) 0) := zrT_0 f12 (40 * k)
                have hP := Eq.mp (congrArg (fun z9 => va_P g.1 vwCl (wM g a f1 f2 f3 f4 f5 f6 f7 f8 f9 (up f10 k bits) (up f11 k n) z9 f13 f20 f21 f22 f23 f24 f25) H) hq68) hP
                have hD := Eq.mp (congrArg (fun z9 => va_D (va_A (wM g a f1 f2 f3 f4 f5 f6 f7 f8 f9 f10 f11 f12 f13 f20 f21 f22 f23 f24 f25) s.heap.size) (wM g a f1 f2 f3 f4 f5 f6 f7 f8 f9 (up f10 k bits) (up f11 k n) z9 f13 f20 f21 f22 f23 f24 f25)) hq68) hD
                exact lp86 (40 + 1) 0 (by omega) (by omega) ls (lv_sub hl [0, 1, 2, 3, 4] rfl) H locs hP hD hS
              · refine lv_iconst (v := iI (0)) hx hb dX5_sheet_77 (by decide) ?_
                refine lv_goto (tgt := 82) hx hb dX5_sheet_78 (by decide) ?_
                refine xi_ast hx hb hK hP hD hS 11 (f := f11) rfl (i := k) (v := 0) ⟨by omega, by omega⟩ rfl dX5_sheet_82 (fun H locs hP hD hS => ?_)
                have hP : va_P g.1 vwCl (wM g a f1 f2 f3 f4 f5 f6 f7 f8 f9 (up f10 k bits) (up f11 k 0) f12 f13 f20 f21 f22 f23 f24 f25) H := hP
                have hD : va_D (va_A (wM g a f1 f2 f3 f4 f5 f6 f7 f8 f9 f10 f11 f12 f13 f20 f21 f22 f23 f24 f25) s.heap.size) (wM g a f1 f2 f3 f4 f5 f6 f7 f8 f9 (up f10 k bits) (up f11 k 0) f12 f13 f20 f21 f22 f23 f24 f25) := hD
                refine lv_iconst (v := iI (0)) hx hb dX5_sheet_83 (by decide) ?_
                refine lv_istore (lv' := [(4, .int (iI 0)), (0, .ref (a 0)), (1, .int (iI k)), (2, .int (iI bits)), (3, .int (iI n))]) hx hb dX5_sheet_84 hl (by decide) rfl (fun ls hl => ?_)
                have lp86 : ∀ (n86 : Nat) (i : Int), (0 ≤ i ∧ i ≤ 40) → (40 - i).toNat < n86 → ∀ ls : Array Slot, lv_has ls 5 [(4, .int (iI i)), (0, .ref (a 0)), (1, .int (iI k)), (2, .int (iI bits)), (3, .int (iI n))] → ∀ (H : Heap) (locs : List Loc), va_P g.1 vwCl (wM g a f1 f2 f3 f4 f5 f6 f7 f8 f9 (up f10 k bits) (up f11 k 0) (zrT f12 (40 * k) i) f13 f20 f21 f22 f23 f24 f25) H → va_D (va_A (wM g a f1 f2 f3 f4 f5 f6 f7 f8 f9 f10 f11 f12 f13 f20 f21 f22 f23 f24 f25) s.heap.size) (wM g a f1 f2 f3 f4 f5 f6 f7 f8 f9 (up f10 k bits) (up f11 k 0) (zrT f12 (40 * k) i) f13 f20 f21 f22 f23 f24 f25) → va_S (va_A (wM g a f1 f2 f3 f4 f5 f6 f7 f8 f9 f10 f11 f12 f13 f20 f21 f22 f23 f24 f25) s.heap.size) s.heap H locs → W pq l eq rm_X5_sheet s mq [.ref (a 0), .int (iI k), .int (iI bits), .int (iI n)].toArray below meth cq H locs 0 0 (MQ below (QMi g (fun _ : Unit => wM g a f1 f2 f3 f4 f5 (fb (fSht k bits n) f6) f7 f8 f9 (if fSht k bits n = 0 then up f10 k bits else f10) (if fSht k bits n = 0 then up f11 k (if bits = 0 then 0 else n) else f11) (if fSht k bits n = 0 then zrT f12 (40 * k) 40 else f12) f13 f20 f21 f22 f23 f24 f25) (fun r9 _ => r9 = ab (fSht k bits n) (iI (if bits = 0 then 0 else n))) (va_A (wM g a f1 f2 f3 f4 f5 f6 f7 f8 f9 f10 f11 f12 f13 f20 f21 f22 f23 f24 f25) s.heap.size)) [.ref (a 0), .int (iI k), .int (iI bits), .int (iI n)].toArray s 0 0 (va_A (wM g a f1 f2 f3 f4 f5 f6 f7 f8 f9 f10 f11 f12 f13 f20 f21 f22 f23 f24 f25) s.heap.size)) (F0 mq 86 ls []) := by
                  intro n86
                  induction n86 with
                  | zero => intro i i86_1 hm; exact absurd hm (Nat.not_lt_zero _)
                  | succ n86 ih86 =>
                    intro i i86_1 hm86 ls hl H locs hP hD hS
                    refine lv_iload hx hb dX5_sheet_86 (lv_at hl 0 rfl) ?_
                    refine lv_bipush (v := iI (40)) hx hb dX5_sheet_88 (by decide) ?_
                    refine xi_c_ge (tgt := 112) hx hb ⟨by omega, by omega⟩ ⟨by decide, by decide⟩ dX5_sheet_90 (by decide) (fun z69 => ?_) (fun z69 => ?_)
                    · refine lv_aload_n hx hb dX5_sheet_112 rfl (lv_at hl 1 rfl) ?_
                      refine xg_X5 hx hb hts hown hK hP 0 rfl 16 (by decide) fk_X5_40 (v := .ref (a 11)) rfl dX5_sheet_113 ?_
                      refine lv_iload_n hx hb dX5_sheet_116 rfl (lv_at hl 2 rfl) ?_
                      refine xi_ald hx hb hK hP 11 (f := up f11 k 0) rfl (i := k) ⟨by omega, by omega⟩ rfl dX5_sheet_117 ?_
                      have hf : fSht k bits n = 0 := by unfold fSht; (repeat (first | rw [if_pos (by omega)] | rw [if_neg (by omega)])); first | done | (exfalso; omega)
                      have he70 : (up f10 k bits) = (if fSht k bits n = 0 then up f10 k bits else f10) := by rw [hf]; rfl
                      have hP := Eq.mp (congrArg (fun z9 => va_P g.1 vwCl (wM g a f1 f2 f3 f4 f5 f6 f7 f8 f9 z9 (up f11 k 0) (zrT f12 (40 * k) i) f13 f20 f21 f22 f23 f24 f25) H) he70) hP
                      have hD := Eq.mp (congrArg (fun z9 => va_D (va_A (wM g a f1 f2 f3 f4 f5 f6 f7 f8 f9 f10 f11 f12 f13 f20 f21 f22 f23 f24 f25) s.heap.size) (wM g a f1 f2 f3 f4 f5 f6 f7 f8 f9 z9 (up f11 k 0) (zrT f12 (40 * k) i) f13 f20 f21 f22 f23 f24 f25)) he70) hD
                      have he71 : (up f11 k 0) = (if fSht k bits n = 0 then up f11 k (if bits = 0 then 0 else n) else f11) := by rw [hf, if_pos rfl]; first | (rw [if_pos (by omega)]; done) | (rw [if_neg (by omega)]; done) | (exfalso; omega)
                      have hP := Eq.mp (congrArg (fun z9 => va_P g.1 vwCl (wM g a f1 f2 f3 f4 f5 f6 f7 f8 f9 (if fSht k bits n = 0 then up f10 k bits else f10) z9 (zrT f12 (40 * k) i) f13 f20 f21 f22 f23 f24 f25) H) he71) hP
                      have hD := Eq.mp (congrArg (fun z9 => va_D (va_A (wM g a f1 f2 f3 f4 f5 f6 f7 f8 f9 f10 f11 f12 f13 f20 f21 f22 f23 f24 f25) s.heap.size) (wM g a f1 f2 f3 f4 f5 f6 f7 f8 f9 (if fSht k bits n = 0 then up f10 k bits else f10) z9 (zrT f12 (40 * k) i) f13 f20 f21 f22 f23 f24 f25)) he71) hD
                      have he72 : (zrT f12 (40 * k) i) = (if fSht k bits n = 0 then zrT f12 (40 * k) 40 else f12) := by rw [hf, if_pos rfl, show i = 40 by omega]
                      have hP := Eq.mp (congrArg (fun z9 => va_P g.1 vwCl (wM g a f1 f2 f3 f4 f5 f6 f7 f8 f9 (if fSht k bits n = 0 then up f10 k bits else f10) (if fSht k bits n = 0 then up f11 k (if bits = 0 then 0 else n) else f11) z9 f13 f20 f21 f22 f23 f24 f25) H) he72) hP
                      have hD := Eq.mp (congrArg (fun z9 => va_D (va_A (wM g a f1 f2 f3 f4 f5 f6 f7 f8 f9 f10 f11 f12 f13 f20 f21 f22 f23 f24 f25) s.heap.size) (wM g a f1 f2 f3 f4 f5 f6 f7 f8 f9 (if fSht k bits n = 0 then up f10 k bits else f10) (if fSht k bits n = 0 then up f11 k (if bits = 0 then 0 else n) else f11) z9 f13 f20 f21 f22 f23 f24 f25)) he72) hD
                      have he73 : f6 = (fb (fSht k bits n) f6) := by rw [hf]; rfl
                      have hP := Eq.mp (congrArg (fun z9 => va_P g.1 vwCl (wM g a f1 f2 f3 f4 f5 z9 f7 f8 f9 (if fSht k bits n = 0 then up f10 k bits else f10) (if fSht k bits n = 0 then up f11 k (if bits = 0 then 0 else n) else f11) (if fSht k bits n = 0 then zrT f12 (40 * k) 40 else f12) f13 f20 f21 f22 f23 f24 f25) H) he73) hP
                      have hD := Eq.mp (congrArg (fun z9 => va_D (va_A (wM g a f1 f2 f3 f4 f5 f6 f7 f8 f9 f10 f11 f12 f13 f20 f21 f22 f23 f24 f25) s.heap.size) (wM g a f1 f2 f3 f4 f5 z9 f7 f8 f9 (if fSht k bits n = 0 then up f10 k bits else f10) (if fSht k bits n = 0 then up f11 k (if bits = 0 then 0 else n) else f11) (if fSht k bits n = 0 then zrT f12 (40 * k) 40 else f12) f13 f20 f21 f22 f23 f24 f25)) he73) hD
                      have hP : va_P g.1 vwCl (wM g a f1 f2 f3 f4 f5 (fb (fSht k bits n) f6) f7 f8 f9 (if fSht k bits n = 0 then up f10 k bits else f10) (if fSht k bits n = 0 then up f11 k (if bits = 0 then 0 else n) else f11) (if fSht k bits n = 0 then zrT f12 (40 * k) 40 else f12) f13 f20 f21 f22 f23 f24 f25) H := hP
                      have hD : va_D (va_A (wM g a f1 f2 f3 f4 f5 f6 f7 f8 f9 f10 f11 f12 f13 f20 f21 f22 f23 f24 f25) s.heap.size) (wM g a f1 f2 f3 f4 f5 (fb (fSht k bits n) f6) f7 f8 f9 (if fSht k bits n = 0 then up f10 k bits else f10) (if fSht k bits n = 0 then up f11 k (if bits = 0 then 0 else n) else f11) (if fSht k bits n = 0 then zrT f12 (40 * k) 40 else f12) f13 f20 f21 f22 f23 f24 f25) := hD
                      exact W.iret hx hb hr (fun t ht hW => ⟨⟨_, (), rfl, by rw [hf, ab_0]; exact congrArg iI (by rw [up_s]; first | (rw [if_pos (by omega)]; done) | (rw [if_neg (by omega)]; done) | (exfalso; omega)), by rw [ht]; exact hP, hD⟩, hS.F ht⟩) hS.2.2 dX5_sheet_118
                    · refine lv_aload_n hx hb dX5_sheet_93 rfl (lv_at hl 1 rfl) ?_
                      refine xg_X5 hx hb hts hown hK hP 0 rfl 17 (by decide) fk_X5_43 (v := .ref (a 12)) rfl dX5_sheet_94 ?_
                      refine lv_bipush (v := iI (40)) hx hb dX5_sheet_97 (by decide) ?_
                      refine lv_iload_n hx hb dX5_sheet_99 rfl (lv_at hl 2 rfl) ?_
                      refine xi_mul hx hb dX5_sheet_100 ?_
                      refine lv_iload hx hb dX5_sheet_101 (lv_at hl 0 rfl) ?_
                      refine xi_add hx hb dX5_sheet_103 ?_
                      refine lv_lconst (v := lI (0)) hx hb dX5_sheet_104 (by decide) ?_
                      refine xl_ast hx hb hK hP hD hS 12 (f := zrT f12 (40 * k) i) rfl (i := 40 * k + i) (v := 0) ⟨by omega, by omega⟩ rfl dX5_sheet_105 (fun H locs hP hD hS => ?_)
                      have hP : va_P g.1 vwCl (wM g a f1 f2 f3 f4 f5 f6 f7 f8 f9 (up f10 k bits) (up f11 k 0) (up (zrT f12 (40 * k) i) (40 * k + i) 0) f13 f20 f21 f22 f23 f24 f25) H := hP
                      have hD : va_D (va_A (wM g a f1 f2 f3 f4 f5 f6 f7 f8 f9 f10 f11 f12 f13 f20 f21 f22 f23 f24 f25) s.heap.size) (wM g a f1 f2 f3 f4 f5 f6 f7 f8 f9 (up f10 k bits) (up f11 k 0) (up (zrT f12 (40 * k) i) (40 * k + i) 0) f13 f20 f21 f22 f23 f24 f25) := hD
                      refine xi_inc (lv' := [(4, .int (iI (i + 1))), (0, .ref (a 0)), (1, .int (iI k)), (2, .int (iI bits)), (3, .int (iI n))]) hx hb dX5_sheet_106 hl (k := 0) rfl (by decide) rfl (fun ls hl => ?_)
                      refine lv_goto (tgt := 86) hx hb dX5_sheet_109 (by decide) ?_
                      have hq74 : (up (zrT f12 (40 * k) i) (40 * k + i) 0) = (zrT f12 (40 * k) (i + 1)) := zrT_S f12 (40 * k) i86_1.1
                      have hP := Eq.mp (congrArg (fun z9 => va_P g.1 vwCl (wM g a f1 f2 f3 f4 f5 f6 f7 f8 f9 (up f10 k bits) (up f11 k 0) z9 f13 f20 f21 f22 f23 f24 f25) H) hq74) hP
                      have hD := Eq.mp (congrArg (fun z9 => va_D (va_A (wM g a f1 f2 f3 f4 f5 f6 f7 f8 f9 f10 f11 f12 f13 f20 f21 f22 f23 f24 f25) s.heap.size) (wM g a f1 f2 f3 f4 f5 f6 f7 f8 f9 (up f10 k bits) (up f11 k 0) z9 f13 f20 f21 f22 f23 f24 f25)) hq74) hD
                      exact ih86 (i + 1) (by omega) (by omega) ls (lv_sub hl [0, 1, 2, 3, 4] rfl) H locs hP hD hS
                have hq75 : f12 = (zrT f12 (40 * k) 0) := zrT_0 f12 (40 * k)
                have hP := Eq.mp (congrArg (fun z9 => va_P g.1 vwCl (wM g a f1 f2 f3 f4 f5 f6 f7 f8 f9 (up f10 k bits) (up f11 k 0) z9 f13 f20 f21 f22 f23 f24 f25) H) hq75) hP
                have hD := Eq.mp (congrArg (fun z9 => va_D (va_A (wM g a f1 f2 f3 f4 f5 f6 f7 f8 f9 f10 f11 f12 f13 f20 f21 f22 f23 f24 f25) s.heap.size) (wM g a f1 f2 f3 f4 f5 f6 f7 f8 f9 (up f10 k bits) (up f11 k 0) z9 f13 f20 f21 f22 f23 f24 f25)) hq75) hD
                exact lp86 (40 + 1) 0 (by omega) (by omega) ls (lv_sub hl [0, 1, 2, 3, 4] rfl) H locs hP hD hS
            · refine lv_aload_n hx hb dX5_sheet_54 rfl (lv_at hl 0 rfl) ?_
              refine xi_ldc hx hb hown hts kk_X5_50 dX5_sheet_55 ?_
              refine xm_i (rV (rest := []) hx hb hml hown hts hK hl (c_X5_finds l g a f1 f2 f3 f4 f5 f6 f7 f8 f9 f10 f11 f12 f13 f20 f21 f22 f23 f24 f25 (-1000000001) (s.heap).size (show 0 ≤ -1000000001 - (-1000000001) ∧ -1000000001 - (-1000000001) < 7 from by omega)) lk_X5_74 ⟨rfl, hP, hD.weaken (fun _ _ _ _ => trivial)⟩ (va_recv hK.1 hP (ci := 5) (q0 := 0) rfl rfl) rfl rfl rfl (Rm.of rfl) rfl rfl dX5_sheet_57) hD hS hA (fun x9 _ H locs hw hP hD hS => ?_)
              obtain rfl : x9 = iI (-1000000001) := hw
              have hP : va_P g.1 vwCl (wM g a f1 f2 f3 f4 f5 (fb (-1000000000 - (-1000000001)) f6) f7 f8 f9 f10 f11 f12 f13 f20 f21 f22 f23 f24 f25) H := hP
              have hD : va_D (va_A (wM g a f1 f2 f3 f4 f5 f6 f7 f8 f9 f10 f11 f12 f13 f20 f21 f22 f23 f24 f25) s.heap.size) (wM g a f1 f2 f3 f4 f5 (fb (-1000000000 - (-1000000001)) f6) f7 f8 f9 f10 f11 f12 f13 f20 f21 f22 f23 f24 f25) := hD
              have hf : fSht k bits n = 1 := by unfold fSht; (repeat (first | rw [if_pos (by omega)] | rw [if_neg (by omega)])); first | done | (exfalso; omega)
              have he77 : f10 = (if fSht k bits n = 0 then up f10 k bits else f10) := by rw [hf]; rfl
              have hP := Eq.mp (congrArg (fun z9 => va_P g.1 vwCl (wM g a f1 f2 f3 f4 f5 (fb (-1000000000 - (-1000000001)) f6) f7 f8 f9 z9 f11 f12 f13 f20 f21 f22 f23 f24 f25) H) he77) hP
              have hD := Eq.mp (congrArg (fun z9 => va_D (va_A (wM g a f1 f2 f3 f4 f5 f6 f7 f8 f9 f10 f11 f12 f13 f20 f21 f22 f23 f24 f25) s.heap.size) (wM g a f1 f2 f3 f4 f5 (fb (-1000000000 - (-1000000001)) f6) f7 f8 f9 z9 f11 f12 f13 f20 f21 f22 f23 f24 f25)) he77) hD
              have he78 : f11 = (if fSht k bits n = 0 then up f11 k (if bits = 0 then 0 else n) else f11) := by rw [hf]; rfl
              have hP := Eq.mp (congrArg (fun z9 => va_P g.1 vwCl (wM g a f1 f2 f3 f4 f5 (fb (-1000000000 - (-1000000001)) f6) f7 f8 f9 (if fSht k bits n = 0 then up f10 k bits else f10) z9 f12 f13 f20 f21 f22 f23 f24 f25) H) he78) hP
              have hD := Eq.mp (congrArg (fun z9 => va_D (va_A (wM g a f1 f2 f3 f4 f5 f6 f7 f8 f9 f10 f11 f12 f13 f20 f21 f22 f23 f24 f25) s.heap.size) (wM g a f1 f2 f3 f4 f5 (fb (-1000000000 - (-1000000001)) f6) f7 f8 f9 (if fSht k bits n = 0 then up f10 k bits else f10) z9 f12 f13 f20 f21 f22 f23 f24 f25)) he78) hD
              have he79 : f12 = (if fSht k bits n = 0 then zrT f12 (40 * k) 40 else f12) := by rw [hf]; rfl
              have hP := Eq.mp (congrArg (fun z9 => va_P g.1 vwCl (wM g a f1 f2 f3 f4 f5 (fb (-1000000000 - (-1000000001)) f6) f7 f8 f9 (if fSht k bits n = 0 then up f10 k bits else f10) (if fSht k bits n = 0 then up f11 k (if bits = 0 then 0 else n) else f11) z9 f13 f20 f21 f22 f23 f24 f25) H) he79) hP
              have hD := Eq.mp (congrArg (fun z9 => va_D (va_A (wM g a f1 f2 f3 f4 f5 f6 f7 f8 f9 f10 f11 f12 f13 f20 f21 f22 f23 f24 f25) s.heap.size) (wM g a f1 f2 f3 f4 f5 (fb (-1000000000 - (-1000000001)) f6) f7 f8 f9 (if fSht k bits n = 0 then up f10 k bits else f10) (if fSht k bits n = 0 then up f11 k (if bits = 0 then 0 else n) else f11) z9 f13 f20 f21 f22 f23 f24 f25)) he79) hD
              have he80 : (fb (-1000000000 - (-1000000001)) f6) = (fb (fSht k bits n) f6) := by rw [hf]; rfl
              have hP := Eq.mp (congrArg (fun z9 => va_P g.1 vwCl (wM g a f1 f2 f3 f4 f5 z9 f7 f8 f9 (if fSht k bits n = 0 then up f10 k bits else f10) (if fSht k bits n = 0 then up f11 k (if bits = 0 then 0 else n) else f11) (if fSht k bits n = 0 then zrT f12 (40 * k) 40 else f12) f13 f20 f21 f22 f23 f24 f25) H) he80) hP
              have hD := Eq.mp (congrArg (fun z9 => va_D (va_A (wM g a f1 f2 f3 f4 f5 f6 f7 f8 f9 f10 f11 f12 f13 f20 f21 f22 f23 f24 f25) s.heap.size) (wM g a f1 f2 f3 f4 f5 z9 f7 f8 f9 (if fSht k bits n = 0 then up f10 k bits else f10) (if fSht k bits n = 0 then up f11 k (if bits = 0 then 0 else n) else f11) (if fSht k bits n = 0 then zrT f12 (40 * k) 40 else f12) f13 f20 f21 f22 f23 f24 f25)) he80) hD
              have hP : va_P g.1 vwCl (wM g a f1 f2 f3 f4 f5 (fb (fSht k bits n) f6) f7 f8 f9 (if fSht k bits n = 0 then up f10 k bits else f10) (if fSht k bits n = 0 then up f11 k (if bits = 0 then 0 else n) else f11) (if fSht k bits n = 0 then zrT f12 (40 * k) 40 else f12) f13 f20 f21 f22 f23 f24 f25) H := hP
              have hD : va_D (va_A (wM g a f1 f2 f3 f4 f5 f6 f7 f8 f9 f10 f11 f12 f13 f20 f21 f22 f23 f24 f25) s.heap.size) (wM g a f1 f2 f3 f4 f5 (fb (fSht k bits n) f6) f7 f8 f9 (if fSht k bits n = 0 then up f10 k bits else f10) (if fSht k bits n = 0 then up f11 k (if bits = 0 then 0 else n) else f11) (if fSht k bits n = 0 then zrT f12 (40 * k) 40 else f12) f13 f20 f21 f22 f23 f24 f25) := hD
              exact W.iret hx hb hr (fun t ht hW => ⟨⟨_, (), rfl, by rw [hf]; rfl, by rw [ht]; exact hP, hD⟩, hS.F ht⟩) hS.2.2 dX5_sheet_60
          · refine lv_aload_n hx hb dX5_sheet_40 rfl (lv_at hl 0 rfl) ?_
            refine xi_ldcw hx hb hown hts kk_X5_315 dX5_sheet_41 ?_
            refine xm_i (rV (rest := []) hx hb hml hown hts hK hl (c_X5_finds l g a f1 f2 f3 f4 f5 f6 f7 f8 f9 f10 f11 f12 f13 f20 f21 f22 f23 f24 f25 (-1000000007) (s.heap).size (show 0 ≤ -1000000001 - (-1000000007) ∧ -1000000001 - (-1000000007) < 7 from by omega)) lk_X5_74 ⟨rfl, hP, hD.weaken (fun _ _ _ _ => trivial)⟩ (va_recv hK.1 hP (ci := 5) (q0 := 0) rfl rfl) rfl rfl rfl (Rm.of rfl) rfl rfl dX5_sheet_44) hD hS hA (fun x9 _ H locs hw hP hD hS => ?_)
            obtain rfl : x9 = iI (-1000000007) := hw
            have hP : va_P g.1 vwCl (wM g a f1 f2 f3 f4 f5 (fb (-1000000000 - (-1000000007)) f6) f7 f8 f9 f10 f11 f12 f13 f20 f21 f22 f23 f24 f25) H := hP
            have hD : va_D (va_A (wM g a f1 f2 f3 f4 f5 f6 f7 f8 f9 f10 f11 f12 f13 f20 f21 f22 f23 f24 f25) s.heap.size) (wM g a f1 f2 f3 f4 f5 (fb (-1000000000 - (-1000000007)) f6) f7 f8 f9 f10 f11 f12 f13 f20 f21 f22 f23 f24 f25) := hD
            have hf : fSht k bits n = 7 := by unfold fSht; (repeat (first | rw [if_pos (by omega)] | rw [if_neg (by omega)])); first | done | (exfalso; omega)
            have he82 : f10 = (if fSht k bits n = 0 then up f10 k bits else f10) := by rw [hf]; rfl
            have hP := Eq.mp (congrArg (fun z9 => va_P g.1 vwCl (wM g a f1 f2 f3 f4 f5 (fb (-1000000000 - (-1000000007)) f6) f7 f8 f9 z9 f11 f12 f13 f20 f21 f22 f23 f24 f25) H) he82) hP
            have hD := Eq.mp (congrArg (fun z9 => va_D (va_A (wM g a f1 f2 f3 f4 f5 f6 f7 f8 f9 f10 f11 f12 f13 f20 f21 f22 f23 f24 f25) s.heap.size) (wM g a f1 f2 f3 f4 f5 (fb (-1000000000 - (-1000000007)) f6) f7 f8 f9 z9 f11 f12 f13 f20 f21 f22 f23 f24 f25)) he82) hD
            have he83 : f11 = (if fSht k bits n = 0 then up f11 k (if bits = 0 then 0 else n) else f11) := by rw [hf]; rfl
            have hP := Eq.mp (congrArg (fun z9 => va_P g.1 vwCl (wM g a f1 f2 f3 f4 f5 (fb (-1000000000 - (-1000000007)) f6) f7 f8 f9 (if fSht k bits n = 0 then up f10 k bits else f10) z9 f12 f13 f20 f21 f22 f23 f24 f25) H) he83) hP
            have hD := Eq.mp (congrArg (fun z9 => va_D (va_A (wM g a f1 f2 f3 f4 f5 f6 f7 f8 f9 f10 f11 f12 f13 f20 f21 f22 f23 f24 f25) s.heap.size) (wM g a f1 f2 f3 f4 f5 (fb (-1000000000 - (-1000000007)) f6) f7 f8 f9 (if fSht k bits n = 0 then up f10 k bits else f10) z9 f12 f13 f20 f21 f22 f23 f24 f25)) he83) hD
            have he84 : f12 = (if fSht k bits n = 0 then zrT f12 (40 * k) 40 else f12) := by rw [hf]; rfl
            have hP := Eq.mp (congrArg (fun z9 => va_P g.1 vwCl (wM g a f1 f2 f3 f4 f5 (fb (-1000000000 - (-1000000007)) f6) f7 f8 f9 (if fSht k bits n = 0 then up f10 k bits else f10) (if fSht k bits n = 0 then up f11 k (if bits = 0 then 0 else n) else f11) z9 f13 f20 f21 f22 f23 f24 f25) H) he84) hP
            have hD := Eq.mp (congrArg (fun z9 => va_D (va_A (wM g a f1 f2 f3 f4 f5 f6 f7 f8 f9 f10 f11 f12 f13 f20 f21 f22 f23 f24 f25) s.heap.size) (wM g a f1 f2 f3 f4 f5 (fb (-1000000000 - (-1000000007)) f6) f7 f8 f9 (if fSht k bits n = 0 then up f10 k bits else f10) (if fSht k bits n = 0 then up f11 k (if bits = 0 then 0 else n) else f11) z9 f13 f20 f21 f22 f23 f24 f25)) he84) hD
            have he85 : (fb (-1000000000 - (-1000000007)) f6) = (fb (fSht k bits n) f6) := by rw [hf]; rfl
            have hP := Eq.mp (congrArg (fun z9 => va_P g.1 vwCl (wM g a f1 f2 f3 f4 f5 z9 f7 f8 f9 (if fSht k bits n = 0 then up f10 k bits else f10) (if fSht k bits n = 0 then up f11 k (if bits = 0 then 0 else n) else f11) (if fSht k bits n = 0 then zrT f12 (40 * k) 40 else f12) f13 f20 f21 f22 f23 f24 f25) H) he85) hP
            have hD := Eq.mp (congrArg (fun z9 => va_D (va_A (wM g a f1 f2 f3 f4 f5 f6 f7 f8 f9 f10 f11 f12 f13 f20 f21 f22 f23 f24 f25) s.heap.size) (wM g a f1 f2 f3 f4 f5 z9 f7 f8 f9 (if fSht k bits n = 0 then up f10 k bits else f10) (if fSht k bits n = 0 then up f11 k (if bits = 0 then 0 else n) else f11) (if fSht k bits n = 0 then zrT f12 (40 * k) 40 else f12) f13 f20 f21 f22 f23 f24 f25)) he85) hD
            have hP : va_P g.1 vwCl (wM g a f1 f2 f3 f4 f5 (fb (fSht k bits n) f6) f7 f8 f9 (if fSht k bits n = 0 then up f10 k bits else f10) (if fSht k bits n = 0 then up f11 k (if bits = 0 then 0 else n) else f11) (if fSht k bits n = 0 then zrT f12 (40 * k) 40 else f12) f13 f20 f21 f22 f23 f24 f25) H := hP
            have hD : va_D (va_A (wM g a f1 f2 f3 f4 f5 f6 f7 f8 f9 f10 f11 f12 f13 f20 f21 f22 f23 f24 f25) s.heap.size) (wM g a f1 f2 f3 f4 f5 (fb (fSht k bits n) f6) f7 f8 f9 (if fSht k bits n = 0 then up f10 k bits else f10) (if fSht k bits n = 0 then up f11 k (if bits = 0 then 0 else n) else f11) (if fSht k bits n = 0 then zrT f12 (40 * k) 40 else f12) f13 f20 f21 f22 f23 f24 f25) := hD
            exact W.iret hx hb hr (fun t ht hW => ⟨⟨_, (), rfl, by rw [hf]; rfl, by rw [ht]; exact hP, hD⟩, hS.F ht⟩) hS.2.2 dX5_sheet_47
        · refine lv_iload_n hx hb dX5_sheet_23 rfl (lv_at hl 2 rfl) ?_
          refine lv_bipush (v := iI (64)) hx hb dX5_sheet_24 (by decide) ?_
          refine xi_c_eq (tgt := 36) hx hb ⟨by omega, by omega⟩ ⟨by decide, by decide⟩ dX5_sheet_26 (by decide) (fun z86 => ?_) (fun z86 => ?_)
          · refine lv_iload_n hx hb dX5_sheet_36 rfl (lv_at hl 3 rfl) ?_
            refine xi_z_ge (tgt := 48) hx hb ⟨by omega, by omega⟩ dX5_sheet_37 (by decide) (fun z87 => ?_) (fun z87 => ?_)
            · refine lv_iload_n hx hb dX5_sheet_48 rfl (lv_at hl 3 rfl) ?_
              refine lv_bipush (v := iI (40)) hx hb dX5_sheet_49 (by decide) ?_
              refine xi_c_le (tgt := 61) hx hb ⟨by omega, by omega⟩ ⟨by decide, by decide⟩ dX5_sheet_51 (by decide) (fun z88 => ?_) (fun z88 => ?_)
              · refine lv_aload_n hx hb dX5_sheet_61 rfl (lv_at hl 0 rfl) ?_
                refine xg_X5 hx hb hts hown hK hP 0 rfl 15 (by decide) fk_X5_37 (v := .ref (a 10)) rfl dX5_sheet_62 ?_
                refine lv_iload_n hx hb dX5_sheet_65 rfl (lv_at hl 1 rfl) ?_
                refine lv_iload_n hx hb dX5_sheet_66 rfl (lv_at hl 2 rfl) ?_
                refine xi_ast hx hb hK hP hD hS 10 (f := f10) rfl (i := k) (v := bits) ⟨by omega, by omega⟩ rfl dX5_sheet_67 (fun H locs hP hD hS => ?_)
                have hP : va_P g.1 vwCl (wM g a f1 f2 f3 f4 f5 f6 f7 f8 f9 (up f10 k bits) f11 f12 f13 f20 f21 f22 f23 f24 f25) H := hP
                have hD : va_D (va_A (wM g a f1 f2 f3 f4 f5 f6 f7 f8 f9 f10 f11 f12 f13 f20 f21 f22 f23 f24 f25) s.heap.size) (wM g a f1 f2 f3 f4 f5 f6 f7 f8 f9 (up f10 k bits) f11 f12 f13 f20 f21 f22 f23 f24 f25) := hD
                refine lv_aload_n hx hb dX5_sheet_68 rfl (lv_at hl 0 rfl) ?_
                refine xg_X5 hx hb hts hown hK hP 0 rfl 16 (by decide) fk_X5_40 (v := .ref (a 11)) rfl dX5_sheet_69 ?_
                refine lv_iload_n hx hb dX5_sheet_72 rfl (lv_at hl 1 rfl) ?_
                refine lv_iload_n hx hb dX5_sheet_73 rfl (lv_at hl 2 rfl) ?_
                refine xi_z_ne (tgt := 81) hx hb ⟨by omega, by omega⟩ dX5_sheet_74 (by decide) (fun z89 => ?_) (fun z89 => ?_)
                · refine lv_iload_n hx hb dX5_sheet_81 rfl (lv_at hl 3 rfl) ?_
                  refine xi_ast hx hb hK hP hD hS 11 (f := f11) rfl (i := k) (v := n) ⟨by omega, by omega⟩ rfl dX5_sheet_82 (fun H locs hP hD hS => ?_)
                  have hP : va_P g.1 vwCl (wM g a f1 f2 f3 f4 f5 f6 f7 f8 f9 (up f10 k bits) (up f11 k n) f12 f13 f20 f21 f22 f23 f24 f25) H := hP
                  have hD : va_D (va_A (wM g a f1 f2 f3 f4 f5 f6 f7 f8 f9 f10 f11 f12 f13 f20 f21 f22 f23 f24 f25) s.heap.size) (wM g a f1 f2 f3 f4 f5 f6 f7 f8 f9 (up f10 k bits) (up f11 k n) f12 f13 f20 f21 f22 f23 f24 f25) := hD
                  refine lv_iconst (v := iI (0)) hx hb dX5_sheet_83 (by decide) ?_
                  refine lv_istore (lv' := [(4, .int (iI 0)), (0, .ref (a 0)), (1, .int (iI k)), (2, .int (iI bits)), (3, .int (iI n))]) hx hb dX5_sheet_84 hl (by decide) rfl (fun ls hl => ?_)
                  have lp86 : ∀ (n86 : Nat) (i : Int), (0 ≤ i ∧ i ≤ 40) → (40 - i).toNat < n86 → ∀ ls : Array Slot, lv_has ls 5 [(4, .int (iI i)), (0, .ref (a 0)), (1, .int (iI k)), (2, .int (iI bits)), (3, .int (iI n))] → ∀ (H : Heap) (locs : List Loc), va_P g.1 vwCl (wM g a f1 f2 f3 f4 f5 f6 f7 f8 f9 (up f10 k bits) (up f11 k n) (zrT f12 (40 * k) i) f13 f20 f21 f22 f23 f24 f25) H → va_D (va_A (wM g a f1 f2 f3 f4 f5 f6 f7 f8 f9 f10 f11 f12 f13 f20 f21 f22 f23 f24 f25) s.heap.size) (wM g a f1 f2 f3 f4 f5 f6 f7 f8 f9 (up f10 k bits) (up f11 k n) (zrT f12 (40 * k) i) f13 f20 f21 f22 f23 f24 f25) → va_S (va_A (wM g a f1 f2 f3 f4 f5 f6 f7 f8 f9 f10 f11 f12 f13 f20 f21 f22 f23 f24 f25) s.heap.size) s.heap H locs → W pq l eq rm_X5_sheet s mq [.ref (a 0), .int (iI k), .int (iI bits), .int (iI n)].toArray below meth cq H locs 0 0 (MQ below (QMi g (fun _ : Unit => wM g a f1 f2 f3 f4 f5 (fb (fSht k bits n) f6) f7 f8 f9 (if fSht k bits n = 0 then up f10 k bits else f10) (if fSht k bits n = 0 then up f11 k (if bits = 0 then 0 else n) else f11) (if fSht k bits n = 0 then zrT f12 (40 * k) 40 else f12) f13 f20 f21 f22 f23 f24 f25) (fun r9 _ => r9 = ab (fSht k bits n) (iI (if bits = 0 then 0 else n))) (va_A (wM g a f1 f2 f3 f4 f5 f6 f7 f8 f9 f10 f11 f12 f13 f20 f21 f22 f23 f24 f25) s.heap.size)) [.ref (a 0), .int (iI k), .int (iI bits), .int (iI n)].toArray s 0 0 (va_A (wM g a f1 f2 f3 f4 f5 f6 f7 f8 f9 f10 f11 f12 f13 f20 f21 f22 f23 f24 f25) s.heap.size)) (F0 mq 86 ls []) := by
                    intro n86
                    induction n86 with
                    | zero => intro i i86_1 hm; exact absurd hm (Nat.not_lt_zero _)
                    | succ n86 ih86 =>
                      intro i i86_1 hm86 ls hl H locs hP hD hS
                      refine lv_iload hx hb dX5_sheet_86 (lv_at hl 0 rfl) ?_
                      refine lv_bipush (v := iI (40)) hx hb dX5_sheet_88 (by decide) ?_
                      refine xi_c_ge (tgt := 112) hx hb ⟨by omega, by omega⟩ ⟨by decide, by decide⟩ dX5_sheet_90 (by decide) (fun z90 => ?_) (fun z90 => ?_)
                      · refine lv_aload_n hx hb dX5_sheet_112 rfl (lv_at hl 1 rfl) ?_
                        refine xg_X5 hx hb hts hown hK hP 0 rfl 16 (by decide) fk_X5_40 (v := .ref (a 11)) rfl dX5_sheet_113 ?_
                        refine lv_iload_n hx hb dX5_sheet_116 rfl (lv_at hl 2 rfl) ?_
                        refine xi_ald hx hb hK hP 11 (f := up f11 k n) rfl (i := k) ⟨by omega, by omega⟩ rfl dX5_sheet_117 ?_
                        have hf : fSht k bits n = 0 := by unfold fSht; (repeat (first | rw [if_pos (by omega)] | rw [if_neg (by omega)])); first | done | (exfalso; omega)
                        have he91 : (up f10 k bits) = (if fSht k bits n = 0 then up f10 k bits else f10) := by rw [hf]; rfl
                        have hP := Eq.mp (congrArg (fun z9 => va_P g.1 vwCl (wM g a f1 f2 f3 f4 f5 f6 f7 f8 f9 z9 (up f11 k n) (zrT f12 (40 * k) i) f13 f20 f21 f22 f23 f24 f25) H) he91) hP
                        have hD := Eq.mp (congrArg (fun z9 => va_D (va_A (wM g a f1 f2 f3 f4 f5 f6 f7 f8 f9 f10 f11 f12 f13 f20 f21 f22 f23 f24 f25) s.heap.size) (wM g a f1 f2 f3 f4 f5 f6 f7 f8 f9 z9 (up f11 k n) (zrT f12 (40 * k) i) f13 f20 f21 f22 f23 f24 f25)) he91) hD
                        have he92 : (up f11 k n) = (if fSht k bits n = 0 then up f11 k (if bits = 0 then 0 else n) else f11) := by rw [hf, if_pos rfl]; first | (rw [if_pos (by omega)]; done) | (rw [if_neg (by omega)]; done) | (exfalso; omega)
                        have hP := Eq.mp (congrArg (fun z9 => va_P g.1 vwCl (wM g a f1 f2 f3 f4 f5 f6 f7 f8 f9 (if fSht k bits n = 0 then up f10 k bits else f10) z9 (zrT f12 (40 * k) i) f13 f20 f21 f22 f23 f24 f25) H) he92) hP
                        have hD := Eq.mp (congrArg (fun z9 => va_D (va_A (wM g a f1 f2 f3 f4 f5 f6 f7 f8 f9 f10 f11 f12 f13 f20 f21 f22 f23 f24 f25) s.heap.size) (wM g a f1 f2 f3 f4 f5 f6 f7 f8 f9 (if fSht k bits n = 0 then up f10 k bits else f10) z9 (zrT f12 (40 * k) i) f13 f20 f21 f22 f23 f24 f25)) he92) hD
                        have he93 : (zrT f12 (40 * k) i) = (if fSht k bits n = 0 then zrT f12 (40 * k) 40 else f12) := by rw [hf, if_pos rfl, show i = 40 by omega]
                        have hP := Eq.mp (congrArg (fun z9 => va_P g.1 vwCl (wM g a f1 f2 f3 f4 f5 f6 f7 f8 f9 (if fSht k bits n = 0 then up f10 k bits else f10) (if fSht k bits n = 0 then up f11 k (if bits = 0 then 0 else n) else f11) z9 f13 f20 f21 f22 f23 f24 f25) H) he93) hP
                        have hD := Eq.mp (congrArg (fun z9 => va_D (va_A (wM g a f1 f2 f3 f4 f5 f6 f7 f8 f9 f10 f11 f12 f13 f20 f21 f22 f23 f24 f25) s.heap.size) (wM g a f1 f2 f3 f4 f5 f6 f7 f8 f9 (if fSht k bits n = 0 then up f10 k bits else f10) (if fSht k bits n = 0 then up f11 k (if bits = 0 then 0 else n) else f11) z9 f13 f20 f21 f22 f23 f24 f25)) he93) hD
                        have he94 : f6 = (fb (fSht k bits n) f6) := by rw [hf]; rfl
                        have hP := Eq.mp (congrArg (fun z9 => va_P g.1 vwCl (wM g a f1 f2 f3 f4 f5 z9 f7 f8 f9 (if fSht k bits n = 0 then up f10 k bits else f10) (if fSht k bits n = 0 then up f11 k (if bits = 0 then 0 else n) else f11) (if fSht k bits n = 0 then zrT f12 (40 * k) 40 else f12) f13 f20 f21 f22 f23 f24 f25) H) he94) hP
                        have hD := Eq.mp (congrArg (fun z9 => va_D (va_A (wM g a f1 f2 f3 f4 f5 f6 f7 f8 f9 f10 f11 f12 f13 f20 f21 f22 f23 f24 f25) s.heap.size) (wM g a f1 f2 f3 f4 f5 z9 f7 f8 f9 (if fSht k bits n = 0 then up f10 k bits else f10) (if fSht k bits n = 0 then up f11 k (if bits = 0 then 0 else n) else f11) (if fSht k bits n = 0 then zrT f12 (40 * k) 40 else f12) f13 f20 f21 f22 f23 f24 f25)) he94) hD
                        have hP : va_P g.1 vwCl (wM g a f1 f2 f3 f4 f5 (fb (fSht k bits n) f6) f7 f8 f9 (if fSht k bits n = 0 then up f10 k bits else f10) (if fSht k bits n = 0 then up f11 k (if bits = 0 then 0 else n) else f11) (if fSht k bits n = 0 then zrT f12 (40 * k) 40 else f12) f13 f20 f21 f22 f23 f24 f25) H := hP
                        have hD : va_D (va_A (wM g a f1 f2 f3 f4 f5 f6 f7 f8 f9 f10 f11 f12 f13 f20 f21 f22 f23 f24 f25) s.heap.size) (wM g a f1 f2 f3 f4 f5 (fb (fSht k bits n) f6) f7 f8 f9 (if fSht k bits n = 0 then up f10 k bits else f10) (if fSht k bits n = 0 then up f11 k (if bits = 0 then 0 else n) else f11) (if fSht k bits n = 0 then zrT f12 (40 * k) 40 else f12) f13 f20 f21 f22 f23 f24 f25) := hD
                        exact W.iret hx hb hr (fun t ht hW => ⟨⟨_, (), rfl, by rw [hf, ab_0]; exact congrArg iI (by rw [up_s]; first | (rw [if_pos (by omega)]; done) | (rw [if_neg (by omega)]; done) | (exfalso; omega)), by rw [ht]; exact hP, hD⟩, hS.F ht⟩) hS.2.2 dX5_sheet_118
                      · refine lv_aload_n hx hb dX5_sheet_93 rfl (lv_at hl 1 rfl) ?_
                        refine xg_X5 hx hb hts hown hK hP 0 rfl 17 (by decide) fk_X5_43 (v := .ref (a 12)) rfl dX5_sheet_94 ?_
                        refine lv_bipush (v := iI (40)) hx hb dX5_sheet_97 (by decide) ?_
                        refine lv_iload_n hx hb dX5_sheet_99 rfl (lv_at hl 2 rfl) ?_
                        refine xi_mul hx hb dX5_sheet_100 ?_
                        refine lv_iload hx hb dX5_sheet_101 (lv_at hl 0 rfl) ?_
                        refine xi_add hx hb dX5_sheet_103 ?_
                        refine lv_lconst (v := lI (0)) hx hb dX5_sheet_104 (by decide) ?_
                        refine xl_ast hx hb hK hP hD hS 12 (f := zrT f12 (40 * k) i) rfl (i := 40 * k + i) (v := 0) ⟨by omega, by omega⟩ rfl dX5_sheet_105 (fun H locs hP hD hS => ?_)
                        have hP : va_P g.1 vwCl (wM g a f1 f2 f3 f4 f5 f6 f7 f8 f9 (up f10 k bits) (up f11 k n) (up (zrT f12 (40 * k) i) (40 * k + i) 0) f13 f20 f21 f22 f23 f24 f25) H := hP
                        have hD : va_D (va_A (wM g a f1 f2 f3 f4 f5 f6 f7 f8 f9 f10 f11 f12 f13 f20 f21 f22 f23 f24 f25) s.heap.size) (wM g a f1 f2 f3 f4 f5 f6 f7 f8 f9 (up f10 k bits) (up f11 k n) (up (zrT f12 (40 * k) i) (40 * k + i) 0) f13 f20 f21 f22 f23 f24 f25) := hD
                        refine xi_inc (lv' := [(4, .int (iI (i + 1))), (0, .ref (a 0)), (1, .int (iI k)), (2, .int (iI bits)), (3, .int (iI n))]) hx hb dX5_sheet_106 hl (k := 0) rfl (by decide) rfl (fun ls hl => ?_)
                        refine lv_goto (tgt := 86) hx hb dX5_sheet_109 (by decide) ?_
                        have hq95 : (up (zrT f12 (40 * k) i) (40 * k + i) 0) = (zrT f12 (40 * k) (i + 1)) := zrT_S f12 (40 * k) i86_1.1
                        have hP := Eq.mp (congrArg (fun z9 => va_P g.1 vwCl (wM g a f1 f2 f3 f4 f5 f6 f7 f8 f9 (up f10 k bits) (up f11 k n) z9 f13 f20 f21 f22 f23 f24 f25) H) hq95) hP
                        have hD := Eq.mp (congrArg (fun z9 => va_D (va_A (wM g a f1 f2 f3 f4 f5 f6 f7 f8 f9 f10 f11 f12 f13 f20 f21 f22 f23 f24 f25) s.heap.size) (wM g a f1 f2 f3 f4 f5 f6 f7 f8 f9 (up f10 k bits) (up f11 k n) z9 f13 f20 f21 f22 f23 f24 f25)) hq95) hD
                        exact ih86 (i + 1) (by omega) (by omega) ls (lv_sub hl [0, 1, 2, 3, 4] rfl) H locs hP hD hS
                  have hq96 : f12 = (zrT f12 (40 * k) 0) := zrT_0 f12 (40 * k)
                  have hP := Eq.mp (congrArg (fun z9 => va_P g.1 vwCl (wM g a f1 f2 f3 f4 f5 f6 f7 f8 f9 (up f10 k bits) (up f11 k n) z9 f13 f20 f21 f22 f23 f24 f25) H) hq96) hP
                  have hD := Eq.mp (congrArg (fun z9 => va_D (va_A (wM g a f1 f2 f3 f4 f5 f6 f7 f8 f9 f10 f11 f12 f13 f20 f21 f22 f23 f24 f25) s.heap.size) (wM g a f1 f2 f3 f4 f5 f6 f7 f8 f9 (up f10 k bits) (up f11 k n) z9 f13 f20 f21 f22 f23 f24 f25)) hq96) hD
                  exact lp86 (40 + 1) 0 (by omega) (by omega) ls (lv_sub hl [0, 1, 2, 3, 4] rfl) H locs hP hD hS
                · refine lv_iconst (v := iI (0)) hx hb dX5_sheet_77 (by decide) ?_
                  refine lv_goto (tgt := 82) hx hb dX5_sheet_78 (by decide) ?_
                  refine xi_ast hx hb hK hP hD hS 11 (f := f11) rfl (i := k) (v := 0) ⟨by omega, by omega⟩ rfl dX5_sheet_82 (fun H locs hP hD hS => ?_)
                  have hP : va_P g.1 vwCl (wM g a f1 f2 f3 f4 f5 f6 f7 f8 f9 (up f10 k bits) (up f11 k 0) f12 f13 f20 f21 f22 f23 f24 f25) H := hP
                  have hD : va_D (va_A (wM g a f1 f2 f3 f4 f5 f6 f7 f8 f9 f10 f11 f12 f13 f20 f21 f22 f23 f24 f25) s.heap.size) (wM g a f1 f2 f3 f4 f5 f6 f7 f8 f9 (up f10 k bits) (up f11 k 0) f12 f13 f20 f21 f22 f23 f24 f25) := hD
                  refine lv_iconst (v := iI (0)) hx hb dX5_sheet_83 (by decide) ?_
                  refine lv_istore (lv' := [(4, .int (iI 0)), (0, .ref (a 0)), (1, .int (iI k)), (2, .int (iI bits)), (3, .int (iI n))]) hx hb dX5_sheet_84 hl (by decide) rfl (fun ls hl => ?_)
                  have lp86 : ∀ (n86 : Nat) (i : Int), (0 ≤ i ∧ i ≤ 40) → (40 - i).toNat < n86 → ∀ ls : Array Slot, lv_has ls 5 [(4, .int (iI i)), (0, .ref (a 0)), (1, .int (iI k)), (2, .int (iI bits)), (3, .int (iI n))] → ∀ (H : Heap) (locs : List Loc), va_P g.1 vwCl (wM g a f1 f2 f3 f4 f5 f6 f7 f8 f9 (up f10 k bits) (up f11 k 0) (zrT f12 (40 * k) i) f13 f20 f21 f22 f23 f24 f25) H → va_D (va_A (wM g a f1 f2 f3 f4 f5 f6 f7 f8 f9 f10 f11 f12 f13 f20 f21 f22 f23 f24 f25) s.heap.size) (wM g a f1 f2 f3 f4 f5 f6 f7 f8 f9 (up f10 k bits) (up f11 k 0) (zrT f12 (40 * k) i) f13 f20 f21 f22 f23 f24 f25) → va_S (va_A (wM g a f1 f2 f3 f4 f5 f6 f7 f8 f9 f10 f11 f12 f13 f20 f21 f22 f23 f24 f25) s.heap.size) s.heap H locs → W pq l eq rm_X5_sheet s mq [.ref (a 0), .int (iI k), .int (iI bits), .int (iI n)].toArray below meth cq H locs 0 0 (MQ below (QMi g (fun _ : Unit => wM g a f1 f2 f3 f4 f5 (fb (fSht k bits n) f6) f7 f8 f9 (if fSht k bits n = 0 then up f10 k bits else f10) (if fSht k bits n = 0 then up f11 k (if bits = 0 then 0 else n) else f11) (if fSht k bits n = 0 then zrT f12 (40 * k) 40 else f12) f13 f20 f21 f22 f23 f24 f25) (fun r9 _ => r9 = ab (fSht k bits n) (iI (if bits = 0 then 0 else n))) (va_A (wM g a f1 f2 f3 f4 f5 f6 f7 f8 f9 f10 f11 f12 f13 f20 f21 f22 f23 f24 f25) s.heap.size)) [.ref (a 0), .int (iI k), .int (iI bits), .int (iI n)].toArray s 0 0 (va_A (wM g a f1 f2 f3 f4 f5 f6 f7 f8 f9 f10 f11 f12 f13 f20 f21 f22 f23 f24 f25) s.heap.size)) (F0 mq 86 ls []) := by
                    intro n86
                    induction n86 with
                    | zero => intro i i86_1 hm; exact absurd hm (Nat.not_lt_zero _)
                    | succ n86 ih86 =>
                      intro i i86_1 hm86 ls hl H locs hP hD hS
                      refine lv_iload hx hb dX5_sheet_86 (lv_at hl 0 rfl) ?_
                      refine lv_bipush (v := iI (40)) hx hb dX5_sheet_88 (by decide) ?_
                      refine xi_c_ge (tgt := 112) hx hb ⟨by omega, by omega⟩ ⟨by decide, by decide⟩ dX5_sheet_90 (by decide) (fun z97 => ?_) (fun z97 => ?_)
                      · refine lv_aload_n hx hb dX5_sheet_112 rfl (lv_at hl 1 rfl) ?_
                        refine xg_X5 hx hb hts hown hK hP 0 rfl 16 (by decide) fk_X5_40 (v := .ref (a 11)) rfl dX5_sheet_113 ?_
                        refine lv_iload_n hx hb dX5_sheet_116 rfl (lv_at hl 2 rfl) ?_
                        refine xi_ald hx hb hK hP 11 (f := up f11 k 0) rfl (i := k) ⟨by omega, by omega⟩ rfl dX5_sheet_117 ?_
                        have hf : fSht k bits n = 0 := by unfold fSht; (repeat (first | rw [if_pos (by omega)] | rw [if_neg (by omega)])); first | done | (exfalso; omega)
                        have he98 : (up f10 k bits) = (if fSht k bits n = 0 then up f10 k bits else f10) := by rw [hf]; rfl
                        have hP := Eq.mp (congrArg (fun z9 => va_P g.1 vwCl (wM g a f1 f2 f3 f4 f5 f6 f7 f8 f9 z9 (up f11 k 0) (zrT f12 (40 * k) i) f13 f20 f21 f22 f23 f24 f25) H) he98) hP
                        have hD := Eq.mp (congrArg (fun z9 => va_D (va_A (wM g a f1 f2 f3 f4 f5 f6 f7 f8 f9 f10 f11 f12 f13 f20 f21 f22 f23 f24 f25) s.heap.size) (wM g a f1 f2 f3 f4 f5 f6 f7 f8 f9 z9 (up f11 k 0) (zrT f12 (40 * k) i) f13 f20 f21 f22 f23 f24 f25)) he98) hD
                        have he99 : (up f11 k 0) = (if fSht k bits n = 0 then up f11 k (if bits = 0 then 0 else n) else f11) := by rw [hf, if_pos rfl]; first | (rw [if_pos (by omega)]; done) | (rw [if_neg (by omega)]; done) | (exfalso; omega)
                        have hP := Eq.mp (congrArg (fun z9 => va_P g.1 vwCl (wM g a f1 f2 f3 f4 f5 f6 f7 f8 f9 (if fSht k bits n = 0 then up f10 k bits else f10) z9 (zrT f12 (40 * k) i) f13 f20 f21 f22 f23 f24 f25) H) he99) hP
                        have hD := Eq.mp (congrArg (fun z9 => va_D (va_A (wM g a f1 f2 f3 f4 f5 f6 f7 f8 f9 f10 f11 f12 f13 f20 f21 f22 f23 f24 f25) s.heap.size) (wM g a f1 f2 f3 f4 f5 f6 f7 f8 f9 (if fSht k bits n = 0 then up f10 k bits else f10) z9 (zrT f12 (40 * k) i) f13 f20 f21 f22 f23 f24 f25)) he99) hD
                        have he100 : (zrT f12 (40 * k) i) = (if fSht k bits n = 0 then zrT f12 (40 * k) 40 else f12) := by rw [hf, if_pos rfl, show i = 40 by omega]
                        have hP := Eq.mp (congrArg (fun z9 => va_P g.1 vwCl (wM g a f1 f2 f3 f4 f5 f6 f7 f8 f9 (if fSht k bits n = 0 then up f10 k bits else f10) (if fSht k bits n = 0 then up f11 k (if bits = 0 then 0 else n) else f11) z9 f13 f20 f21 f22 f23 f24 f25) H) he100) hP
                        have hD := Eq.mp (congrArg (fun z9 => va_D (va_A (wM g a f1 f2 f3 f4 f5 f6 f7 f8 f9 f10 f11 f12 f13 f20 f21 f22 f23 f24 f25) s.heap.size) (wM g a f1 f2 f3 f4 f5 f6 f7 f8 f9 (if fSht k bits n = 0 then up f10 k bits else f10) (if fSht k bits n = 0 then up f11 k (if bits = 0 then 0 else n) else f11) z9 f13 f20 f21 f22 f23 f24 f25)) he100) hD
                        have he101 : f6 = (fb (fSht k bits n) f6) := by rw [hf]; rfl
                        have hP := Eq.mp (congrArg (fun z9 => va_P g.1 vwCl (wM g a f1 f2 f3 f4 f5 z9 f7 f8 f9 (if fSht k bits n = 0 then up f10 k bits else f10) (if fSht k bits n = 0 then up f11 k (if bits = 0 then 0 else n) else f11) (if fSht k bits n = 0 then zrT f12 (40 * k) 40 else f12) f13 f20 f21 f22 f23 f24 f25) H) he101) hP
                        have hD := Eq.mp (congrArg (fun z9 => va_D (va_A (wM g a f1 f2 f3 f4 f5 f6 f7 f8 f9 f10 f11 f12 f13 f20 f21 f22 f23 f24 f25) s.heap.size) (wM g a f1 f2 f3 f4 f5 z9 f7 f8 f9 (if fSht k bits n = 0 then up f10 k bits else f10) (if fSht k bits n = 0 then up f11 k (if bits = 0 then 0 else n) else f11) (if fSht k bits n = 0 then zrT f12 (40 * k) 40 else f12) f13 f20 f21 f22 f23 f24 f25)) he101) hD
                        have hP : va_P g.1 vwCl (wM g a f1 f2 f3 f4 f5 (fb (fSht k bits n) f6) f7 f8 f9 (if fSht k bits n = 0 then up f10 k bits else f10) (if fSht k bits n = 0 then up f11 k (if bits = 0 then 0 else n) else f11) (if fSht k bits n = 0 then zrT f12 (40 * k) 40 else f12) f13 f20 f21 f22 f23 f24 f25) H := hP
                        have hD : va_D (va_A (wM g a f1 f2 f3 f4 f5 f6 f7 f8 f9 f10 f11 f12 f13 f20 f21 f22 f23 f24 f25) s.heap.size) (wM g a f1 f2 f3 f4 f5 (fb (fSht k bits n) f6) f7 f8 f9 (if fSht k bits n = 0 then up f10 k bits else f10) (if fSht k bits n = 0 then up f11 k (if bits = 0 then 0 else n) else f11) (if fSht k bits n = 0 then zrT f12 (40 * k) 40 else f12) f13 f20 f21 f22 f23 f24 f25) := hD
                        exact W.iret hx hb hr (fun t ht hW => ⟨⟨_, (), rfl, by rw [hf, ab_0]; exact congrArg iI (by rw [up_s]; first | (rw [if_pos (by omega)]; done) | (rw [if_neg (by omega)]; done) | (exfalso; omega)), by rw [ht]; exact hP, hD⟩, hS.F ht⟩) hS.2.2 dX5_sheet_118
                      · refine lv_aload_n hx hb dX5_sheet_93 rfl (lv_at hl 1 rfl) ?_
                        refine xg_X5 hx hb hts hown hK hP 0 rfl 17 (by decide) fk_X5_43 (v := .ref (a 12)) rfl dX5_sheet_94 ?_
                        refine lv_bipush (v := iI (40)) hx hb dX5_sheet_97 (by decide) ?_
                        refine lv_iload_n hx hb dX5_sheet_99 rfl (lv_at hl 2 rfl) ?_
                        refine xi_mul hx hb dX5_sheet_100 ?_
                        refine lv_iload hx hb dX5_sheet_101 (lv_at hl 0 rfl) ?_
                        refine xi_add hx hb dX5_sheet_103 ?_
                        refine lv_lconst (v := lI (0)) hx hb dX5_sheet_104 (by decide) ?_
                        refine xl_ast hx hb hK hP hD hS 12 (f := zrT f12 (40 * k) i) rfl (i := 40 * k + i) (v := 0) ⟨by omega, by omega⟩ rfl dX5_sheet_105 (fun H locs hP hD hS => ?_)
                        have hP : va_P g.1 vwCl (wM g a f1 f2 f3 f4 f5 f6 f7 f8 f9 (up f10 k bits) (up f11 k 0) (up (zrT f12 (40 * k) i) (40 * k + i) 0) f13 f20 f21 f22 f23 f24 f25) H := hP
                        have hD : va_D (va_A (wM g a f1 f2 f3 f4 f5 f6 f7 f8 f9 f10 f11 f12 f13 f20 f21 f22 f23 f24 f25) s.heap.size) (wM g a f1 f2 f3 f4 f5 f6 f7 f8 f9 (up f10 k bits) (up f11 k 0) (up (zrT f12 (40 * k) i) (40 * k + i) 0) f13 f20 f21 f22 f23 f24 f25) := hD
                        refine xi_inc (lv' := [(4, .int (iI (i + 1))), (0, .ref (a 0)), (1, .int (iI k)), (2, .int (iI bits)), (3, .int (iI n))]) hx hb dX5_sheet_106 hl (k := 0) rfl (by decide) rfl (fun ls hl => ?_)
                        refine lv_goto (tgt := 86) hx hb dX5_sheet_109 (by decide) ?_
                        have hq102 : (up (zrT f12 (40 * k) i) (40 * k + i) 0) = (zrT f12 (40 * k) (i + 1)) := zrT_S f12 (40 * k) i86_1.1
                        have hP := Eq.mp (congrArg (fun z9 => va_P g.1 vwCl (wM g a f1 f2 f3 f4 f5 f6 f7 f8 f9 (up f10 k bits) (up f11 k 0) z9 f13 f20 f21 f22 f23 f24 f25) H) hq102) hP
                        have hD := Eq.mp (congrArg (fun z9 => va_D (va_A (wM g a f1 f2 f3 f4 f5 f6 f7 f8 f9 f10 f11 f12 f13 f20 f21 f22 f23 f24 f25) s.heap.size) (wM g a f1 f2 f3 f4 f5 f6 f7 f8 f9 (up f10 k bits) (up f11 k 0) z9 f13 f20 f21 f22 f23 f24 f25)) hq102) hD
                        exact ih86 (i + 1) (by omega) (by omega) ls (lv_sub hl [0, 1, 2, 3, 4] rfl) H locs hP hD hS
                  have hq103 : f12 = (zrT f12 (40 * k) 0) := zrT_0 f12 (40 * k)
                  have hP := Eq.mp (congrArg (fun z9 => va_P g.1 vwCl (wM g a f1 f2 f3 f4 f5 f6 f7 f8 f9 (up f10 k bits) (up f11 k 0) z9 f13 f20 f21 f22 f23 f24 f25) H) hq103) hP
                  have hD := Eq.mp (congrArg (fun z9 => va_D (va_A (wM g a f1 f2 f3 f4 f5 f6 f7 f8 f9 f10 f11 f12 f13 f20 f21 f22 f23 f24 f25) s.heap.size) (wM g a f1 f2 f3 f4 f5 f6 f7 f8 f9 (up f10 k bits) (up f11 k 0) z9 f13 f20 f21 f22 f23 f24 f25)) hq103) hD
                  exact lp86 (40 + 1) 0 (by omega) (by omega) ls (lv_sub hl [0, 1, 2, 3, 4] rfl) H locs hP hD hS
              · refine lv_aload_n hx hb dX5_sheet_54 rfl (lv_at hl 0 rfl) ?_
                refine xi_ldc hx hb hown hts kk_X5_50 dX5_sheet_55 ?_
                refine xm_i (rV (rest := []) hx hb hml hown hts hK hl (c_X5_finds l g a f1 f2 f3 f4 f5 f6 f7 f8 f9 f10 f11 f12 f13 f20 f21 f22 f23 f24 f25 (-1000000001) (s.heap).size (show 0 ≤ -1000000001 - (-1000000001) ∧ -1000000001 - (-1000000001) < 7 from by omega)) lk_X5_74 ⟨rfl, hP, hD.weaken (fun _ _ _ _ => trivial)⟩ (va_recv hK.1 hP (ci := 5) (q0 := 0) rfl rfl) rfl rfl rfl (Rm.of rfl) rfl rfl dX5_sheet_57) hD hS hA (fun x9 _ H locs hw hP hD hS => ?_)
                obtain rfl : x9 = iI (-1000000001) := hw
                have hP : va_P g.1 vwCl (wM g a f1 f2 f3 f4 f5 (fb (-1000000000 - (-1000000001)) f6) f7 f8 f9 f10 f11 f12 f13 f20 f21 f22 f23 f24 f25) H := hP
                have hD : va_D (va_A (wM g a f1 f2 f3 f4 f5 f6 f7 f8 f9 f10 f11 f12 f13 f20 f21 f22 f23 f24 f25) s.heap.size) (wM g a f1 f2 f3 f4 f5 (fb (-1000000000 - (-1000000001)) f6) f7 f8 f9 f10 f11 f12 f13 f20 f21 f22 f23 f24 f25) := hD
                have hf : fSht k bits n = 1 := by unfold fSht; (repeat (first | rw [if_pos (by omega)] | rw [if_neg (by omega)])); first | done | (exfalso; omega)
                have he105 : f10 = (if fSht k bits n = 0 then up f10 k bits else f10) := by rw [hf]; rfl
                have hP := Eq.mp (congrArg (fun z9 => va_P g.1 vwCl (wM g a f1 f2 f3 f4 f5 (fb (-1000000000 - (-1000000001)) f6) f7 f8 f9 z9 f11 f12 f13 f20 f21 f22 f23 f24 f25) H) he105) hP
                have hD := Eq.mp (congrArg (fun z9 => va_D (va_A (wM g a f1 f2 f3 f4 f5 f6 f7 f8 f9 f10 f11 f12 f13 f20 f21 f22 f23 f24 f25) s.heap.size) (wM g a f1 f2 f3 f4 f5 (fb (-1000000000 - (-1000000001)) f6) f7 f8 f9 z9 f11 f12 f13 f20 f21 f22 f23 f24 f25)) he105) hD
                have he106 : f11 = (if fSht k bits n = 0 then up f11 k (if bits = 0 then 0 else n) else f11) := by rw [hf]; rfl
                have hP := Eq.mp (congrArg (fun z9 => va_P g.1 vwCl (wM g a f1 f2 f3 f4 f5 (fb (-1000000000 - (-1000000001)) f6) f7 f8 f9 (if fSht k bits n = 0 then up f10 k bits else f10) z9 f12 f13 f20 f21 f22 f23 f24 f25) H) he106) hP
                have hD := Eq.mp (congrArg (fun z9 => va_D (va_A (wM g a f1 f2 f3 f4 f5 f6 f7 f8 f9 f10 f11 f12 f13 f20 f21 f22 f23 f24 f25) s.heap.size) (wM g a f1 f2 f3 f4 f5 (fb (-1000000000 - (-1000000001)) f6) f7 f8 f9 (if fSht k bits n = 0 then up f10 k bits else f10) z9 f12 f13 f20 f21 f22 f23 f24 f25)) he106) hD
                have he107 : f12 = (if fSht k bits n = 0 then zrT f12 (40 * k) 40 else f12) := by rw [hf]; rfl
                have hP := Eq.mp (congrArg (fun z9 => va_P g.1 vwCl (wM g a f1 f2 f3 f4 f5 (fb (-1000000000 - (-1000000001)) f6) f7 f8 f9 (if fSht k bits n = 0 then up f10 k bits else f10) (if fSht k bits n = 0 then up f11 k (if bits = 0 then 0 else n) else f11) z9 f13 f20 f21 f22 f23 f24 f25) H) he107) hP
                have hD := Eq.mp (congrArg (fun z9 => va_D (va_A (wM g a f1 f2 f3 f4 f5 f6 f7 f8 f9 f10 f11 f12 f13 f20 f21 f22 f23 f24 f25) s.heap.size) (wM g a f1 f2 f3 f4 f5 (fb (-1000000000 - (-1000000001)) f6) f7 f8 f9 (if fSht k bits n = 0 then up f10 k bits else f10) (if fSht k bits n = 0 then up f11 k (if bits = 0 then 0 else n) else f11) z9 f13 f20 f21 f22 f23 f24 f25)) he107) hD
                have he108 : (fb (-1000000000 - (-1000000001)) f6) = (fb (fSht k bits n) f6) := by rw [hf]; rfl
                have hP := Eq.mp (congrArg (fun z9 => va_P g.1 vwCl (wM g a f1 f2 f3 f4 f5 z9 f7 f8 f9 (if fSht k bits n = 0 then up f10 k bits else f10) (if fSht k bits n = 0 then up f11 k (if bits = 0 then 0 else n) else f11) (if fSht k bits n = 0 then zrT f12 (40 * k) 40 else f12) f13 f20 f21 f22 f23 f24 f25) H) he108) hP
                have hD := Eq.mp (congrArg (fun z9 => va_D (va_A (wM g a f1 f2 f3 f4 f5 f6 f7 f8 f9 f10 f11 f12 f13 f20 f21 f22 f23 f24 f25) s.heap.size) (wM g a f1 f2 f3 f4 f5 z9 f7 f8 f9 (if fSht k bits n = 0 then up f10 k bits else f10) (if fSht k bits n = 0 then up f11 k (if bits = 0 then 0 else n) else f11) (if fSht k bits n = 0 then zrT f12 (40 * k) 40 else f12) f13 f20 f21 f22 f23 f24 f25)) he108) hD
                have hP : va_P g.1 vwCl (wM g a f1 f2 f3 f4 f5 (fb (fSht k bits n) f6) f7 f8 f9 (if fSht k bits n = 0 then up f10 k bits else f10) (if fSht k bits n = 0 then up f11 k (if bits = 0 then 0 else n) else f11) (if fSht k bits n = 0 then zrT f12 (40 * k) 40 else f12) f13 f20 f21 f22 f23 f24 f25) H := hP
                have hD : va_D (va_A (wM g a f1 f2 f3 f4 f5 f6 f7 f8 f9 f10 f11 f12 f13 f20 f21 f22 f23 f24 f25) s.heap.size) (wM g a f1 f2 f3 f4 f5 (fb (fSht k bits n) f6) f7 f8 f9 (if fSht k bits n = 0 then up f10 k bits else f10) (if fSht k bits n = 0 then up f11 k (if bits = 0 then 0 else n) else f11) (if fSht k bits n = 0 then zrT f12 (40 * k) 40 else f12) f13 f20 f21 f22 f23 f24 f25) := hD
                exact W.iret hx hb hr (fun t ht hW => ⟨⟨_, (), rfl, by rw [hf]; rfl, by rw [ht]; exact hP, hD⟩, hS.F ht⟩) hS.2.2 dX5_sheet_60
            · refine lv_aload_n hx hb dX5_sheet_40 rfl (lv_at hl 0 rfl) ?_
              refine xi_ldcw hx hb hown hts kk_X5_315 dX5_sheet_41 ?_
              refine xm_i (rV (rest := []) hx hb hml hown hts hK hl (c_X5_finds l g a f1 f2 f3 f4 f5 f6 f7 f8 f9 f10 f11 f12 f13 f20 f21 f22 f23 f24 f25 (-1000000007) (s.heap).size (show 0 ≤ -1000000001 - (-1000000007) ∧ -1000000001 - (-1000000007) < 7 from by omega)) lk_X5_74 ⟨rfl, hP, hD.weaken (fun _ _ _ _ => trivial)⟩ (va_recv hK.1 hP (ci := 5) (q0 := 0) rfl rfl) rfl rfl rfl (Rm.of rfl) rfl rfl dX5_sheet_44) hD hS hA (fun x9 _ H locs hw hP hD hS => ?_)
              obtain rfl : x9 = iI (-1000000007) := hw
              have hP : va_P g.1 vwCl (wM g a f1 f2 f3 f4 f5 (fb (-1000000000 - (-1000000007)) f6) f7 f8 f9 f10 f11 f12 f13 f20 f21 f22 f23 f24 f25) H := hP
              have hD : va_D (va_A (wM g a f1 f2 f3 f4 f5 f6 f7 f8 f9 f10 f11 f12 f13 f20 f21 f22 f23 f24 f25) s.heap.size) (wM g a f1 f2 f3 f4 f5 (fb (-1000000000 - (-1000000007)) f6) f7 f8 f9 f10 f11 f12 f13 f20 f21 f22 f23 f24 f25) := hD
              have hf : fSht k bits n = 7 := by unfold fSht; (repeat (first | rw [if_pos (by omega)] | rw [if_neg (by omega)])); first | done | (exfalso; omega)
              have he110 : f10 = (if fSht k bits n = 0 then up f10 k bits else f10) := by rw [hf]; rfl
              have hP := Eq.mp (congrArg (fun z9 => va_P g.1 vwCl (wM g a f1 f2 f3 f4 f5 (fb (-1000000000 - (-1000000007)) f6) f7 f8 f9 z9 f11 f12 f13 f20 f21 f22 f23 f24 f25) H) he110) hP
              have hD := Eq.mp (congrArg (fun z9 => va_D (va_A (wM g a f1 f2 f3 f4 f5 f6 f7 f8 f9 f10 f11 f12 f13 f20 f21 f22 f23 f24 f25) s.heap.size) (wM g a f1 f2 f3 f4 f5 (fb (-1000000000 - (-1000000007)) f6) f7 f8 f9 z9 f11 f12 f13 f20 f21 f22 f23 f24 f25)) he110) hD
              have he111 : f11 = (if fSht k bits n = 0 then up f11 k (if bits = 0 then 0 else n) else f11) := by rw [hf]; rfl
              have hP := Eq.mp (congrArg (fun z9 => va_P g.1 vwCl (wM g a f1 f2 f3 f4 f5 (fb (-1000000000 - (-1000000007)) f6) f7 f8 f9 (if fSht k bits n = 0 then up f10 k bits else f10) z9 f12 f13 f20 f21 f22 f23 f24 f25) H) he111) hP
              have hD := Eq.mp (congrArg (fun z9 => va_D (va_A (wM g a f1 f2 f3 f4 f5 f6 f7 f8 f9 f10 f11 f12 f13 f20 f21 f22 f23 f24 f25) s.heap.size) (wM g a f1 f2 f3 f4 f5 (fb (-1000000000 - (-1000000007)) f6) f7 f8 f9 (if fSht k bits n = 0 then up f10 k bits else f10) z9 f12 f13 f20 f21 f22 f23 f24 f25)) he111) hD
              have he112 : f12 = (if fSht k bits n = 0 then zrT f12 (40 * k) 40 else f12) := by rw [hf]; rfl
              have hP := Eq.mp (congrArg (fun z9 => va_P g.1 vwCl (wM g a f1 f2 f3 f4 f5 (fb (-1000000000 - (-1000000007)) f6) f7 f8 f9 (if fSht k bits n = 0 then up f10 k bits else f10) (if fSht k bits n = 0 then up f11 k (if bits = 0 then 0 else n) else f11) z9 f13 f20 f21 f22 f23 f24 f25) H) he112) hP
              have hD := Eq.mp (congrArg (fun z9 => va_D (va_A (wM g a f1 f2 f3 f4 f5 f6 f7 f8 f9 f10 f11 f12 f13 f20 f21 f22 f23 f24 f25) s.heap.size) (wM g a f1 f2 f3 f4 f5 (fb (-1000000000 - (-1000000007)) f6) f7 f8 f9 (if fSht k bits n = 0 then up f10 k bits else f10) (if fSht k bits n = 0 then up f11 k (if bits = 0 then 0 else n) else f11) z9 f13 f20 f21 f22 f23 f24 f25)) he112) hD
              have he113 : (fb (-1000000000 - (-1000000007)) f6) = (fb (fSht k bits n) f6) := by rw [hf]; rfl
              have hP := Eq.mp (congrArg (fun z9 => va_P g.1 vwCl (wM g a f1 f2 f3 f4 f5 z9 f7 f8 f9 (if fSht k bits n = 0 then up f10 k bits else f10) (if fSht k bits n = 0 then up f11 k (if bits = 0 then 0 else n) else f11) (if fSht k bits n = 0 then zrT f12 (40 * k) 40 else f12) f13 f20 f21 f22 f23 f24 f25) H) he113) hP
              have hD := Eq.mp (congrArg (fun z9 => va_D (va_A (wM g a f1 f2 f3 f4 f5 f6 f7 f8 f9 f10 f11 f12 f13 f20 f21 f22 f23 f24 f25) s.heap.size) (wM g a f1 f2 f3 f4 f5 z9 f7 f8 f9 (if fSht k bits n = 0 then up f10 k bits else f10) (if fSht k bits n = 0 then up f11 k (if bits = 0 then 0 else n) else f11) (if fSht k bits n = 0 then zrT f12 (40 * k) 40 else f12) f13 f20 f21 f22 f23 f24 f25)) he113) hD
              have hP : va_P g.1 vwCl (wM g a f1 f2 f3 f4 f5 (fb (fSht k bits n) f6) f7 f8 f9 (if fSht k bits n = 0 then up f10 k bits else f10) (if fSht k bits n = 0 then up f11 k (if bits = 0 then 0 else n) else f11) (if fSht k bits n = 0 then zrT f12 (40 * k) 40 else f12) f13 f20 f21 f22 f23 f24 f25) H := hP
              have hD : va_D (va_A (wM g a f1 f2 f3 f4 f5 f6 f7 f8 f9 f10 f11 f12 f13 f20 f21 f22 f23 f24 f25) s.heap.size) (wM g a f1 f2 f3 f4 f5 (fb (fSht k bits n) f6) f7 f8 f9 (if fSht k bits n = 0 then up f10 k bits else f10) (if fSht k bits n = 0 then up f11 k (if bits = 0 then 0 else n) else f11) (if fSht k bits n = 0 then zrT f12 (40 * k) 40 else f12) f13 f20 f21 f22 f23 f24 f25) := hD
              exact W.iret hx hb hr (fun t ht hW => ⟨⟨_, (), rfl, by rw [hf]; rfl, by rw [ht]; exact hP, hD⟩, hS.F ht⟩) hS.2.2 dX5_sheet_47
          · refine lv_aload_n hx hb dX5_sheet_29 rfl (lv_at hl 0 rfl) ?_
            refine xi_ldc hx hb hown hts kk_X5_50 dX5_sheet_30 ?_
            refine xm_i (rV (rest := []) hx hb hml hown hts hK hl (c_X5_finds l g a f1 f2 f3 f4 f5 f6 f7 f8 f9 f10 f11 f12 f13 f20 f21 f22 f23 f24 f25 (-1000000001) (s.heap).size (show 0 ≤ -1000000001 - (-1000000001) ∧ -1000000001 - (-1000000001) < 7 from by omega)) lk_X5_74 ⟨rfl, hP, hD.weaken (fun _ _ _ _ => trivial)⟩ (va_recv hK.1 hP (ci := 5) (q0 := 0) rfl rfl) rfl rfl rfl (Rm.of rfl) rfl rfl dX5_sheet_32) hD hS hA (fun x9 _ H locs hw hP hD hS => ?_)
            obtain rfl : x9 = iI (-1000000001) := hw
            have hP : va_P g.1 vwCl (wM g a f1 f2 f3 f4 f5 (fb (-1000000000 - (-1000000001)) f6) f7 f8 f9 f10 f11 f12 f13 f20 f21 f22 f23 f24 f25) H := hP
            have hD : va_D (va_A (wM g a f1 f2 f3 f4 f5 f6 f7 f8 f9 f10 f11 f12 f13 f20 f21 f22 f23 f24 f25) s.heap.size) (wM g a f1 f2 f3 f4 f5 (fb (-1000000000 - (-1000000001)) f6) f7 f8 f9 f10 f11 f12 f13 f20 f21 f22 f23 f24 f25) := hD
            have hf : fSht k bits n = 1 := by unfold fSht; (repeat (first | rw [if_pos (by omega)] | rw [if_neg (by omega)])); first | done | (exfalso; omega)
            have he115 : f10 = (if fSht k bits n = 0 then up f10 k bits else f10) := by rw [hf]; rfl
            have hP := Eq.mp (congrArg (fun z9 => va_P g.1 vwCl (wM g a f1 f2 f3 f4 f5 (fb (-1000000000 - (-1000000001)) f6) f7 f8 f9 z9 f11 f12 f13 f20 f21 f22 f23 f24 f25) H) he115) hP
            have hD := Eq.mp (congrArg (fun z9 => va_D (va_A (wM g a f1 f2 f3 f4 f5 f6 f7 f8 f9 f10 f11 f12 f13 f20 f21 f22 f23 f24 f25) s.heap.size) (wM g a f1 f2 f3 f4 f5 (fb (-1000000000 - (-1000000001)) f6) f7 f8 f9 z9 f11 f12 f13 f20 f21 f22 f23 f24 f25)) he115) hD
            have he116 : f11 = (if fSht k bits n = 0 then up f11 k (if bits = 0 then 0 else n) else f11) := by rw [hf]; rfl
            have hP := Eq.mp (congrArg (fun z9 => va_P g.1 vwCl (wM g a f1 f2 f3 f4 f5 (fb (-1000000000 - (-1000000001)) f6) f7 f8 f9 (if fSht k bits n = 0 then up f10 k bits else f10) z9 f12 f13 f20 f21 f22 f23 f24 f25) H) he116) hP
            have hD := Eq.mp (congrArg (fun z9 => va_D (va_A (wM g a f1 f2 f3 f4 f5 f6 f7 f8 f9 f10 f11 f12 f13 f20 f21 f22 f23 f24 f25) s.heap.size) (wM g a f1 f2 f3 f4 f5 (fb (-1000000000 - (-1000000001)) f6) f7 f8 f9 (if fSht k bits n = 0 then up f10 k bits else f10) z9 f12 f13 f20 f21 f22 f23 f24 f25)) he116) hD
            have he117 : f12 = (if fSht k bits n = 0 then zrT f12 (40 * k) 40 else f12) := by rw [hf]; rfl
            have hP := Eq.mp (congrArg (fun z9 => va_P g.1 vwCl (wM g a f1 f2 f3 f4 f5 (fb (-1000000000 - (-1000000001)) f6) f7 f8 f9 (if fSht k bits n = 0 then up f10 k bits else f10) (if fSht k bits n = 0 then up f11 k (if bits = 0 then 0 else n) else f11) z9 f13 f20 f21 f22 f23 f24 f25) H) he117) hP
            have hD := Eq.mp (congrArg (fun z9 => va_D (va_A (wM g a f1 f2 f3 f4 f5 f6 f7 f8 f9 f10 f11 f12 f13 f20 f21 f22 f23 f24 f25) s.heap.size) (wM g a f1 f2 f3 f4 f5 (fb (-1000000000 - (-1000000001)) f6) f7 f8 f9 (if fSht k bits n = 0 then up f10 k bits else f10) (if fSht k bits n = 0 then up f11 k (if bits = 0 then 0 else n) else f11) z9 f13 f20 f21 f22 f23 f24 f25)) he117) hD
            have he118 : (fb (-1000000000 - (-1000000001)) f6) = (fb (fSht k bits n) f6) := by rw [hf]; rfl
            have hP := Eq.mp (congrArg (fun z9 => va_P g.1 vwCl (wM g a f1 f2 f3 f4 f5 z9 f7 f8 f9 (if fSht k bits n = 0 then up f10 k bits else f10) (if fSht k bits n = 0 then up f11 k (if bits = 0 then 0 else n) else f11) (if fSht k bits n = 0 then zrT f12 (40 * k) 40 else f12) f13 f20 f21 f22 f23 f24 f25) H) he118) hP
            have hD := Eq.mp (congrArg (fun z9 => va_D (va_A (wM g a f1 f2 f3 f4 f5 f6 f7 f8 f9 f10 f11 f12 f13 f20 f21 f22 f23 f24 f25) s.heap.size) (wM g a f1 f2 f3 f4 f5 z9 f7 f8 f9 (if fSht k bits n = 0 then up f10 k bits else f10) (if fSht k bits n = 0 then up f11 k (if bits = 0 then 0 else n) else f11) (if fSht k bits n = 0 then zrT f12 (40 * k) 40 else f12) f13 f20 f21 f22 f23 f24 f25)) he118) hD
            have hP : va_P g.1 vwCl (wM g a f1 f2 f3 f4 f5 (fb (fSht k bits n) f6) f7 f8 f9 (if fSht k bits n = 0 then up f10 k bits else f10) (if fSht k bits n = 0 then up f11 k (if bits = 0 then 0 else n) else f11) (if fSht k bits n = 0 then zrT f12 (40 * k) 40 else f12) f13 f20 f21 f22 f23 f24 f25) H := hP
            have hD : va_D (va_A (wM g a f1 f2 f3 f4 f5 f6 f7 f8 f9 f10 f11 f12 f13 f20 f21 f22 f23 f24 f25) s.heap.size) (wM g a f1 f2 f3 f4 f5 (fb (fSht k bits n) f6) f7 f8 f9 (if fSht k bits n = 0 then up f10 k bits else f10) (if fSht k bits n = 0 then up f11 k (if bits = 0 then 0 else n) else f11) (if fSht k bits n = 0 then zrT f12 (40 * k) 40 else f12) f13 f20 f21 f22 f23 f24 f25) := hD
            exact W.iret hx hb hr (fun t ht hW => ⟨⟨_, (), rfl, by rw [hf]; rfl, by rw [ht]; exact hP, hD⟩, hS.F ht⟩) hS.2.2 dX5_sheet_35
  · refine xi_zt_eq (tgt := 29) hx hb ⟨by decide, by decide⟩ (by decide) dX5_sheet_4 (by decide) ?_
    refine lv_aload_n hx hb dX5_sheet_29 rfl (lv_at hl 0 rfl) ?_
    refine xi_ldc hx hb hown hts kk_X5_50 dX5_sheet_30 ?_
    refine xm_i (rV (rest := []) hx hb hml hown hts hK hl (c_X5_finds l g a f1 f2 f3 f4 f5 f6 f7 f8 f9 f10 f11 f12 f13 f20 f21 f22 f23 f24 f25 (-1000000001) (s.heap).size (show 0 ≤ -1000000001 - (-1000000001) ∧ -1000000001 - (-1000000001) < 7 from by omega)) lk_X5_74 ⟨rfl, hP, hD.weaken (fun _ _ _ _ => trivial)⟩ (va_recv hK.1 hP (ci := 5) (q0 := 0) rfl rfl) rfl rfl rfl (Rm.of rfl) rfl rfl dX5_sheet_32) hD hS hA (fun x9 _ H locs hw hP hD hS => ?_)
    obtain rfl : x9 = iI (-1000000001) := hw
    have hP : va_P g.1 vwCl (wM g a f1 f2 f3 f4 f5 (fb (-1000000000 - (-1000000001)) f6) f7 f8 f9 f10 f11 f12 f13 f20 f21 f22 f23 f24 f25) H := hP
    have hD : va_D (va_A (wM g a f1 f2 f3 f4 f5 f6 f7 f8 f9 f10 f11 f12 f13 f20 f21 f22 f23 f24 f25) s.heap.size) (wM g a f1 f2 f3 f4 f5 (fb (-1000000000 - (-1000000001)) f6) f7 f8 f9 f10 f11 f12 f13 f20 f21 f22 f23 f24 f25) := hD
    have hf : fSht k bits n = 1 := by unfold fSht; (repeat (first | rw [if_pos (by omega)] | rw [if_neg (by omega)])); first | done | (exfalso; omega)
    have he120 : f10 = (if fSht k bits n = 0 then up f10 k bits else f10) := by rw [hf]; rfl
    have hP := Eq.mp (congrArg (fun z9 => va_P g.1 vwCl (wM g a f1 f2 f3 f4 f5 (fb (-1000000000 - (-1000000001)) f6) f7 f8 f9 z9 f11 f12 f13 f20 f21 f22 f23 f24 f25) H) he120) hP
    have hD := Eq.mp (congrArg (fun z9 => va_D (va_A (wM g a f1 f2 f3 f4 f5 f6 f7 f8 f9 f10 f11 f12 f13 f20 f21 f22 f23 f24 f25) s.heap.size) (wM g a f1 f2 f3 f4 f5 (fb (-1000000000 - (-1000000001)) f6) f7 f8 f9 z9 f11 f12 f13 f20 f21 f22 f23 f24 f25)) he120) hD
    have he121 : f11 = (if fSht k bits n = 0 then up f11 k (if bits = 0 then 0 else n) else f11) := by rw [hf]; rfl
    have hP := Eq.mp (congrArg (fun z9 => va_P g.1 vwCl (wM g a f1 f2 f3 f4 f5 (fb (-1000000000 - (-1000000001)) f6) f7 f8 f9 (if fSht k bits n = 0 then up f10 k bits else f10) z9 f12 f13 f20 f21 f22 f23 f24 f25) H) he121) hP
    have hD := Eq.mp (congrArg (fun z9 => va_D (va_A (wM g a f1 f2 f3 f4 f5 f6 f7 f8 f9 f10 f11 f12 f13 f20 f21 f22 f23 f24 f25) s.heap.size) (wM g a f1 f2 f3 f4 f5 (fb (-1000000000 - (-1000000001)) f6) f7 f8 f9 (if fSht k bits n = 0 then up f10 k bits else f10) z9 f12 f13 f20 f21 f22 f23 f24 f25)) he121) hD
    have he122 : f12 = (if fSht k bits n = 0 then zrT f12 (40 * k) 40 else f12) := by rw [hf]; rfl
    have hP := Eq.mp (congrArg (fun z9 => va_P g.1 vwCl (wM g a f1 f2 f3 f4 f5 (fb (-1000000000 - (-1000000001)) f6) f7 f8 f9 (if fSht k bits n = 0 then up f10 k bits else f10) (if fSht k bits n = 0 then up f11 k (if bits = 0 then 0 else n) else f11) z9 f13 f20 f21 f22 f23 f24 f25) H) he122) hP
    have hD := Eq.mp (congrArg (fun z9 => va_D (va_A (wM g a f1 f2 f3 f4 f5 f6 f7 f8 f9 f10 f11 f12 f13 f20 f21 f22 f23 f24 f25) s.heap.size) (wM g a f1 f2 f3 f4 f5 (fb (-1000000000 - (-1000000001)) f6) f7 f8 f9 (if fSht k bits n = 0 then up f10 k bits else f10) (if fSht k bits n = 0 then up f11 k (if bits = 0 then 0 else n) else f11) z9 f13 f20 f21 f22 f23 f24 f25)) he122) hD
    have he123 : (fb (-1000000000 - (-1000000001)) f6) = (fb (fSht k bits n) f6) := by rw [hf]; rfl
    have hP := Eq.mp (congrArg (fun z9 => va_P g.1 vwCl (wM g a f1 f2 f3 f4 f5 z9 f7 f8 f9 (if fSht k bits n = 0 then up f10 k bits else f10) (if fSht k bits n = 0 then up f11 k (if bits = 0 then 0 else n) else f11) (if fSht k bits n = 0 then zrT f12 (40 * k) 40 else f12) f13 f20 f21 f22 f23 f24 f25) H) he123) hP
    have hD := Eq.mp (congrArg (fun z9 => va_D (va_A (wM g a f1 f2 f3 f4 f5 f6 f7 f8 f9 f10 f11 f12 f13 f20 f21 f22 f23 f24 f25) s.heap.size) (wM g a f1 f2 f3 f4 f5 z9 f7 f8 f9 (if fSht k bits n = 0 then up f10 k bits else f10) (if fSht k bits n = 0 then up f11 k (if bits = 0 then 0 else n) else f11) (if fSht k bits n = 0 then zrT f12 (40 * k) 40 else f12) f13 f20 f21 f22 f23 f24 f25)) he123) hD
    have hP : va_P g.1 vwCl (wM g a f1 f2 f3 f4 f5 (fb (fSht k bits n) f6) f7 f8 f9 (if fSht k bits n = 0 then up f10 k bits else f10) (if fSht k bits n = 0 then up f11 k (if bits = 0 then 0 else n) else f11) (if fSht k bits n = 0 then zrT f12 (40 * k) 40 else f12) f13 f20 f21 f22 f23 f24 f25) H := hP
    have hD : va_D (va_A (wM g a f1 f2 f3 f4 f5 f6 f7 f8 f9 f10 f11 f12 f13 f20 f21 f22 f23 f24 f25) s.heap.size) (wM g a f1 f2 f3 f4 f5 (fb (fSht k bits n) f6) f7 f8 f9 (if fSht k bits n = 0 then up f10 k bits else f10) (if fSht k bits n = 0 then up f11 k (if bits = 0 then 0 else n) else f11) (if fSht k bits n = 0 then zrT f12 (40 * k) 40 else f12) f13 f20 f21 f22 f23 f24 f25) := hD
    exact W.iret hx hb hr (fun t ht hW => ⟨⟨_, (), rfl, by rw [hf]; rfl, by rw [ht]; exact hP, hD⟩, hS.F ht⟩) hS.2.2 dX5_sheet_35
abbrev rm_X5_write : Room := { frames := 3, cells := 0, slots := 0, locals := 66 }
set_option maxRecDepth 100000 in
set_option maxHeartbeats 4000000 in
theorem c_X5_write (l : Launch) (g : Gd) (a : Nat → Nat) (f1 : Int → Int) (f2 : Int → Int) (f3 : Int → Int) (f4 : Int → Int) (f5 : Int → Int) (f6 : Int → Int) (f7 : Int → Int) (f8 : Int → Int) (f9 : Int → Int) (f10 : Int → Int) (f11 : Int → Int) (f12 : Int → Int) (f13 : Int → Int) (f20 : Int) (f21 : Int) (f22 : Int) (f23 : Int) (f24 : Int) (f25 : Int) (k : Int) (i : Int) (v : Int) (sz : Nat) (h1 : InvK 0 f1) (h2 : f1 0 ≤ 9999) (h3 : IR k) (h4 : IR i) (h5 : LR v) (h6 : InvS f10 f11) : Met l yX5_write (wsOf yX5_write cX5_write 8 (some .long)) rm_X5_write (PX g (wP g (wM g a f1 f2 f3 f4 f5 f6 f7 f8 f9 f10 f11 f12 f13 f20 f21 f22 f23 f24 f25) sz) [.ref (a 0), .int (iI k), .int (iI i), .long (lI v)]) (QMl g (fun _ : Unit => wM g a f1 f2 f3 f4 f5 (fb (fWrt f10 f11 k i) f6) f7 f8 f9 f10 f11 (if fWrt f10 f11 k i = 0 then up f12 (40 * k + i) (nrw (f10 k) v) else f12) f13 f20 f21 f22 f23 f24 f25) (fun r9 _ => r9 = lI (abL (fWrt f10 f11 k i) (f12 (40 * k + i)))) (va_A (wM g a f1 f2 f3 f4 f5 f6 f7 f8 f9 f10 f11 f12 f13 f20 f21 f22 f23 f24 f25) sz)) 0 0 (va_A (wM g a f1 f2 f3 f4 f5 f6 f7 f8 f9 f10 f11 f12 f13 f20 f21 f22 f23 f24 f25) sz) := by
  refine me (g := g) (by decide) rfl ?_
  intro pq eq s mq below meth cq C hnm hB ls hl
  obtain ⟨hx, hb, hr, hml, hown, hts, hlocks, hK⟩ := C
  have hown : s.vm.findClass RX5 = some mq.cls := hown
  have hl : lv_has ls 8 [(0, .ref (a 0)), (1, .int (iI k)), (2, .int (iI i)), (3, .long (lI v))] := hl
  obtain ⟨hsz, hP, hD0⟩ := hB
  subst hsz
  have hD := hD0.self (sz := s.heap.size)
  have hA : ∀ q : Nat, s.heap.size ≤ q → va_A (wM g a f1 f2 f3 f4 f5 f6 f7 f8 f9 f10 f11 f12 f13 f20 f21 f22 f23 f24 f25) s.heap.size q := fun q h => Or.inr h
  have hS : va_S (va_A (wM g a f1 f2 f3 f4 f5 f6 f7 f8 f9 f10 f11 f12 f13 f20 f21 f22 f23 f24 f25) s.heap.size) s.heap s.heap [] := va_S.rf
  have hI := h1
  have hI8 : Inv f1 := h1.mono (by omega)
  have hn := hI.num
  have hs := hI.sea
  have hv := hI.vil
  have q1 := h3.1
  have q3 := h4.1
  have q5 := h5.1
  have q2 := h3.2
  have q4 := h4.2
  have q6 := h5.2
  have hS9 := h6 k
  refine lv_aload_n hx hb dX5_write_0 rfl (lv_at hl 0 rfl) ?_
  refine lv_iload_n hx hb dX5_write_1 rfl (lv_at hl 1 rfl) ?_
  refine xu_i (x := iI (abL (fWro f10 k) 0)) (rV (rest := []) hx hb hml hown hts hK hl (c_X5_wrong l g a f1 f2 f3 f4 f5 f6 f7 f8 f9 f10 f11 f12 f13 f20 f21 f22 f23 f24 f25 k (show IR k from ⟨by omega, by omega⟩) (show InvS f10 f11 from h6)) lk_X5_317 hP (va_recv hK.1 hP (ci := 5) (q0 := 0) rfl rfl) rfl rfl rfl (Rm.of rfl) rfl rfl dX5_write_2) ?_
  rcases (show (((0 ≤ k ∧ k ≤ 3) ∧ ¬ f10 k = 0) ∧ abL (fWro f10 k) 0 = 0) ∨ ((¬ (0 ≤ k ∧ k ≤ 3)) ∧ abL (fWro f10 k) 0 = -1000000001) ∨ (((0 ≤ k ∧ k ≤ 3) ∧ f10 k = 0) ∧ abL (fWro f10 k) 0 = -1000000006) from wroC f10 k) with ⟨z1, e1⟩ | ⟨z1, e1⟩ | ⟨z1, e1⟩
  · rw [e1]
    refine lv_istore (lv' := [(5, .int (iI 0)), (0, .ref (a 0)), (1, .int (iI k)), (2, .int (iI i)), (3, .long (lI v))]) hx hb dX5_write_5 hl (by decide) rfl (fun ls hl => ?_)
    refine lv_iload hx hb dX5_write_7 (lv_at hl 0 rfl) ?_
    refine xi_zt_eq (tgt := 20) hx hb ⟨by decide, by decide⟩ (by decide) dX5_write_9 (by decide) ?_
    refine lv_iload_n hx hb dX5_write_20 rfl (lv_at hl 3 rfl) ?_
    refine xi_i2l hx hb ⟨by omega, by omega⟩ dX5_write_21 ?_
    refine lv_lconst (v := lI (0)) hx hb dX5_write_22 (by decide) ?_
    refine lv_aload_n hx hb dX5_write_23 rfl (lv_at hl 1 rfl) ?_
    refine xg_X5 hx hb hts hown hK hP 0 rfl 16 (by decide) fk_X5_40 (v := .ref (a 11)) rfl dX5_write_24 ?_
    refine lv_iload_n hx hb dX5_write_27 rfl (lv_at hl 2 rfl) ?_
    refine xi_ald hx hb hK hP 11 (f := f11) rfl (i := k) ⟨by omega, by omega⟩ rfl dX5_write_28 ?_
    refine lv_iconst (v := iI (1)) hx hb dX5_write_29 (by decide) ?_
    refine xi_sub hx hb dX5_write_30 ?_
    refine xi_i2l hx hb ⟨by have := (hS9 (by omega) (by omega)); omega, by have := (hS9 (by omega) (by omega)); omega⟩ dX5_write_31 ?_
    refine xu_b (P := 0 ≤ i ∧ i ≤ (f11 k - 1)) (rS (rest := []) hx hb hml hown hts hK hl (c_X5_in l g i 0 (f11 k - 1) (show LR i from ⟨by omega, by omega⟩) (show LR 0 from ⟨by omega, by omega⟩) (show LR (f11 k - 1) from ⟨by have := (hS9 (by omega) (by omega)); omega, by have := (hS9 (by omega) (by omega)); omega⟩)) lk_X5_53 trivial rfl rfl rfl (Rm.of rfl) rfl rfl dX5_write_32) (fun z2 => ?_) (fun z2 => ?_)
    · refine xi_zt_ne (tgt := 46) hx hb ⟨by decide, by decide⟩ (by decide) dX5_write_35 (by decide) ?_
      refine lv_aload_n hx hb dX5_write_46 rfl (lv_at hl 1 rfl) ?_
      refine xg_X5 hx hb hts hown hK hP 0 rfl 17 (by decide) fk_X5_43 (v := .ref (a 12)) rfl dX5_write_47 ?_
      refine lv_bipush (v := iI (40)) hx hb dX5_write_50 (by decide) ?_
      refine lv_iload_n hx hb dX5_write_52 rfl (lv_at hl 2 rfl) ?_
      refine xi_mul hx hb dX5_write_53 ?_
      refine lv_iload_n hx hb dX5_write_54 rfl (lv_at hl 3 rfl) ?_
      refine xi_add hx hb dX5_write_55 ?_
      refine xl_ald hx hb hK hP 12 (f := f12) rfl (i := 40 * k + i) ⟨by have := (hS9 (by omega) (by omega)); omega, by have := (hS9 (by omega) (by omega)); omega⟩ rfl dX5_write_56 ?_
      refine lv_lstore (lv' := [(6, .long (lI (f12 (40 * k + i)))), (5, .int (iI 0)), (0, .ref (a 0)), (1, .int (iI k)), (2, .int (iI i)), (3, .long (lI v))]) hx hb dX5_write_57 hl (by decide) rfl (fun ls hl => ?_)
      refine lv_aload_n hx hb dX5_write_59 rfl (lv_at hl 2 rfl) ?_
      refine xg_X5 hx hb hts hown hK hP 0 rfl 17 (by decide) fk_X5_43 (v := .ref (a 12)) rfl dX5_write_60 ?_
      refine lv_bipush (v := iI (40)) hx hb dX5_write_63 (by decide) ?_
      refine lv_iload_n hx hb dX5_write_65 rfl (lv_at hl 3 rfl) ?_
      refine xi_mul hx hb dX5_write_66 ?_
      refine lv_iload_n hx hb dX5_write_67 rfl (lv_at hl 4 rfl) ?_
      refine xi_add hx hb dX5_write_68 ?_
      refine lv_aload_n hx hb dX5_write_69 rfl (lv_at hl 2 rfl) ?_
      refine xg_X5 hx hb hts hown hK hP 0 rfl 15 (by decide) fk_X5_37 (v := .ref (a 10)) rfl dX5_write_70 ?_
      refine lv_iload_n hx hb dX5_write_73 rfl (lv_at hl 3 rfl) ?_
      refine xi_ald hx hb hK hP 10 (f := f10) rfl (i := k) ⟨by omega, by omega⟩ rfl dX5_write_74 ?_
      refine lv_lload_n hx hb dX5_write_75 rfl (lv_at hl 5 rfl) ?_
      refine xu_l (x := lI (nrw (f10 k) v)) (rS (rest := [.int (iI (40 * k + i)), .ref (a 12)]) hx hb hml hown hts hK hl (c_X5_narrowed l g (f10 k) v (show IR (f10 k) from ⟨by have := (hS9 (by omega) (by omega)); omega, by have := (hS9 (by omega) (by omega)); omega⟩)) lk_X5_320 trivial rfl rfl rfl (Rm.of rfl) rfl rfl dX5_write_76) ?_
      refine xl_ast hx hb hK hP hD hS 12 (f := f12) rfl (i := 40 * k + i) (v := nrw (f10 k) v) ⟨by have := (hS9 (by omega) (by omega)); omega, by have := (hS9 (by omega) (by omega)); omega⟩ rfl dX5_write_79 (fun H locs hP hD hS => ?_)
      have hP : va_P g.1 vwCl (wM g a f1 f2 f3 f4 f5 f6 f7 f8 f9 f10 f11 (up f12 (40 * k + i) (nrw (f10 k) v)) f13 f20 f21 f22 f23 f24 f25) H := hP
      have hD : va_D (va_A (wM g a f1 f2 f3 f4 f5 f6 f7 f8 f9 f10 f11 f12 f13 f20 f21 f22 f23 f24 f25) s.heap.size) (wM g a f1 f2 f3 f4 f5 f6 f7 f8 f9 f10 f11 (up f12 (40 * k + i) (nrw (f10 k) v)) f13 f20 f21 f22 f23 f24 f25) := hD
      refine lv_lload hx hb dX5_write_80 (lv_at hl 0 rfl) ?_
      have hf : fWrt f10 f11 k i = 0 := by unfold fWrt fWro; (repeat (first | rw [if_pos (by omega)] | rw [if_neg (by omega)])); first | done | (exfalso; omega)
      have he4 : (up f12 (40 * k + i) (nrw (f10 k) v)) = (if fWrt f10 f11 k i = 0 then up f12 (40 * k + i) (nrw (f10 k) v) else f12) := by rw [hf]; rfl
      have hP := Eq.mp (congrArg (fun z9 => va_P g.1 vwCl (wM g a f1 f2 f3 f4 f5 f6 f7 f8 f9 f10 f11 z9 f13 f20 f21 f22 f23 f24 f25) H) he4) hP
      have hD := Eq.mp (congrArg (fun z9 => va_D (va_A (wM g a f1 f2 f3 f4 f5 f6 f7 f8 f9 f10 f11 f12 f13 f20 f21 f22 f23 f24 f25) s.heap.size) (wM g a f1 f2 f3 f4 f5 f6 f7 f8 f9 f10 f11 z9 f13 f20 f21 f22 f23 f24 f25)) he4) hD
      have he5 : f6 = (fb (fWrt f10 f11 k i) f6) := by rw [hf]; rfl
      have hP := Eq.mp (congrArg (fun z9 => va_P g.1 vwCl (wM g a f1 f2 f3 f4 f5 z9 f7 f8 f9 f10 f11 (if fWrt f10 f11 k i = 0 then up f12 (40 * k + i) (nrw (f10 k) v) else f12) f13 f20 f21 f22 f23 f24 f25) H) he5) hP
      have hD := Eq.mp (congrArg (fun z9 => va_D (va_A (wM g a f1 f2 f3 f4 f5 f6 f7 f8 f9 f10 f11 f12 f13 f20 f21 f22 f23 f24 f25) s.heap.size) (wM g a f1 f2 f3 f4 f5 z9 f7 f8 f9 f10 f11 (if fWrt f10 f11 k i = 0 then up f12 (40 * k + i) (nrw (f10 k) v) else f12) f13 f20 f21 f22 f23 f24 f25)) he5) hD
      have hP : va_P g.1 vwCl (wM g a f1 f2 f3 f4 f5 (fb (fWrt f10 f11 k i) f6) f7 f8 f9 f10 f11 (if fWrt f10 f11 k i = 0 then up f12 (40 * k + i) (nrw (f10 k) v) else f12) f13 f20 f21 f22 f23 f24 f25) H := hP
      have hD : va_D (va_A (wM g a f1 f2 f3 f4 f5 f6 f7 f8 f9 f10 f11 f12 f13 f20 f21 f22 f23 f24 f25) s.heap.size) (wM g a f1 f2 f3 f4 f5 (fb (fWrt f10 f11 k i) f6) f7 f8 f9 f10 f11 (if fWrt f10 f11 k i = 0 then up f12 (40 * k + i) (nrw (f10 k) v) else f12) f13 f20 f21 f22 f23 f24 f25) := hD
      exact W.lret hx hb hr (fun t ht hW => ⟨⟨_, (), rfl, by rw [hf, abL_0], by rw [ht]; exact hP, hD⟩, hS.F ht⟩) hS.2.2 dX5_write_82
    · refine xi_zf_ne hx hb ⟨by decide, by decide⟩ (by decide) dX5_write_35 ⟨46, by decide⟩ ?_
      refine lv_aload_n hx hb dX5_write_38 rfl (lv_at hl 1 rfl) ?_
      refine xi_ldc hx hb hown hts kk_X5_50 dX5_write_39 ?_
      refine xm_i (rV (rest := []) hx hb hml hown hts hK hl (c_X5_finds l g a f1 f2 f3 f4 f5 f6 f7 f8 f9 f10 f11 f12 f13 f20 f21 f22 f23 f24 f25 (-1000000001) (s.heap).size (show 0 ≤ -1000000001 - (-1000000001) ∧ -1000000001 - (-1000000001) < 7 from by omega)) lk_X5_74 ⟨rfl, hP, hD.weaken (fun _ _ _ _ => trivial)⟩ (va_recv hK.1 hP (ci := 5) (q0 := 0) rfl rfl) rfl rfl rfl (Rm.of rfl) rfl rfl dX5_write_41) hD hS hA (fun x9 _ H locs hw hP hD hS => ?_)
      obtain rfl : x9 = iI (-1000000001) := hw
      have hP : va_P g.1 vwCl (wM g a f1 f2 f3 f4 f5 (fb (-1000000000 - (-1000000001)) f6) f7 f8 f9 f10 f11 f12 f13 f20 f21 f22 f23 f24 f25) H := hP
      have hD : va_D (va_A (wM g a f1 f2 f3 f4 f5 f6 f7 f8 f9 f10 f11 f12 f13 f20 f21 f22 f23 f24 f25) s.heap.size) (wM g a f1 f2 f3 f4 f5 (fb (-1000000000 - (-1000000001)) f6) f7 f8 f9 f10 f11 f12 f13 f20 f21 f22 f23 f24 f25) := hD
      refine xi_i2l hx hb ⟨by decide, by decide⟩ dX5_write_44 ?_
      have hf : fWrt f10 f11 k i = 1 := by unfold fWrt fWro; (repeat (first | rw [if_pos (by omega)] | rw [if_neg (by omega)])); first | done | (exfalso; omega)
      have he7 : f12 = (if fWrt f10 f11 k i = 0 then up f12 (40 * k + i) (nrw (f10 k) v) else f12) := by rw [hf]; rfl
      have hP := Eq.mp (congrArg (fun z9 => va_P g.1 vwCl (wM g a f1 f2 f3 f4 f5 (fb (-1000000000 - (-1000000001)) f6) f7 f8 f9 f10 f11 z9 f13 f20 f21 f22 f23 f24 f25) H) he7) hP
      have hD := Eq.mp (congrArg (fun z9 => va_D (va_A (wM g a f1 f2 f3 f4 f5 f6 f7 f8 f9 f10 f11 f12 f13 f20 f21 f22 f23 f24 f25) s.heap.size) (wM g a f1 f2 f3 f4 f5 (fb (-1000000000 - (-1000000001)) f6) f7 f8 f9 f10 f11 z9 f13 f20 f21 f22 f23 f24 f25)) he7) hD
      have he8 : (fb (-1000000000 - (-1000000001)) f6) = (fb (fWrt f10 f11 k i) f6) := by rw [hf]; rfl
      have hP := Eq.mp (congrArg (fun z9 => va_P g.1 vwCl (wM g a f1 f2 f3 f4 f5 z9 f7 f8 f9 f10 f11 (if fWrt f10 f11 k i = 0 then up f12 (40 * k + i) (nrw (f10 k) v) else f12) f13 f20 f21 f22 f23 f24 f25) H) he8) hP
      have hD := Eq.mp (congrArg (fun z9 => va_D (va_A (wM g a f1 f2 f3 f4 f5 f6 f7 f8 f9 f10 f11 f12 f13 f20 f21 f22 f23 f24 f25) s.heap.size) (wM g a f1 f2 f3 f4 f5 z9 f7 f8 f9 f10 f11 (if fWrt f10 f11 k i = 0 then up f12 (40 * k + i) (nrw (f10 k) v) else f12) f13 f20 f21 f22 f23 f24 f25)) he8) hD
      have hP : va_P g.1 vwCl (wM g a f1 f2 f3 f4 f5 (fb (fWrt f10 f11 k i) f6) f7 f8 f9 f10 f11 (if fWrt f10 f11 k i = 0 then up f12 (40 * k + i) (nrw (f10 k) v) else f12) f13 f20 f21 f22 f23 f24 f25) H := hP
      have hD : va_D (va_A (wM g a f1 f2 f3 f4 f5 f6 f7 f8 f9 f10 f11 f12 f13 f20 f21 f22 f23 f24 f25) s.heap.size) (wM g a f1 f2 f3 f4 f5 (fb (fWrt f10 f11 k i) f6) f7 f8 f9 f10 f11 (if fWrt f10 f11 k i = 0 then up f12 (40 * k + i) (nrw (f10 k) v) else f12) f13 f20 f21 f22 f23 f24 f25) := hD
      exact W.lret hx hb hr (fun t ht hW => ⟨⟨_, (), rfl, by rw [hf]; rfl, by rw [ht]; exact hP, hD⟩, hS.F ht⟩) hS.2.2 dX5_write_45
  · rw [e1]
    refine lv_istore (lv' := [(5, .int (iI (-1000000001))), (0, .ref (a 0)), (1, .int (iI k)), (2, .int (iI i)), (3, .long (lI v))]) hx hb dX5_write_5 hl (by decide) rfl (fun ls hl => ?_)
    refine lv_iload hx hb dX5_write_7 (lv_at hl 0 rfl) ?_
    refine xi_zf_eq hx hb ⟨by decide, by decide⟩ (by decide) dX5_write_9 ⟨20, by decide⟩ ?_
    refine lv_aload_n hx hb dX5_write_12 rfl (lv_at hl 1 rfl) ?_
    refine lv_iload hx hb dX5_write_13 (lv_at hl 0 rfl) ?_
    refine xm_i (rV (rest := []) hx hb hml hown hts hK hl (c_X5_finds l g a f1 f2 f3 f4 f5 f6 f7 f8 f9 f10 f11 f12 f13 f20 f21 f22 f23 f24 f25 (-1000000001) (s.heap).size (show 0 ≤ -1000000001 - (-1000000001) ∧ -1000000001 - (-1000000001) < 7 from by omega)) lk_X5_74 ⟨rfl, hP, hD.weaken (fun _ _ _ _ => trivial)⟩ (va_recv hK.1 hP (ci := 5) (q0 := 0) rfl rfl) rfl rfl rfl (Rm.of rfl) rfl rfl dX5_write_15) hD hS hA (fun x9 _ H locs hw hP hD hS => ?_)
    obtain rfl : x9 = iI (-1000000001) := hw
    have hP : va_P g.1 vwCl (wM g a f1 f2 f3 f4 f5 (fb (-1000000000 - (-1000000001)) f6) f7 f8 f9 f10 f11 f12 f13 f20 f21 f22 f23 f24 f25) H := hP
    have hD : va_D (va_A (wM g a f1 f2 f3 f4 f5 f6 f7 f8 f9 f10 f11 f12 f13 f20 f21 f22 f23 f24 f25) s.heap.size) (wM g a f1 f2 f3 f4 f5 (fb (-1000000000 - (-1000000001)) f6) f7 f8 f9 f10 f11 f12 f13 f20 f21 f22 f23 f24 f25) := hD
    refine xi_i2l hx hb ⟨by decide, by decide⟩ dX5_write_18 ?_
    have hf : fWrt f10 f11 k i = 1 := by unfold fWrt fWro; (repeat (first | rw [if_pos (by omega)] | rw [if_neg (by omega)])); first | done | (exfalso; omega)
    have he10 : f12 = (if fWrt f10 f11 k i = 0 then up f12 (40 * k + i) (nrw (f10 k) v) else f12) := by rw [hf]; rfl
    have hP := Eq.mp (congrArg (fun z9 => va_P g.1 vwCl (wM g a f1 f2 f3 f4 f5 (fb (-1000000000 - (-1000000001)) f6) f7 f8 f9 f10 f11 z9 f13 f20 f21 f22 f23 f24 f25) H) he10) hP
    have hD := Eq.mp (congrArg (fun z9 => va_D (va_A (wM g a f1 f2 f3 f4 f5 f6 f7 f8 f9 f10 f11 f12 f13 f20 f21 f22 f23 f24 f25) s.heap.size) (wM g a f1 f2 f3 f4 f5 (fb (-1000000000 - (-1000000001)) f6) f7 f8 f9 f10 f11 z9 f13 f20 f21 f22 f23 f24 f25)) he10) hD
    have he11 : (fb (-1000000000 - (-1000000001)) f6) = (fb (fWrt f10 f11 k i) f6) := by rw [hf]; rfl
    have hP := Eq.mp (congrArg (fun z9 => va_P g.1 vwCl (wM g a f1 f2 f3 f4 f5 z9 f7 f8 f9 f10 f11 (if fWrt f10 f11 k i = 0 then up f12 (40 * k + i) (nrw (f10 k) v) else f12) f13 f20 f21 f22 f23 f24 f25) H) he11) hP
    have hD := Eq.mp (congrArg (fun z9 => va_D (va_A (wM g a f1 f2 f3 f4 f5 f6 f7 f8 f9 f10 f11 f12 f13 f20 f21 f22 f23 f24 f25) s.heap.size) (wM g a f1 f2 f3 f4 f5 z9 f7 f8 f9 f10 f11 (if fWrt f10 f11 k i = 0 then up f12 (40 * k + i) (nrw (f10 k) v) else f12) f13 f20 f21 f22 f23 f24 f25)) he11) hD
    have hP : va_P g.1 vwCl (wM g a f1 f2 f3 f4 f5 (fb (fWrt f10 f11 k i) f6) f7 f8 f9 f10 f11 (if fWrt f10 f11 k i = 0 then up f12 (40 * k + i) (nrw (f10 k) v) else f12) f13 f20 f21 f22 f23 f24 f25) H := hP
    have hD : va_D (va_A (wM g a f1 f2 f3 f4 f5 f6 f7 f8 f9 f10 f11 f12 f13 f20 f21 f22 f23 f24 f25) s.heap.size) (wM g a f1 f2 f3 f4 f5 (fb (fWrt f10 f11 k i) f6) f7 f8 f9 f10 f11 (if fWrt f10 f11 k i = 0 then up f12 (40 * k + i) (nrw (f10 k) v) else f12) f13 f20 f21 f22 f23 f24 f25) := hD
    exact W.lret hx hb hr (fun t ht hW => ⟨⟨_, (), rfl, by rw [hf]; rfl, by rw [ht]; exact hP, hD⟩, hS.F ht⟩) hS.2.2 dX5_write_19
  · rw [e1]
    refine lv_istore (lv' := [(5, .int (iI (-1000000006))), (0, .ref (a 0)), (1, .int (iI k)), (2, .int (iI i)), (3, .long (lI v))]) hx hb dX5_write_5 hl (by decide) rfl (fun ls hl => ?_)
    refine lv_iload hx hb dX5_write_7 (lv_at hl 0 rfl) ?_
    refine xi_zf_eq hx hb ⟨by decide, by decide⟩ (by decide) dX5_write_9 ⟨20, by decide⟩ ?_
    refine lv_aload_n hx hb dX5_write_12 rfl (lv_at hl 1 rfl) ?_
    refine lv_iload hx hb dX5_write_13 (lv_at hl 0 rfl) ?_
    refine xm_i (rV (rest := []) hx hb hml hown hts hK hl (c_X5_finds l g a f1 f2 f3 f4 f5 f6 f7 f8 f9 f10 f11 f12 f13 f20 f21 f22 f23 f24 f25 (-1000000006) (s.heap).size (show 0 ≤ -1000000001 - (-1000000006) ∧ -1000000001 - (-1000000006) < 7 from by omega)) lk_X5_74 ⟨rfl, hP, hD.weaken (fun _ _ _ _ => trivial)⟩ (va_recv hK.1 hP (ci := 5) (q0 := 0) rfl rfl) rfl rfl rfl (Rm.of rfl) rfl rfl dX5_write_15) hD hS hA (fun x9 _ H locs hw hP hD hS => ?_)
    obtain rfl : x9 = iI (-1000000006) := hw
    have hP : va_P g.1 vwCl (wM g a f1 f2 f3 f4 f5 (fb (-1000000000 - (-1000000006)) f6) f7 f8 f9 f10 f11 f12 f13 f20 f21 f22 f23 f24 f25) H := hP
    have hD : va_D (va_A (wM g a f1 f2 f3 f4 f5 f6 f7 f8 f9 f10 f11 f12 f13 f20 f21 f22 f23 f24 f25) s.heap.size) (wM g a f1 f2 f3 f4 f5 (fb (-1000000000 - (-1000000006)) f6) f7 f8 f9 f10 f11 f12 f13 f20 f21 f22 f23 f24 f25) := hD
    refine xi_i2l hx hb ⟨by decide, by decide⟩ dX5_write_18 ?_
    have hf : fWrt f10 f11 k i = 6 := by unfold fWrt fWro; (repeat (first | rw [if_pos (by omega)] | rw [if_neg (by omega)])); first | done | (exfalso; omega)
    have he13 : f12 = (if fWrt f10 f11 k i = 0 then up f12 (40 * k + i) (nrw (f10 k) v) else f12) := by rw [hf]; rfl
    have hP := Eq.mp (congrArg (fun z9 => va_P g.1 vwCl (wM g a f1 f2 f3 f4 f5 (fb (-1000000000 - (-1000000006)) f6) f7 f8 f9 f10 f11 z9 f13 f20 f21 f22 f23 f24 f25) H) he13) hP
    have hD := Eq.mp (congrArg (fun z9 => va_D (va_A (wM g a f1 f2 f3 f4 f5 f6 f7 f8 f9 f10 f11 f12 f13 f20 f21 f22 f23 f24 f25) s.heap.size) (wM g a f1 f2 f3 f4 f5 (fb (-1000000000 - (-1000000006)) f6) f7 f8 f9 f10 f11 z9 f13 f20 f21 f22 f23 f24 f25)) he13) hD
    have he14 : (fb (-1000000000 - (-1000000006)) f6) = (fb (fWrt f10 f11 k i) f6) := by rw [hf]; rfl
    have hP := Eq.mp (congrArg (fun z9 => va_P g.1 vwCl (wM g a f1 f2 f3 f4 f5 z9 f7 f8 f9 f10 f11 (if fWrt f10 f11 k i = 0 then up f12 (40 * k + i) (nrw (f10 k) v) else f12) f13 f20 f21 f22 f23 f24 f25) H) he14) hP
    have hD := Eq.mp (congrArg (fun z9 => va_D (va_A (wM g a f1 f2 f3 f4 f5 f6 f7 f8 f9 f10 f11 f12 f13 f20 f21 f22 f23 f24 f25) s.heap.size) (wM g a f1 f2 f3 f4 f5 z9 f7 f8 f9 f10 f11 (if fWrt f10 f11 k i = 0 then up f12 (40 * k + i) (nrw (f10 k) v) else f12) f13 f20 f21 f22 f23 f24 f25)) he14) hD
    have hP : va_P g.1 vwCl (wM g a f1 f2 f3 f4 f5 (fb (fWrt f10 f11 k i) f6) f7 f8 f9 f10 f11 (if fWrt f10 f11 k i = 0 then up f12 (40 * k + i) (nrw (f10 k) v) else f12) f13 f20 f21 f22 f23 f24 f25) H := hP
    have hD : va_D (va_A (wM g a f1 f2 f3 f4 f5 f6 f7 f8 f9 f10 f11 f12 f13 f20 f21 f22 f23 f24 f25) s.heap.size) (wM g a f1 f2 f3 f4 f5 (fb (fWrt f10 f11 k i) f6) f7 f8 f9 f10 f11 (if fWrt f10 f11 k i = 0 then up f12 (40 * k + i) (nrw (f10 k) v) else f12) f13 f20 f21 f22 f23 f24 f25) := hD
    exact W.lret hx hb hr (fun t ht hW => ⟨⟨_, (), rfl, by rw [hf]; rfl, by rw [ht]; exact hP, hD⟩, hS.F ht⟩) hS.2.2 dX5_write_19
abbrev rm_X5_copy : Room := { frames := 2, cells := 0, slots := 0, locals := 45 }
set_option maxRecDepth 100000 in
set_option maxHeartbeats 4000000 in
theorem c_X5_copy (l : Launch) (g : Gd) (a : Nat → Nat) (f1 : Int → Int) (f2 : Int → Int) (f3 : Int → Int) (f4 : Int → Int) (f5 : Int → Int) (f6 : Int → Int) (f7 : Int → Int) (f8 : Int → Int) (f9 : Int → Int) (f10 : Int → Int) (f11 : Int → Int) (f12 : Int → Int) (f13 : Int → Int) (f20 : Int) (f21 : Int) (f22 : Int) (f23 : Int) (f24 : Int) (f25 : Int) (k : Int) (x : Int) (t : Int) (y : Int) (n : Int) (sz : Nat) (h1 : InvK 0 f1) (h2 : f1 0 ≤ 9999) (h3 : IR k) (h4 : IR x) (h5 : IR t) (h6 : IR y) (h7 : IR n) (h8 : InvS f10 f11) : Met l yX5_copy (wsOf yX5_copy cX5_copy 7 (some .int)) rm_X5_copy (PX g (wP g (wM g a f1 f2 f3 f4 f5 f6 f7 f8 f9 f10 f11 f12 f13 f20 f21 f22 f23 f24 f25) sz) [.ref (a 0), .int (iI k), .int (iI x), .int (iI t), .int (iI y), .int (iI n)]) (QMi g (fun u9 : Nat → Int → Int => wM g a f1 f2 f3 f4 f5 (fb (fCpy f10 f11 k x t y n) f6) f7 f8 f9 f10 f11 (if fCpy f10 f11 k x t y n = 0 then cyT f12 f12 (40 * k + x) (40 * t + y) n else f12) (u9 13) f20 f21 f22 f23 f24 f25) (fun r9 _ => r9 = ab (fCpy f10 f11 k x t y n) (iI n)) (va_A (wM g a f1 f2 f3 f4 f5 f6 f7 f8 f9 f10 f11 f12 f13 f20 f21 f22 f23 f24 f25) sz)) 0 0 (va_A (wM g a f1 f2 f3 f4 f5 f6 f7 f8 f9 f10 f11 f12 f13 f20 f21 f22 f23 f24 f25) sz) := by
  refine me (g := g) (by decide) rfl ?_
  intro pq eq s mq below meth cq C hnm hB ls hl
  obtain ⟨hx, hb, hr, hml, hown, hts, hlocks, hK⟩ := C
  have hown : s.vm.findClass RX5 = some mq.cls := hown
  have hl : lv_has ls 7 [(0, .ref (a 0)), (1, .int (iI k)), (2, .int (iI x)), (3, .int (iI t)), (4, .int (iI y)), (5, .int (iI n))] := hl
  obtain ⟨hsz, hP, hD0⟩ := hB
  subst hsz
  have hD := hD0.self (sz := s.heap.size)
  have hA : ∀ q : Nat, s.heap.size ≤ q → va_A (wM g a f1 f2 f3 f4 f5 f6 f7 f8 f9 f10 f11 f12 f13 f20 f21 f22 f23 f24 f25) s.heap.size q := fun q h => Or.inr h
  have hS : va_S (va_A (wM g a f1 f2 f3 f4 f5 f6 f7 f8 f9 f10 f11 f12 f13 f20 f21 f22 f23 f24 f25) s.heap.size) s.heap s.heap [] := va_S.rf
  have hI := h1
  have hI8 : Inv f1 := h1.mono (by omega)
  have hn := hI.num
  have hs := hI.sea
  have hv := hI.vil
  have q1 := h3.1
  have q3 := h4.1
  have q5 := h5.1
  have q7 := h6.1
  have q9 := h7.1
  have q2 := h3.2
  have q4 := h4.2
  have q6 := h5.2
  have q8 := h6.2
  have q10 := h7.2
  have hSk := h8 k
  have hSt := h8 t
  refine lv_iload_n hx hb dX5_copy_0 rfl (lv_at hl 1 rfl) ?_
  refine xu_b (P := 0 ≤ k ∧ k ≤ 3) (rS (rest := []) hx hb hml hown hts hK hl (c_X5_isOne l g k (show IR k from ⟨by omega, by omega⟩)) lk_X5_312 trivial rfl rfl rfl (Rm.of rfl) rfl rfl dX5_copy_1) (fun z1 => ?_) (fun z1 => ?_)
  · refine xi_zf_eq hx hb ⟨by decide, by decide⟩ (by decide) dX5_copy_4 ⟨14, by decide⟩ ?_
    refine lv_iload_n hx hb dX5_copy_7 rfl (lv_at hl 3 rfl) ?_
    refine xu_b (P := 0 ≤ t ∧ t ≤ 3) (rS (rest := []) hx hb hml hown hts hK hl (c_X5_isOne l g t (show IR t from ⟨by omega, by omega⟩)) lk_X5_312 trivial rfl rfl rfl (Rm.of rfl) rfl rfl dX5_copy_8) (fun z2 => ?_) (fun z2 => ?_)
    · refine xi_zt_ne (tgt := 21) hx hb ⟨by decide, by decide⟩ (by decide) dX5_copy_11 (by decide) ?_
      refine lv_aload_n hx hb dX5_copy_21 rfl (lv_at hl 0 rfl) ?_
      refine xg_X5 hx hb hts hown hK hP 0 rfl 15 (by decide) fk_X5_37 (v := .ref (a 10)) rfl dX5_copy_22 ?_
      refine lv_iload_n hx hb dX5_copy_25 rfl (lv_at hl 1 rfl) ?_
      refine xi_ald hx hb hK hP 10 (f := f10) rfl (i := k) ⟨by have := (hSk (by omega) (by omega)); have := (hSt (by omega) (by omega)); omega, by have := (hSk (by omega) (by omega)); have := (hSt (by omega) (by omega)); omega⟩ rfl dX5_copy_26 ?_
      refine xi_z_eq (tgt := 39) hx hb ⟨by have := (hSk (by omega) (by omega)); have := (hSt (by omega) (by omega)); omega, by have := (hSk (by omega) (by omega)); have := (hSt (by omega) (by omega)); omega⟩ dX5_copy_27 (by decide) (fun z3 => ?_) (fun z3 => ?_)
      · refine lv_aload_n hx hb dX5_copy_39 rfl (lv_at hl 0 rfl) ?_
        refine xi_ldcw hx hb hown hts kk_X5_316 dX5_copy_40 ?_
        refine xm_i (rV (rest := []) hx hb hml hown hts hK hl (c_X5_finds l g a f1 f2 f3 f4 f5 f6 f7 f8 f9 f10 f11 f12 f13 f20 f21 f22 f23 f24 f25 (-1000000006) (s.heap).size (show 0 ≤ -1000000001 - (-1000000006) ∧ -1000000001 - (-1000000006) < 7 from by omega)) lk_X5_74 ⟨rfl, hP, hD.weaken (fun _ _ _ _ => trivial)⟩ (va_recv hK.1 hP (ci := 5) (q0 := 0) rfl rfl) rfl rfl rfl (Rm.of rfl) rfl rfl dX5_copy_43) hD hS hA (fun x9 _ H locs hw hP hD hS => ?_)
        obtain rfl : x9 = iI (-1000000006) := hw
        have hP : va_P g.1 vwCl (wM g a f1 f2 f3 f4 f5 (fb (-1000000000 - (-1000000006)) f6) f7 f8 f9 f10 f11 f12 f13 f20 f21 f22 f23 f24 f25) H := hP
        have hD : va_D (va_A (wM g a f1 f2 f3 f4 f5 f6 f7 f8 f9 f10 f11 f12 f13 f20 f21 f22 f23 f24 f25) s.heap.size) (wM g a f1 f2 f3 f4 f5 (fb (-1000000000 - (-1000000006)) f6) f7 f8 f9 f10 f11 f12 f13 f20 f21 f22 f23 f24 f25) := hD
        have hf : fCpy f10 f11 k x t y n = 6 := by unfold fCpy; (repeat (first | rw [if_pos (by omega)] | rw [if_neg (by omega)])); first | done | (exfalso; omega)
        have he5 : f12 = (if fCpy f10 f11 k x t y n = 0 then cyT f12 f12 (40 * k + x) (40 * t + y) n else f12) := by rw [hf]; rfl
        have hP := Eq.mp (congrArg (fun z9 => va_P g.1 vwCl (wM g a f1 f2 f3 f4 f5 (fb (-1000000000 - (-1000000006)) f6) f7 f8 f9 f10 f11 z9 f13 f20 f21 f22 f23 f24 f25) H) he5) hP
        have hD := Eq.mp (congrArg (fun z9 => va_D (va_A (wM g a f1 f2 f3 f4 f5 f6 f7 f8 f9 f10 f11 f12 f13 f20 f21 f22 f23 f24 f25) s.heap.size) (wM g a f1 f2 f3 f4 f5 (fb (-1000000000 - (-1000000006)) f6) f7 f8 f9 f10 f11 z9 f13 f20 f21 f22 f23 f24 f25)) he5) hD
        have he6 : (fb (-1000000000 - (-1000000006)) f6) = (fb (fCpy f10 f11 k x t y n) f6) := by rw [hf]; rfl
        have hP := Eq.mp (congrArg (fun z9 => va_P g.1 vwCl (wM g a f1 f2 f3 f4 f5 z9 f7 f8 f9 f10 f11 (if fCpy f10 f11 k x t y n = 0 then cyT f12 f12 (40 * k + x) (40 * t + y) n else f12) f13 f20 f21 f22 f23 f24 f25) H) he6) hP
        have hD := Eq.mp (congrArg (fun z9 => va_D (va_A (wM g a f1 f2 f3 f4 f5 f6 f7 f8 f9 f10 f11 f12 f13 f20 f21 f22 f23 f24 f25) s.heap.size) (wM g a f1 f2 f3 f4 f5 z9 f7 f8 f9 f10 f11 (if fCpy f10 f11 k x t y n = 0 then cyT f12 f12 (40 * k + x) (40 * t + y) n else f12) f13 f20 f21 f22 f23 f24 f25)) he6) hD
        have hP : va_P g.1 vwCl (wM g a f1 f2 f3 f4 f5 (fb (fCpy f10 f11 k x t y n) f6) f7 f8 f9 f10 f11 (if fCpy f10 f11 k x t y n = 0 then cyT f12 f12 (40 * k + x) (40 * t + y) n else f12) ((su (fun _ _ => 0) 13 f13) 13) f20 f21 f22 f23 f24 f25) H := hP
        have hD : va_D (va_A (wM g a f1 f2 f3 f4 f5 f6 f7 f8 f9 f10 f11 f12 f13 f20 f21 f22 f23 f24 f25) s.heap.size) (wM g a f1 f2 f3 f4 f5 (fb (fCpy f10 f11 k x t y n) f6) f7 f8 f9 f10 f11 (if fCpy f10 f11 k x t y n = 0 then cyT f12 f12 (40 * k + x) (40 * t + y) n else f12) ((su (fun _ _ => 0) 13 f13) 13) f20 f21 f22 f23 f24 f25) := hD
        exact W.iret hx hb hr (fun t ht hW => ⟨⟨_, (su (fun _ _ => 0) 13 f13), rfl, by rw [hf]; rfl, by rw [ht]; exact hP, hD⟩, hS.F ht⟩) hS.2.2 dX5_copy_46
      · refine lv_aload_n hx hb dX5_copy_30 rfl (lv_at hl 0 rfl) ?_
        refine xg_X5 hx hb hts hown hK hP 0 rfl 15 (by decide) fk_X5_37 (v := .ref (a 10)) rfl dX5_copy_31 ?_
        refine lv_iload_n hx hb dX5_copy_34 rfl (lv_at hl 3 rfl) ?_
        refine xi_ald hx hb hK hP 10 (f := f10) rfl (i := t) ⟨by have := (hSk (by omega) (by omega)); have := (hSt (by omega) (by omega)); omega, by have := (hSk (by omega) (by omega)); have := (hSt (by omega) (by omega)); omega⟩ rfl dX5_copy_35 ?_
        refine xi_z_ne (tgt := 47) hx hb ⟨by have := (hSk (by omega) (by omega)); have := (hSt (by omega) (by omega)); omega, by have := (hSk (by omega) (by omega)); have := (hSt (by omega) (by omega)); omega⟩ dX5_copy_36 (by decide) (fun z7 => ?_) (fun z7 => ?_)
        · refine lv_aload_n hx hb dX5_copy_47 rfl (lv_at hl 0 rfl) ?_
          refine xg_X5 hx hb hts hown hK hP 0 rfl 15 (by decide) fk_X5_37 (v := .ref (a 10)) rfl dX5_copy_48 ?_
          refine lv_iload_n hx hb dX5_copy_51 rfl (lv_at hl 1 rfl) ?_
          refine xi_ald hx hb hK hP 10 (f := f10) rfl (i := k) ⟨by have := (hSk (by omega) (by omega)); have := (hSt (by omega) (by omega)); omega, by have := (hSk (by omega) (by omega)); have := (hSt (by omega) (by omega)); omega⟩ rfl dX5_copy_52 ?_
          refine lv_aload_n hx hb dX5_copy_53 rfl (lv_at hl 0 rfl) ?_
          refine xg_X5 hx hb hts hown hK hP 0 rfl 15 (by decide) fk_X5_37 (v := .ref (a 10)) rfl dX5_copy_54 ?_
          refine lv_iload_n hx hb dX5_copy_57 rfl (lv_at hl 3 rfl) ?_
          refine xi_ald hx hb hK hP 10 (f := f10) rfl (i := t) ⟨by have := (hSk (by omega) (by omega)); have := (hSt (by omega) (by omega)); omega, by have := (hSk (by omega) (by omega)); have := (hSt (by omega) (by omega)); omega⟩ rfl dX5_copy_58 ?_
          refine xi_c_eq (tgt := 69) hx hb ⟨by have := (hSk (by omega) (by omega)); have := (hSt (by omega) (by omega)); omega, by have := (hSk (by omega) (by omega)); have := (hSt (by omega) (by omega)); omega⟩ ⟨by have := (hSk (by omega) (by omega)); have := (hSt (by omega) (by omega)); omega, by have := (hSk (by omega) (by omega)); have := (hSt (by omega) (by omega)); omega⟩ dX5_copy_59 (by decide) (fun z8 => ?_) (fun z8 => ?_)
          · refine lv_iload_n hx hb dX5_copy_69 rfl (lv_at hl 2 rfl) ?_
            refine xi_z_lt (tgt := 110) hx hb ⟨by have := (hSk (by omega) (by omega)); have := (hSt (by omega) (by omega)); omega, by have := (hSk (by omega) (by omega)); have := (hSt (by omega) (by omega)); omega⟩ dX5_copy_70 (by decide) (fun z9 => ?_) (fun z9 => ?_)
            · refine lv_aload_n hx hb dX5_copy_110 rfl (lv_at hl 0 rfl) ?_
              refine xi_ldc hx hb hown hts kk_X5_50 dX5_copy_111 ?_
              refine xm_i (rV (rest := []) hx hb hml hown hts hK hl (c_X5_finds l g a f1 f2 f3 f4 f5 f6 f7 f8 f9 f10 f11 f12 f13 f20 f21 f22 f23 f24 f25 (-1000000001) (s.heap).size (show 0 ≤ -1000000001 - (-1000000001) ∧ -1000000001 - (-1000000001) < 7 from by omega)) lk_X5_74 ⟨rfl, hP, hD.weaken (fun _ _ _ _ => trivial)⟩ (va_recv hK.1 hP (ci := 5) (q0 := 0) rfl rfl) rfl rfl rfl (Rm.of rfl) rfl rfl dX5_copy_113) hD hS hA (fun x9 _ H locs hw hP hD hS => ?_)
              obtain rfl : x9 = iI (-1000000001) := hw
              have hP : va_P g.1 vwCl (wM g a f1 f2 f3 f4 f5 (fb (-1000000000 - (-1000000001)) f6) f7 f8 f9 f10 f11 f12 f13 f20 f21 f22 f23 f24 f25) H := hP
              have hD : va_D (va_A (wM g a f1 f2 f3 f4 f5 f6 f7 f8 f9 f10 f11 f12 f13 f20 f21 f22 f23 f24 f25) s.heap.size) (wM g a f1 f2 f3 f4 f5 (fb (-1000000000 - (-1000000001)) f6) f7 f8 f9 f10 f11 f12 f13 f20 f21 f22 f23 f24 f25) := hD
              have hf : fCpy f10 f11 k x t y n = 1 := by unfold fCpy; (repeat (first | rw [if_pos (by omega)] | rw [if_neg (by omega)])); first | done | (exfalso; omega)
              have he11 : f12 = (if fCpy f10 f11 k x t y n = 0 then cyT f12 f12 (40 * k + x) (40 * t + y) n else f12) := by rw [hf]; rfl
              have hP := Eq.mp (congrArg (fun z9 => va_P g.1 vwCl (wM g a f1 f2 f3 f4 f5 (fb (-1000000000 - (-1000000001)) f6) f7 f8 f9 f10 f11 z9 f13 f20 f21 f22 f23 f24 f25) H) he11) hP
              have hD := Eq.mp (congrArg (fun z9 => va_D (va_A (wM g a f1 f2 f3 f4 f5 f6 f7 f8 f9 f10 f11 f12 f13 f20 f21 f22 f23 f24 f25) s.heap.size) (wM g a f1 f2 f3 f4 f5 (fb (-1000000000 - (-1000000001)) f6) f7 f8 f9 f10 f11 z9 f13 f20 f21 f22 f23 f24 f25)) he11) hD
              have he12 : (fb (-1000000000 - (-1000000001)) f6) = (fb (fCpy f10 f11 k x t y n) f6) := by rw [hf]; rfl
              have hP := Eq.mp (congrArg (fun z9 => va_P g.1 vwCl (wM g a f1 f2 f3 f4 f5 z9 f7 f8 f9 f10 f11 (if fCpy f10 f11 k x t y n = 0 then cyT f12 f12 (40 * k + x) (40 * t + y) n else f12) f13 f20 f21 f22 f23 f24 f25) H) he12) hP
              have hD := Eq.mp (congrArg (fun z9 => va_D (va_A (wM g a f1 f2 f3 f4 f5 f6 f7 f8 f9 f10 f11 f12 f13 f20 f21 f22 f23 f24 f25) s.heap.size) (wM g a f1 f2 f3 f4 f5 z9 f7 f8 f9 f10 f11 (if fCpy f10 f11 k x t y n = 0 then cyT f12 f12 (40 * k + x) (40 * t + y) n else f12) f13 f20 f21 f22 f23 f24 f25)) he12) hD
              have hP : va_P g.1 vwCl (wM g a f1 f2 f3 f4 f5 (fb (fCpy f10 f11 k x t y n) f6) f7 f8 f9 f10 f11 (if fCpy f10 f11 k x t y n = 0 then cyT f12 f12 (40 * k + x) (40 * t + y) n else f12) ((su (fun _ _ => 0) 13 f13) 13) f20 f21 f22 f23 f24 f25) H := hP
              have hD : va_D (va_A (wM g a f1 f2 f3 f4 f5 f6 f7 f8 f9 f10 f11 f12 f13 f20 f21 f22 f23 f24 f25) s.heap.size) (wM g a f1 f2 f3 f4 f5 (fb (fCpy f10 f11 k x t y n) f6) f7 f8 f9 f10 f11 (if fCpy f10 f11 k x t y n = 0 then cyT f12 f12 (40 * k + x) (40 * t + y) n else f12) ((su (fun _ _ => 0) 13 f13) 13) f20 f21 f22 f23 f24 f25) := hD
              exact W.iret hx hb hr (fun t ht hW => ⟨⟨_, (su (fun _ _ => 0) 13 f13), rfl, by rw [hf]; rfl, by rw [ht]; exact hP, hD⟩, hS.F ht⟩) hS.2.2 dX5_copy_116
            · refine lv_iload hx hb dX5_copy_73 (lv_at hl 4 rfl) ?_
              refine xi_z_lt (tgt := 110) hx hb ⟨by have := (hSk (by omega) (by omega)); have := (hSt (by omega) (by omega)); omega, by have := (hSk (by omega) (by omega)); have := (hSt (by omega) (by omega)); omega⟩ dX5_copy_75 (by decide) (fun z13 => ?_) (fun z13 => ?_)
              · refine lv_aload_n hx hb dX5_copy_110 rfl (lv_at hl 0 rfl) ?_
                refine xi_ldc hx hb hown hts kk_X5_50 dX5_copy_111 ?_
                refine xm_i (rV (rest := []) hx hb hml hown hts hK hl (c_X5_finds l g a f1 f2 f3 f4 f5 f6 f7 f8 f9 f10 f11 f12 f13 f20 f21 f22 f23 f24 f25 (-1000000001) (s.heap).size (show 0 ≤ -1000000001 - (-1000000001) ∧ -1000000001 - (-1000000001) < 7 from by omega)) lk_X5_74 ⟨rfl, hP, hD.weaken (fun _ _ _ _ => trivial)⟩ (va_recv hK.1 hP (ci := 5) (q0 := 0) rfl rfl) rfl rfl rfl (Rm.of rfl) rfl rfl dX5_copy_113) hD hS hA (fun x9 _ H locs hw hP hD hS => ?_)
                obtain rfl : x9 = iI (-1000000001) := hw
                have hP : va_P g.1 vwCl (wM g a f1 f2 f3 f4 f5 (fb (-1000000000 - (-1000000001)) f6) f7 f8 f9 f10 f11 f12 f13 f20 f21 f22 f23 f24 f25) H := hP
                have hD : va_D (va_A (wM g a f1 f2 f3 f4 f5 f6 f7 f8 f9 f10 f11 f12 f13 f20 f21 f22 f23 f24 f25) s.heap.size) (wM g a f1 f2 f3 f4 f5 (fb (-1000000000 - (-1000000001)) f6) f7 f8 f9 f10 f11 f12 f13 f20 f21 f22 f23 f24 f25) := hD
                have hf : fCpy f10 f11 k x t y n = 1 := by unfold fCpy; (repeat (first | rw [if_pos (by omega)] | rw [if_neg (by omega)])); first | done | (exfalso; omega)
                have he15 : f12 = (if fCpy f10 f11 k x t y n = 0 then cyT f12 f12 (40 * k + x) (40 * t + y) n else f12) := by rw [hf]; rfl
                have hP := Eq.mp (congrArg (fun z9 => va_P g.1 vwCl (wM g a f1 f2 f3 f4 f5 (fb (-1000000000 - (-1000000001)) f6) f7 f8 f9 f10 f11 z9 f13 f20 f21 f22 f23 f24 f25) H) he15) hP
                have hD := Eq.mp (congrArg (fun z9 => va_D (va_A (wM g a f1 f2 f3 f4 f5 f6 f7 f8 f9 f10 f11 f12 f13 f20 f21 f22 f23 f24 f25) s.heap.size) (wM g a f1 f2 f3 f4 f5 (fb (-1000000000 - (-1000000001)) f6) f7 f8 f9 f10 f11 z9 f13 f20 f21 f22 f23 f24 f25)) he15) hD
                have he16 : (fb (-1000000000 - (-1000000001)) f6) = (fb (fCpy f10 f11 k x t y n) f6) := by rw [hf]; rfl
                have hP := Eq.mp (congrArg (fun z9 => va_P g.1 vwCl (wM g a f1 f2 f3 f4 f5 z9 f7 f8 f9 f10 f11 (if fCpy f10 f11 k x t y n = 0 then cyT f12 f12 (40 * k + x) (40 * t + y) n else f12) f13 f20 f21 f22 f23 f24 f25) H) he16) hP
                have hD := Eq.mp (congrArg (fun z9 => va_D (va_A (wM g a f1 f2 f3 f4 f5 f6 f7 f8 f9 f10 f11 f12 f13 f20 f21 f22 f23 f24 f25) s.heap.size) (wM g a f1 f2 f3 f4 f5 z9 f7 f8 f9 f10 f11 (if fCpy f10 f11 k x t y n = 0 then cyT f12 f12 (40 * k + x) (40 * t + y) n else f12) f13 f20 f21 f22 f23 f24 f25)) he16) hD
                have hP : va_P g.1 vwCl (wM g a f1 f2 f3 f4 f5 (fb (fCpy f10 f11 k x t y n) f6) f7 f8 f9 f10 f11 (if fCpy f10 f11 k x t y n = 0 then cyT f12 f12 (40 * k + x) (40 * t + y) n else f12) ((su (fun _ _ => 0) 13 f13) 13) f20 f21 f22 f23 f24 f25) H := hP
                have hD : va_D (va_A (wM g a f1 f2 f3 f4 f5 f6 f7 f8 f9 f10 f11 f12 f13 f20 f21 f22 f23 f24 f25) s.heap.size) (wM g a f1 f2 f3 f4 f5 (fb (fCpy f10 f11 k x t y n) f6) f7 f8 f9 f10 f11 (if fCpy f10 f11 k x t y n = 0 then cyT f12 f12 (40 * k + x) (40 * t + y) n else f12) ((su (fun _ _ => 0) 13 f13) 13) f20 f21 f22 f23 f24 f25) := hD
                exact W.iret hx hb hr (fun t ht hW => ⟨⟨_, (su (fun _ _ => 0) 13 f13), rfl, by rw [hf]; rfl, by rw [ht]; exact hP, hD⟩, hS.F ht⟩) hS.2.2 dX5_copy_116
              · refine lv_iload hx hb dX5_copy_78 (lv_at hl 5 rfl) ?_
                refine xi_z_lt (tgt := 110) hx hb ⟨by have := (hSk (by omega) (by omega)); have := (hSt (by omega) (by omega)); omega, by have := (hSk (by omega) (by omega)); have := (hSt (by omega) (by omega)); omega⟩ dX5_copy_80 (by decide) (fun z17 => ?_) (fun z17 => ?_)
                · refine lv_aload_n hx hb dX5_copy_110 rfl (lv_at hl 0 rfl) ?_
                  refine xi_ldc hx hb hown hts kk_X5_50 dX5_copy_111 ?_
                  refine xm_i (rV (rest := []) hx hb hml hown hts hK hl (c_X5_finds l g a f1 f2 f3 f4 f5 f6 f7 f8 f9 f10 f11 f12 f13 f20 f21 f22 f23 f24 f25 (-1000000001) (s.heap).size (show 0 ≤ -1000000001 - (-1000000001) ∧ -1000000001 - (-1000000001) < 7 from by omega)) lk_X5_74 ⟨rfl, hP, hD.weaken (fun _ _ _ _ => trivial)⟩ (va_recv hK.1 hP (ci := 5) (q0 := 0) rfl rfl) rfl rfl rfl (Rm.of rfl) rfl rfl dX5_copy_113) hD hS hA (fun x9 _ H locs hw hP hD hS => ?_)
                  obtain rfl : x9 = iI (-1000000001) := hw
                  have hP : va_P g.1 vwCl (wM g a f1 f2 f3 f4 f5 (fb (-1000000000 - (-1000000001)) f6) f7 f8 f9 f10 f11 f12 f13 f20 f21 f22 f23 f24 f25) H := hP
                  have hD : va_D (va_A (wM g a f1 f2 f3 f4 f5 f6 f7 f8 f9 f10 f11 f12 f13 f20 f21 f22 f23 f24 f25) s.heap.size) (wM g a f1 f2 f3 f4 f5 (fb (-1000000000 - (-1000000001)) f6) f7 f8 f9 f10 f11 f12 f13 f20 f21 f22 f23 f24 f25) := hD
                  have hf : fCpy f10 f11 k x t y n = 1 := by unfold fCpy; (repeat (first | rw [if_pos (by omega)] | rw [if_neg (by omega)])); first | done | (exfalso; omega)
                  have he19 : f12 = (if fCpy f10 f11 k x t y n = 0 then cyT f12 f12 (40 * k + x) (40 * t + y) n else f12) := by rw [hf]; rfl
                  have hP := Eq.mp (congrArg (fun z9 => va_P g.1 vwCl (wM g a f1 f2 f3 f4 f5 (fb (-1000000000 - (-1000000001)) f6) f7 f8 f9 f10 f11 z9 f13 f20 f21 f22 f23 f24 f25) H) he19) hP
                  have hD := Eq.mp (congrArg (fun z9 => va_D (va_A (wM g a f1 f2 f3 f4 f5 f6 f7 f8 f9 f10 f11 f12 f13 f20 f21 f22 f23 f24 f25) s.heap.size) (wM g a f1 f2 f3 f4 f5 (fb (-1000000000 - (-1000000001)) f6) f7 f8 f9 f10 f11 z9 f13 f20 f21 f22 f23 f24 f25)) he19) hD
                  have he20 : (fb (-1000000000 - (-1000000001)) f6) = (fb (fCpy f10 f11 k x t y n) f6) := by rw [hf]; rfl
                  have hP := Eq.mp (congrArg (fun z9 => va_P g.1 vwCl (wM g a f1 f2 f3 f4 f5 z9 f7 f8 f9 f10 f11 (if fCpy f10 f11 k x t y n = 0 then cyT f12 f12 (40 * k + x) (40 * t + y) n else f12) f13 f20 f21 f22 f23 f24 f25) H) he20) hP
                  have hD := Eq.mp (congrArg (fun z9 => va_D (va_A (wM g a f1 f2 f3 f4 f5 f6 f7 f8 f9 f10 f11 f12 f13 f20 f21 f22 f23 f24 f25) s.heap.size) (wM g a f1 f2 f3 f4 f5 z9 f7 f8 f9 f10 f11 (if fCpy f10 f11 k x t y n = 0 then cyT f12 f12 (40 * k + x) (40 * t + y) n else f12) f13 f20 f21 f22 f23 f24 f25)) he20) hD
                  have hP : va_P g.1 vwCl (wM g a f1 f2 f3 f4 f5 (fb (fCpy f10 f11 k x t y n) f6) f7 f8 f9 f10 f11 (if fCpy f10 f11 k x t y n = 0 then cyT f12 f12 (40 * k + x) (40 * t + y) n else f12) ((su (fun _ _ => 0) 13 f13) 13) f20 f21 f22 f23 f24 f25) H := hP
                  have hD : va_D (va_A (wM g a f1 f2 f3 f4 f5 f6 f7 f8 f9 f10 f11 f12 f13 f20 f21 f22 f23 f24 f25) s.heap.size) (wM g a f1 f2 f3 f4 f5 (fb (fCpy f10 f11 k x t y n) f6) f7 f8 f9 f10 f11 (if fCpy f10 f11 k x t y n = 0 then cyT f12 f12 (40 * k + x) (40 * t + y) n else f12) ((su (fun _ _ => 0) 13 f13) 13) f20 f21 f22 f23 f24 f25) := hD
                  exact W.iret hx hb hr (fun t ht hW => ⟨⟨_, (su (fun _ _ => 0) 13 f13), rfl, by rw [hf]; rfl, by rw [ht]; exact hP, hD⟩, hS.F ht⟩) hS.2.2 dX5_copy_116
                · refine lv_iload hx hb dX5_copy_83 (lv_at hl 5 rfl) ?_
                  refine lv_aload_n hx hb dX5_copy_85 rfl (lv_at hl 0 rfl) ?_
                  refine xg_X5 hx hb hts hown hK hP 0 rfl 16 (by decide) fk_X5_40 (v := .ref (a 11)) rfl dX5_copy_86 ?_
                  refine lv_iload_n hx hb dX5_copy_89 rfl (lv_at hl 1 rfl) ?_
                  refine xi_ald hx hb hK hP 11 (f := f11) rfl (i := k) ⟨by have := (hSk (by omega) (by omega)); have := (hSt (by omega) (by omega)); omega, by have := (hSk (by omega) (by omega)); have := (hSt (by omega) (by omega)); omega⟩ rfl dX5_copy_90 ?_
                  refine lv_iload_n hx hb dX5_copy_91 rfl (lv_at hl 2 rfl) ?_
                  refine xi_sub hx hb dX5_copy_92 ?_
                  refine xi_c_gt (tgt := 110) hx hb ⟨by have := (hSk (by omega) (by omega)); have := (hSt (by omega) (by omega)); omega, by have := (hSk (by omega) (by omega)); have := (hSt (by omega) (by omega)); omega⟩ ⟨by have := (hSk (by omega) (by omega)); have := (hSt (by omega) (by omega)); omega, by have := (hSk (by omega) (by omega)); have := (hSt (by omega) (by omega)); omega⟩ dX5_copy_93 (by decide) (fun z21 => ?_) (fun z21 => ?_)
                  · refine lv_aload_n hx hb dX5_copy_110 rfl (lv_at hl 0 rfl) ?_
                    refine xi_ldc hx hb hown hts kk_X5_50 dX5_copy_111 ?_
                    refine xm_i (rV (rest := []) hx hb hml hown hts hK hl (c_X5_finds l g a f1 f2 f3 f4 f5 f6 f7 f8 f9 f10 f11 f12 f13 f20 f21 f22 f23 f24 f25 (-1000000001) (s.heap).size (show 0 ≤ -1000000001 - (-1000000001) ∧ -1000000001 - (-1000000001) < 7 from by omega)) lk_X5_74 ⟨rfl, hP, hD.weaken (fun _ _ _ _ => trivial)⟩ (va_recv hK.1 hP (ci := 5) (q0 := 0) rfl rfl) rfl rfl rfl (Rm.of rfl) rfl rfl dX5_copy_113) hD hS hA (fun x9 _ H locs hw hP hD hS => ?_)
                    obtain rfl : x9 = iI (-1000000001) := hw
                    have hP : va_P g.1 vwCl (wM g a f1 f2 f3 f4 f5 (fb (-1000000000 - (-1000000001)) f6) f7 f8 f9 f10 f11 f12 f13 f20 f21 f22 f23 f24 f25) H := hP
                    have hD : va_D (va_A (wM g a f1 f2 f3 f4 f5 f6 f7 f8 f9 f10 f11 f12 f13 f20 f21 f22 f23 f24 f25) s.heap.size) (wM g a f1 f2 f3 f4 f5 (fb (-1000000000 - (-1000000001)) f6) f7 f8 f9 f10 f11 f12 f13 f20 f21 f22 f23 f24 f25) := hD
                    have hf : fCpy f10 f11 k x t y n = 1 := by unfold fCpy; (repeat (first | rw [if_pos (by omega)] | rw [if_neg (by omega)])); first | done | (exfalso; omega)
                    have he23 : f12 = (if fCpy f10 f11 k x t y n = 0 then cyT f12 f12 (40 * k + x) (40 * t + y) n else f12) := by rw [hf]; rfl
                    have hP := Eq.mp (congrArg (fun z9 => va_P g.1 vwCl (wM g a f1 f2 f3 f4 f5 (fb (-1000000000 - (-1000000001)) f6) f7 f8 f9 f10 f11 z9 f13 f20 f21 f22 f23 f24 f25) H) he23) hP
                    have hD := Eq.mp (congrArg (fun z9 => va_D (va_A (wM g a f1 f2 f3 f4 f5 f6 f7 f8 f9 f10 f11 f12 f13 f20 f21 f22 f23 f24 f25) s.heap.size) (wM g a f1 f2 f3 f4 f5 (fb (-1000000000 - (-1000000001)) f6) f7 f8 f9 f10 f11 z9 f13 f20 f21 f22 f23 f24 f25)) he23) hD
                    have he24 : (fb (-1000000000 - (-1000000001)) f6) = (fb (fCpy f10 f11 k x t y n) f6) := by rw [hf]; rfl
                    have hP := Eq.mp (congrArg (fun z9 => va_P g.1 vwCl (wM g a f1 f2 f3 f4 f5 z9 f7 f8 f9 f10 f11 (if fCpy f10 f11 k x t y n = 0 then cyT f12 f12 (40 * k + x) (40 * t + y) n else f12) f13 f20 f21 f22 f23 f24 f25) H) he24) hP
                    have hD := Eq.mp (congrArg (fun z9 => va_D (va_A (wM g a f1 f2 f3 f4 f5 f6 f7 f8 f9 f10 f11 f12 f13 f20 f21 f22 f23 f24 f25) s.heap.size) (wM g a f1 f2 f3 f4 f5 z9 f7 f8 f9 f10 f11 (if fCpy f10 f11 k x t y n = 0 then cyT f12 f12 (40 * k + x) (40 * t + y) n else f12) f13 f20 f21 f22 f23 f24 f25)) he24) hD
                    have hP : va_P g.1 vwCl (wM g a f1 f2 f3 f4 f5 (fb (fCpy f10 f11 k x t y n) f6) f7 f8 f9 f10 f11 (if fCpy f10 f11 k x t y n = 0 then cyT f12 f12 (40 * k + x) (40 * t + y) n else f12) ((su (fun _ _ => 0) 13 f13) 13) f20 f21 f22 f23 f24 f25) H := hP
                    have hD : va_D (va_A (wM g a f1 f2 f3 f4 f5 f6 f7 f8 f9 f10 f11 f12 f13 f20 f21 f22 f23 f24 f25) s.heap.size) (wM g a f1 f2 f3 f4 f5 (fb (fCpy f10 f11 k x t y n) f6) f7 f8 f9 f10 f11 (if fCpy f10 f11 k x t y n = 0 then cyT f12 f12 (40 * k + x) (40 * t + y) n else f12) ((su (fun _ _ => 0) 13 f13) 13) f20 f21 f22 f23 f24 f25) := hD
                    exact W.iret hx hb hr (fun t ht hW => ⟨⟨_, (su (fun _ _ => 0) 13 f13), rfl, by rw [hf]; rfl, by rw [ht]; exact hP, hD⟩, hS.F ht⟩) hS.2.2 dX5_copy_116
                  · refine lv_iload hx hb dX5_copy_96 (lv_at hl 5 rfl) ?_
                    refine lv_aload_n hx hb dX5_copy_98 rfl (lv_at hl 0 rfl) ?_
                    refine xg_X5 hx hb hts hown hK hP 0 rfl 16 (by decide) fk_X5_40 (v := .ref (a 11)) rfl dX5_copy_99 ?_
                    refine lv_iload_n hx hb dX5_copy_102 rfl (lv_at hl 3 rfl) ?_
                    refine xi_ald hx hb hK hP 11 (f := f11) rfl (i := t) ⟨by have := (hSk (by omega) (by omega)); have := (hSt (by omega) (by omega)); omega, by have := (hSk (by omega) (by omega)); have := (hSt (by omega) (by omega)); omega⟩ rfl dX5_copy_103 ?_
                    refine lv_iload hx hb dX5_copy_104 (lv_at hl 4 rfl) ?_
                    refine xi_sub hx hb dX5_copy_106 ?_
                    refine xi_c_le (tgt := 117) hx hb ⟨by have := (hSk (by omega) (by omega)); have := (hSt (by omega) (by omega)); omega, by have := (hSk (by omega) (by omega)); have := (hSt (by omega) (by omega)); omega⟩ ⟨by have := (hSk (by omega) (by omega)); have := (hSt (by omega) (by omega)); omega, by have := (hSk (by omega) (by omega)); have := (hSt (by omega) (by omega)); omega⟩ dX5_copy_107 (by decide) (fun z25 => ?_) (fun z25 => ?_)
                    · refine lv_iconst (v := iI (0)) hx hb dX5_copy_117 (by decide) ?_
                      refine lv_istore (lv' := [(6, .int (iI 0)), (0, .ref (a 0)), (1, .int (iI k)), (2, .int (iI x)), (3, .int (iI t)), (4, .int (iI y)), (5, .int (iI n))]) hx hb dX5_copy_118 hl (by decide) rfl (fun ls hl => ?_)
                      have lp120 : ∀ (n120 : Nat) (i : Int), (0 ≤ i ∧ i ≤ n) → (n - i).toNat < n120 → ∀ ls : Array Slot, lv_has ls 7 [(6, .int (iI i)), (0, .ref (a 0)), (1, .int (iI k)), (2, .int (iI x)), (3, .int (iI t)), (4, .int (iI y)), (5, .int (iI n))] → ∀ (H : Heap) (locs : List Loc), va_P g.1 vwCl (wM g a f1 f2 f3 f4 f5 f6 f7 f8 f9 f10 f11 f12 (cyT f12 f13 (40 * k + x) 0 i) f20 f21 f22 f23 f24 f25) H → va_D (va_A (wM g a f1 f2 f3 f4 f5 f6 f7 f8 f9 f10 f11 f12 f13 f20 f21 f22 f23 f24 f25) s.heap.size) (wM g a f1 f2 f3 f4 f5 f6 f7 f8 f9 f10 f11 f12 (cyT f12 f13 (40 * k + x) 0 i) f20 f21 f22 f23 f24 f25) → va_S (va_A (wM g a f1 f2 f3 f4 f5 f6 f7 f8 f9 f10 f11 f12 f13 f20 f21 f22 f23 f24 f25) s.heap.size) s.heap H locs → W pq l eq rm_X5_copy s mq [.ref (a 0), .int (iI k), .int (iI x), .int (iI t), .int (iI y), .int (iI n)].toArray below meth cq H locs 0 0 (MQ below (QMi g (fun u9 : Nat → Int → Int => wM g a f1 f2 f3 f4 f5 (fb (fCpy f10 f11 k x t y n) f6) f7 f8 f9 f10 f11 (if fCpy f10 f11 k x t y n = 0 then cyT f12 f12 (40 * k + x) (40 * t + y) n else f12) (u9 13) f20 f21 f22 f23 f24 f25) (fun r9 _ => r9 = ab (fCpy f10 f11 k x t y n) (iI n)) (va_A (wM g a f1 f2 f3 f4 f5 f6 f7 f8 f9 f10 f11 f12 f13 f20 f21 f22 f23 f24 f25) s.heap.size)) [.ref (a 0), .int (iI k), .int (iI x), .int (iI t), .int (iI y), .int (iI n)].toArray s 0 0 (va_A (wM g a f1 f2 f3 f4 f5 f6 f7 f8 f9 f10 f11 f12 f13 f20 f21 f22 f23 f24 f25) s.heap.size)) (F0 mq 120 ls []) := by
                        intro n120
                        induction n120 with
                        | zero => intro i i120_1 hm; exact absurd hm (Nat.not_lt_zero _)
                        | succ n120 ih120 =>
                          intro i i120_1 hm120 ls hl H locs hP hD hS
                          refine lv_iload hx hb dX5_copy_120 (lv_at hl 0 rfl) ?_
                          refine lv_iload hx hb dX5_copy_122 (lv_at hl 6 rfl) ?_
                          refine xi_c_ge (tgt := 154) hx hb ⟨by have := (hSk (by omega) (by omega)); have := (hSt (by omega) (by omega)); omega, by have := (hSk (by omega) (by omega)); have := (hSt (by omega) (by omega)); omega⟩ ⟨by have := (hSk (by omega) (by omega)); have := (hSt (by omega) (by omega)); omega, by have := (hSk (by omega) (by omega)); have := (hSt (by omega) (by omega)); omega⟩ dX5_copy_124 (by decide) (fun z26 => ?_) (fun z26 => ?_)
                          · refine lv_iconst (v := iI (0)) hx hb dX5_copy_154 (by decide) ?_
                            refine lv_istore (lv' := [(6, .int (iI 0)), (0, .ref (a 0)), (1, .int (iI k)), (2, .int (iI x)), (3, .int (iI t)), (4, .int (iI y)), (5, .int (iI n))]) hx hb dX5_copy_155 hl (by decide) rfl (fun ls hl => ?_)
                            have lp157 : ∀ (n157 : Nat) (j : Int), (0 ≤ j ∧ j ≤ n) → (n - j).toNat < n157 → ∀ ls : Array Slot, lv_has ls 7 [(6, .int (iI j)), (0, .ref (a 0)), (1, .int (iI k)), (2, .int (iI x)), (3, .int (iI t)), (4, .int (iI y)), (5, .int (iI n))] → ∀ (H : Heap) (locs : List Loc), va_P g.1 vwCl (wM g a f1 f2 f3 f4 f5 f6 f7 f8 f9 f10 f11 (cyT f12 f12 (40 * k + x) (40 * t + y) j) (cyT f12 f13 (40 * k + x) 0 i) f20 f21 f22 f23 f24 f25) H → va_D (va_A (wM g a f1 f2 f3 f4 f5 f6 f7 f8 f9 f10 f11 f12 f13 f20 f21 f22 f23 f24 f25) s.heap.size) (wM g a f1 f2 f3 f4 f5 f6 f7 f8 f9 f10 f11 (cyT f12 f12 (40 * k + x) (40 * t + y) j) (cyT f12 f13 (40 * k + x) 0 i) f20 f21 f22 f23 f24 f25) → va_S (va_A (wM g a f1 f2 f3 f4 f5 f6 f7 f8 f9 f10 f11 f12 f13 f20 f21 f22 f23 f24 f25) s.heap.size) s.heap H locs → W pq l eq rm_X5_copy s mq [.ref (a 0), .int (iI k), .int (iI x), .int (iI t), .int (iI y), .int (iI n)].toArray below meth cq H locs 0 0 (MQ below (QMi g (fun u9 : Nat → Int → Int => wM g a f1 f2 f3 f4 f5 (fb (fCpy f10 f11 k x t y n) f6) f7 f8 f9 f10 f11 (if fCpy f10 f11 k x t y n = 0 then cyT f12 f12 (40 * k + x) (40 * t + y) n else f12) (u9 13) f20 f21 f22 f23 f24 f25) (fun r9 _ => r9 = ab (fCpy f10 f11 k x t y n) (iI n)) (va_A (wM g a f1 f2 f3 f4 f5 f6 f7 f8 f9 f10 f11 f12 f13 f20 f21 f22 f23 f24 f25) s.heap.size)) [.ref (a 0), .int (iI k), .int (iI x), .int (iI t), .int (iI y), .int (iI n)].toArray s 0 0 (va_A (wM g a f1 f2 f3 f4 f5 f6 f7 f8 f9 f10 f11 f12 f13 f20 f21 f22 f23 f24 f25) s.heap.size)) (F0 mq 157 ls []) := by
                              intro n157
                              induction n157 with
                              | zero => intro j i157_1 hm; exact absurd hm (Nat.not_lt_zero _)
                              | succ n157 ih157 =>
                                intro j i157_1 hm157 ls hl H locs hP hD hS
                                refine lv_iload hx hb dX5_copy_157 (lv_at hl 0 rfl) ?_
                                refine lv_iload hx hb dX5_copy_159 (lv_at hl 6 rfl) ?_
                                refine xi_c_ge (tgt := 192) hx hb ⟨by have := (hSk (by omega) (by omega)); have := (hSt (by omega) (by omega)); omega, by have := (hSk (by omega) (by omega)); have := (hSt (by omega) (by omega)); omega⟩ ⟨by have := (hSk (by omega) (by omega)); have := (hSt (by omega) (by omega)); omega, by have := (hSk (by omega) (by omega)); have := (hSt (by omega) (by omega)); omega⟩ dX5_copy_161 (by decide) (fun z27 => ?_) (fun z27 => ?_)
                                · refine lv_iload hx hb dX5_copy_192 (lv_at hl 6 rfl) ?_
                                  have hf : fCpy f10 f11 k x t y n = 0 := by unfold fCpy; (repeat (first | rw [if_pos (by omega)] | rw [if_neg (by omega)])); first | done | (exfalso; omega)
                                  have he28 : (cyT f12 f12 (40 * k + x) (40 * t + y) j) = (if fCpy f10 f11 k x t y n = 0 then cyT f12 f12 (40 * k + x) (40 * t + y) n else f12) := by rw [hf, if_pos rfl, show j = n by omega]
                                  have hP := Eq.mp (congrArg (fun z9 => va_P g.1 vwCl (wM g a f1 f2 f3 f4 f5 f6 f7 f8 f9 f10 f11 z9 (cyT f12 f13 (40 * k + x) 0 i) f20 f21 f22 f23 f24 f25) H) he28) hP
                                  have hD := Eq.mp (congrArg (fun z9 => va_D (va_A (wM g a f1 f2 f3 f4 f5 f6 f7 f8 f9 f10 f11 f12 f13 f20 f21 f22 f23 f24 f25) s.heap.size) (wM g a f1 f2 f3 f4 f5 f6 f7 f8 f9 f10 f11 z9 (cyT f12 f13 (40 * k + x) 0 i) f20 f21 f22 f23 f24 f25)) he28) hD
                                  have he29 : f6 = (fb (fCpy f10 f11 k x t y n) f6) := by rw [hf]; rfl
                                  have hP := Eq.mp (congrArg (fun z9 => va_P g.1 vwCl (wM g a f1 f2 f3 f4 f5 z9 f7 f8 f9 f10 f11 (if fCpy f10 f11 k x t y n = 0 then cyT f12 f12 (40 * k + x) (40 * t + y) n else f12) (cyT f12 f13 (40 * k + x) 0 i) f20 f21 f22 f23 f24 f25) H) he29) hP
                                  have hD := Eq.mp (congrArg (fun z9 => va_D (va_A (wM g a f1 f2 f3 f4 f5 f6 f7 f8 f9 f10 f11 f12 f13 f20 f21 f22 f23 f24 f25) s.heap.size) (wM g a f1 f2 f3 f4 f5 z9 f7 f8 f9 f10 f11 (if fCpy f10 f11 k x t y n = 0 then cyT f12 f12 (40 * k + x) (40 * t + y) n else f12) (cyT f12 f13 (40 * k + x) 0 i) f20 f21 f22 f23 f24 f25)) he29) hD
                                  have hP : va_P g.1 vwCl (wM g a f1 f2 f3 f4 f5 (fb (fCpy f10 f11 k x t y n) f6) f7 f8 f9 f10 f11 (if fCpy f10 f11 k x t y n = 0 then cyT f12 f12 (40 * k + x) (40 * t + y) n else f12) ((su (fun _ _ => 0) 13 (cyT f12 f13 (40 * k + x) 0 i)) 13) f20 f21 f22 f23 f24 f25) H := hP
                                  have hD : va_D (va_A (wM g a f1 f2 f3 f4 f5 f6 f7 f8 f9 f10 f11 f12 f13 f20 f21 f22 f23 f24 f25) s.heap.size) (wM g a f1 f2 f3 f4 f5 (fb (fCpy f10 f11 k x t y n) f6) f7 f8 f9 f10 f11 (if fCpy f10 f11 k x t y n = 0 then cyT f12 f12 (40 * k + x) (40 * t + y) n else f12) ((su (fun _ _ => 0) 13 (cyT f12 f13 (40 * k + x) 0 i)) 13) f20 f21 f22 f23 f24 f25) := hD
                                  exact W.iret hx hb hr (fun t ht hW => ⟨⟨_, (su (fun _ _ => 0) 13 (cyT f12 f13 (40 * k + x) 0 i)), rfl, by rw [hf, ab_0], by rw [ht]; exact hP, hD⟩, hS.F ht⟩) hS.2.2 dX5_copy_194
                                · refine lv_aload_n hx hb dX5_copy_164 rfl (lv_at hl 1 rfl) ?_
                                  refine xg_X5 hx hb hts hown hK hP 0 rfl 17 (by decide) fk_X5_43 (v := .ref (a 12)) rfl dX5_copy_165 ?_
                                  refine lv_bipush (v := iI (40)) hx hb dX5_copy_168 (by decide) ?_
                                  refine lv_iload_n hx hb dX5_copy_170 rfl (lv_at hl 4 rfl) ?_
                                  refine xi_mul hx hb dX5_copy_171 ?_
                                  refine lv_iload hx hb dX5_copy_172 (lv_at hl 5 rfl) ?_
                                  refine xi_add hx hb dX5_copy_174 ?_
                                  refine lv_iload hx hb dX5_copy_175 (lv_at hl 0 rfl) ?_
                                  refine xi_add hx hb dX5_copy_177 ?_
                                  refine lv_aload_n hx hb dX5_copy_178 rfl (lv_at hl 1 rfl) ?_
                                  refine xg_X5 hx hb hts hown hK hP 0 rfl 18 (by decide) fk_X5_47 (v := .ref (a 13)) rfl dX5_copy_179 ?_
                                  refine lv_iload hx hb dX5_copy_182 (lv_at hl 0 rfl) ?_
                                  refine xl_ald hx hb hK hP 13 (f := cyT f12 f13 (40 * k + x) 0 i) rfl (i := j) ⟨by have := (hSk (by omega) (by omega)); have := (hSt (by omega) (by omega)); omega, by have := (hSk (by omega) (by omega)); have := (hSt (by omega) (by omega)); omega⟩ rfl dX5_copy_184 ?_
                                  refine xl_ast hx hb hK hP hD hS 12 (f := cyT f12 f12 (40 * k + x) (40 * t + y) j) rfl (i := 40 * t + y + j) (v := (cyT f12 f13 (40 * k + x) 0 i) j) ⟨by have := (hSk (by omega) (by omega)); have := (hSt (by omega) (by omega)); omega, by have := (hSk (by omega) (by omega)); have := (hSt (by omega) (by omega)); omega⟩ rfl dX5_copy_185 (fun H locs hP hD hS => ?_)
                                  have hP : va_P g.1 vwCl (wM g a f1 f2 f3 f4 f5 f6 f7 f8 f9 f10 f11 (up (cyT f12 f12 (40 * k + x) (40 * t + y) j) (40 * t + y + j) ((cyT f12 f13 (40 * k + x) 0 i) j)) (cyT f12 f13 (40 * k + x) 0 i) f20 f21 f22 f23 f24 f25) H := hP
                                  have hD : va_D (va_A (wM g a f1 f2 f3 f4 f5 f6 f7 f8 f9 f10 f11 f12 f13 f20 f21 f22 f23 f24 f25) s.heap.size) (wM g a f1 f2 f3 f4 f5 f6 f7 f8 f9 f10 f11 (up (cyT f12 f12 (40 * k + x) (40 * t + y) j) (40 * t + y + j) ((cyT f12 f13 (40 * k + x) 0 i) j)) (cyT f12 f13 (40 * k + x) 0 i) f20 f21 f22 f23 f24 f25) := hD
                                  refine xi_inc (lv' := [(6, .int (iI (j + 1))), (0, .ref (a 0)), (1, .int (iI k)), (2, .int (iI x)), (3, .int (iI t)), (4, .int (iI y)), (5, .int (iI n))]) hx hb dX5_copy_186 hl (k := 0) rfl (by decide) rfl (fun ls hl => ?_)
                                  refine lv_goto (tgt := 157) hx hb dX5_copy_189 (by decide) ?_
                                  have hq30 : (up (cyT f12 f12 (40 * k + x) (40 * t + y) j) (40 * t + y + j) ((cyT f12 f13 (40 * k + x) 0 i) j)) = (cyT f12 f12 (40 * k + x) (40 * t + y) (j + 1)) := by rw [← cyT_S f12 f12 (40 * k + x) (40 * t + y) i157_1.1]; congr 1; simp only [cyT]; rw [if_pos (by omega), Int.sub_zero]
                                  have hP := Eq.mp (congrArg (fun z9 => va_P g.1 vwCl (wM g a f1 f2 f3 f4 f5 f6 f7 f8 f9 f10 f11 z9 (cyT f12 f13 (40 * k + x) 0 i) f20 f21 f22 f23 f24 f25) H) hq30) hP
                                  have hD := Eq.mp (congrArg (fun z9 => va_D (va_A (wM g a f1 f2 f3 f4 f5 f6 f7 f8 f9 f10 f11 f12 f13 f20 f21 f22 f23 f24 f25) s.heap.size) (wM g a f1 f2 f3 f4 f5 f6 f7 f8 f9 f10 f11 z9 (cyT f12 f13 (40 * k + x) 0 i) f20 f21 f22 f23 f24 f25)) hq30) hD
                                  exact ih157 (j + 1) (by omega) (by omega) ls (lv_sub hl [0, 1, 2, 3, 4, 5, 6] rfl) H locs hP hD hS
                            have hq31 : f12 = (cyT f12 f12 (40 * k + x) (40 * t + y) 0) := cyT_0 f12 f12 (40 * k + x) (40 * t + y)
                            have hP := Eq.mp (congrArg (fun z9 => va_P g.1 vwCl (wM g a f1 f2 f3 f4 f5 f6 f7 f8 f9 f10 f11 z9 (cyT f12 f13 (40 * k + x) 0 i) f20 f21 f22 f23 f24 f25) H) hq31) hP
                            have hD := Eq.mp (congrArg (fun z9 => va_D (va_A (wM g a f1 f2 f3 f4 f5 f6 f7 f8 f9 f10 f11 f12 f13 f20 f21 f22 f23 f24 f25) s.heap.size) (wM g a f1 f2 f3 f4 f5 f6 f7 f8 f9 f10 f11 z9 (cyT f12 f13 (40 * k + x) 0 i) f20 f21 f22 f23 f24 f25)) hq31) hD
                            exact lp157 (n.toNat + 1) 0 (by omega) (by omega) ls (lv_sub hl [0, 1, 2, 3, 4, 5, 6] rfl) H locs hP hD hS
                          · refine lv_aload_n hx hb dX5_copy_127 rfl (lv_at hl 1 rfl) ?_
                            refine xg_X5 hx hb hts hown hK hP 0 rfl 18 (by decide) fk_X5_47 (v := .ref (a 13)) rfl dX5_copy_128 ?_
                            refine lv_iload hx hb dX5_copy_131 (lv_at hl 0 rfl) ?_
                            refine lv_aload_n hx hb dX5_copy_133 rfl (lv_at hl 1 rfl) ?_
                            refine xg_X5 hx hb hts hown hK hP 0 rfl 17 (by decide) fk_X5_43 (v := .ref (a 12)) rfl dX5_copy_134 ?_
                            refine lv_bipush (v := iI (40)) hx hb dX5_copy_137 (by decide) ?_
                            refine lv_iload_n hx hb dX5_copy_139 rfl (lv_at hl 2 rfl) ?_
                            refine xi_mul hx hb dX5_copy_140 ?_
                            refine lv_iload_n hx hb dX5_copy_141 rfl (lv_at hl 3 rfl) ?_
                            refine xi_add hx hb dX5_copy_142 ?_
                            refine lv_iload hx hb dX5_copy_143 (lv_at hl 0 rfl) ?_
                            refine xi_add hx hb dX5_copy_145 ?_
                            refine xl_ald hx hb hK hP 12 (f := f12) rfl (i := 40 * k + x + i) ⟨by have := (hSk (by omega) (by omega)); have := (hSt (by omega) (by omega)); omega, by have := (hSk (by omega) (by omega)); have := (hSt (by omega) (by omega)); omega⟩ rfl dX5_copy_146 ?_
                            refine xl_ast hx hb hK hP hD hS 13 (f := cyT f12 f13 (40 * k + x) 0 i) rfl (i := i) (v := f12 (40 * k + x + i)) ⟨by have := (hSk (by omega) (by omega)); have := (hSt (by omega) (by omega)); omega, by have := (hSk (by omega) (by omega)); have := (hSt (by omega) (by omega)); omega⟩ rfl dX5_copy_147 (fun H locs hP hD hS => ?_)
                            have hP : va_P g.1 vwCl (wM g a f1 f2 f3 f4 f5 f6 f7 f8 f9 f10 f11 f12 (up (cyT f12 f13 (40 * k + x) 0 i) i (f12 (40 * k + x + i))) f20 f21 f22 f23 f24 f25) H := hP
                            have hD : va_D (va_A (wM g a f1 f2 f3 f4 f5 f6 f7 f8 f9 f10 f11 f12 f13 f20 f21 f22 f23 f24 f25) s.heap.size) (wM g a f1 f2 f3 f4 f5 f6 f7 f8 f9 f10 f11 f12 (up (cyT f12 f13 (40 * k + x) 0 i) i (f12 (40 * k + x + i))) f20 f21 f22 f23 f24 f25) := hD
                            refine xi_inc (lv' := [(6, .int (iI (i + 1))), (0, .ref (a 0)), (1, .int (iI k)), (2, .int (iI x)), (3, .int (iI t)), (4, .int (iI y)), (5, .int (iI n))]) hx hb dX5_copy_148 hl (k := 0) rfl (by decide) rfl (fun ls hl => ?_)
                            refine lv_goto (tgt := 120) hx hb dX5_copy_151 (by decide) ?_
                            have hq32 : (up (cyT f12 f13 (40 * k + x) 0 i) i (f12 (40 * k + x + i))) = (cyT f12 f13 (40 * k + x) 0 (i + 1)) := by rw [← cyT_S f12 f13 (40 * k + x) 0 i120_1.1, Int.zero_add]
                            have hP := Eq.mp (congrArg (fun z9 => va_P g.1 vwCl (wM g a f1 f2 f3 f4 f5 f6 f7 f8 f9 f10 f11 f12 z9 f20 f21 f22 f23 f24 f25) H) hq32) hP
                            have hD := Eq.mp (congrArg (fun z9 => va_D (va_A (wM g a f1 f2 f3 f4 f5 f6 f7 f8 f9 f10 f11 f12 f13 f20 f21 f22 f23 f24 f25) s.heap.size) (wM g a f1 f2 f3 f4 f5 f6 f7 f8 f9 f10 f11 f12 z9 f20 f21 f22 f23 f24 f25)) hq32) hD
                            exact ih120 (i + 1) (by omega) (by omega) ls (lv_sub hl [0, 1, 2, 3, 4, 5, 6] rfl) H locs hP hD hS
                      have hq33 : f13 = (cyT f12 f13 (40 * k + x) 0 0) := cyT_0 f12 f13 (40 * k + x) 0
                      have hP := Eq.mp (congrArg (fun z9 => va_P g.1 vwCl (wM g a f1 f2 f3 f4 f5 f6 f7 f8 f9 f10 f11 f12 z9 f20 f21 f22 f23 f24 f25) s.heap) hq33) hP
                      have hD := Eq.mp (congrArg (fun z9 => va_D (va_A (wM g a f1 f2 f3 f4 f5 f6 f7 f8 f9 f10 f11 f12 f13 f20 f21 f22 f23 f24 f25) s.heap.size) (wM g a f1 f2 f3 f4 f5 f6 f7 f8 f9 f10 f11 f12 z9 f20 f21 f22 f23 f24 f25)) hq33) hD
                      exact lp120 (n.toNat + 1) 0 (by omega) (by omega) ls (lv_sub hl [0, 1, 2, 3, 4, 5, 6] rfl) s.heap [] hP hD hS
                    · refine lv_aload_n hx hb dX5_copy_110 rfl (lv_at hl 0 rfl) ?_
                      refine xi_ldc hx hb hown hts kk_X5_50 dX5_copy_111 ?_
                      refine xm_i (rV (rest := []) hx hb hml hown hts hK hl (c_X5_finds l g a f1 f2 f3 f4 f5 f6 f7 f8 f9 f10 f11 f12 f13 f20 f21 f22 f23 f24 f25 (-1000000001) (s.heap).size (show 0 ≤ -1000000001 - (-1000000001) ∧ -1000000001 - (-1000000001) < 7 from by omega)) lk_X5_74 ⟨rfl, hP, hD.weaken (fun _ _ _ _ => trivial)⟩ (va_recv hK.1 hP (ci := 5) (q0 := 0) rfl rfl) rfl rfl rfl (Rm.of rfl) rfl rfl dX5_copy_113) hD hS hA (fun x9 _ H locs hw hP hD hS => ?_)
                      obtain rfl : x9 = iI (-1000000001) := hw
                      have hP : va_P g.1 vwCl (wM g a f1 f2 f3 f4 f5 (fb (-1000000000 - (-1000000001)) f6) f7 f8 f9 f10 f11 f12 f13 f20 f21 f22 f23 f24 f25) H := hP
                      have hD : va_D (va_A (wM g a f1 f2 f3 f4 f5 f6 f7 f8 f9 f10 f11 f12 f13 f20 f21 f22 f23 f24 f25) s.heap.size) (wM g a f1 f2 f3 f4 f5 (fb (-1000000000 - (-1000000001)) f6) f7 f8 f9 f10 f11 f12 f13 f20 f21 f22 f23 f24 f25) := hD
                      have hf : fCpy f10 f11 k x t y n = 1 := by unfold fCpy; (repeat (first | rw [if_pos (by omega)] | rw [if_neg (by omega)])); first | done | (exfalso; omega)
                      have he35 : f12 = (if fCpy f10 f11 k x t y n = 0 then cyT f12 f12 (40 * k + x) (40 * t + y) n else f12) := by rw [hf]; rfl
                      have hP := Eq.mp (congrArg (fun z9 => va_P g.1 vwCl (wM g a f1 f2 f3 f4 f5 (fb (-1000000000 - (-1000000001)) f6) f7 f8 f9 f10 f11 z9 f13 f20 f21 f22 f23 f24 f25) H) he35) hP
                      have hD := Eq.mp (congrArg (fun z9 => va_D (va_A (wM g a f1 f2 f3 f4 f5 f6 f7 f8 f9 f10 f11 f12 f13 f20 f21 f22 f23 f24 f25) s.heap.size) (wM g a f1 f2 f3 f4 f5 (fb (-1000000000 - (-1000000001)) f6) f7 f8 f9 f10 f11 z9 f13 f20 f21 f22 f23 f24 f25)) he35) hD
                      have he36 : (fb (-1000000000 - (-1000000001)) f6) = (fb (fCpy f10 f11 k x t y n) f6) := by rw [hf]; rfl
                      have hP := Eq.mp (congrArg (fun z9 => va_P g.1 vwCl (wM g a f1 f2 f3 f4 f5 z9 f7 f8 f9 f10 f11 (if fCpy f10 f11 k x t y n = 0 then cyT f12 f12 (40 * k + x) (40 * t + y) n else f12) f13 f20 f21 f22 f23 f24 f25) H) he36) hP
                      have hD := Eq.mp (congrArg (fun z9 => va_D (va_A (wM g a f1 f2 f3 f4 f5 f6 f7 f8 f9 f10 f11 f12 f13 f20 f21 f22 f23 f24 f25) s.heap.size) (wM g a f1 f2 f3 f4 f5 z9 f7 f8 f9 f10 f11 (if fCpy f10 f11 k x t y n = 0 then cyT f12 f12 (40 * k + x) (40 * t + y) n else f12) f13 f20 f21 f22 f23 f24 f25)) he36) hD
                      have hP : va_P g.1 vwCl (wM g a f1 f2 f3 f4 f5 (fb (fCpy f10 f11 k x t y n) f6) f7 f8 f9 f10 f11 (if fCpy f10 f11 k x t y n = 0 then cyT f12 f12 (40 * k + x) (40 * t + y) n else f12) ((su (fun _ _ => 0) 13 f13) 13) f20 f21 f22 f23 f24 f25) H := hP
                      have hD : va_D (va_A (wM g a f1 f2 f3 f4 f5 f6 f7 f8 f9 f10 f11 f12 f13 f20 f21 f22 f23 f24 f25) s.heap.size) (wM g a f1 f2 f3 f4 f5 (fb (fCpy f10 f11 k x t y n) f6) f7 f8 f9 f10 f11 (if fCpy f10 f11 k x t y n = 0 then cyT f12 f12 (40 * k + x) (40 * t + y) n else f12) ((su (fun _ _ => 0) 13 f13) 13) f20 f21 f22 f23 f24 f25) := hD
                      exact W.iret hx hb hr (fun t ht hW => ⟨⟨_, (su (fun _ _ => 0) 13 f13), rfl, by rw [hf]; rfl, by rw [ht]; exact hP, hD⟩, hS.F ht⟩) hS.2.2 dX5_copy_116
          · refine lv_aload_n hx hb dX5_copy_62 rfl (lv_at hl 0 rfl) ?_
            refine xi_ldc hx hb hown hts kk_X5_141 dX5_copy_63 ?_
            refine xm_i (rV (rest := []) hx hb hml hown hts hK hl (c_X5_finds l g a f1 f2 f3 f4 f5 f6 f7 f8 f9 f10 f11 f12 f13 f20 f21 f22 f23 f24 f25 (-1000000003) (s.heap).size (show 0 ≤ -1000000001 - (-1000000003) ∧ -1000000001 - (-1000000003) < 7 from by omega)) lk_X5_74 ⟨rfl, hP, hD.weaken (fun _ _ _ _ => trivial)⟩ (va_recv hK.1 hP (ci := 5) (q0 := 0) rfl rfl) rfl rfl rfl (Rm.of rfl) rfl rfl dX5_copy_65) hD hS hA (fun x9 _ H locs hw hP hD hS => ?_)
            obtain rfl : x9 = iI (-1000000003) := hw
            have hP : va_P g.1 vwCl (wM g a f1 f2 f3 f4 f5 (fb (-1000000000 - (-1000000003)) f6) f7 f8 f9 f10 f11 f12 f13 f20 f21 f22 f23 f24 f25) H := hP
            have hD : va_D (va_A (wM g a f1 f2 f3 f4 f5 f6 f7 f8 f9 f10 f11 f12 f13 f20 f21 f22 f23 f24 f25) s.heap.size) (wM g a f1 f2 f3 f4 f5 (fb (-1000000000 - (-1000000003)) f6) f7 f8 f9 f10 f11 f12 f13 f20 f21 f22 f23 f24 f25) := hD
            have hf : fCpy f10 f11 k x t y n = 3 := by unfold fCpy; (repeat (first | rw [if_pos (by omega)] | rw [if_neg (by omega)])); first | done | (exfalso; omega)
            have he38 : f12 = (if fCpy f10 f11 k x t y n = 0 then cyT f12 f12 (40 * k + x) (40 * t + y) n else f12) := by rw [hf]; rfl
            have hP := Eq.mp (congrArg (fun z9 => va_P g.1 vwCl (wM g a f1 f2 f3 f4 f5 (fb (-1000000000 - (-1000000003)) f6) f7 f8 f9 f10 f11 z9 f13 f20 f21 f22 f23 f24 f25) H) he38) hP
            have hD := Eq.mp (congrArg (fun z9 => va_D (va_A (wM g a f1 f2 f3 f4 f5 f6 f7 f8 f9 f10 f11 f12 f13 f20 f21 f22 f23 f24 f25) s.heap.size) (wM g a f1 f2 f3 f4 f5 (fb (-1000000000 - (-1000000003)) f6) f7 f8 f9 f10 f11 z9 f13 f20 f21 f22 f23 f24 f25)) he38) hD
            have he39 : (fb (-1000000000 - (-1000000003)) f6) = (fb (fCpy f10 f11 k x t y n) f6) := by rw [hf]; rfl
            have hP := Eq.mp (congrArg (fun z9 => va_P g.1 vwCl (wM g a f1 f2 f3 f4 f5 z9 f7 f8 f9 f10 f11 (if fCpy f10 f11 k x t y n = 0 then cyT f12 f12 (40 * k + x) (40 * t + y) n else f12) f13 f20 f21 f22 f23 f24 f25) H) he39) hP
            have hD := Eq.mp (congrArg (fun z9 => va_D (va_A (wM g a f1 f2 f3 f4 f5 f6 f7 f8 f9 f10 f11 f12 f13 f20 f21 f22 f23 f24 f25) s.heap.size) (wM g a f1 f2 f3 f4 f5 z9 f7 f8 f9 f10 f11 (if fCpy f10 f11 k x t y n = 0 then cyT f12 f12 (40 * k + x) (40 * t + y) n else f12) f13 f20 f21 f22 f23 f24 f25)) he39) hD
            have hP : va_P g.1 vwCl (wM g a f1 f2 f3 f4 f5 (fb (fCpy f10 f11 k x t y n) f6) f7 f8 f9 f10 f11 (if fCpy f10 f11 k x t y n = 0 then cyT f12 f12 (40 * k + x) (40 * t + y) n else f12) ((su (fun _ _ => 0) 13 f13) 13) f20 f21 f22 f23 f24 f25) H := hP
            have hD : va_D (va_A (wM g a f1 f2 f3 f4 f5 f6 f7 f8 f9 f10 f11 f12 f13 f20 f21 f22 f23 f24 f25) s.heap.size) (wM g a f1 f2 f3 f4 f5 (fb (fCpy f10 f11 k x t y n) f6) f7 f8 f9 f10 f11 (if fCpy f10 f11 k x t y n = 0 then cyT f12 f12 (40 * k + x) (40 * t + y) n else f12) ((su (fun _ _ => 0) 13 f13) 13) f20 f21 f22 f23 f24 f25) := hD
            exact W.iret hx hb hr (fun t ht hW => ⟨⟨_, (su (fun _ _ => 0) 13 f13), rfl, by rw [hf]; rfl, by rw [ht]; exact hP, hD⟩, hS.F ht⟩) hS.2.2 dX5_copy_68
        · refine lv_aload_n hx hb dX5_copy_39 rfl (lv_at hl 0 rfl) ?_
          refine xi_ldcw hx hb hown hts kk_X5_316 dX5_copy_40 ?_
          refine xm_i (rV (rest := []) hx hb hml hown hts hK hl (c_X5_finds l g a f1 f2 f3 f4 f5 f6 f7 f8 f9 f10 f11 f12 f13 f20 f21 f22 f23 f24 f25 (-1000000006) (s.heap).size (show 0 ≤ -1000000001 - (-1000000006) ∧ -1000000001 - (-1000000006) < 7 from by omega)) lk_X5_74 ⟨rfl, hP, hD.weaken (fun _ _ _ _ => trivial)⟩ (va_recv hK.1 hP (ci := 5) (q0 := 0) rfl rfl) rfl rfl rfl (Rm.of rfl) rfl rfl dX5_copy_43) hD hS hA (fun x9 _ H locs hw hP hD hS => ?_)
          obtain rfl : x9 = iI (-1000000006) := hw
          have hP : va_P g.1 vwCl (wM g a f1 f2 f3 f4 f5 (fb (-1000000000 - (-1000000006)) f6) f7 f8 f9 f10 f11 f12 f13 f20 f21 f22 f23 f24 f25) H := hP
          have hD : va_D (va_A (wM g a f1 f2 f3 f4 f5 f6 f7 f8 f9 f10 f11 f12 f13 f20 f21 f22 f23 f24 f25) s.heap.size) (wM g a f1 f2 f3 f4 f5 (fb (-1000000000 - (-1000000006)) f6) f7 f8 f9 f10 f11 f12 f13 f20 f21 f22 f23 f24 f25) := hD
          have hf : fCpy f10 f11 k x t y n = 6 := by unfold fCpy; (repeat (first | rw [if_pos (by omega)] | rw [if_neg (by omega)])); first | done | (exfalso; omega)
          have he41 : f12 = (if fCpy f10 f11 k x t y n = 0 then cyT f12 f12 (40 * k + x) (40 * t + y) n else f12) := by rw [hf]; rfl
          have hP := Eq.mp (congrArg (fun z9 => va_P g.1 vwCl (wM g a f1 f2 f3 f4 f5 (fb (-1000000000 - (-1000000006)) f6) f7 f8 f9 f10 f11 z9 f13 f20 f21 f22 f23 f24 f25) H) he41) hP
          have hD := Eq.mp (congrArg (fun z9 => va_D (va_A (wM g a f1 f2 f3 f4 f5 f6 f7 f8 f9 f10 f11 f12 f13 f20 f21 f22 f23 f24 f25) s.heap.size) (wM g a f1 f2 f3 f4 f5 (fb (-1000000000 - (-1000000006)) f6) f7 f8 f9 f10 f11 z9 f13 f20 f21 f22 f23 f24 f25)) he41) hD
          have he42 : (fb (-1000000000 - (-1000000006)) f6) = (fb (fCpy f10 f11 k x t y n) f6) := by rw [hf]; rfl
          have hP := Eq.mp (congrArg (fun z9 => va_P g.1 vwCl (wM g a f1 f2 f3 f4 f5 z9 f7 f8 f9 f10 f11 (if fCpy f10 f11 k x t y n = 0 then cyT f12 f12 (40 * k + x) (40 * t + y) n else f12) f13 f20 f21 f22 f23 f24 f25) H) he42) hP
          have hD := Eq.mp (congrArg (fun z9 => va_D (va_A (wM g a f1 f2 f3 f4 f5 f6 f7 f8 f9 f10 f11 f12 f13 f20 f21 f22 f23 f24 f25) s.heap.size) (wM g a f1 f2 f3 f4 f5 z9 f7 f8 f9 f10 f11 (if fCpy f10 f11 k x t y n = 0 then cyT f12 f12 (40 * k + x) (40 * t + y) n else f12) f13 f20 f21 f22 f23 f24 f25)) he42) hD
          have hP : va_P g.1 vwCl (wM g a f1 f2 f3 f4 f5 (fb (fCpy f10 f11 k x t y n) f6) f7 f8 f9 f10 f11 (if fCpy f10 f11 k x t y n = 0 then cyT f12 f12 (40 * k + x) (40 * t + y) n else f12) ((su (fun _ _ => 0) 13 f13) 13) f20 f21 f22 f23 f24 f25) H := hP
          have hD : va_D (va_A (wM g a f1 f2 f3 f4 f5 f6 f7 f8 f9 f10 f11 f12 f13 f20 f21 f22 f23 f24 f25) s.heap.size) (wM g a f1 f2 f3 f4 f5 (fb (fCpy f10 f11 k x t y n) f6) f7 f8 f9 f10 f11 (if fCpy f10 f11 k x t y n = 0 then cyT f12 f12 (40 * k + x) (40 * t + y) n else f12) ((su (fun _ _ => 0) 13 f13) 13) f20 f21 f22 f23 f24 f25) := hD
          exact W.iret hx hb hr (fun t ht hW => ⟨⟨_, (su (fun _ _ => 0) 13 f13), rfl, by rw [hf]; rfl, by rw [ht]; exact hP, hD⟩, hS.F ht⟩) hS.2.2 dX5_copy_46
    · refine xi_zf_ne hx hb ⟨by decide, by decide⟩ (by decide) dX5_copy_11 ⟨21, by decide⟩ ?_
      refine lv_aload_n hx hb dX5_copy_14 rfl (lv_at hl 0 rfl) ?_
      refine xi_ldc hx hb hown hts kk_X5_50 dX5_copy_15 ?_
      refine xm_i (rV (rest := []) hx hb hml hown hts hK hl (c_X5_finds l g a f1 f2 f3 f4 f5 f6 f7 f8 f9 f10 f11 f12 f13 f20 f21 f22 f23 f24 f25 (-1000000001) (s.heap).size (show 0 ≤ -1000000001 - (-1000000001) ∧ -1000000001 - (-1000000001) < 7 from by omega)) lk_X5_74 ⟨rfl, hP, hD.weaken (fun _ _ _ _ => trivial)⟩ (va_recv hK.1 hP (ci := 5) (q0 := 0) rfl rfl) rfl rfl rfl (Rm.of rfl) rfl rfl dX5_copy_17) hD hS hA (fun x9 _ H locs hw hP hD hS => ?_)
      obtain rfl : x9 = iI (-1000000001) := hw
      have hP : va_P g.1 vwCl (wM g a f1 f2 f3 f4 f5 (fb (-1000000000 - (-1000000001)) f6) f7 f8 f9 f10 f11 f12 f13 f20 f21 f22 f23 f24 f25) H := hP
      have hD : va_D (va_A (wM g a f1 f2 f3 f4 f5 f6 f7 f8 f9 f10 f11 f12 f13 f20 f21 f22 f23 f24 f25) s.heap.size) (wM g a f1 f2 f3 f4 f5 (fb (-1000000000 - (-1000000001)) f6) f7 f8 f9 f10 f11 f12 f13 f20 f21 f22 f23 f24 f25) := hD
      have hf : fCpy f10 f11 k x t y n = 1 := by unfold fCpy; (repeat (first | rw [if_pos (by omega)] | rw [if_neg (by omega)])); first | done | (exfalso; omega)
      have he44 : f12 = (if fCpy f10 f11 k x t y n = 0 then cyT f12 f12 (40 * k + x) (40 * t + y) n else f12) := by rw [hf]; rfl
      have hP := Eq.mp (congrArg (fun z9 => va_P g.1 vwCl (wM g a f1 f2 f3 f4 f5 (fb (-1000000000 - (-1000000001)) f6) f7 f8 f9 f10 f11 z9 f13 f20 f21 f22 f23 f24 f25) H) he44) hP
      have hD := Eq.mp (congrArg (fun z9 => va_D (va_A (wM g a f1 f2 f3 f4 f5 f6 f7 f8 f9 f10 f11 f12 f13 f20 f21 f22 f23 f24 f25) s.heap.size) (wM g a f1 f2 f3 f4 f5 (fb (-1000000000 - (-1000000001)) f6) f7 f8 f9 f10 f11 z9 f13 f20 f21 f22 f23 f24 f25)) he44) hD
      have he45 : (fb (-1000000000 - (-1000000001)) f6) = (fb (fCpy f10 f11 k x t y n) f6) := by rw [hf]; rfl
      have hP := Eq.mp (congrArg (fun z9 => va_P g.1 vwCl (wM g a f1 f2 f3 f4 f5 z9 f7 f8 f9 f10 f11 (if fCpy f10 f11 k x t y n = 0 then cyT f12 f12 (40 * k + x) (40 * t + y) n else f12) f13 f20 f21 f22 f23 f24 f25) H) he45) hP
      have hD := Eq.mp (congrArg (fun z9 => va_D (va_A (wM g a f1 f2 f3 f4 f5 f6 f7 f8 f9 f10 f11 f12 f13 f20 f21 f22 f23 f24 f25) s.heap.size) (wM g a f1 f2 f3 f4 f5 z9 f7 f8 f9 f10 f11 (if fCpy f10 f11 k x t y n = 0 then cyT f12 f12 (40 * k + x) (40 * t + y) n else f12) f13 f20 f21 f22 f23 f24 f25)) he45) hD
      have hP : va_P g.1 vwCl (wM g a f1 f2 f3 f4 f5 (fb (fCpy f10 f11 k x t y n) f6) f7 f8 f9 f10 f11 (if fCpy f10 f11 k x t y n = 0 then cyT f12 f12 (40 * k + x) (40 * t + y) n else f12) ((su (fun _ _ => 0) 13 f13) 13) f20 f21 f22 f23 f24 f25) H := hP
      have hD : va_D (va_A (wM g a f1 f2 f3 f4 f5 f6 f7 f8 f9 f10 f11 f12 f13 f20 f21 f22 f23 f24 f25) s.heap.size) (wM g a f1 f2 f3 f4 f5 (fb (fCpy f10 f11 k x t y n) f6) f7 f8 f9 f10 f11 (if fCpy f10 f11 k x t y n = 0 then cyT f12 f12 (40 * k + x) (40 * t + y) n else f12) ((su (fun _ _ => 0) 13 f13) 13) f20 f21 f22 f23 f24 f25) := hD
      exact W.iret hx hb hr (fun t ht hW => ⟨⟨_, (su (fun _ _ => 0) 13 f13), rfl, by rw [hf]; rfl, by rw [ht]; exact hP, hD⟩, hS.F ht⟩) hS.2.2 dX5_copy_20
  · refine xi_zt_eq (tgt := 14) hx hb ⟨by decide, by decide⟩ (by decide) dX5_copy_4 (by decide) ?_
    refine lv_aload_n hx hb dX5_copy_14 rfl (lv_at hl 0 rfl) ?_
    refine xi_ldc hx hb hown hts kk_X5_50 dX5_copy_15 ?_
    refine xm_i (rV (rest := []) hx hb hml hown hts hK hl (c_X5_finds l g a f1 f2 f3 f4 f5 f6 f7 f8 f9 f10 f11 f12 f13 f20 f21 f22 f23 f24 f25 (-1000000001) (s.heap).size (show 0 ≤ -1000000001 - (-1000000001) ∧ -1000000001 - (-1000000001) < 7 from by omega)) lk_X5_74 ⟨rfl, hP, hD.weaken (fun _ _ _ _ => trivial)⟩ (va_recv hK.1 hP (ci := 5) (q0 := 0) rfl rfl) rfl rfl rfl (Rm.of rfl) rfl rfl dX5_copy_17) hD hS hA (fun x9 _ H locs hw hP hD hS => ?_)
    obtain rfl : x9 = iI (-1000000001) := hw
    have hP : va_P g.1 vwCl (wM g a f1 f2 f3 f4 f5 (fb (-1000000000 - (-1000000001)) f6) f7 f8 f9 f10 f11 f12 f13 f20 f21 f22 f23 f24 f25) H := hP
    have hD : va_D (va_A (wM g a f1 f2 f3 f4 f5 f6 f7 f8 f9 f10 f11 f12 f13 f20 f21 f22 f23 f24 f25) s.heap.size) (wM g a f1 f2 f3 f4 f5 (fb (-1000000000 - (-1000000001)) f6) f7 f8 f9 f10 f11 f12 f13 f20 f21 f22 f23 f24 f25) := hD
    have hf : fCpy f10 f11 k x t y n = 1 := by unfold fCpy; (repeat (first | rw [if_pos (by omega)] | rw [if_neg (by omega)])); first | done | (exfalso; omega)
    have he47 : f12 = (if fCpy f10 f11 k x t y n = 0 then cyT f12 f12 (40 * k + x) (40 * t + y) n else f12) := by rw [hf]; rfl
    have hP := Eq.mp (congrArg (fun z9 => va_P g.1 vwCl (wM g a f1 f2 f3 f4 f5 (fb (-1000000000 - (-1000000001)) f6) f7 f8 f9 f10 f11 z9 f13 f20 f21 f22 f23 f24 f25) H) he47) hP
    have hD := Eq.mp (congrArg (fun z9 => va_D (va_A (wM g a f1 f2 f3 f4 f5 f6 f7 f8 f9 f10 f11 f12 f13 f20 f21 f22 f23 f24 f25) s.heap.size) (wM g a f1 f2 f3 f4 f5 (fb (-1000000000 - (-1000000001)) f6) f7 f8 f9 f10 f11 z9 f13 f20 f21 f22 f23 f24 f25)) he47) hD
    have he48 : (fb (-1000000000 - (-1000000001)) f6) = (fb (fCpy f10 f11 k x t y n) f6) := by rw [hf]; rfl
    have hP := Eq.mp (congrArg (fun z9 => va_P g.1 vwCl (wM g a f1 f2 f3 f4 f5 z9 f7 f8 f9 f10 f11 (if fCpy f10 f11 k x t y n = 0 then cyT f12 f12 (40 * k + x) (40 * t + y) n else f12) f13 f20 f21 f22 f23 f24 f25) H) he48) hP
    have hD := Eq.mp (congrArg (fun z9 => va_D (va_A (wM g a f1 f2 f3 f4 f5 f6 f7 f8 f9 f10 f11 f12 f13 f20 f21 f22 f23 f24 f25) s.heap.size) (wM g a f1 f2 f3 f4 f5 z9 f7 f8 f9 f10 f11 (if fCpy f10 f11 k x t y n = 0 then cyT f12 f12 (40 * k + x) (40 * t + y) n else f12) f13 f20 f21 f22 f23 f24 f25)) he48) hD
    have hP : va_P g.1 vwCl (wM g a f1 f2 f3 f4 f5 (fb (fCpy f10 f11 k x t y n) f6) f7 f8 f9 f10 f11 (if fCpy f10 f11 k x t y n = 0 then cyT f12 f12 (40 * k + x) (40 * t + y) n else f12) ((su (fun _ _ => 0) 13 f13) 13) f20 f21 f22 f23 f24 f25) H := hP
    have hD : va_D (va_A (wM g a f1 f2 f3 f4 f5 f6 f7 f8 f9 f10 f11 f12 f13 f20 f21 f22 f23 f24 f25) s.heap.size) (wM g a f1 f2 f3 f4 f5 (fb (fCpy f10 f11 k x t y n) f6) f7 f8 f9 f10 f11 (if fCpy f10 f11 k x t y n = 0 then cyT f12 f12 (40 * k + x) (40 * t + y) n else f12) ((su (fun _ _ => 0) 13 f13) 13) f20 f21 f22 f23 f24 f25) := hD
    exact W.iret hx hb hr (fun t ht hW => ⟨⟨_, (su (fun _ _ => 0) 13 f13), rfl, by rw [hf]; rfl, by rw [ht]; exact hP, hD⟩, hS.F ht⟩) hS.2.2 dX5_copy_20

abbrev rm_X5_word : Room := { frames := 2, cells := 0, slots := 0, locals := 45 }
set_option maxRecDepth 100000 in
set_option maxHeartbeats 4000000 in
theorem c_X5_word (l : Launch) (g : Gd) (a : Nat → Nat) (f1 : Int → Int) (f2 : Int → Int) (f3 : Int → Int) (f4 : Int → Int) (f5 : Int → Int) (f6 : Int → Int) (f7 : Int → Int) (f8 : Int → Int) (f9 : Int → Int) (f10 : Int → Int) (f11 : Int → Int) (f12 : Int → Int) (f13 : Int → Int) (f20 : Int) (f21 : Int) (f22 : Int) (f23 : Int) (f24 : Int) (f25 : Int) (h1 : ∀ j, 0 ≤ f9 j ∧ f9 j ≤ 255) (h2 : 0 ≤ f21 ∧ f21 ≤ 120) (h3 : 0 ≤ f22 ∧ f22 ≤ f23 ∧ f23 ≤ f21) (h4 : f25 = 0 ∨ f25 = 1) (h5 : f25 = 1 ∨ f23 = tkE f9 f21 f22) : Met l yX5_word (wsOf yX5_word cX5_word 4 (some .long)) rm_X5_word (PX g (va_P g.1 vwCl (wM g a f1 f2 f3 f4 f5 f6 f7 f8 f9 f10 f11 f12 f13 f20 f21 f22 f23 f24 f25)) [.ref (a 0)]) (vp_Sl (fun r9 => r9 = lI (wdQ f9 f21 (f25, f22, f23, f24)))) 0 0 (fun _ => False) := by
  refine me (g := g) (by decide) rfl ?_
  intro pq eq s mq below meth cq C hnm hB ls hl
  obtain ⟨hx, hb, hr, hml, hown, hts, hlocks, hK⟩ := C
  have hown : s.vm.findClass RX5 = some mq.cls := hown
  have hl : lv_has ls 4 [(0, .ref (a 0))] := hl
  have hP : va_P g.1 vwCl (wM g a f1 f2 f3 f4 f5 f6 f7 f8 f9 f10 f11 f12 f13 f20 f21 f22 f23 f24 f25) s.heap := hB
  have hbb := bAt_b (t := f21) (k := f22) h1
  refine lv_lconst (v := lI (0)) hx hb dX5_word_0 (by decide) ?_
  refine lv_lstore_n (lv' := [(1, .long (lI 0)), (0, .ref (a 0))]) hx hb dX5_word_1 rfl hl (by decide) rfl (fun ls hl => ?_)
  refine lv_aload_n hx hb dX5_word_2 rfl (lv_at hl 1 rfl) ?_
  refine xg_X5 hx hb hts hown hK hP 0 rfl 11 (by decide) fk_X5_221 (v := .int (iI f22)) rfl dX5_word_3 ?_
  refine lv_istore_n (lv' := [(3, .int (iI f22)), (1, .long (lI 0)), (0, .ref (a 0))]) hx hb dX5_word_6 rfl hl (by decide) rfl (fun ls hl => ?_)
  have lp7 : ∀ (n7 : Nat) (k : Nat) (y : Int64), (f22 + (k : Int) ≤ f23) → ((isL (bAt f9 f21 f22) = true ∧ f25 = 0) → y = lI (wvT f9 f22 k)) → 120 - k < n7 → ∀ ls : Array Slot, lv_has ls 4 [(3, .int (iI (f22 + (k : Int)))), (1, .long y), (0, .ref (a 0))] → W pq l eq rm_X5_word s mq [.ref (a 0)].toArray below meth cq s.heap [] 0 0 (MQ below (vp_Sl (fun r9 => r9 = lI (wdQ f9 f21 (f25, f22, f23, f24)))) [.ref (a 0)].toArray s 0 0 (fun _ => False)) (F0 mq 7 ls []) := by
    intro n7
    induction n7 with
    | zero => intro k y i7_1 i7_2 hm; exact absurd hm (Nat.not_lt_zero _)
    | succ n7 ih7 =>
      intro k y i7_1 i7_2 hm7 ls hl
      refine lv_iload_n hx hb dX5_word_7 rfl (lv_at hl 0 rfl) ?_
      refine lv_aload_n hx hb dX5_word_8 rfl (lv_at hl 2 rfl) ?_
      refine xg_X5 hx hb hts hown hK hP 0 rfl 12 (by decide) fk_X5_218 (v := .int (iI f23)) rfl dX5_word_9 ?_
      refine xi_c_ge (tgt := 50) hx hb ⟨by omega, by omega⟩ ⟨by omega, by omega⟩ dX5_word_12 (by decide) (fun z1 => ?_) (fun z1 => ?_)
      · refine lv_aload_n hx hb dX5_word_50 rfl (lv_at hl 2 rfl) ?_
        refine xg_X5 hx hb hts hown hK hP 0 rfl 14 (by decide) fk_X5_233 (v := .int (iI f25)) rfl dX5_word_51 ?_
        refine xi_z_ne (tgt := 71) hx hb ⟨by omega, by omega⟩ dX5_word_54 (by decide) (fun z2 => ?_) (fun z2 => ?_)
        · refine lv_lconst (v := lI (0)) hx hb dX5_word_71 (by decide) ?_
          refine lv_goto (tgt := 76) hx hb dX5_word_72 (by decide) ?_
          exact W.lret hx hb hr (fun t ht hW => ⟨_, rfl, by first | exact congrArg lI (wd_no (Or.inl (by omega))).symm | exact congrArg lI (wd_no (Or.inr (by rw [isL_i]; assumption))).symm | (have hl9 : isL (bAt f9 f21 f22) = true := (isL_i _).mpr (by assumption); rw [lI_of, wd_end (by omega) hl9, show (f23 - f22).toNat = k by omega]; exact i7_2 ⟨hl9, by omega⟩), ht⟩) (fun q h => by cases h) dX5_word_76
        · refine lv_aload_n hx hb dX5_word_57 rfl (lv_at hl 2 rfl) ?_
          refine lv_aload_n hx hb dX5_word_58 rfl (lv_at hl 2 rfl) ?_
          refine xg_X5 hx hb hts hown hK hP 0 rfl 11 (by decide) fk_X5_221 (v := .int (iI f22)) rfl dX5_word_59 ?_
          refine xu_i (x := iI (bAt f9 f21 f22)) (rV (rest := []) hx hb hml hown hts hK hl (c_X5_byteAt l g a f1 f2 f3 f4 f5 f6 f7 f8 f9 f10 f11 f12 f13 f20 f21 f22 f23 f24 f25 f22 (show 0 ≤ f22 ∧ f22 ≤ 121 from by omega) (show 0 ≤ f21 ∧ f21 ≤ 120 from by omega)) lk_X5_224 hP (va_recv hK.1 hP (ci := 5) (q0 := 0) rfl rfl) rfl rfl rfl (Rm.of rfl) rfl rfl dX5_word_62) ?_
          refine xu_b (P := 97 ≤ (bAt f9 f21 f22) ∧ (bAt f9 f21 f22) ≤ 122) (rS (rest := []) hx hb hml hown hts hK hl (c_X5_isLetter l g (bAt f9 f21 f22) (show IR (bAt f9 f21 f22) from ⟨by omega, by omega⟩)) lk_X5_227 trivial rfl rfl rfl (Rm.of rfl) rfl rfl dX5_word_65) (fun z4 => ?_) (fun z4 => ?_)
          · refine xi_zt_ne (tgt := 75) hx hb ⟨by decide, by decide⟩ (by decide) dX5_word_68 (by decide) ?_
            refine lv_lload_n hx hb dX5_word_75 rfl (lv_at hl 1 rfl) ?_
            refine xl_raw ?_
            have hr5 := LR_of y
            have hr5a := hr5.1
            have hr5b := hr5.2
            exact W.lret hx hb hr (fun t ht hW => ⟨_, rfl, by first | exact congrArg lI (wd_no (Or.inl (by omega))).symm | exact congrArg lI (wd_no (Or.inr (by rw [isL_i]; assumption))).symm | (have hl9 : isL (bAt f9 f21 f22) = true := (isL_i _).mpr (by assumption); rw [lI_of, wd_end (by omega) hl9, show (f23 - f22).toNat = k by omega]; exact i7_2 ⟨hl9, by omega⟩), ht⟩) (fun q h => by cases h) dX5_word_76
          · refine xi_zf_ne hx hb ⟨by decide, by decide⟩ (by decide) dX5_word_68 ⟨75, by decide⟩ ?_
            refine lv_lconst (v := lI (0)) hx hb dX5_word_71 (by decide) ?_
            refine lv_goto (tgt := 76) hx hb dX5_word_72 (by decide) ?_
            exact W.lret hx hb hr (fun t ht hW => ⟨_, rfl, by first | exact congrArg lI (wd_no (Or.inl (by omega))).symm | exact congrArg lI (wd_no (Or.inr (by rw [isL_i]; assumption))).symm | (have hl9 : isL (bAt f9 f21 f22) = true := (isL_i _).mpr (by assumption); rw [lI_of, wd_end (by omega) hl9, show (f23 - f22).toNat = k by omega]; exact i7_2 ⟨hl9, by omega⟩), ht⟩) (fun q h => by cases h) dX5_word_76
      · refine lv_lload_n hx hb dX5_word_15 rfl (lv_at hl 1 rfl) ?_
        refine xl_raw ?_
        have hr6 := LR_of y
        have hr6a := hr6.1
        have hr6b := hr6.2
        refine xl_ldc hx hb hown hts kk_X5_240 dX5_word_16 ?_
        refine xl_c_le (tgt := 27) hx hb ⟨by omega, by omega⟩ ⟨by decide, by decide⟩ dX5_word_19 dX5_word_20 (by decide) (fun z7 => ?_) (fun z7 => ?_)
        · refine xl_ldc hx hb hown hts kk_X5_242 dX5_word_27 ?_
          refine lv_lload_n hx hb dX5_word_30 rfl (lv_at hl 1 rfl) ?_
          refine xl_raw ?_
          have hr8 := LR_of y
          have hr8a := hr8.1
          have hr8b := hr8.2
          refine xl_mul hx hb dX5_word_31 ?_
          refine lv_aload_n hx hb dX5_word_32 rfl (lv_at hl 2 rfl) ?_
          refine xg_X5 hx hb hts hown hK hP 0 rfl 9 (by decide) fk_X5_34 (v := .ref (a 9)) rfl dX5_word_33 ?_
          refine lv_iload_n hx hb dX5_word_36 rfl (lv_at hl 0 rfl) ?_
          refine xi_ald hx hb hK hP 9 (f := f9) rfl (i := f22 + (k : Int)) ⟨by omega, by omega⟩ rfl dX5_word_37 ?_
          have hby := h1 (f22 + (k : Int))
          refine lv_bipush (v := iI (96)) hx hb dX5_word_38 (by decide) ?_
          refine xi_sub hx hb dX5_word_40 ?_
          refine xi_i2l hx hb ⟨by omega, by omega⟩ dX5_word_41 ?_
          refine xl_add hx hb dX5_word_42 ?_
          refine lv_lstore_n (lv' := [(1, .long (lI ((32 * (Int64.toInt y)) + (f9 (f22 + (k : Int)) - 96)))), (3, .int (iI (f22 + (k : Int)))), (0, .ref (a 0))]) hx hb dX5_word_43 rfl hl (by decide) rfl (fun ls hl => ?_)
          refine xi_inc (lv' := [(3, .int (iI (f22 + (k : Int) + 1))), (1, .long (lI ((32 * (Int64.toInt y)) + (f9 (f22 + (k : Int)) - 96)))), (0, .ref (a 0))]) hx hb dX5_word_44 hl (k := 1) rfl (by decide) rfl (fun ls hl => ?_)
          refine lv_goto (tgt := 7) hx hb dX5_word_47 (by decide) ?_
          have hq9 : (f22 + (k : Int) + 1) = (f22 + ((k + 1) : Int)) := by omega
          have hl : lv_has ls 4 [(3, .int (iI (f22 + (k : Int) + 1))), (1, .long (lI ((32 * (Int64.toInt y)) + (f9 (f22 + (k : Int)) - 96)))), (0, .ref (a 0))] := lv_sub hl [0, 1, 2] rfl
          have hl := Eq.mp (congrArg (fun z9 => lv_has ls 4 [(3, .int (iI z9)), (1, .long (lI ((32 * (Int64.toInt y)) + (f9 (f22 + (k : Int)) - 96)))), (0, .ref (a 0))]) hq9) hl
          exact ih7 (k + 1) (lI ((32 * (Int64.toInt y)) + (f9 (f22 + (k : Int)) - 96))) (by omega) (fun hz => by first | exact wv_n1 (wv_bb h3.1 (by omega) (h5.resolve_left (by omega)) hz.1 (by omega)) (i7_2 hz) (by omega) | exact wv_n2 (wv_bb h3.1 (by omega) (h5.resolve_left (by omega)) hz.1 (by omega)) (i7_2 hz) (by omega)) (by omega) ls hl
        · refine lv_lload_n hx hb dX5_word_23 rfl (lv_at hl 1 rfl) ?_
          refine xl_raw ?_
          have hr10 := LR_of y
          have hr10a := hr10.1
          have hr10b := hr10.2
          refine lv_goto (tgt := 43) hx hb dX5_word_24 (by decide) ?_
          refine lv_lstore_n (lv' := [(1, .long (lI (Int64.toInt y))), (3, .int (iI (f22 + (k : Int)))), (0, .ref (a 0))]) hx hb dX5_word_43 rfl hl (by decide) rfl (fun ls hl => ?_)
          refine xi_inc (lv' := [(3, .int (iI (f22 + (k : Int) + 1))), (1, .long (lI (Int64.toInt y))), (0, .ref (a 0))]) hx hb dX5_word_44 hl (k := 1) rfl (by decide) rfl (fun ls hl => ?_)
          refine lv_goto (tgt := 7) hx hb dX5_word_47 (by decide) ?_
          have hq11 : (f22 + (k : Int) + 1) = (f22 + ((k + 1) : Int)) := by omega
          have hl : lv_has ls 4 [(3, .int (iI (f22 + (k : Int) + 1))), (1, .long (lI (Int64.toInt y))), (0, .ref (a 0))] := lv_sub hl [0, 1, 2] rfl
          have hl := Eq.mp (congrArg (fun z9 => lv_has ls 4 [(3, .int (iI z9)), (1, .long (lI (Int64.toInt y))), (0, .ref (a 0))]) hq11) hl
          exact ih7 (k + 1) (lI (Int64.toInt y)) (by omega) (fun hz => by first | exact wv_n1 (wv_bb h3.1 (by omega) (h5.resolve_left (by omega)) hz.1 (by omega)) (i7_2 hz) (by omega) | exact wv_n2 (wv_bb h3.1 (by omega) (h5.resolve_left (by omega)) hz.1 (by omega)) (i7_2 hz) (by omega)) (by omega) ls hl
  have hq12 : f22 = (f22 + (0 : Int)) := by omega
  have hl : lv_has ls 4 [(3, .int (iI f22)), (1, .long (lI 0)), (0, .ref (a 0))] := lv_sub hl [0, 1, 2] rfl
  have hl := Eq.mp (congrArg (fun z9 => lv_has ls 4 [(3, .int (iI z9)), (1, .long (lI 0)), (0, .ref (a 0))]) hq12) hl
  exact lp7 (120 + 1) 0 (lI 0) (by omega) (fun _ => rfl) (by omega) ls hl
abbrev rm_X5_kindHere : Room := { frames := 3, cells := 0, slots := 0, locals := 68 }
set_option maxRecDepth 100000 in
set_option maxHeartbeats 4000000 in
theorem c_X5_kindHere (l : Launch) (g : Gd) (a : Nat → Nat) (f1 : Int → Int) (f2 : Int → Int) (f3 : Int → Int) (f4 : Int → Int) (f5 : Int → Int) (f6 : Int → Int) (f7 : Int → Int) (f8 : Int → Int) (f9 : Int → Int) (f10 : Int → Int) (f11 : Int → Int) (f12 : Int → Int) (f13 : Int → Int) (f20 : Int) (f21 : Int) (f22 : Int) (f23 : Int) (f24 : Int) (f25 : Int) (h1 : ∀ j, 0 ≤ f9 j ∧ f9 j ≤ 255) (h2 : 0 ≤ f21 ∧ f21 ≤ 120) (h3 : 0 ≤ f22 ∧ f22 ≤ f23 ∧ f23 ≤ f21) (h4 : f25 = 0 ∨ f25 = 1) (h5 : f25 = 1 ∨ f23 = tkE f9 f21 f22) : Met l yX5_kindHere (wsOf yX5_kindHere cX5_kindHere 3 (some .int)) rm_X5_kindHere (PX g (va_P g.1 vwCl (wM g a f1 f2 f3 f4 f5 f6 f7 f8 f9 f10 f11 f12 f13 f20 f21 f22 f23 f24 f25)) [.ref (a 0)]) (vp_Si (fun r9 => r9 = iI (kdQ (wdQ f9 f21 (f25, f22, f23, f24))))) 0 0 (fun _ => False) := by
  refine me (g := g) (by decide) rfl ?_
  intro pq eq s mq below meth cq C hnm hB ls hl
  obtain ⟨hx, hb, hr, hml, hown, hts, hlocks, hK⟩ := C
  have hown : s.vm.findClass RX5 = some mq.cls := hown
  have hl : lv_has ls 3 [(0, .ref (a 0))] := hl
  have hP : va_P g.1 vwCl (wM g a f1 f2 f3 f4 f5 f6 f7 f8 f9 f10 f11 f12 f13 f20 f21 f22 f23 f24 f25) s.heap := hB
  have hwb := wdQ_b (b := f9) (t := f21) (v := f24) h3.1 (by omega) h5
  refine lv_aload_n hx hb dX5_kindHere_0 rfl (lv_at hl 0 rfl) ?_
  refine xu_l (x := lI (wdQ f9 f21 (f25, f22, f23, f24))) (rV (rest := []) hx hb hml hown hts hK hl (c_X5_word l g a f1 f2 f3 f4 f5 f6 f7 f8 f9 f10 f11 f12 f13 f20 f21 f22 f23 f24 f25 (show ∀ j, 0 ≤ f9 j ∧ f9 j ≤ 255 from h1) (show 0 ≤ f21 ∧ f21 ≤ 120 from by omega) (show 0 ≤ f22 ∧ f22 ≤ f23 ∧ f23 ≤ f21 from h3) (show f25 = 0 ∨ f25 = 1 from h4) (show f25 = 1 ∨ f23 = tkE f9 f21 f22 from h5)) lk_X5_251 hP (va_recv hK.1 hP (ci := 5) (q0 := 0) rfl rfl) rfl rfl rfl (Rm.of rfl) rfl rfl dX5_kindHere_1) ?_
  refine lv_lstore_n (lv' := [(1, .long (lI (wdQ f9 f21 (f25, f22, f23, f24)))), (0, .ref (a 0))]) hx hb dX5_kindHere_4 rfl hl (by decide) rfl (fun ls hl => ?_)
  refine lv_lload_n hx hb dX5_kindHere_5 rfl (lv_at hl 0 rfl) ?_
  refine xl_ldc hx hb hown hts kk_X5_255 dX5_kindHere_6 ?_
  refine xl_c_ne (tgt := 17) hx hb ⟨by omega, by omega⟩ ⟨by decide, by decide⟩ dX5_kindHere_9 dX5_kindHere_10 (by decide) (fun z2 => ?_) (fun z2 => ?_)
  · refine lv_lload_n hx hb dX5_kindHere_17 rfl (lv_at hl 0 rfl) ?_
    refine xl_ldc hx hb hown hts kk_X5_257 dX5_kindHere_18 ?_
    refine xl_c_ne (tgt := 29) hx hb ⟨by omega, by omega⟩ ⟨by decide, by decide⟩ dX5_kindHere_21 dX5_kindHere_22 (by decide) (fun z3 => ?_) (fun z3 => ?_)
    · refine lv_lload_n hx hb dX5_kindHere_29 rfl (lv_at hl 0 rfl) ?_
      refine xl_ldc hx hb hown hts kk_X5_259 dX5_kindHere_30 ?_
      refine xl_c_ne (tgt := 41) hx hb ⟨by omega, by omega⟩ ⟨by decide, by decide⟩ dX5_kindHere_33 dX5_kindHere_34 (by decide) (fun z4 => ?_) (fun z4 => ?_)
      · refine lv_lload_n hx hb dX5_kindHere_41 rfl (lv_at hl 0 rfl) ?_
        refine xl_ldc hx hb hown hts kk_X5_261 dX5_kindHere_42 ?_
        refine xl_c_ne (tgt := 53) hx hb ⟨by omega, by omega⟩ ⟨by decide, by decide⟩ dX5_kindHere_45 dX5_kindHere_46 (by decide) (fun z5 => ?_) (fun z5 => ?_)
        · refine lv_lload_n hx hb dX5_kindHere_53 rfl (lv_at hl 0 rfl) ?_
          refine xl_ldc hx hb hown hts kk_X5_263 dX5_kindHere_54 ?_
          refine xl_c_ne (tgt := 65) hx hb ⟨by omega, by omega⟩ ⟨by decide, by decide⟩ dX5_kindHere_57 dX5_kindHere_58 (by decide) (fun z6 => ?_) (fun z6 => ?_)
          · refine lv_lload_n hx hb dX5_kindHere_65 rfl (lv_at hl 0 rfl) ?_
            refine xl_ldc hx hb hown hts kk_X5_265 dX5_kindHere_66 ?_
            refine xl_c_ne (tgt := 77) hx hb ⟨by omega, by omega⟩ ⟨by decide, by decide⟩ dX5_kindHere_69 dX5_kindHere_70 (by decide) (fun z7 => ?_) (fun z7 => ?_)
            · refine lv_iconst (v := iI (-1)) hx hb dX5_kindHere_77 (by decide) ?_
              exact W.iret hx hb hr (fun t ht hW => ⟨_, rfl, congrArg iI (by unfold kdQ; (repeat (first | rw [if_pos (by omega)] | rw [if_neg (by omega)]))), ht⟩) (fun q h => by cases h) dX5_kindHere_78
            · refine lv_iconst (v := iI (5)) hx hb dX5_kindHere_73 (by decide) ?_
              refine lv_goto (tgt := 78) hx hb dX5_kindHere_74 (by decide) ?_
              exact W.iret hx hb hr (fun t ht hW => ⟨_, rfl, congrArg iI (by unfold kdQ; (repeat (first | rw [if_pos (by omega)] | rw [if_neg (by omega)]))), ht⟩) (fun q h => by cases h) dX5_kindHere_78
          · refine lv_iconst (v := iI (4)) hx hb dX5_kindHere_61 (by decide) ?_
            refine lv_goto (tgt := 78) hx hb dX5_kindHere_62 (by decide) ?_
            exact W.iret hx hb hr (fun t ht hW => ⟨_, rfl, congrArg iI (by unfold kdQ; (repeat (first | rw [if_pos (by omega)] | rw [if_neg (by omega)]))), ht⟩) (fun q h => by cases h) dX5_kindHere_78
        · refine lv_iconst (v := iI (3)) hx hb dX5_kindHere_49 (by decide) ?_
          refine lv_goto (tgt := 78) hx hb dX5_kindHere_50 (by decide) ?_
          exact W.iret hx hb hr (fun t ht hW => ⟨_, rfl, congrArg iI (by unfold kdQ; (repeat (first | rw [if_pos (by omega)] | rw [if_neg (by omega)]))), ht⟩) (fun q h => by cases h) dX5_kindHere_78
      · refine lv_iconst (v := iI (2)) hx hb dX5_kindHere_37 (by decide) ?_
        refine lv_goto (tgt := 78) hx hb dX5_kindHere_38 (by decide) ?_
        exact W.iret hx hb hr (fun t ht hW => ⟨_, rfl, congrArg iI (by unfold kdQ; (repeat (first | rw [if_pos (by omega)] | rw [if_neg (by omega)]))), ht⟩) (fun q h => by cases h) dX5_kindHere_78
    · refine lv_iconst (v := iI (1)) hx hb dX5_kindHere_25 (by decide) ?_
      refine lv_goto (tgt := 78) hx hb dX5_kindHere_26 (by decide) ?_
      exact W.iret hx hb hr (fun t ht hW => ⟨_, rfl, congrArg iI (by unfold kdQ; (repeat (first | rw [if_pos (by omega)] | rw [if_neg (by omega)]))), ht⟩) (fun q h => by cases h) dX5_kindHere_78
  · refine lv_iconst (v := iI (0)) hx hb dX5_kindHere_13 (by decide) ?_
    refine lv_goto (tgt := 78) hx hb dX5_kindHere_14 (by decide) ?_
    exact W.iret hx hb hr (fun t ht hW => ⟨_, rfl, congrArg iI (by unfold kdQ; (repeat (first | rw [if_pos (by omega)] | rw [if_neg (by omega)]))), ht⟩) (fun q h => by cases h) dX5_kindHere_78
abbrev rm_X5_number : Room := { frames := 4, cells := 0, slots := 0, locals := 88 }
set_option maxRecDepth 100000 in
set_option maxHeartbeats 4000000 in
theorem c_X5_number (l : Launch) (g : Gd) (a : Nat → Nat) (f1 : Int → Int) (f2 : Int → Int) (f3 : Int → Int) (f4 : Int → Int) (f5 : Int → Int) (f6 : Int → Int) (f7 : Int → Int) (f8 : Int → Int) (f9 : Int → Int) (f10 : Int → Int) (f11 : Int → Int) (f12 : Int → Int) (f13 : Int → Int) (f20 : Int) (f21 : Int) (f22 : Int) (f23 : Int) (f24 : Int) (f25 : Int) (lo : Int) (hi : Int) (sz : Nat) (h1 : ∀ j, 0 ≤ f9 j ∧ f9 j ≤ 255) (h2 : 0 ≤ f21 ∧ f21 ≤ 120) (h3 : 0 ≤ f22 ∧ f22 ≤ f23 ∧ f23 ≤ f21) (h4 : f25 = 0 ∨ f25 = 1) (h5 : f25 = 1 ∨ f23 = tkE f9 f21 f22) (h6 : IR lo) (h7 : IR hi) : Met l yX5_number (wsOf yX5_number cX5_number 6 none) rm_X5_number (PX g (wP g (wM g a f1 f2 f3 f4 f5 f6 f7 f8 f9 f10 f11 f12 f13 f20 f21 f22 f23 f24 f25) sz) [.ref (a 0), .int (iI lo), .int (iI hi)]) (QMv g (fun u9 : Nat → Int → Int => wM g a f1 f2 f3 f4 f5 f6 f7 f8 f9 f10 f11 f12 f13 f20 f21 (u9 22 0) (u9 23 0) (u9 24 0) (u9 25 0)) (fun u9 => ((u9 25 0, u9 22 0, u9 23 0, u9 24 0) : Q4) = numQ f9 f21 (f25, f22, f23, f24) lo hi) (va_A (wM g a f1 f2 f3 f4 f5 f6 f7 f8 f9 f10 f11 f12 f13 f20 f21 f22 f23 f24 f25) sz)) 0 0 (va_A (wM g a f1 f2 f3 f4 f5 f6 f7 f8 f9 f10 f11 f12 f13 f20 f21 f22 f23 f24 f25) sz) := by
  refine me (g := g) (by decide) rfl ?_
  intro pq eq s mq below meth cq C hnm hB ls hl
  obtain ⟨hx, hb, hr, hml, hown, hts, hlocks, hK⟩ := C
  have hown : s.vm.findClass RX5 = some mq.cls := hown
  have hl : lv_has ls 6 [(0, .ref (a 0)), (1, .int (iI lo)), (2, .int (iI hi))] := hl
  obtain ⟨hsz, hP, hD0⟩ := hB
  subst hsz
  have hD := hD0.self (sz := s.heap.size)
  have hA : ∀ q : Nat, s.heap.size ≤ q → va_A (wM g a f1 f2 f3 f4 f5 f6 f7 f8 f9 f10 f11 f12 f13 f20 f21 f22 f23 f24 f25) s.heap.size q := fun q h => Or.inr h
  have hS : va_S (va_A (wM g a f1 f2 f3 f4 f5 f6 f7 f8 f9 f10 f11 f12 f13 f20 f21 f22 f23 f24 f25) s.heap.size) s.heap s.heap [] := va_S.rf
  have hbb := bAt_b (t := f21) (k := f22) h1
  have q1 := h6.1
  have q2 := h6.2
  have q3 := h7.1
  have q4 := h7.2
  refine lv_aload_n hx hb dX5_number_0 rfl (lv_at hl 0 rfl) ?_
  refine xg_X5 hx hb hts hown hK hP 0 rfl 14 (by decide) fk_X5_233 (v := .int (iI f25)) rfl dX5_number_1 ?_
  refine xi_z_eq (tgt := 8) hx hb ⟨by omega, by omega⟩ dX5_number_4 (by decide) (fun z1 => ?_) (fun z1 => ?_)
  · refine lv_aload_n hx hb dX5_number_8 rfl (lv_at hl 0 rfl) ?_
    refine lv_aload_n hx hb dX5_number_9 rfl (lv_at hl 0 rfl) ?_
    refine xg_X5 hx hb hts hown hK hP 0 rfl 11 (by decide) fk_X5_221 (v := .int (iI f22)) rfl dX5_number_10 ?_
    refine xu_i (x := iI (bAt f9 f21 f22)) (rV (rest := []) hx hb hml hown hts hK hl (c_X5_byteAt l g a f1 f2 f3 f4 f5 f6 f7 f8 f9 f10 f11 f12 f13 f20 f21 f22 f23 f24 f25 f22 (show 0 ≤ f22 ∧ f22 ≤ 121 from by omega) (show 0 ≤ f21 ∧ f21 ≤ 120 from by omega)) lk_X5_224 hP (va_recv hK.1 hP (ci := 5) (q0 := 0) rfl rfl) rfl rfl rfl (Rm.of rfl) rfl rfl dX5_number_13) ?_
    refine xu_b (P := 48 ≤ (bAt f9 f21 f22) ∧ (bAt f9 f21 f22) ≤ 57) (rS (rest := []) hx hb hml hown hts hK hl (c_X5_isDigit l g (bAt f9 f21 f22) (show IR (bAt f9 f21 f22) from ⟨by omega, by omega⟩)) lk_X5_230 trivial rfl rfl rfl (Rm.of rfl) rfl rfl dX5_number_16) (fun z3 => ?_) (fun z3 => ?_)
    · refine lv_istore_n (lv' := [(3, .int (iI 1)), (0, .ref (a 0)), (1, .int (iI lo)), (2, .int (iI hi))]) hx hb dX5_number_19 rfl hl (by decide) rfl (fun ls hl => ?_)
      refine lv_iconst (v := iI (0)) hx hb dX5_number_20 (by decide) ?_
      refine lv_istore (lv' := [(4, .int (iI 0)), (3, .int (iI 1)), (0, .ref (a 0)), (1, .int (iI lo)), (2, .int (iI hi))]) hx hb dX5_number_21 hl (by decide) rfl (fun ls hl => ?_)
      refine lv_aload_n hx hb dX5_number_23 rfl (lv_at hl 2 rfl) ?_
      refine xg_X5 hx hb hts hown hK hP 0 rfl 11 (by decide) fk_X5_221 (v := .int (iI f22)) rfl dX5_number_24 ?_
      refine lv_istore (lv' := [(5, .int (iI f22)), (4, .int (iI 0)), (3, .int (iI 1)), (0, .ref (a 0)), (1, .int (iI lo)), (2, .int (iI hi))]) hx hb dX5_number_27 hl (by decide) rfl (fun ls hl => ?_)
      have lp29 : ∀ (n29 : Nat) (k : Nat) (v : Int), (f22 + (k : Int) ≤ f23) → (v = if (1 : Int) = 1 then nvT f9 f22 k else 0) → (0 ≤ v ∧ v ≤ 9999) → 120 - k < n29 → ∀ ls : Array Slot, lv_has ls 6 [(5, .int (iI (f22 + (k : Int)))), (4, .int (iI v)), (3, .int (iI 1)), (0, .ref (a 0)), (1, .int (iI lo)), (2, .int (iI hi))] → ∀ (H : Heap) (locs : List Loc), va_P g.1 vwCl (wM g a f1 f2 f3 f4 f5 f6 f7 f8 f9 f10 f11 f12 f13 f20 f21 f22 f23 f24 f25) H → va_D (va_A (wM g a f1 f2 f3 f4 f5 f6 f7 f8 f9 f10 f11 f12 f13 f20 f21 f22 f23 f24 f25) s.heap.size) (wM g a f1 f2 f3 f4 f5 f6 f7 f8 f9 f10 f11 f12 f13 f20 f21 f22 f23 f24 f25) → va_S (va_A (wM g a f1 f2 f3 f4 f5 f6 f7 f8 f9 f10 f11 f12 f13 f20 f21 f22 f23 f24 f25) s.heap.size) s.heap H locs → W pq l eq rm_X5_number s mq [.ref (a 0), .int (iI lo), .int (iI hi)].toArray below meth cq H locs 0 0 (MQ below (QMv g (fun u9 : Nat → Int → Int => wM g a f1 f2 f3 f4 f5 f6 f7 f8 f9 f10 f11 f12 f13 f20 f21 (u9 22 0) (u9 23 0) (u9 24 0) (u9 25 0)) (fun u9 => ((u9 25 0, u9 22 0, u9 23 0, u9 24 0) : Q4) = numQ f9 f21 (f25, f22, f23, f24) lo hi) (va_A (wM g a f1 f2 f3 f4 f5 f6 f7 f8 f9 f10 f11 f12 f13 f20 f21 f22 f23 f24 f25) s.heap.size)) [.ref (a 0), .int (iI lo), .int (iI hi)].toArray s 0 0 (va_A (wM g a f1 f2 f3 f4 f5 f6 f7 f8 f9 f10 f11 f12 f13 f20 f21 f22 f23 f24 f25) s.heap.size)) (F0 mq 29 ls []) := by
        intro n29
        induction n29 with
        | zero => intro k v i29_1 i29_2 i29_3 hm; exact absurd hm (Nat.not_lt_zero _)
        | succ n29 ih29 =>
          intro k v i29_1 i29_2 i29_3 hm29 ls hl H locs hP hD hS
          refine lv_iload hx hb dX5_number_29 (lv_at hl 0 rfl) ?_
          refine lv_aload_n hx hb dX5_number_31 rfl (lv_at hl 3 rfl) ?_
          refine xg_X5 hx hb hts hown hK hP 0 rfl 12 (by decide) fk_X5_218 (v := .int (iI f23)) rfl dX5_number_32 ?_
          refine xi_c_ge (tgt := 79) hx hb ⟨by omega, by omega⟩ ⟨by omega, by omega⟩ dX5_number_35 (by decide) (fun z4 => ?_) (fun z4 => ?_)
          · have hkk : (f23 - f22).toNat = k := by omega
            refine lv_aload_n hx hb dX5_number_79 rfl (lv_at hl 3 rfl) ?_
            refine lv_iload hx hb dX5_number_80 (lv_at hl 1 rfl) ?_
            refine xp_X5 hx hb hts hown hK hP hD hS 0 rfl 13 (by decide) fk_X5_244 rfl (v := .int (iI v)) rfl rfl (Nat.le_of_ble_eq_true rfl) dX5_number_82 (fun H locs hP hD hS => ?_)
            have hP : va_P g.1 vwCl (wM g a f1 f2 f3 f4 f5 f6 f7 f8 f9 f10 f11 f12 f13 f20 f21 f22 f23 v f25) H := hP
            have hD : va_D (va_A (wM g a f1 f2 f3 f4 f5 f6 f7 f8 f9 f10 f11 f12 f13 f20 f21 f22 f23 f24 f25) s.heap.size) (wM g a f1 f2 f3 f4 f5 f6 f7 f8 f9 f10 f11 f12 f13 f20 f21 f22 f23 v f25) := hD
            have hnv : nv f9 f21 f22 f23 = v := by unfold nv; first | (rw [if_pos ((isD_i _).mpr (by assumption)), hkk]; rw [if_pos rfl] at i29_2; exact i29_2.symm) | (rw [if_neg (by rw [isD_i]; assumption)]; rw [if_neg (by omega)] at i29_2; exact i29_2.symm)
            refine lv_aload_n hx hb dX5_number_85 rfl (lv_at hl 3 rfl) ?_
            refine lv_iload_n hx hb dX5_number_86 rfl (lv_at hl 2 rfl) ?_
            refine xi_zf_eq hx hb ⟨by decide, by decide⟩ (by decide) dX5_number_87 ⟨107, by decide⟩ ?_
            refine lv_iload hx hb dX5_number_90 (lv_at hl 1 rfl) ?_
            refine xi_i2l hx hb ⟨by omega, by omega⟩ dX5_number_92 ?_
            refine lv_iload_n hx hb dX5_number_93 rfl (lv_at hl 4 rfl) ?_
            refine xi_i2l hx hb ⟨by omega, by omega⟩ dX5_number_94 ?_
            refine lv_iload_n hx hb dX5_number_95 rfl (lv_at hl 5 rfl) ?_
            refine xi_i2l hx hb ⟨by omega, by omega⟩ dX5_number_96 ?_
            refine xu_b (P := lo ≤ v ∧ v ≤ hi) (rS (rest := [.ref (a 0)]) hx hb hml hown hts hK hl (c_X5_in l g v lo hi (show LR v from ⟨by omega, by omega⟩) (show LR lo from ⟨by omega, by omega⟩) (show LR hi from ⟨by omega, by omega⟩)) lk_X5_53 trivial rfl rfl rfl (Rm.of rfl) rfl rfl dX5_number_97) (fun z5 => ?_) (fun z5 => ?_)
            · refine xi_zf_eq hx hb ⟨by decide, by decide⟩ (by decide) dX5_number_100 ⟨107, by decide⟩ ?_
              refine lv_iconst (v := iI (1)) hx hb dX5_number_103 (by decide) ?_
              refine lv_goto (tgt := 108) hx hb dX5_number_104 (by decide) ?_
              refine xm_v (rV (rest := []) hx hb hml hown hts hK hl (c_X5_wants l g a f1 f2 f3 f4 f5 f6 f7 f8 f9 f10 f11 f12 f13 f20 f21 f22 f23 v f25 1 H.size (show ∀ j, 0 ≤ f9 j ∧ f9 j ≤ 255 from h1) (show 0 ≤ f21 ∧ f21 ≤ 120 from by omega) (show 0 ≤ f23 ∧ f23 ≤ f21 from by omega) (show f25 = 0 ∨ f25 = 1 from h4) (show 1 = 0 ∨ 1 = 1 from by omega)) lk_X5_247 ⟨rfl, hP, hD.weaken (fun _ _ _ _ => trivial)⟩ (va_recv hK.1 hP (ci := 5) (q0 := 0) rfl rfl) rfl rfl rfl (Rm.of rfl) rfl rfl dX5_number_108) hD hS hA (fun u6 H locs hw hP hD hS => ?_)
              have hw6 : ((u6 25 0, u6 22 0, u6 23 0, v) : Q4) = wantQ f9 f21 (f25, f22, f23, v) 1 := hw
              have hP : va_P g.1 vwCl (wM g a f1 f2 f3 f4 f5 f6 f7 f8 f9 f10 f11 f12 f13 f20 f21 (u6 22 0) (u6 23 0) v (u6 25 0)) H := hP
              have hD : va_D (va_A (wM g a f1 f2 f3 f4 f5 f6 f7 f8 f9 f10 f11 f12 f13 f20 f21 f22 f23 f24 f25) s.heap.size) (wM g a f1 f2 f3 f4 f5 f6 f7 f8 f9 f10 f11 f12 f13 f20 f21 (u6 22 0) (u6 23 0) v (u6 25 0)) := hD
              have hj : (((u6 25 0), (u6 22 0), (u6 23 0), v) : Q4) = numQ f9 f21 (f25, f22, f23, f24) lo hi := by unfold numQ; rw [if_neg (by dsimp only; omega)]; dsimp only; rw [hnv, hw6]; first | (rw [if_pos ⟨(isD_i _).mpr (by assumption), by omega, by omega⟩]; done) | (rw [if_neg (fun z => by first | (have h9 := (isD_i _).mp z.1; omega) | (have := z.2; omega))]; done)
              have hP : va_P g.1 vwCl (wM g a f1 f2 f3 f4 f5 f6 f7 f8 f9 f10 f11 f12 f13 f20 f21 ((su (su (su (su (fun _ _ => 0) 22 (fun _ => u6 22 0)) 23 (fun _ => u6 23 0)) 24 (fun _ => v)) 25 (fun _ => u6 25 0)) 22 0) ((su (su (su (su (fun _ _ => 0) 22 (fun _ => u6 22 0)) 23 (fun _ => u6 23 0)) 24 (fun _ => v)) 25 (fun _ => u6 25 0)) 23 0) ((su (su (su (su (fun _ _ => 0) 22 (fun _ => u6 22 0)) 23 (fun _ => u6 23 0)) 24 (fun _ => v)) 25 (fun _ => u6 25 0)) 24 0) ((su (su (su (su (fun _ _ => 0) 22 (fun _ => u6 22 0)) 23 (fun _ => u6 23 0)) 24 (fun _ => v)) 25 (fun _ => u6 25 0)) 25 0)) H := hP
              have hD : va_D (va_A (wM g a f1 f2 f3 f4 f5 f6 f7 f8 f9 f10 f11 f12 f13 f20 f21 f22 f23 f24 f25) s.heap.size) (wM g a f1 f2 f3 f4 f5 f6 f7 f8 f9 f10 f11 f12 f13 f20 f21 ((su (su (su (su (fun _ _ => 0) 22 (fun _ => u6 22 0)) 23 (fun _ => u6 23 0)) 24 (fun _ => v)) 25 (fun _ => u6 25 0)) 22 0) ((su (su (su (su (fun _ _ => 0) 22 (fun _ => u6 22 0)) 23 (fun _ => u6 23 0)) 24 (fun _ => v)) 25 (fun _ => u6 25 0)) 23 0) ((su (su (su (su (fun _ _ => 0) 22 (fun _ => u6 22 0)) 23 (fun _ => u6 23 0)) 24 (fun _ => v)) 25 (fun _ => u6 25 0)) 24 0) ((su (su (su (su (fun _ _ => 0) 22 (fun _ => u6 22 0)) 23 (fun _ => u6 23 0)) 24 (fun _ => v)) 25 (fun _ => u6 25 0)) 25 0)) := hD
              exact W.vret hx hb hr (fun t ht hW => ⟨⟨(su (su (su (su (fun _ _ => 0) 22 (fun _ => u6 22 0)) 23 (fun _ => u6 23 0)) 24 (fun _ => v)) 25 (fun _ => u6 25 0)), rfl, hj, by rw [ht]; exact hP, hD⟩, hS.F ht⟩) hS.2.2 dX5_number_111
            · refine xi_zt_eq (tgt := 107) hx hb ⟨by decide, by decide⟩ (by decide) dX5_number_100 (by decide) ?_
              refine lv_iconst (v := iI (0)) hx hb dX5_number_107 (by decide) ?_
              refine xm_v (rV (rest := []) hx hb hml hown hts hK hl (c_X5_wants l g a f1 f2 f3 f4 f5 f6 f7 f8 f9 f10 f11 f12 f13 f20 f21 f22 f23 v f25 0 H.size (show ∀ j, 0 ≤ f9 j ∧ f9 j ≤ 255 from h1) (show 0 ≤ f21 ∧ f21 ≤ 120 from by omega) (show 0 ≤ f23 ∧ f23 ≤ f21 from by omega) (show f25 = 0 ∨ f25 = 1 from h4) (show 0 = 0 ∨ 0 = 1 from by omega)) lk_X5_247 ⟨rfl, hP, hD.weaken (fun _ _ _ _ => trivial)⟩ (va_recv hK.1 hP (ci := 5) (q0 := 0) rfl rfl) rfl rfl rfl (Rm.of rfl) rfl rfl dX5_number_108) hD hS hA (fun u7 H locs hw hP hD hS => ?_)
              have hw7 : ((u7 25 0, u7 22 0, u7 23 0, v) : Q4) = wantQ f9 f21 (f25, f22, f23, v) 0 := hw
              have hP : va_P g.1 vwCl (wM g a f1 f2 f3 f4 f5 f6 f7 f8 f9 f10 f11 f12 f13 f20 f21 (u7 22 0) (u7 23 0) v (u7 25 0)) H := hP
              have hD : va_D (va_A (wM g a f1 f2 f3 f4 f5 f6 f7 f8 f9 f10 f11 f12 f13 f20 f21 f22 f23 f24 f25) s.heap.size) (wM g a f1 f2 f3 f4 f5 f6 f7 f8 f9 f10 f11 f12 f13 f20 f21 (u7 22 0) (u7 23 0) v (u7 25 0)) := hD
              have hj : (((u7 25 0), (u7 22 0), (u7 23 0), v) : Q4) = numQ f9 f21 (f25, f22, f23, f24) lo hi := by unfold numQ; rw [if_neg (by dsimp only; omega)]; dsimp only; rw [hnv, hw7]; first | (rw [if_pos ⟨(isD_i _).mpr (by assumption), by omega, by omega⟩]; done) | (rw [if_neg (fun z => by first | (have h9 := (isD_i _).mp z.1; omega) | (have := z.2; omega))]; done)
              have hP : va_P g.1 vwCl (wM g a f1 f2 f3 f4 f5 f6 f7 f8 f9 f10 f11 f12 f13 f20 f21 ((su (su (su (su (fun _ _ => 0) 22 (fun _ => u7 22 0)) 23 (fun _ => u7 23 0)) 24 (fun _ => v)) 25 (fun _ => u7 25 0)) 22 0) ((su (su (su (su (fun _ _ => 0) 22 (fun _ => u7 22 0)) 23 (fun _ => u7 23 0)) 24 (fun _ => v)) 25 (fun _ => u7 25 0)) 23 0) ((su (su (su (su (fun _ _ => 0) 22 (fun _ => u7 22 0)) 23 (fun _ => u7 23 0)) 24 (fun _ => v)) 25 (fun _ => u7 25 0)) 24 0) ((su (su (su (su (fun _ _ => 0) 22 (fun _ => u7 22 0)) 23 (fun _ => u7 23 0)) 24 (fun _ => v)) 25 (fun _ => u7 25 0)) 25 0)) H := hP
              have hD : va_D (va_A (wM g a f1 f2 f3 f4 f5 f6 f7 f8 f9 f10 f11 f12 f13 f20 f21 f22 f23 f24 f25) s.heap.size) (wM g a f1 f2 f3 f4 f5 f6 f7 f8 f9 f10 f11 f12 f13 f20 f21 ((su (su (su (su (fun _ _ => 0) 22 (fun _ => u7 22 0)) 23 (fun _ => u7 23 0)) 24 (fun _ => v)) 25 (fun _ => u7 25 0)) 22 0) ((su (su (su (su (fun _ _ => 0) 22 (fun _ => u7 22 0)) 23 (fun _ => u7 23 0)) 24 (fun _ => v)) 25 (fun _ => u7 25 0)) 23 0) ((su (su (su (su (fun _ _ => 0) 22 (fun _ => u7 22 0)) 23 (fun _ => u7 23 0)) 24 (fun _ => v)) 25 (fun _ => u7 25 0)) 24 0) ((su (su (su (su (fun _ _ => 0) 22 (fun _ => u7 22 0)) 23 (fun _ => u7 23 0)) 24 (fun _ => v)) 25 (fun _ => u7 25 0)) 25 0)) := hD
              exact W.vret hx hb hr (fun t ht hW => ⟨⟨(su (su (su (su (fun _ _ => 0) 22 (fun _ => u7 22 0)) 23 (fun _ => u7 23 0)) 24 (fun _ => v)) 25 (fun _ => u7 25 0)), rfl, hj, by rw [ht]; exact hP, hD⟩, hS.F ht⟩) hS.2.2 dX5_number_111
          · refine lv_iload_n hx hb dX5_number_38 rfl (lv_at hl 2 rfl) ?_
            refine xi_zf_eq hx hb ⟨by decide, by decide⟩ (by decide) dX5_number_39 ⟨79, by decide⟩ ?_
            refine lv_iload hx hb dX5_number_42 (lv_at hl 1 rfl) ?_
            refine lv_sipush (v := iI (999)) hx hb dX5_number_44 (by decide) ?_
            refine xi_c_le (tgt := 55) hx hb ⟨by omega, by omega⟩ ⟨by decide, by decide⟩ dX5_number_47 (by decide) (fun z8 => ?_) (fun z8 => ?_)
            · refine lv_bipush (v := iI (10)) hx hb dX5_number_55 (by decide) ?_
              refine lv_iload hx hb dX5_number_57 (lv_at hl 1 rfl) ?_
              refine xi_mul hx hb dX5_number_59 ?_
              refine lv_aload_n hx hb dX5_number_60 rfl (lv_at hl 3 rfl) ?_
              refine xg_X5 hx hb hts hown hK hP 0 rfl 9 (by decide) fk_X5_34 (v := .ref (a 9)) rfl dX5_number_61 ?_
              refine lv_iload hx hb dX5_number_64 (lv_at hl 0 rfl) ?_
              refine xi_ald hx hb hK hP 9 (f := f9) rfl (i := f22 + (k : Int)) ⟨by omega, by omega⟩ rfl dX5_number_66 ?_
              have hdg := tk_dig (b := f9) (t := f21) h3.1 (by omega) ((isD_i _).mpr (by assumption)) (j := f22 + (k : Int)) (by omega) (by have := h5.resolve_left (by omega); omega)
              refine xi_add hx hb dX5_number_67 ?_
              refine lv_bipush (v := iI (48)) hx hb dX5_number_68 (by decide) ?_
              refine xi_sub hx hb dX5_number_70 ?_
              refine lv_istore (lv' := [(4, .int (iI (10 * v + (f9 (f22 + (k : Int))) - 48))), (5, .int (iI (f22 + (k : Int)))), (3, .int (iI 1)), (0, .ref (a 0)), (1, .int (iI lo)), (2, .int (iI hi))]) hx hb dX5_number_71 hl (by decide) rfl (fun ls hl => ?_)
              refine xi_inc (lv' := [(5, .int (iI (f22 + (k : Int) + 1))), (4, .int (iI (10 * v + (f9 (f22 + (k : Int))) - 48))), (3, .int (iI 1)), (0, .ref (a 0)), (1, .int (iI lo)), (2, .int (iI hi))]) hx hb dX5_number_73 hl (k := 1) rfl (by decide) rfl (fun ls hl => ?_)
              refine lv_goto (tgt := 29) hx hb dX5_number_76 (by decide) ?_
              have hq9 : (f22 + (k : Int) + 1) = (f22 + ((k + 1) : Int)) := by omega
              have hl : lv_has ls 6 [(5, .int (iI (f22 + (k : Int) + 1))), (4, .int (iI (10 * v + (f9 (f22 + (k : Int))) - 48))), (3, .int (iI 1)), (0, .ref (a 0)), (1, .int (iI lo)), (2, .int (iI hi))] := lv_sub hl [0, 1, 2, 3, 4, 5] rfl
              have hl := Eq.mp (congrArg (fun z9 => lv_has ls 6 [(5, .int (iI z9)), (4, .int (iI (10 * v + (f9 (f22 + (k : Int))) - 48))), (3, .int (iI 1)), (0, .ref (a 0)), (1, .int (iI lo)), (2, .int (iI hi))]) hq9) hl
              exact ih29 (k + 1) (10 * v + (f9 (f22 + (k : Int))) - 48) (by omega) (by rw [if_pos rfl] at i29_2 ⊢; simp only [nvT]; rw [← i29_2]; first | (rw [if_pos (by omega)]; done) | (rw [if_neg (by omega)]; done)) (by omega) (by omega) ls hl H locs hP hD hS
            · refine lv_iload hx hb dX5_number_50 (lv_at hl 1 rfl) ?_
              refine lv_goto (tgt := 71) hx hb dX5_number_52 (by decide) ?_
              refine lv_istore (lv' := [(4, .int (iI v)), (5, .int (iI (f22 + (k : Int)))), (3, .int (iI 1)), (0, .ref (a 0)), (1, .int (iI lo)), (2, .int (iI hi))]) hx hb dX5_number_71 hl (by decide) rfl (fun ls hl => ?_)
              refine xi_inc (lv' := [(5, .int (iI (f22 + (k : Int) + 1))), (4, .int (iI v)), (3, .int (iI 1)), (0, .ref (a 0)), (1, .int (iI lo)), (2, .int (iI hi))]) hx hb dX5_number_73 hl (k := 1) rfl (by decide) rfl (fun ls hl => ?_)
              refine lv_goto (tgt := 29) hx hb dX5_number_76 (by decide) ?_
              have hq10 : (f22 + (k : Int) + 1) = (f22 + ((k + 1) : Int)) := by omega
              have hl : lv_has ls 6 [(5, .int (iI (f22 + (k : Int) + 1))), (4, .int (iI v)), (3, .int (iI 1)), (0, .ref (a 0)), (1, .int (iI lo)), (2, .int (iI hi))] := lv_sub hl [0, 1, 2, 3, 4, 5] rfl
              have hl := Eq.mp (congrArg (fun z9 => lv_has ls 6 [(5, .int (iI z9)), (4, .int (iI v)), (3, .int (iI 1)), (0, .ref (a 0)), (1, .int (iI lo)), (2, .int (iI hi))]) hq10) hl
              exact ih29 (k + 1) v (by omega) (by rw [if_pos rfl] at i29_2 ⊢; simp only [nvT]; rw [← i29_2]; first | (rw [if_pos (by omega)]; done) | (rw [if_neg (by omega)]; done)) (by omega) (by omega) ls hl H locs hP hD hS
      have hq11 : f22 = (f22 + (0 : Int)) := by omega
      have hl : lv_has ls 6 [(5, .int (iI f22)), (4, .int (iI 0)), (3, .int (iI 1)), (0, .ref (a 0)), (1, .int (iI lo)), (2, .int (iI hi))] := lv_sub hl [0, 1, 2, 3, 4, 5] rfl
      have hl := Eq.mp (congrArg (fun z9 => lv_has ls 6 [(5, .int (iI z9)), (4, .int (iI 0)), (3, .int (iI 1)), (0, .ref (a 0)), (1, .int (iI lo)), (2, .int (iI hi))]) hq11) hl
      exact lp29 (120 + 1) 0 0 (by omega) (by split <;> rfl) (by omega) (by omega) ls hl s.heap [] hP hD hS
    · refine lv_istore_n (lv' := [(3, .int (iI 0)), (0, .ref (a 0)), (1, .int (iI lo)), (2, .int (iI hi))]) hx hb dX5_number_19 rfl hl (by decide) rfl (fun ls hl => ?_)
      refine lv_iconst (v := iI (0)) hx hb dX5_number_20 (by decide) ?_
      refine lv_istore (lv' := [(4, .int (iI 0)), (3, .int (iI 0)), (0, .ref (a 0)), (1, .int (iI lo)), (2, .int (iI hi))]) hx hb dX5_number_21 hl (by decide) rfl (fun ls hl => ?_)
      refine lv_aload_n hx hb dX5_number_23 rfl (lv_at hl 2 rfl) ?_
      refine xg_X5 hx hb hts hown hK hP 0 rfl 11 (by decide) fk_X5_221 (v := .int (iI f22)) rfl dX5_number_24 ?_
      refine lv_istore (lv' := [(5, .int (iI f22)), (4, .int (iI 0)), (3, .int (iI 0)), (0, .ref (a 0)), (1, .int (iI lo)), (2, .int (iI hi))]) hx hb dX5_number_27 hl (by decide) rfl (fun ls hl => ?_)
      have lp29 : ∀ (n29 : Nat) (k : Nat) (v : Int), (f22 + (k : Int) ≤ f23) → (v = if (0 : Int) = 1 then nvT f9 f22 k else 0) → (0 ≤ v ∧ v ≤ 9999) → 120 - k < n29 → ∀ ls : Array Slot, lv_has ls 6 [(5, .int (iI (f22 + (k : Int)))), (4, .int (iI v)), (3, .int (iI 0)), (0, .ref (a 0)), (1, .int (iI lo)), (2, .int (iI hi))] → ∀ (H : Heap) (locs : List Loc), va_P g.1 vwCl (wM g a f1 f2 f3 f4 f5 f6 f7 f8 f9 f10 f11 f12 f13 f20 f21 f22 f23 f24 f25) H → va_D (va_A (wM g a f1 f2 f3 f4 f5 f6 f7 f8 f9 f10 f11 f12 f13 f20 f21 f22 f23 f24 f25) s.heap.size) (wM g a f1 f2 f3 f4 f5 f6 f7 f8 f9 f10 f11 f12 f13 f20 f21 f22 f23 f24 f25) → va_S (va_A (wM g a f1 f2 f3 f4 f5 f6 f7 f8 f9 f10 f11 f12 f13 f20 f21 f22 f23 f24 f25) s.heap.size) s.heap H locs → W pq l eq rm_X5_number s mq [.ref (a 0), .int (iI lo), .int (iI hi)].toArray below meth cq H locs 0 0 (MQ below (QMv g (fun u9 : Nat → Int → Int => wM g a f1 f2 f3 f4 f5 f6 f7 f8 f9 f10 f11 f12 f13 f20 f21 (u9 22 0) (u9 23 0) (u9 24 0) (u9 25 0)) (fun u9 => ((u9 25 0, u9 22 0, u9 23 0, u9 24 0) : Q4) = numQ f9 f21 (f25, f22, f23, f24) lo hi) (va_A (wM g a f1 f2 f3 f4 f5 f6 f7 f8 f9 f10 f11 f12 f13 f20 f21 f22 f23 f24 f25) s.heap.size)) [.ref (a 0), .int (iI lo), .int (iI hi)].toArray s 0 0 (va_A (wM g a f1 f2 f3 f4 f5 f6 f7 f8 f9 f10 f11 f12 f13 f20 f21 f22 f23 f24 f25) s.heap.size)) (F0 mq 29 ls []) := by
        intro n29
        induction n29 with
        | zero => intro k v i29_1 i29_2 i29_3 hm; exact absurd hm (Nat.not_lt_zero _)
        | succ n29 ih29 =>
          intro k v i29_1 i29_2 i29_3 hm29 ls hl H locs hP hD hS
          refine lv_iload hx hb dX5_number_29 (lv_at hl 0 rfl) ?_
          refine lv_aload_n hx hb dX5_number_31 rfl (lv_at hl 3 rfl) ?_
          refine xg_X5 hx hb hts hown hK hP 0 rfl 12 (by decide) fk_X5_218 (v := .int (iI f23)) rfl dX5_number_32 ?_
          refine xi_c_ge (tgt := 79) hx hb ⟨by omega, by omega⟩ ⟨by omega, by omega⟩ dX5_number_35 (by decide) (fun z12 => ?_) (fun z12 => ?_)
          · have hkk : (f23 - f22).toNat = k := by omega
            refine lv_aload_n hx hb dX5_number_79 rfl (lv_at hl 3 rfl) ?_
            refine lv_iload hx hb dX5_number_80 (lv_at hl 1 rfl) ?_
            refine xp_X5 hx hb hts hown hK hP hD hS 0 rfl 13 (by decide) fk_X5_244 rfl (v := .int (iI v)) rfl rfl (Nat.le_of_ble_eq_true rfl) dX5_number_82 (fun H locs hP hD hS => ?_)
            have hP : va_P g.1 vwCl (wM g a f1 f2 f3 f4 f5 f6 f7 f8 f9 f10 f11 f12 f13 f20 f21 f22 f23 v f25) H := hP
            have hD : va_D (va_A (wM g a f1 f2 f3 f4 f5 f6 f7 f8 f9 f10 f11 f12 f13 f20 f21 f22 f23 f24 f25) s.heap.size) (wM g a f1 f2 f3 f4 f5 f6 f7 f8 f9 f10 f11 f12 f13 f20 f21 f22 f23 v f25) := hD
            have hnv : nv f9 f21 f22 f23 = v := by unfold nv; first | (rw [if_pos ((isD_i _).mpr (by assumption)), hkk]; rw [if_pos rfl] at i29_2; exact i29_2.symm) | (rw [if_neg (by rw [isD_i]; assumption)]; rw [if_neg (by omega)] at i29_2; exact i29_2.symm)
            refine lv_aload_n hx hb dX5_number_85 rfl (lv_at hl 3 rfl) ?_
            refine lv_iload_n hx hb dX5_number_86 rfl (lv_at hl 2 rfl) ?_
            refine xi_zt_eq (tgt := 107) hx hb ⟨by decide, by decide⟩ (by decide) dX5_number_87 (by decide) ?_
            refine lv_iconst (v := iI (0)) hx hb dX5_number_107 (by decide) ?_
            refine xm_v (rV (rest := []) hx hb hml hown hts hK hl (c_X5_wants l g a f1 f2 f3 f4 f5 f6 f7 f8 f9 f10 f11 f12 f13 f20 f21 f22 f23 v f25 0 H.size (show ∀ j, 0 ≤ f9 j ∧ f9 j ≤ 255 from h1) (show 0 ≤ f21 ∧ f21 ≤ 120 from by omega) (show 0 ≤ f23 ∧ f23 ≤ f21 from by omega) (show f25 = 0 ∨ f25 = 1 from h4) (show 0 = 0 ∨ 0 = 1 from by omega)) lk_X5_247 ⟨rfl, hP, hD.weaken (fun _ _ _ _ => trivial)⟩ (va_recv hK.1 hP (ci := 5) (q0 := 0) rfl rfl) rfl rfl rfl (Rm.of rfl) rfl rfl dX5_number_108) hD hS hA (fun u13 H locs hw hP hD hS => ?_)
            have hw13 : ((u13 25 0, u13 22 0, u13 23 0, v) : Q4) = wantQ f9 f21 (f25, f22, f23, v) 0 := hw
            have hP : va_P g.1 vwCl (wM g a f1 f2 f3 f4 f5 f6 f7 f8 f9 f10 f11 f12 f13 f20 f21 (u13 22 0) (u13 23 0) v (u13 25 0)) H := hP
            have hD : va_D (va_A (wM g a f1 f2 f3 f4 f5 f6 f7 f8 f9 f10 f11 f12 f13 f20 f21 f22 f23 f24 f25) s.heap.size) (wM g a f1 f2 f3 f4 f5 f6 f7 f8 f9 f10 f11 f12 f13 f20 f21 (u13 22 0) (u13 23 0) v (u13 25 0)) := hD
            have hj : (((u13 25 0), (u13 22 0), (u13 23 0), v) : Q4) = numQ f9 f21 (f25, f22, f23, f24) lo hi := by unfold numQ; rw [if_neg (by dsimp only; omega)]; dsimp only; rw [hnv, hw13]; first | (rw [if_pos ⟨(isD_i _).mpr (by assumption), by omega, by omega⟩]; done) | (rw [if_neg (fun z => by first | (have h9 := (isD_i _).mp z.1; omega) | (have := z.2; omega))]; done)
            have hP : va_P g.1 vwCl (wM g a f1 f2 f3 f4 f5 f6 f7 f8 f9 f10 f11 f12 f13 f20 f21 ((su (su (su (su (fun _ _ => 0) 22 (fun _ => u13 22 0)) 23 (fun _ => u13 23 0)) 24 (fun _ => v)) 25 (fun _ => u13 25 0)) 22 0) ((su (su (su (su (fun _ _ => 0) 22 (fun _ => u13 22 0)) 23 (fun _ => u13 23 0)) 24 (fun _ => v)) 25 (fun _ => u13 25 0)) 23 0) ((su (su (su (su (fun _ _ => 0) 22 (fun _ => u13 22 0)) 23 (fun _ => u13 23 0)) 24 (fun _ => v)) 25 (fun _ => u13 25 0)) 24 0) ((su (su (su (su (fun _ _ => 0) 22 (fun _ => u13 22 0)) 23 (fun _ => u13 23 0)) 24 (fun _ => v)) 25 (fun _ => u13 25 0)) 25 0)) H := hP
            have hD : va_D (va_A (wM g a f1 f2 f3 f4 f5 f6 f7 f8 f9 f10 f11 f12 f13 f20 f21 f22 f23 f24 f25) s.heap.size) (wM g a f1 f2 f3 f4 f5 f6 f7 f8 f9 f10 f11 f12 f13 f20 f21 ((su (su (su (su (fun _ _ => 0) 22 (fun _ => u13 22 0)) 23 (fun _ => u13 23 0)) 24 (fun _ => v)) 25 (fun _ => u13 25 0)) 22 0) ((su (su (su (su (fun _ _ => 0) 22 (fun _ => u13 22 0)) 23 (fun _ => u13 23 0)) 24 (fun _ => v)) 25 (fun _ => u13 25 0)) 23 0) ((su (su (su (su (fun _ _ => 0) 22 (fun _ => u13 22 0)) 23 (fun _ => u13 23 0)) 24 (fun _ => v)) 25 (fun _ => u13 25 0)) 24 0) ((su (su (su (su (fun _ _ => 0) 22 (fun _ => u13 22 0)) 23 (fun _ => u13 23 0)) 24 (fun _ => v)) 25 (fun _ => u13 25 0)) 25 0)) := hD
            exact W.vret hx hb hr (fun t ht hW => ⟨⟨(su (su (su (su (fun _ _ => 0) 22 (fun _ => u13 22 0)) 23 (fun _ => u13 23 0)) 24 (fun _ => v)) 25 (fun _ => u13 25 0)), rfl, hj, by rw [ht]; exact hP, hD⟩, hS.F ht⟩) hS.2.2 dX5_number_111
          · refine lv_iload_n hx hb dX5_number_38 rfl (lv_at hl 2 rfl) ?_
            refine xi_zt_eq (tgt := 79) hx hb ⟨by decide, by decide⟩ (by decide) dX5_number_39 (by decide) ?_
            refine lv_aload_n hx hb dX5_number_79 rfl (lv_at hl 3 rfl) ?_
            refine lv_iload hx hb dX5_number_80 (lv_at hl 1 rfl) ?_
            refine xp_X5 hx hb hts hown hK hP hD hS 0 rfl 13 (by decide) fk_X5_244 rfl (v := .int (iI v)) rfl rfl (Nat.le_of_ble_eq_true rfl) dX5_number_82 (fun H locs hP hD hS => ?_)
            have hP : va_P g.1 vwCl (wM g a f1 f2 f3 f4 f5 f6 f7 f8 f9 f10 f11 f12 f13 f20 f21 f22 f23 v f25) H := hP
            have hD : va_D (va_A (wM g a f1 f2 f3 f4 f5 f6 f7 f8 f9 f10 f11 f12 f13 f20 f21 f22 f23 f24 f25) s.heap.size) (wM g a f1 f2 f3 f4 f5 f6 f7 f8 f9 f10 f11 f12 f13 f20 f21 f22 f23 v f25) := hD
            have hnv : nv f9 f21 f22 f23 = v := by unfold nv; first | (rw [if_pos ((isD_i _).mpr (by assumption)), hkk]; rw [if_pos rfl] at i29_2; exact i29_2.symm) | (rw [if_neg (by rw [isD_i]; assumption)]; rw [if_neg (by omega)] at i29_2; exact i29_2.symm)
            refine lv_aload_n hx hb dX5_number_85 rfl (lv_at hl 3 rfl) ?_
            refine lv_iload_n hx hb dX5_number_86 rfl (lv_at hl 2 rfl) ?_
            refine xi_zt_eq (tgt := 107) hx hb ⟨by decide, by decide⟩ (by decide) dX5_number_87 (by decide) ?_
            refine lv_iconst (v := iI (0)) hx hb dX5_number_107 (by decide) ?_
            refine xm_v (rV (rest := []) hx hb hml hown hts hK hl (c_X5_wants l g a f1 f2 f3 f4 f5 f6 f7 f8 f9 f10 f11 f12 f13 f20 f21 f22 f23 v f25 0 H.size (show ∀ j, 0 ≤ f9 j ∧ f9 j ≤ 255 from h1) (show 0 ≤ f21 ∧ f21 ≤ 120 from by omega) (show 0 ≤ f23 ∧ f23 ≤ f21 from by omega) (show f25 = 0 ∨ f25 = 1 from h4) (show 0 = 0 ∨ 0 = 1 from by omega)) lk_X5_247 ⟨rfl, hP, hD.weaken (fun _ _ _ _ => trivial)⟩ (va_recv hK.1 hP (ci := 5) (q0 := 0) rfl rfl) rfl rfl rfl (Rm.of rfl) rfl rfl dX5_number_108) hD hS hA (fun u14 H locs hw hP hD hS => ?_)
            have hw14 : ((u14 25 0, u14 22 0, u14 23 0, v) : Q4) = wantQ f9 f21 (f25, f22, f23, v) 0 := hw
            have hP : va_P g.1 vwCl (wM g a f1 f2 f3 f4 f5 f6 f7 f8 f9 f10 f11 f12 f13 f20 f21 (u14 22 0) (u14 23 0) v (u14 25 0)) H := hP
            have hD : va_D (va_A (wM g a f1 f2 f3 f4 f5 f6 f7 f8 f9 f10 f11 f12 f13 f20 f21 f22 f23 f24 f25) s.heap.size) (wM g a f1 f2 f3 f4 f5 f6 f7 f8 f9 f10 f11 f12 f13 f20 f21 (u14 22 0) (u14 23 0) v (u14 25 0)) := hD
            have hj : (((u14 25 0), (u14 22 0), (u14 23 0), v) : Q4) = numQ f9 f21 (f25, f22, f23, f24) lo hi := by unfold numQ; rw [if_neg (by dsimp only; omega)]; dsimp only; rw [hnv, hw14]; first | (rw [if_pos ⟨(isD_i _).mpr (by assumption), by omega, by omega⟩]; done) | (rw [if_neg (fun z => by first | (have h9 := (isD_i _).mp z.1; omega) | (have := z.2; omega))]; done)
            have hP : va_P g.1 vwCl (wM g a f1 f2 f3 f4 f5 f6 f7 f8 f9 f10 f11 f12 f13 f20 f21 ((su (su (su (su (fun _ _ => 0) 22 (fun _ => u14 22 0)) 23 (fun _ => u14 23 0)) 24 (fun _ => v)) 25 (fun _ => u14 25 0)) 22 0) ((su (su (su (su (fun _ _ => 0) 22 (fun _ => u14 22 0)) 23 (fun _ => u14 23 0)) 24 (fun _ => v)) 25 (fun _ => u14 25 0)) 23 0) ((su (su (su (su (fun _ _ => 0) 22 (fun _ => u14 22 0)) 23 (fun _ => u14 23 0)) 24 (fun _ => v)) 25 (fun _ => u14 25 0)) 24 0) ((su (su (su (su (fun _ _ => 0) 22 (fun _ => u14 22 0)) 23 (fun _ => u14 23 0)) 24 (fun _ => v)) 25 (fun _ => u14 25 0)) 25 0)) H := hP
            have hD : va_D (va_A (wM g a f1 f2 f3 f4 f5 f6 f7 f8 f9 f10 f11 f12 f13 f20 f21 f22 f23 f24 f25) s.heap.size) (wM g a f1 f2 f3 f4 f5 f6 f7 f8 f9 f10 f11 f12 f13 f20 f21 ((su (su (su (su (fun _ _ => 0) 22 (fun _ => u14 22 0)) 23 (fun _ => u14 23 0)) 24 (fun _ => v)) 25 (fun _ => u14 25 0)) 22 0) ((su (su (su (su (fun _ _ => 0) 22 (fun _ => u14 22 0)) 23 (fun _ => u14 23 0)) 24 (fun _ => v)) 25 (fun _ => u14 25 0)) 23 0) ((su (su (su (su (fun _ _ => 0) 22 (fun _ => u14 22 0)) 23 (fun _ => u14 23 0)) 24 (fun _ => v)) 25 (fun _ => u14 25 0)) 24 0) ((su (su (su (su (fun _ _ => 0) 22 (fun _ => u14 22 0)) 23 (fun _ => u14 23 0)) 24 (fun _ => v)) 25 (fun _ => u14 25 0)) 25 0)) := hD
            exact W.vret hx hb hr (fun t ht hW => ⟨⟨(su (su (su (su (fun _ _ => 0) 22 (fun _ => u14 22 0)) 23 (fun _ => u14 23 0)) 24 (fun _ => v)) 25 (fun _ => u14 25 0)), rfl, hj, by rw [ht]; exact hP, hD⟩, hS.F ht⟩) hS.2.2 dX5_number_111
      have hq15 : f22 = (f22 + (0 : Int)) := by omega
      have hl : lv_has ls 6 [(5, .int (iI f22)), (4, .int (iI 0)), (3, .int (iI 0)), (0, .ref (a 0)), (1, .int (iI lo)), (2, .int (iI hi))] := lv_sub hl [0, 1, 2, 3, 4, 5] rfl
      have hl := Eq.mp (congrArg (fun z9 => lv_has ls 6 [(5, .int (iI z9)), (4, .int (iI 0)), (3, .int (iI 0)), (0, .ref (a 0)), (1, .int (iI lo)), (2, .int (iI hi))]) hq15) hl
      exact lp29 (120 + 1) 0 0 (by omega) (by split <;> rfl) (by omega) (by omega) ls hl s.heap [] hP hD hS
  · have hj : ((f25, f22, f23, f24) : Q4) = numQ f9 f21 (f25, f22, f23, f24) lo hi := by unfold numQ; rw [if_pos (by dsimp only; omega)]
    have hP : va_P g.1 vwCl (wM g a f1 f2 f3 f4 f5 f6 f7 f8 f9 f10 f11 f12 f13 f20 f21 ((su (su (su (su (fun _ _ => 0) 22 (fun _ => f22)) 23 (fun _ => f23)) 24 (fun _ => f24)) 25 (fun _ => f25)) 22 0) ((su (su (su (su (fun _ _ => 0) 22 (fun _ => f22)) 23 (fun _ => f23)) 24 (fun _ => f24)) 25 (fun _ => f25)) 23 0) ((su (su (su (su (fun _ _ => 0) 22 (fun _ => f22)) 23 (fun _ => f23)) 24 (fun _ => f24)) 25 (fun _ => f25)) 24 0) ((su (su (su (su (fun _ _ => 0) 22 (fun _ => f22)) 23 (fun _ => f23)) 24 (fun _ => f24)) 25 (fun _ => f25)) 25 0)) s.heap := hP
    have hD : va_D (va_A (wM g a f1 f2 f3 f4 f5 f6 f7 f8 f9 f10 f11 f12 f13 f20 f21 f22 f23 f24 f25) s.heap.size) (wM g a f1 f2 f3 f4 f5 f6 f7 f8 f9 f10 f11 f12 f13 f20 f21 ((su (su (su (su (fun _ _ => 0) 22 (fun _ => f22)) 23 (fun _ => f23)) 24 (fun _ => f24)) 25 (fun _ => f25)) 22 0) ((su (su (su (su (fun _ _ => 0) 22 (fun _ => f22)) 23 (fun _ => f23)) 24 (fun _ => f24)) 25 (fun _ => f25)) 23 0) ((su (su (su (su (fun _ _ => 0) 22 (fun _ => f22)) 23 (fun _ => f23)) 24 (fun _ => f24)) 25 (fun _ => f25)) 24 0) ((su (su (su (su (fun _ _ => 0) 22 (fun _ => f22)) 23 (fun _ => f23)) 24 (fun _ => f24)) 25 (fun _ => f25)) 25 0)) := hD
    exact W.vret hx hb hr (fun t ht hW => ⟨⟨(su (su (su (su (fun _ _ => 0) 22 (fun _ => f22)) 23 (fun _ => f23)) 24 (fun _ => f24)) 25 (fun _ => f25)), rfl, hj, by rw [ht]; exact hP, hD⟩, hS.F ht⟩) hS.2.2 dX5_number_7

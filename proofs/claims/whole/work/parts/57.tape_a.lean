theorem tkE_o {b : Int → Int} {t k : Int} (h1 : ¬ srt b t k = 1) (h2 : ¬ srt b t k = 2) : tkE b t k = if k < t then k + 1 else k := by
  unfold tkE
  by_cases c : k < t
  · rw [if_pos c, if_pos c, if_neg (by rw [srt_L]; exact h1), if_neg (by rw [srt_D]; exact h2)]
  · rw [if_neg c, if_neg c]
abbrev rm_X3_sortAt : Room := { frames := 0, cells := 0, slots := 0, locals := 0 }
set_option maxRecDepth 100000 in
set_option maxHeartbeats 4000000 in
theorem c_X3_sortAt (l : Launch) (g : Gd) (a : Nat → Nat) (f1 : Int → Int) (f20 : Int) (f21 : Int) (f22 : Int) (f23 : Int) (f24 : Int) (k : Int) (h1 : ∀ j, 0 ≤ f1 j ∧ f1 j ≤ 255) (h2 : 0 ≤ f20 ∧ f20 ≤ 120) (h3 : 0 ≤ k ∧ k ≤ 121) : Met l yX3_sortAt (wsOf yX3_sortAt cX3_sortAt 3 (some .int)) rm_X3_sortAt (PX g (va_P g.1 vwCl (wT g a f1 f20 f21 f22 f23 f24)) [.ref (a 0), .int (iI k)]) (vp_Si (fun r9 => r9 = iI (srt f1 f20 k))) 0 0 (fun _ => False) := by
  refine me (g := g) (by decide) rfl ?_
  intro pq eq s mq below meth cq C hnm hB ls hl
  obtain ⟨hx, hb, hr, hml, hown, hts, hlocks, hK⟩ := C
  have hown : s.vm.findClass RX3 = some mq.cls := hown
  have hl : lv_has ls 3 [(0, .ref (a 0)), (1, .int (iI k))] := hl
  have hP : va_P g.1 vwCl (wT g a f1 f20 f21 f22 f23 f24) s.heap := hB
  have hc := srt_c f1 f20 k
  have hby := h1 k
  refine lv_iload_n hx hb dX3_sortAt_0 rfl (lv_at hl 1 rfl) ?_
  refine lv_aload_n hx hb dX3_sortAt_1 rfl (lv_at hl 0 rfl) ?_
  refine xg_X3 hx hb hts hown hK hP 0 rfl 1 (by decide) fk_X3_15 (v := .int (iI f20)) rfl dX3_sortAt_2 ?_
  refine xi_c_lt (tgt := 10) hx hb ⟨by omega, by omega⟩ ⟨by omega, by omega⟩ dX3_sortAt_5 (by decide) (fun z1 => ?_) (fun z1 => ?_)
  · refine lv_aload_n hx hb dX3_sortAt_10 rfl (lv_at hl 0 rfl) ?_
    refine xg_X3 hx hb hts hown hK hP 0 rfl 0 (by decide) fk_X3_9 (v := .ref (a 1)) rfl dX3_sortAt_11 ?_
    refine lv_iload_n hx hb dX3_sortAt_14 rfl (lv_at hl 1 rfl) ?_
    refine xi_ald hx hb hK hP 1 (f := f1) rfl (i := k) ⟨by omega, by omega⟩ rfl dX3_sortAt_15 ?_
    refine lv_istore_n (lv' := [(2, .int (iI (f1 k))), (0, .ref (a 0)), (1, .int (iI k))]) hx hb dX3_sortAt_16 rfl hl (by decide) rfl (fun ls hl => ?_)
    refine lv_iload_n hx hb dX3_sortAt_17 rfl (lv_at hl 0 rfl) ?_
    refine lv_bipush (v := iI (97)) hx hb dX3_sortAt_18 (by decide) ?_
    refine xi_c_lt (tgt := 31) hx hb ⟨by omega, by omega⟩ ⟨by decide, by decide⟩ dX3_sortAt_20 (by decide) (fun z2 => ?_) (fun z2 => ?_)
    · refine lv_iload_n hx hb dX3_sortAt_31 rfl (lv_at hl 0 rfl) ?_
      refine lv_bipush (v := iI (48)) hx hb dX3_sortAt_32 (by decide) ?_
      refine xi_c_lt (tgt := 45) hx hb ⟨by omega, by omega⟩ ⟨by decide, by decide⟩ dX3_sortAt_34 (by decide) (fun z3 => ?_) (fun z3 => ?_)
      · refine lv_iload_n hx hb dX3_sortAt_45 rfl (lv_at hl 0 rfl) ?_
        refine lv_bipush (v := iI (59)) hx hb dX3_sortAt_46 (by decide) ?_
        refine xi_c_ne (tgt := 55) hx hb ⟨by omega, by omega⟩ ⟨by decide, by decide⟩ dX3_sortAt_48 (by decide) (fun z4 => ?_) (fun z4 => ?_)
        · refine lv_iconst (v := iI (4)) hx hb dX3_sortAt_55 (by decide) ?_
          exact W.iret hx hb hr (fun t ht hW => ⟨_, rfl, congrArg iI (by omega), ht⟩) (fun q h => by cases h) dX3_sortAt_56
        · refine lv_iconst (v := iI (3)) hx hb dX3_sortAt_51 (by decide) ?_
          refine lv_goto (tgt := 56) hx hb dX3_sortAt_52 (by decide) ?_
          exact W.iret hx hb hr (fun t ht hW => ⟨_, rfl, congrArg iI (by omega), ht⟩) (fun q h => by cases h) dX3_sortAt_56
      · refine lv_iload_n hx hb dX3_sortAt_37 rfl (lv_at hl 0 rfl) ?_
        refine lv_bipush (v := iI (57)) hx hb dX3_sortAt_38 (by decide) ?_
        refine xi_c_gt (tgt := 45) hx hb ⟨by omega, by omega⟩ ⟨by decide, by decide⟩ dX3_sortAt_40 (by decide) (fun z5 => ?_) (fun z5 => ?_)
        · refine lv_iload_n hx hb dX3_sortAt_45 rfl (lv_at hl 0 rfl) ?_
          refine lv_bipush (v := iI (59)) hx hb dX3_sortAt_46 (by decide) ?_
          refine xi_c_ne (tgt := 55) hx hb ⟨by omega, by omega⟩ ⟨by decide, by decide⟩ dX3_sortAt_48 (by decide) (fun z6 => ?_) (fun z6 => ?_)
          · refine lv_iconst (v := iI (4)) hx hb dX3_sortAt_55 (by decide) ?_
            exact W.iret hx hb hr (fun t ht hW => ⟨_, rfl, congrArg iI (by omega), ht⟩) (fun q h => by cases h) dX3_sortAt_56
          · refine lv_iconst (v := iI (3)) hx hb dX3_sortAt_51 (by decide) ?_
            refine lv_goto (tgt := 56) hx hb dX3_sortAt_52 (by decide) ?_
            exact W.iret hx hb hr (fun t ht hW => ⟨_, rfl, congrArg iI (by omega), ht⟩) (fun q h => by cases h) dX3_sortAt_56
        · refine lv_iconst (v := iI (2)) hx hb dX3_sortAt_43 (by decide) ?_
          exact W.iret hx hb hr (fun t ht hW => ⟨_, rfl, congrArg iI (by omega), ht⟩) (fun q h => by cases h) dX3_sortAt_44
    · refine lv_iload_n hx hb dX3_sortAt_23 rfl (lv_at hl 0 rfl) ?_
      refine lv_bipush (v := iI (122)) hx hb dX3_sortAt_24 (by decide) ?_
      refine xi_c_gt (tgt := 31) hx hb ⟨by omega, by omega⟩ ⟨by decide, by decide⟩ dX3_sortAt_26 (by decide) (fun z7 => ?_) (fun z7 => ?_)
      · refine lv_iload_n hx hb dX3_sortAt_31 rfl (lv_at hl 0 rfl) ?_
        refine lv_bipush (v := iI (48)) hx hb dX3_sortAt_32 (by decide) ?_
        refine xi_c_lt (tgt := 45) hx hb ⟨by omega, by omega⟩ ⟨by decide, by decide⟩ dX3_sortAt_34 (by decide) (fun z8 => ?_) (fun z8 => ?_)
        · refine lv_iload_n hx hb dX3_sortAt_45 rfl (lv_at hl 0 rfl) ?_
          refine lv_bipush (v := iI (59)) hx hb dX3_sortAt_46 (by decide) ?_
          refine xi_c_ne (tgt := 55) hx hb ⟨by omega, by omega⟩ ⟨by decide, by decide⟩ dX3_sortAt_48 (by decide) (fun z9 => ?_) (fun z9 => ?_)
          · refine lv_iconst (v := iI (4)) hx hb dX3_sortAt_55 (by decide) ?_
            exact W.iret hx hb hr (fun t ht hW => ⟨_, rfl, congrArg iI (by omega), ht⟩) (fun q h => by cases h) dX3_sortAt_56
          · refine lv_iconst (v := iI (3)) hx hb dX3_sortAt_51 (by decide) ?_
            refine lv_goto (tgt := 56) hx hb dX3_sortAt_52 (by decide) ?_
            exact W.iret hx hb hr (fun t ht hW => ⟨_, rfl, congrArg iI (by omega), ht⟩) (fun q h => by cases h) dX3_sortAt_56
        · refine lv_iload_n hx hb dX3_sortAt_37 rfl (lv_at hl 0 rfl) ?_
          refine lv_bipush (v := iI (57)) hx hb dX3_sortAt_38 (by decide) ?_
          refine xi_c_gt (tgt := 45) hx hb ⟨by omega, by omega⟩ ⟨by decide, by decide⟩ dX3_sortAt_40 (by decide) (fun z10 => ?_) (fun z10 => ?_)
          · refine lv_iload_n hx hb dX3_sortAt_45 rfl (lv_at hl 0 rfl) ?_
            refine lv_bipush (v := iI (59)) hx hb dX3_sortAt_46 (by decide) ?_
            refine xi_c_ne (tgt := 55) hx hb ⟨by omega, by omega⟩ ⟨by decide, by decide⟩ dX3_sortAt_48 (by decide) (fun z11 => ?_) (fun z11 => ?_)
            · refine lv_iconst (v := iI (4)) hx hb dX3_sortAt_55 (by decide) ?_
              exact W.iret hx hb hr (fun t ht hW => ⟨_, rfl, congrArg iI (by omega), ht⟩) (fun q h => by cases h) dX3_sortAt_56
            · refine lv_iconst (v := iI (3)) hx hb dX3_sortAt_51 (by decide) ?_
              refine lv_goto (tgt := 56) hx hb dX3_sortAt_52 (by decide) ?_
              exact W.iret hx hb hr (fun t ht hW => ⟨_, rfl, congrArg iI (by omega), ht⟩) (fun q h => by cases h) dX3_sortAt_56
          · refine lv_iconst (v := iI (2)) hx hb dX3_sortAt_43 (by decide) ?_
            exact W.iret hx hb hr (fun t ht hW => ⟨_, rfl, congrArg iI (by omega), ht⟩) (fun q h => by cases h) dX3_sortAt_44
      · refine lv_iconst (v := iI (1)) hx hb dX3_sortAt_29 (by decide) ?_
        exact W.iret hx hb hr (fun t ht hW => ⟨_, rfl, congrArg iI (by omega), ht⟩) (fun q h => by cases h) dX3_sortAt_30
  · refine lv_iconst (v := iI (0)) hx hb dX3_sortAt_8 (by decide) ?_
    exact W.iret hx hb hr (fun t ht hW => ⟨_, rfl, congrArg iI (by omega), ht⟩) (fun q h => by cases h) dX3_sortAt_9
abbrev rm_X3_numberAtHand : Room := { frames := 0, cells := 0, slots := 0, locals := 0 }
set_option maxRecDepth 100000 in
set_option maxHeartbeats 4000000 in
theorem c_X3_numberAtHand (l : Launch) (g : Gd) (a : Nat → Nat) (f1 : Int → Int) (f20 : Int) (f21 : Int) (f22 : Int) (f23 : Int) (f24 : Int) (h1 : ∀ j, 0 ≤ f1 j ∧ f1 j ≤ 255) (h2 : 0 ≤ f20 ∧ f20 ≤ 120) (h3 : 0 ≤ f21 ∧ f21 ≤ f22 ∧ f22 ≤ f20) (h4 : ∀ x9, f21 ≤ x9 → x9 < f22 → 48 ≤ f1 x9 ∧ f1 x9 ≤ 57) : Met l yX3_numberAtHand (wsOf yX3_numberAtHand cX3_numberAtHand 3 (some .int)) rm_X3_numberAtHand (PX g (va_P g.1 vwCl (wT g a f1 f20 f21 f22 f23 f24)) [.ref (a 0)]) (vp_Si (fun r9 => r9 = iI (nvT f1 f21 (Int.toNat (f22 - f21))))) 0 0 (fun _ => False) := by
  refine me (g := g) (by decide) rfl ?_
  intro pq eq s mq below meth cq C hnm hB ls hl
  obtain ⟨hx, hb, hr, hml, hown, hts, hlocks, hK⟩ := C
  have hown : s.vm.findClass RX3 = some mq.cls := hown
  have hl : lv_has ls 3 [(0, .ref (a 0))] := hl
  have hP : va_P g.1 vwCl (wT g a f1 f20 f21 f22 f23 f24) s.heap := hB
  refine lv_iconst (v := iI (0)) hx hb dX3_numberAtHand_0 (by decide) ?_
  refine lv_istore_n (lv' := [(1, .int (iI 0)), (0, .ref (a 0))]) hx hb dX3_numberAtHand_1 rfl hl (by decide) rfl (fun ls hl => ?_)
  refine lv_aload_n hx hb dX3_numberAtHand_2 rfl (lv_at hl 1 rfl) ?_
  refine xg_X3 hx hb hts hown hK hP 0 rfl 2 (by decide) fk_X3_29 (v := .int (iI f21)) rfl dX3_numberAtHand_3 ?_
  refine lv_istore_n (lv' := [(2, .int (iI f21)), (1, .int (iI 0)), (0, .ref (a 0))]) hx hb dX3_numberAtHand_6 rfl hl (by decide) rfl (fun ls hl => ?_)
  have lp7 : ∀ (n7 : Nat) (k : Nat), (f21 + (k : Int) ≤ f22) → 120 - k < n7 → ∀ ls : Array Slot, lv_has ls 3 [(2, .int (iI (f21 + (k : Int)))), (1, .int (iI (nvT f1 f21 k))), (0, .ref (a 0))] → W pq l eq rm_X3_numberAtHand s mq [.ref (a 0)].toArray below meth cq s.heap [] 0 0 (MQ below (vp_Si (fun r9 => r9 = iI (nvT f1 f21 (Int.toNat (f22 - f21))))) [.ref (a 0)].toArray s 0 0 (fun _ => False)) (F0 mq 7 ls []) := by
    intro n7
    induction n7 with
    | zero => intro k i7_1 hm; exact absurd hm (Nat.not_lt_zero _)
    | succ n7 ih7 =>
      intro k i7_1 hm7 ls hl
      have hnb := nvT_b (b := f1) (a := f21) k (fun j j0 j1 => h4 j j0 (by omega))
      refine lv_iload_n hx hb dX3_numberAtHand_7 rfl (lv_at hl 0 rfl) ?_
      refine lv_aload_n hx hb dX3_numberAtHand_8 rfl (lv_at hl 2 rfl) ?_
      refine xg_X3 hx hb hts hown hK hP 0 rfl 3 (by decide) fk_X3_19 (v := .int (iI f22)) rfl dX3_numberAtHand_9 ?_
      refine xi_c_ge (tgt := 43) hx hb ⟨by omega, by omega⟩ ⟨by omega, by omega⟩ dX3_numberAtHand_12 (by decide) (fun z1 => ?_) (fun z1 => ?_)
      · refine lv_iload_n hx hb dX3_numberAtHand_43 rfl (lv_at hl 1 rfl) ?_
        exact W.iret hx hb hr (fun t ht hW => ⟨_, rfl, congrArg iI (by first | (rw [show (f22 - f21).toNat = k by omega]; done) | (have hst := nvT_st (b := f1) (a := f21) (k := k) (by omega) ((f22 - f21).toNat - k); rw [show k + ((f22 - f21).toNat - k) = (f22 - f21).toNat by omega] at hst; exact hst.symm)), ht⟩) (fun q h => by cases h) dX3_numberAtHand_44
      · refine lv_iload_n hx hb dX3_numberAtHand_15 rfl (lv_at hl 1 rfl) ?_
        refine lv_sipush (v := iI (999)) hx hb dX3_numberAtHand_16 (by decide) ?_
        refine xi_c_gt (tgt := 43) hx hb ⟨by omega, by omega⟩ ⟨by decide, by decide⟩ dX3_numberAtHand_19 (by decide) (fun z2 => ?_) (fun z2 => ?_)
        · refine lv_iload_n hx hb dX3_numberAtHand_43 rfl (lv_at hl 1 rfl) ?_
          exact W.iret hx hb hr (fun t ht hW => ⟨_, rfl, congrArg iI (by first | (rw [show (f22 - f21).toNat = k by omega]; done) | (have hst := nvT_st (b := f1) (a := f21) (k := k) (by omega) ((f22 - f21).toNat - k); rw [show k + ((f22 - f21).toNat - k) = (f22 - f21).toNat by omega] at hst; exact hst.symm)), ht⟩) (fun q h => by cases h) dX3_numberAtHand_44
        · have hdg := h4 (f21 + (k : Int)) (by omega) (by omega)
          refine lv_bipush (v := iI (10)) hx hb dX3_numberAtHand_22 (by decide) ?_
          refine lv_iload_n hx hb dX3_numberAtHand_24 rfl (lv_at hl 1 rfl) ?_
          refine xi_mul hx hb dX3_numberAtHand_25 ?_
          refine lv_aload_n hx hb dX3_numberAtHand_26 rfl (lv_at hl 2 rfl) ?_
          refine xg_X3 hx hb hts hown hK hP 0 rfl 0 (by decide) fk_X3_9 (v := .ref (a 1)) rfl dX3_numberAtHand_27 ?_
          refine lv_iload_n hx hb dX3_numberAtHand_30 rfl (lv_at hl 0 rfl) ?_
          refine xi_ald hx hb hK hP 1 (f := f1) rfl (i := f21 + (k : Int)) ⟨by omega, by omega⟩ rfl dX3_numberAtHand_31 ?_
          refine xi_add hx hb dX3_numberAtHand_32 ?_
          refine lv_bipush (v := iI (48)) hx hb dX3_numberAtHand_33 (by decide) ?_
          refine xi_sub hx hb dX3_numberAtHand_35 ?_
          refine lv_istore_n (lv' := [(1, .int (iI (10 * (nvT f1 f21 k) + (f1 (f21 + (k : Int))) - 48))), (2, .int (iI (f21 + (k : Int)))), (0, .ref (a 0))]) hx hb dX3_numberAtHand_36 rfl hl (by decide) rfl (fun ls hl => ?_)
          refine xi_inc (lv' := [(2, .int (iI (f21 + (k : Int) + 1))), (1, .int (iI (10 * (nvT f1 f21 k) + (f1 (f21 + (k : Int))) - 48))), (0, .ref (a 0))]) hx hb dX3_numberAtHand_37 hl (k := 1) rfl (by decide) rfl (fun ls hl => ?_)
          refine lv_goto (tgt := 7) hx hb dX3_numberAtHand_40 (by decide) ?_
          have hq3 : (f21 + (k : Int) + 1) = (f21 + ((k + 1) : Int)) := by omega
          have hq4 : (10 * (nvT f1 f21 k) + (f1 (f21 + (k : Int))) - 48) = (nvT f1 f21 (k + 1)) := by simp only [nvT]; rw [if_neg (by omega)]
          have hl : lv_has ls 3 [(2, .int (iI (f21 + (k : Int) + 1))), (1, .int (iI (10 * (nvT f1 f21 k) + (f1 (f21 + (k : Int))) - 48))), (0, .ref (a 0))] := lv_sub hl [0, 1, 2] rfl
          have hl := Eq.mp (congrArg (fun z9 => lv_has ls 3 [(2, .int (iI z9)), (1, .int (iI (10 * (nvT f1 f21 k) + (f1 (f21 + (k : Int))) - 48))), (0, .ref (a 0))]) hq3) hl
          have hl := Eq.mp (congrArg (fun z9 => lv_has ls 3 [(2, .int (iI (f21 + ((k + 1) : Int)))), (1, .int (iI z9)), (0, .ref (a 0))]) hq4) hl
          exact ih7 (k + 1) (by omega) (by omega) ls hl
  have hq5 : f21 = (f21 + (0 : Int)) := by omega
  have hq6 : 0 = (nvT f1 f21 0) := rfl
  have hl : lv_has ls 3 [(2, .int (iI f21)), (1, .int (iI 0)), (0, .ref (a 0))] := lv_sub hl [0, 1, 2] rfl
  have hl := Eq.mp (congrArg (fun z9 => lv_has ls 3 [(2, .int (iI z9)), (1, .int (iI 0)), (0, .ref (a 0))]) hq5) hl
  have hl := Eq.mp (congrArg (fun z9 => lv_has ls 3 [(2, .int (iI (f21 + (0 : Int)))), (1, .int (iI z9)), (0, .ref (a 0))]) hq6) hl
  exact lp7 (120 + 1) 0 (by omega) (by omega) ls hl
abbrev rm_X3_nextToken : Room := { frames := 1, cells := 0, slots := 0, locals := 22 }
set_option maxRecDepth 100000 in
set_option maxHeartbeats 4000000 in
theorem c_X3_nextToken (l : Launch) (g : Gd) (a : Nat → Nat) (f1 : Int → Int) (f20 : Int) (f21 : Int) (f22 : Int) (f23 : Int) (f24 : Int) (sz : Nat) (h1 : ∀ j, 0 ≤ f1 j ∧ f1 j ≤ 255) (h2 : 0 ≤ f20 ∧ f20 ≤ 120) (h3 : 0 ≤ f22 ∧ f22 ≤ f20) : Met l yX3_nextToken (wsOf yX3_nextToken cX3_nextToken 1 none) rm_X3_nextToken (PX g (wP g (wT g a f1 f20 f21 f22 f23 f24) sz) [.ref (a 0)]) (QMv g (fun _ : Unit => wT g a f1 f20 (tkF f1 f20 f22) (tkE f1 f20 (tkF f1 f20 f22)) (srt f1 f20 (tkF f1 f20 f22)) (nv f1 f20 (tkF f1 f20 f22) (tkE f1 f20 (tkF f1 f20 f22)))) (fun _ => True) (va_A (wT g a f1 f20 f21 f22 f23 f24) sz)) 0 0 (va_A (wT g a f1 f20 f21 f22 f23 f24) sz) := by
  refine me (g := g) (by decide) rfl ?_
  intro pq eq s mq below meth cq C hnm hB ls hl
  obtain ⟨hx, hb, hr, hml, hown, hts, hlocks, hK⟩ := C
  have hown : s.vm.findClass RX3 = some mq.cls := hown
  have hl : lv_has ls 1 [(0, .ref (a 0))] := hl
  obtain ⟨hsz, hP, hD0⟩ := hB
  subst hsz
  have hD := hD0.self (sz := s.heap.size)
  have hA : ∀ q : Nat, s.heap.size ≤ q → va_A (wT g a f1 f20 f21 f22 f23 f24) s.heap.size q := fun q h => Or.inr h
  have hS : va_S (va_A (wT g a f1 f20 f21 f22 f23 f24) s.heap.size) s.heap s.heap [] := va_S.rf
  refine lv_aload_n hx hb dX3_nextToken_0 rfl (lv_at hl 0 rfl) ?_
  refine lv_aload_n hx hb dX3_nextToken_1 rfl (lv_at hl 0 rfl) ?_
  refine xg_X3 hx hb hts hown hK hP 0 rfl 3 (by decide) fk_X3_19 (v := .int (iI f22)) rfl dX3_nextToken_2 ?_
  refine xp_X3 hx hb hts hown hK hP hD hS 0 rfl 2 (by decide) fk_X3_29 rfl (v := .int (iI f22)) rfl rfl (Nat.le_of_ble_eq_true rfl) dX3_nextToken_5 (fun H locs hP hD hS => ?_)
  have hP : va_P g.1 vwCl (wT g a f1 f20 f22 f22 f23 f24) H := hP
  have hD : va_D (va_A (wT g a f1 f20 f21 f22 f23 f24) s.heap.size) (wT g a f1 f20 f22 f22 f23 f24) := hD
  have lp8 : ∀ (n8 : Nat) (k : Int) (m : Nat), (0 ≤ k ∧ k ≤ f20) → (skT f1 f20 m k = (tkF f1 f20 f22)) → (f20 - k < m) → (f20 - k).toNat < n8 → ∀ ls : Array Slot, lv_has ls 1 [(0, .ref (a 0))] → ∀ (H : Heap) (locs : List Loc), va_P g.1 vwCl (wT g a f1 f20 k f22 f23 f24) H → va_D (va_A (wT g a f1 f20 f21 f22 f23 f24) s.heap.size) (wT g a f1 f20 k f22 f23 f24) → va_S (va_A (wT g a f1 f20 f21 f22 f23 f24) s.heap.size) s.heap H locs → W pq l eq rm_X3_nextToken s mq [.ref (a 0)].toArray below meth cq H locs 0 0 (MQ below (QMv g (fun _ : Unit => wT g a f1 f20 (tkF f1 f20 f22) (tkE f1 f20 (tkF f1 f20 f22)) (srt f1 f20 (tkF f1 f20 f22)) (nv f1 f20 (tkF f1 f20 f22) (tkE f1 f20 (tkF f1 f20 f22)))) (fun _ => True) (va_A (wT g a f1 f20 f21 f22 f23 f24) s.heap.size)) [.ref (a 0)].toArray s 0 0 (va_A (wT g a f1 f20 f21 f22 f23 f24) s.heap.size)) (F0 mq 8 ls []) := by
    intro n8
    induction n8 with
    | zero => intro k m i8_1 i8_2 i8_3 hm; exact absurd hm (Nat.not_lt_zero _)
    | succ n8 ih8 =>
      intro k m i8_1 i8_2 i8_3 hm8 ls hl H locs hP hD hS
      have hby := h1 k
      refine lv_aload_n hx hb dX3_nextToken_8 rfl (lv_at hl 0 rfl) ?_
      refine xg_X3 hx hb hts hown hK hP 0 rfl 2 (by decide) fk_X3_29 (v := .int (iI k)) rfl dX3_nextToken_9 ?_
      refine lv_aload_n hx hb dX3_nextToken_12 rfl (lv_at hl 0 rfl) ?_
      refine xg_X3 hx hb hts hown hK hP 0 rfl 1 (by decide) fk_X3_15 (v := .int (iI f20)) rfl dX3_nextToken_13 ?_
      refine xi_c_ge (tgt := 46) hx hb ⟨by omega, by omega⟩ ⟨by omega, by omega⟩ dX3_nextToken_16 (by decide) (fun z1 => ?_) (fun z1 => ?_)
      · have hk : k = (tkF f1 f20 f22) := by rw [← i8_2]; exact (skT_stop (by have := bAt_d f1 f20 k; omega) m).symm
        have hsc := srt_c f1 f20 k
        refine lv_aload_n hx hb dX3_nextToken_46 rfl (lv_at hl 0 rfl) ?_
        refine lv_aload_n hx hb dX3_nextToken_47 rfl (lv_at hl 0 rfl) ?_
        refine lv_aload_n hx hb dX3_nextToken_48 rfl (lv_at hl 0 rfl) ?_
        refine xg_X3 hx hb hts hown hK hP 0 rfl 2 (by decide) fk_X3_29 (v := .int (iI k)) rfl dX3_nextToken_49 ?_
        refine xu_i (x := iI (srt f1 f20 k)) (rV (rest := [.ref (a 0)]) hx hb hml hown hts hK hl (c_X3_sortAt l g a f1 f20 k f22 f23 f24 k (show ∀ j, 0 ≤ f1 j ∧ f1 j ≤ 255 from h1) (show 0 ≤ f20 ∧ f20 ≤ 120 from by omega) (show 0 ≤ k ∧ k ≤ 121 from by omega)) lk_X3_138 hP (va_recv hK.1 hP (ci := 3) (q0 := 0) rfl rfl) rfl rfl rfl (Rm.of rfl) rfl rfl dX3_nextToken_52) ?_
        refine xp_X3 hx hb hts hown hK hP hD hS 0 rfl 4 (by decide) fk_X3_32 rfl (v := .int (iI (srt f1 f20 k))) rfl rfl (Nat.le_of_ble_eq_true rfl) dX3_nextToken_55 (fun H locs hP hD hS => ?_)
        have hP : va_P g.1 vwCl (wT g a f1 f20 k f22 (srt f1 f20 k) f24) H := hP
        have hD : va_D (va_A (wT g a f1 f20 f21 f22 f23 f24) s.heap.size) (wT g a f1 f20 k f22 (srt f1 f20 k) f24) := hD
        refine lv_aload_n hx hb dX3_nextToken_58 rfl (lv_at hl 0 rfl) ?_
        refine lv_aload_n hx hb dX3_nextToken_59 rfl (lv_at hl 0 rfl) ?_
        refine xg_X3 hx hb hts hown hK hP 0 rfl 2 (by decide) fk_X3_29 (v := .int (iI k)) rfl dX3_nextToken_60 ?_
        refine lv_iconst (v := iI (1)) hx hb dX3_nextToken_63 (by decide) ?_
        refine xi_add hx hb dX3_nextToken_64 ?_
        refine lv_aload_n hx hb dX3_nextToken_65 rfl (lv_at hl 0 rfl) ?_
        refine xg_X3 hx hb hts hown hK hP 0 rfl 1 (by decide) fk_X3_15 (v := .int (iI f20)) rfl dX3_nextToken_66 ?_
        refine xj_min hx hb hml hown hts hl mk_X3_141 ⟨by omega, by omega⟩ ⟨by omega, by omega⟩ (Nat.le_of_ble_eq_true rfl) rfl (Nat.le_of_ble_eq_true rfl) (Nat.le_of_ble_eq_true rfl) dX3_nextToken_69 ?_
        rcases (show ((f20 < k + 1) ∧ (if f20 < k + 1 then f20 else k + 1) = f20) ∨ (¬ (f20 < k + 1) ∧ (if f20 < k + 1 then f20 else k + 1) = k + 1) from (if h : f20 < k + 1 then Or.inl ⟨h, if_pos h⟩ else Or.inr ⟨h, if_neg h⟩)) with ⟨z3, e3⟩ | ⟨z3, e3⟩
        · rw [e3]
          refine xp_X3 hx hb hts hown hK hP hD hS 0 rfl 3 (by decide) fk_X3_19 rfl (v := .int (iI f20)) rfl rfl (Nat.le_of_ble_eq_true rfl) dX3_nextToken_72 (fun H locs hP hD hS => ?_)
          have hP : va_P g.1 vwCl (wT g a f1 f20 k f20 (srt f1 f20 k) f24) H := hP
          have hD : va_D (va_A (wT g a f1 f20 f21 f22 f23 f24) s.heap.size) (wT g a f1 f20 k f20 (srt f1 f20 k) f24) := hD
          refine lv_aload_n hx hb dX3_nextToken_75 rfl (lv_at hl 0 rfl) ?_
          refine xg_X3 hx hb hts hown hK hP 0 rfl 4 (by decide) fk_X3_32 (v := .int (iI (srt f1 f20 k))) rfl dX3_nextToken_76 ?_
          refine lv_iconst (v := iI (1)) hx hb dX3_nextToken_79 (by decide) ?_
          refine xi_c_eq (tgt := 91) hx hb ⟨by omega, by omega⟩ ⟨by decide, by decide⟩ dX3_nextToken_80 (by decide) (fun z4 => ?_) (fun z4 => ?_)
          · have lp91 : ∀ (n91 : Nat) (j : Int) (n : Nat), (0 ≤ j ∧ j ≤ f20) → (rnW f1 f20 (if srt f1 f20 k = 1 then 1 else 0) (if srt f1 f20 k = 2 then 1 else 0) n j = tkE f1 f20 k) → (f20 - j < n) → (k < j) → (f20 - j).toNat < n91 → ∀ ls : Array Slot, lv_has ls 1 [(0, .ref (a 0))] → ∀ (H : Heap) (locs : List Loc), va_P g.1 vwCl (wT g a f1 f20 k j (srt f1 f20 k) f24) H → va_D (va_A (wT g a f1 f20 f21 f22 f23 f24) s.heap.size) (wT g a f1 f20 k j (srt f1 f20 k) f24) → va_S (va_A (wT g a f1 f20 f21 f22 f23 f24) s.heap.size) s.heap H locs → W pq l eq rm_X3_nextToken s mq [.ref (a 0)].toArray below meth cq H locs 0 0 (MQ below (QMv g (fun _ : Unit => wT g a f1 f20 (tkF f1 f20 f22) (tkE f1 f20 (tkF f1 f20 f22)) (srt f1 f20 (tkF f1 f20 f22)) (nv f1 f20 (tkF f1 f20 f22) (tkE f1 f20 (tkF f1 f20 f22)))) (fun _ => True) (va_A (wT g a f1 f20 f21 f22 f23 f24) s.heap.size)) [.ref (a 0)].toArray s 0 0 (va_A (wT g a f1 f20 f21 f22 f23 f24) s.heap.size)) (F0 mq 91 ls []) := by
              intro n91
              induction n91 with
              | zero => intro j n i91_1 i91_2 i91_3 i91_4 hm; exact absurd hm (Nat.not_lt_zero _)
              | succ n91 ih91 =>
                intro j n i91_1 i91_2 i91_3 i91_4 hm91 ls hl H locs hP hD hS
                have hsj := srt_c f1 f20 j
                refine lv_aload_n hx hb dX3_nextToken_91 rfl (lv_at hl 0 rfl) ?_
                refine xg_X3 hx hb hts hown hK hP 0 rfl 3 (by decide) fk_X3_19 (v := .int (iI j)) rfl dX3_nextToken_92 ?_
                refine lv_aload_n hx hb dX3_nextToken_95 rfl (lv_at hl 0 rfl) ?_
                refine xg_X3 hx hb hts hown hK hP 0 rfl 1 (by decide) fk_X3_15 (v := .int (iI f20)) rfl dX3_nextToken_96 ?_
                refine xi_c_ge (tgt := 130) hx hb ⟨by omega, by omega⟩ ⟨by omega, by omega⟩ dX3_nextToken_99 (by decide) (fun z5 => ?_) (fun z5 => ?_)
                · have hj : j = tkE f1 f20 k := by rw [← i91_2]; exact (rn_stop n (by omega)).symm
                  refine lv_aload_n hx hb dX3_nextToken_130 rfl (lv_at hl 0 rfl) ?_
                  refine lv_aload_n hx hb dX3_nextToken_131 rfl (lv_at hl 0 rfl) ?_
                  refine xg_X3 hx hb hts hown hK hP 0 rfl 4 (by decide) fk_X3_32 (v := .int (iI (srt f1 f20 k))) rfl dX3_nextToken_132 ?_
                  refine lv_iconst (v := iI (2)) hx hb dX3_nextToken_135 (by decide) ?_
                  refine xi_c_ne (tgt := 146) hx hb ⟨by omega, by omega⟩ ⟨by decide, by decide⟩ dX3_nextToken_136 (by decide) (fun z6 => ?_) (fun z6 => ?_)
                  · refine lv_iconst (v := iI (0)) hx hb dX3_nextToken_146 (by decide) ?_
                    refine xp_X3 hx hb hts hown hK hP hD hS 0 rfl 5 (by decide) fk_X3_78 rfl (v := .int (iI 0)) rfl rfl (Nat.le_of_ble_eq_true rfl) dX3_nextToken_147 (fun H locs hP hD hS => ?_)
                    have hP : va_P g.1 vwCl (wT g a f1 f20 k j (srt f1 f20 k) 0) H := hP
                    have hD : va_D (va_A (wT g a f1 f20 f21 f22 f23 f24) s.heap.size) (wT g a f1 f20 k j (srt f1 f20 k) 0) := hD
                    have he7 : 0 = (nv f1 f20 (tkF f1 f20 f22) (tkE f1 f20 (tkF f1 f20 f22))) := by rw [← hk]; unfold nv; first | (rw [if_pos (srt_D.mpr (by omega)), ← hj]; done) | (rw [if_neg (by rw [srt_D]; omega)]; done) | (exfalso; omega)
                    have hP := Eq.mp (congrArg (fun z9 => va_P g.1 vwCl (wT g a f1 f20 k j (srt f1 f20 k) z9) H) he7) hP
                    have hD := Eq.mp (congrArg (fun z9 => va_D (va_A (wT g a f1 f20 f21 f22 f23 f24) s.heap.size) (wT g a f1 f20 k j (srt f1 f20 k) z9)) he7) hD
                    have he8 : k = (tkF f1 f20 f22) := hk
                    have hP := Eq.mp (congrArg (fun z9 => va_P g.1 vwCl (wT g a f1 f20 z9 j (srt f1 f20 k) (nv f1 f20 (tkF f1 f20 f22) (tkE f1 f20 (tkF f1 f20 f22)))) H) he8) hP
                    have hD := Eq.mp (congrArg (fun z9 => va_D (va_A (wT g a f1 f20 f21 f22 f23 f24) s.heap.size) (wT g a f1 f20 z9 j (srt f1 f20 k) (nv f1 f20 (tkF f1 f20 f22) (tkE f1 f20 (tkF f1 f20 f22))))) he8) hD
                    have he9 : j = (tkE f1 f20 (tkF f1 f20 f22)) := by rw [← hk]; first | exact hj | (rw [tkE_o (by omega) (by omega)]; first | (rw [if_pos (by omega)]; done) | (rw [if_neg (by omega)]; omega) | (exfalso; omega))
                    have hP := Eq.mp (congrArg (fun z9 => va_P g.1 vwCl (wT g a f1 f20 (tkF f1 f20 f22) z9 (srt f1 f20 k) (nv f1 f20 (tkF f1 f20 f22) (tkE f1 f20 (tkF f1 f20 f22)))) H) he9) hP
                    have hD := Eq.mp (congrArg (fun z9 => va_D (va_A (wT g a f1 f20 f21 f22 f23 f24) s.heap.size) (wT g a f1 f20 (tkF f1 f20 f22) z9 (srt f1 f20 k) (nv f1 f20 (tkF f1 f20 f22) (tkE f1 f20 (tkF f1 f20 f22))))) he9) hD
                    have he10 : (srt f1 f20 k) = (srt f1 f20 (tkF f1 f20 f22)) := by rw [hk]
                    have hP := Eq.mp (congrArg (fun z9 => va_P g.1 vwCl (wT g a f1 f20 (tkF f1 f20 f22) (tkE f1 f20 (tkF f1 f20 f22)) z9 (nv f1 f20 (tkF f1 f20 f22) (tkE f1 f20 (tkF f1 f20 f22)))) H) he10) hP
                    have hD := Eq.mp (congrArg (fun z9 => va_D (va_A (wT g a f1 f20 f21 f22 f23 f24) s.heap.size) (wT g a f1 f20 (tkF f1 f20 f22) (tkE f1 f20 (tkF f1 f20 f22)) z9 (nv f1 f20 (tkF f1 f20 f22) (tkE f1 f20 (tkF f1 f20 f22))))) he10) hD
                    have hP : va_P g.1 vwCl (wT g a f1 f20 (tkF f1 f20 f22) (tkE f1 f20 (tkF f1 f20 f22)) (srt f1 f20 (tkF f1 f20 f22)) (nv f1 f20 (tkF f1 f20 f22) (tkE f1 f20 (tkF f1 f20 f22)))) H := hP
                    have hD : va_D (va_A (wT g a f1 f20 f21 f22 f23 f24) s.heap.size) (wT g a f1 f20 (tkF f1 f20 f22) (tkE f1 f20 (tkF f1 f20 f22)) (srt f1 f20 (tkF f1 f20 f22)) (nv f1 f20 (tkF f1 f20 f22) (tkE f1 f20 (tkF f1 f20 f22)))) := hD
                    exact W.vret hx hb hr (fun t ht hW => ⟨⟨(), rfl, trivial, by rw [ht]; exact hP, hD⟩, hS.F ht⟩) hS.2.2 dX3_nextToken_150
                  · refine lv_aload_n hx hb dX3_nextToken_139 rfl (lv_at hl 0 rfl) ?_
                    refine xu_i (x := iI (nvT f1 k (Int.toNat (j - k)))) (rV (rest := [.ref (a 0)]) hx hb hml hown hts hK hl (c_X3_numberAtHand l g a f1 f20 k j (srt f1 f20 k) f24 (show ∀ j, 0 ≤ f1 j ∧ f1 j ≤ 255 from h1) (show 0 ≤ f20 ∧ f20 ≤ 120 from by omega) (show 0 ≤ k ∧ k ≤ j ∧ j ≤ f20 from by omega) (show ∀ x9, k ≤ x9 → x9 < j → 48 ≤ f1 x9 ∧ f1 x9 ≤ 57 from (by first | (exfalso; omega) | exact (fun x x0 x1 => tk_dig (b := f1) (t := f20) (by omega) (by omega) (srt_D.mpr (by omega)) x0 (by rw [← hj]; exact x1))))) lk_X3_147 hP (va_recv hK.1 hP (ci := 3) (q0 := 0) rfl rfl) rfl rfl rfl (Rm.of rfl) rfl rfl dX3_nextToken_140) ?_
                    refine lv_goto (tgt := 147) hx hb dX3_nextToken_143 (by decide) ?_
                    refine xp_X3 hx hb hts hown hK hP hD hS 0 rfl 5 (by decide) fk_X3_78 rfl (v := .int (iI (nvT f1 k (Int.toNat (j - k))))) rfl rfl (Nat.le_of_ble_eq_true rfl) dX3_nextToken_147 (fun H locs hP hD hS => ?_)
                    have hP : va_P g.1 vwCl (wT g a f1 f20 k j (srt f1 f20 k) (nvT f1 k (Int.toNat (j - k)))) H := hP
                    have hD : va_D (va_A (wT g a f1 f20 f21 f22 f23 f24) s.heap.size) (wT g a f1 f20 k j (srt f1 f20 k) (nvT f1 k (Int.toNat (j - k)))) := hD
                    have he12 : (nvT f1 k (Int.toNat (j - k))) = (nv f1 f20 (tkF f1 f20 f22) (tkE f1 f20 (tkF f1 f20 f22))) := by rw [← hk]; unfold nv; first | (rw [if_pos (srt_D.mpr (by omega)), ← hj]; done) | (rw [if_neg (by rw [srt_D]; omega)]; done) | (exfalso; omega)
                    have hP := Eq.mp (congrArg (fun z9 => va_P g.1 vwCl (wT g a f1 f20 k j (srt f1 f20 k) z9) H) he12) hP
                    have hD := Eq.mp (congrArg (fun z9 => va_D (va_A (wT g a f1 f20 f21 f22 f23 f24) s.heap.size) (wT g a f1 f20 k j (srt f1 f20 k) z9)) he12) hD
                    have he13 : k = (tkF f1 f20 f22) := hk
                    have hP := Eq.mp (congrArg (fun z9 => va_P g.1 vwCl (wT g a f1 f20 z9 j (srt f1 f20 k) (nv f1 f20 (tkF f1 f20 f22) (tkE f1 f20 (tkF f1 f20 f22)))) H) he13) hP
                    have hD := Eq.mp (congrArg (fun z9 => va_D (va_A (wT g a f1 f20 f21 f22 f23 f24) s.heap.size) (wT g a f1 f20 z9 j (srt f1 f20 k) (nv f1 f20 (tkF f1 f20 f22) (tkE f1 f20 (tkF f1 f20 f22))))) he13) hD
                    have he14 : j = (tkE f1 f20 (tkF f1 f20 f22)) := by rw [← hk]; first | exact hj | (rw [tkE_o (by omega) (by omega)]; first | (rw [if_pos (by omega)]; done) | (rw [if_neg (by omega)]; omega) | (exfalso; omega))
                    have hP := Eq.mp (congrArg (fun z9 => va_P g.1 vwCl (wT g a f1 f20 (tkF f1 f20 f22) z9 (srt f1 f20 k) (nv f1 f20 (tkF f1 f20 f22) (tkE f1 f20 (tkF f1 f20 f22)))) H) he14) hP
                    have hD := Eq.mp (congrArg (fun z9 => va_D (va_A (wT g a f1 f20 f21 f22 f23 f24) s.heap.size) (wT g a f1 f20 (tkF f1 f20 f22) z9 (srt f1 f20 k) (nv f1 f20 (tkF f1 f20 f22) (tkE f1 f20 (tkF f1 f20 f22))))) he14) hD
                    have he15 : (srt f1 f20 k) = (srt f1 f20 (tkF f1 f20 f22)) := by rw [hk]
                    have hP := Eq.mp (congrArg (fun z9 => va_P g.1 vwCl (wT g a f1 f20 (tkF f1 f20 f22) (tkE f1 f20 (tkF f1 f20 f22)) z9 (nv f1 f20 (tkF f1 f20 f22) (tkE f1 f20 (tkF f1 f20 f22)))) H) he15) hP
                    have hD := Eq.mp (congrArg (fun z9 => va_D (va_A (wT g a f1 f20 f21 f22 f23 f24) s.heap.size) (wT g a f1 f20 (tkF f1 f20 f22) (tkE f1 f20 (tkF f1 f20 f22)) z9 (nv f1 f20 (tkF f1 f20 f22) (tkE f1 f20 (tkF f1 f20 f22))))) he15) hD
                    have hP : va_P g.1 vwCl (wT g a f1 f20 (tkF f1 f20 f22) (tkE f1 f20 (tkF f1 f20 f22)) (srt f1 f20 (tkF f1 f20 f22)) (nv f1 f20 (tkF f1 f20 f22) (tkE f1 f20 (tkF f1 f20 f22)))) H := hP
                    have hD : va_D (va_A (wT g a f1 f20 f21 f22 f23 f24) s.heap.size) (wT g a f1 f20 (tkF f1 f20 f22) (tkE f1 f20 (tkF f1 f20 f22)) (srt f1 f20 (tkF f1 f20 f22)) (nv f1 f20 (tkF f1 f20 f22) (tkE f1 f20 (tkF f1 f20 f22)))) := hD
                    exact W.vret hx hb hr (fun t ht hW => ⟨⟨(), rfl, trivial, by rw [ht]; exact hP, hD⟩, hS.F ht⟩) hS.2.2 dX3_nextToken_150
                · refine lv_aload_n hx hb dX3_nextToken_102 rfl (lv_at hl 0 rfl) ?_
                  refine lv_aload_n hx hb dX3_nextToken_103 rfl (lv_at hl 0 rfl) ?_
                  refine xg_X3 hx hb hts hown hK hP 0 rfl 3 (by decide) fk_X3_19 (v := .int (iI j)) rfl dX3_nextToken_104 ?_
                  refine xu_i (x := iI (srt f1 f20 j)) (rV (rest := []) hx hb hml hown hts hK hl (c_X3_sortAt l g a f1 f20 k j (srt f1 f20 k) f24 j (show ∀ j, 0 ≤ f1 j ∧ f1 j ≤ 255 from h1) (show 0 ≤ f20 ∧ f20 ≤ 120 from by omega) (show 0 ≤ j ∧ j ≤ 121 from by omega)) lk_X3_138 hP (va_recv hK.1 hP (ci := 3) (q0 := 0) rfl rfl) rfl rfl rfl (Rm.of rfl) rfl rfl dX3_nextToken_107) ?_
                  refine lv_aload_n hx hb dX3_nextToken_110 rfl (lv_at hl 0 rfl) ?_
                  refine xg_X3 hx hb hts hown hK hP 0 rfl 4 (by decide) fk_X3_32 (v := .int (iI (srt f1 f20 k))) rfl dX3_nextToken_111 ?_
                  refine xi_c_ne (tgt := 130) hx hb ⟨by omega, by omega⟩ ⟨by omega, by omega⟩ dX3_nextToken_114 (by decide) (fun z17 => ?_) (fun z17 => ?_)
                  · have hj : j = tkE f1 f20 k := by rw [← i91_2]; exact (rn_stop n (by assumption)).symm
                    refine lv_aload_n hx hb dX3_nextToken_130 rfl (lv_at hl 0 rfl) ?_
                    refine lv_aload_n hx hb dX3_nextToken_131 rfl (lv_at hl 0 rfl) ?_
                    refine xg_X3 hx hb hts hown hK hP 0 rfl 4 (by decide) fk_X3_32 (v := .int (iI (srt f1 f20 k))) rfl dX3_nextToken_132 ?_
                    refine lv_iconst (v := iI (2)) hx hb dX3_nextToken_135 (by decide) ?_
                    refine xi_c_ne (tgt := 146) hx hb ⟨by omega, by omega⟩ ⟨by decide, by decide⟩ dX3_nextToken_136 (by decide) (fun z18 => ?_) (fun z18 => ?_)
                    · refine lv_iconst (v := iI (0)) hx hb dX3_nextToken_146 (by decide) ?_
                      refine xp_X3 hx hb hts hown hK hP hD hS 0 rfl 5 (by decide) fk_X3_78 rfl (v := .int (iI 0)) rfl rfl (Nat.le_of_ble_eq_true rfl) dX3_nextToken_147 (fun H locs hP hD hS => ?_)
                      have hP : va_P g.1 vwCl (wT g a f1 f20 k j (srt f1 f20 k) 0) H := hP
                      have hD : va_D (va_A (wT g a f1 f20 f21 f22 f23 f24) s.heap.size) (wT g a f1 f20 k j (srt f1 f20 k) 0) := hD
                      have he19 : 0 = (nv f1 f20 (tkF f1 f20 f22) (tkE f1 f20 (tkF f1 f20 f22))) := by rw [← hk]; unfold nv; first | (rw [if_pos (srt_D.mpr (by omega)), ← hj]; done) | (rw [if_neg (by rw [srt_D]; omega)]; done) | (exfalso; omega)
                      have hP := Eq.mp (congrArg (fun z9 => va_P g.1 vwCl (wT g a f1 f20 k j (srt f1 f20 k) z9) H) he19) hP
                      have hD := Eq.mp (congrArg (fun z9 => va_D (va_A (wT g a f1 f20 f21 f22 f23 f24) s.heap.size) (wT g a f1 f20 k j (srt f1 f20 k) z9)) he19) hD
                      have he20 : k = (tkF f1 f20 f22) := hk
                      have hP := Eq.mp (congrArg (fun z9 => va_P g.1 vwCl (wT g a f1 f20 z9 j (srt f1 f20 k) (nv f1 f20 (tkF f1 f20 f22) (tkE f1 f20 (tkF f1 f20 f22)))) H) he20) hP
                      have hD := Eq.mp (congrArg (fun z9 => va_D (va_A (wT g a f1 f20 f21 f22 f23 f24) s.heap.size) (wT g a f1 f20 z9 j (srt f1 f20 k) (nv f1 f20 (tkF f1 f20 f22) (tkE f1 f20 (tkF f1 f20 f22))))) he20) hD
                      have he21 : j = (tkE f1 f20 (tkF f1 f20 f22)) := by rw [← hk]; first | exact hj | (rw [tkE_o (by omega) (by omega)]; first | (rw [if_pos (by omega)]; done) | (rw [if_neg (by omega)]; omega) | (exfalso; omega))
                      have hP := Eq.mp (congrArg (fun z9 => va_P g.1 vwCl (wT g a f1 f20 (tkF f1 f20 f22) z9 (srt f1 f20 k) (nv f1 f20 (tkF f1 f20 f22) (tkE f1 f20 (tkF f1 f20 f22)))) H) he21) hP
                      have hD := Eq.mp (congrArg (fun z9 => va_D (va_A (wT g a f1 f20 f21 f22 f23 f24) s.heap.size) (wT g a f1 f20 (tkF f1 f20 f22) z9 (srt f1 f20 k) (nv f1 f20 (tkF f1 f20 f22) (tkE f1 f20 (tkF f1 f20 f22))))) he21) hD
                      have he22 : (srt f1 f20 k) = (srt f1 f20 (tkF f1 f20 f22)) := by rw [hk]
                      have hP := Eq.mp (congrArg (fun z9 => va_P g.1 vwCl (wT g a f1 f20 (tkF f1 f20 f22) (tkE f1 f20 (tkF f1 f20 f22)) z9 (nv f1 f20 (tkF f1 f20 f22) (tkE f1 f20 (tkF f1 f20 f22)))) H) he22) hP
                      have hD := Eq.mp (congrArg (fun z9 => va_D (va_A (wT g a f1 f20 f21 f22 f23 f24) s.heap.size) (wT g a f1 f20 (tkF f1 f20 f22) (tkE f1 f20 (tkF f1 f20 f22)) z9 (nv f1 f20 (tkF f1 f20 f22) (tkE f1 f20 (tkF f1 f20 f22))))) he22) hD
                      have hP : va_P g.1 vwCl (wT g a f1 f20 (tkF f1 f20 f22) (tkE f1 f20 (tkF f1 f20 f22)) (srt f1 f20 (tkF f1 f20 f22)) (nv f1 f20 (tkF f1 f20 f22) (tkE f1 f20 (tkF f1 f20 f22)))) H := hP
                      have hD : va_D (va_A (wT g a f1 f20 f21 f22 f23 f24) s.heap.size) (wT g a f1 f20 (tkF f1 f20 f22) (tkE f1 f20 (tkF f1 f20 f22)) (srt f1 f20 (tkF f1 f20 f22)) (nv f1 f20 (tkF f1 f20 f22) (tkE f1 f20 (tkF f1 f20 f22)))) := hD
                      exact W.vret hx hb hr (fun t ht hW => ⟨⟨(), rfl, trivial, by rw [ht]; exact hP, hD⟩, hS.F ht⟩) hS.2.2 dX3_nextToken_150
                    · refine lv_aload_n hx hb dX3_nextToken_139 rfl (lv_at hl 0 rfl) ?_
                      refine xu_i (x := iI (nvT f1 k (Int.toNat (j - k)))) (rV (rest := [.ref (a 0)]) hx hb hml hown hts hK hl (c_X3_numberAtHand l g a f1 f20 k j (srt f1 f20 k) f24 (show ∀ j, 0 ≤ f1 j ∧ f1 j ≤ 255 from h1) (show 0 ≤ f20 ∧ f20 ≤ 120 from by omega) (show 0 ≤ k ∧ k ≤ j ∧ j ≤ f20 from by omega) (show ∀ x9, k ≤ x9 → x9 < j → 48 ≤ f1 x9 ∧ f1 x9 ≤ 57 from (by first | (exfalso; omega) | exact (fun x x0 x1 => tk_dig (b := f1) (t := f20) (by omega) (by omega) (srt_D.mpr (by omega)) x0 (by rw [← hj]; exact x1))))) lk_X3_147 hP (va_recv hK.1 hP (ci := 3) (q0 := 0) rfl rfl) rfl rfl rfl (Rm.of rfl) rfl rfl dX3_nextToken_140) ?_
                      refine lv_goto (tgt := 147) hx hb dX3_nextToken_143 (by decide) ?_
                      refine xp_X3 hx hb hts hown hK hP hD hS 0 rfl 5 (by decide) fk_X3_78 rfl (v := .int (iI (nvT f1 k (Int.toNat (j - k))))) rfl rfl (Nat.le_of_ble_eq_true rfl) dX3_nextToken_147 (fun H locs hP hD hS => ?_)
                      have hP : va_P g.1 vwCl (wT g a f1 f20 k j (srt f1 f20 k) (nvT f1 k (Int.toNat (j - k)))) H := hP
                      have hD : va_D (va_A (wT g a f1 f20 f21 f22 f23 f24) s.heap.size) (wT g a f1 f20 k j (srt f1 f20 k) (nvT f1 k (Int.toNat (j - k)))) := hD
                      have he24 : (nvT f1 k (Int.toNat (j - k))) = (nv f1 f20 (tkF f1 f20 f22) (tkE f1 f20 (tkF f1 f20 f22))) := by rw [← hk]; unfold nv; first | (rw [if_pos (srt_D.mpr (by omega)), ← hj]; done) | (rw [if_neg (by rw [srt_D]; omega)]; done) | (exfalso; omega)
                      have hP := Eq.mp (congrArg (fun z9 => va_P g.1 vwCl (wT g a f1 f20 k j (srt f1 f20 k) z9) H) he24) hP
                      have hD := Eq.mp (congrArg (fun z9 => va_D (va_A (wT g a f1 f20 f21 f22 f23 f24) s.heap.size) (wT g a f1 f20 k j (srt f1 f20 k) z9)) he24) hD
                      have he25 : k = (tkF f1 f20 f22) := hk
                      have hP := Eq.mp (congrArg (fun z9 => va_P g.1 vwCl (wT g a f1 f20 z9 j (srt f1 f20 k) (nv f1 f20 (tkF f1 f20 f22) (tkE f1 f20 (tkF f1 f20 f22)))) H) he25) hP
                      have hD := Eq.mp (congrArg (fun z9 => va_D (va_A (wT g a f1 f20 f21 f22 f23 f24) s.heap.size) (wT g a f1 f20 z9 j (srt f1 f20 k) (nv f1 f20 (tkF f1 f20 f22) (tkE f1 f20 (tkF f1 f20 f22))))) he25) hD
                      have he26 : j = (tkE f1 f20 (tkF f1 f20 f22)) := by rw [← hk]; first | exact hj | (rw [tkE_o (by omega) (by omega)]; first | (rw [if_pos (by omega)]; done) | (rw [if_neg (by omega)]; omega) | (exfalso; omega))
                      have hP := Eq.mp (congrArg (fun z9 => va_P g.1 vwCl (wT g a f1 f20 (tkF f1 f20 f22) z9 (srt f1 f20 k) (nv f1 f20 (tkF f1 f20 f22) (tkE f1 f20 (tkF f1 f20 f22)))) H) he26) hP
                      have hD := Eq.mp (congrArg (fun z9 => va_D (va_A (wT g a f1 f20 f21 f22 f23 f24) s.heap.size) (wT g a f1 f20 (tkF f1 f20 f22) z9 (srt f1 f20 k) (nv f1 f20 (tkF f1 f20 f22) (tkE f1 f20 (tkF f1 f20 f22))))) he26) hD
                      have he27 : (srt f1 f20 k) = (srt f1 f20 (tkF f1 f20 f22)) := by rw [hk]
                      have hP := Eq.mp (congrArg (fun z9 => va_P g.1 vwCl (wT g a f1 f20 (tkF f1 f20 f22) (tkE f1 f20 (tkF f1 f20 f22)) z9 (nv f1 f20 (tkF f1 f20 f22) (tkE f1 f20 (tkF f1 f20 f22)))) H) he27) hP
                      have hD := Eq.mp (congrArg (fun z9 => va_D (va_A (wT g a f1 f20 f21 f22 f23 f24) s.heap.size) (wT g a f1 f20 (tkF f1 f20 f22) (tkE f1 f20 (tkF f1 f20 f22)) z9 (nv f1 f20 (tkF f1 f20 f22) (tkE f1 f20 (tkF f1 f20 f22))))) he27) hD
                      have hP : va_P g.1 vwCl (wT g a f1 f20 (tkF f1 f20 f22) (tkE f1 f20 (tkF f1 f20 f22)) (srt f1 f20 (tkF f1 f20 f22)) (nv f1 f20 (tkF f1 f20 f22) (tkE f1 f20 (tkF f1 f20 f22)))) H := hP
                      have hD : va_D (va_A (wT g a f1 f20 f21 f22 f23 f24) s.heap.size) (wT g a f1 f20 (tkF f1 f20 f22) (tkE f1 f20 (tkF f1 f20 f22)) (srt f1 f20 (tkF f1 f20 f22)) (nv f1 f20 (tkF f1 f20 f22) (tkE f1 f20 (tkF f1 f20 f22)))) := hD
                      exact W.vret hx hb hr (fun t ht hW => ⟨⟨(), rfl, trivial, by rw [ht]; exact hP, hD⟩, hS.F ht⟩) hS.2.2 dX3_nextToken_150
                  · refine lv_aload_n hx hb dX3_nextToken_117 rfl (lv_at hl 0 rfl) ?_
                    refine lv_dup hx hb dX3_nextToken_118 rfl ?_
                    refine xg_X3 hx hb hts hown hK hP 0 rfl 3 (by decide) fk_X3_19 (v := .int (iI j)) rfl dX3_nextToken_119 ?_
                    refine lv_iconst (v := iI (1)) hx hb dX3_nextToken_122 (by decide) ?_
                    refine xi_add hx hb dX3_nextToken_123 ?_
                    refine xp_X3 hx hb hts hown hK hP hD hS 0 rfl 3 (by decide) fk_X3_19 rfl (v := .int (iI (j + 1))) rfl rfl (Nat.le_of_ble_eq_true rfl) dX3_nextToken_124 (fun H locs hP hD hS => ?_)
                    have hP : va_P g.1 vwCl (wT g a f1 f20 k (j + 1) (srt f1 f20 k) f24) H := hP
                    have hD : va_D (va_A (wT g a f1 f20 f21 f22 f23 f24) s.heap.size) (wT g a f1 f20 k (j + 1) (srt f1 f20 k) f24) := hD
                    refine lv_goto (tgt := 91) hx hb dX3_nextToken_127 (by decide) ?_
                    exact ih91 (j + 1) (n - 1) ⟨by omega, by omega⟩ (by rw [rn_sort (by omega) (by assumption) (by omega)]; exact i91_2) (by omega) (by omega) (by omega) ls (lv_sub hl [0] rfl) H locs hP hD hS
            exact lp91 (120 + 1) f20 121 (by omega) (by first | exact rn_tk (by omega) | (exfalso; omega)) (by omega) (by omega) (by omega) ls (lv_sub hl [0] rfl) H locs hP hD hS
          · refine lv_aload_n hx hb dX3_nextToken_83 rfl (lv_at hl 0 rfl) ?_
            refine xg_X3 hx hb hts hown hK hP 0 rfl 4 (by decide) fk_X3_32 (v := .int (iI (srt f1 f20 k))) rfl dX3_nextToken_84 ?_
            refine lv_iconst (v := iI (2)) hx hb dX3_nextToken_87 (by decide) ?_
            refine xi_c_ne (tgt := 130) hx hb ⟨by omega, by omega⟩ ⟨by decide, by decide⟩ dX3_nextToken_88 (by decide) (fun z28 => ?_) (fun z28 => ?_)
            · refine lv_aload_n hx hb dX3_nextToken_130 rfl (lv_at hl 0 rfl) ?_
              refine lv_aload_n hx hb dX3_nextToken_131 rfl (lv_at hl 0 rfl) ?_
              refine xg_X3 hx hb hts hown hK hP 0 rfl 4 (by decide) fk_X3_32 (v := .int (iI (srt f1 f20 k))) rfl dX3_nextToken_132 ?_
              refine lv_iconst (v := iI (2)) hx hb dX3_nextToken_135 (by decide) ?_
              refine xi_c_ne (tgt := 146) hx hb ⟨by omega, by omega⟩ ⟨by decide, by decide⟩ dX3_nextToken_136 (by decide) (fun z29 => ?_) (fun z29 => ?_)
              · refine lv_iconst (v := iI (0)) hx hb dX3_nextToken_146 (by decide) ?_
                refine xp_X3 hx hb hts hown hK hP hD hS 0 rfl 5 (by decide) fk_X3_78 rfl (v := .int (iI 0)) rfl rfl (Nat.le_of_ble_eq_true rfl) dX3_nextToken_147 (fun H locs hP hD hS => ?_)
                have hP : va_P g.1 vwCl (wT g a f1 f20 k f20 (srt f1 f20 k) 0) H := hP
                have hD : va_D (va_A (wT g a f1 f20 f21 f22 f23 f24) s.heap.size) (wT g a f1 f20 k f20 (srt f1 f20 k) 0) := hD
                have he30 : 0 = (nv f1 f20 (tkF f1 f20 f22) (tkE f1 f20 (tkF f1 f20 f22))) := by rw [← hk]; unfold nv; first | (rw [if_pos (srt_D.mpr (by omega)), ← hj]; done) | (rw [if_neg (by rw [srt_D]; omega)]; done) | (exfalso; omega)
                have hP := Eq.mp (congrArg (fun z9 => va_P g.1 vwCl (wT g a f1 f20 k f20 (srt f1 f20 k) z9) H) he30) hP
                have hD := Eq.mp (congrArg (fun z9 => va_D (va_A (wT g a f1 f20 f21 f22 f23 f24) s.heap.size) (wT g a f1 f20 k f20 (srt f1 f20 k) z9)) he30) hD
                have he31 : k = (tkF f1 f20 f22) := hk
                have hP := Eq.mp (congrArg (fun z9 => va_P g.1 vwCl (wT g a f1 f20 z9 f20 (srt f1 f20 k) (nv f1 f20 (tkF f1 f20 f22) (tkE f1 f20 (tkF f1 f20 f22)))) H) he31) hP
                have hD := Eq.mp (congrArg (fun z9 => va_D (va_A (wT g a f1 f20 f21 f22 f23 f24) s.heap.size) (wT g a f1 f20 z9 f20 (srt f1 f20 k) (nv f1 f20 (tkF f1 f20 f22) (tkE f1 f20 (tkF f1 f20 f22))))) he31) hD
                have he32 : f20 = (tkE f1 f20 (tkF f1 f20 f22)) := by rw [← hk]; first | exact hj | (rw [tkE_o (by omega) (by omega)]; first | (rw [if_pos (by omega)]; done) | (rw [if_neg (by omega)]; omega) | (exfalso; omega))
                have hP := Eq.mp (congrArg (fun z9 => va_P g.1 vwCl (wT g a f1 f20 (tkF f1 f20 f22) z9 (srt f1 f20 k) (nv f1 f20 (tkF f1 f20 f22) (tkE f1 f20 (tkF f1 f20 f22)))) H) he32) hP
                have hD := Eq.mp (congrArg (fun z9 => va_D (va_A (wT g a f1 f20 f21 f22 f23 f24) s.heap.size) (wT g a f1 f20 (tkF f1 f20 f22) z9 (srt f1 f20 k) (nv f1 f20 (tkF f1 f20 f22) (tkE f1 f20 (tkF f1 f20 f22))))) he32) hD
                have he33 : (srt f1 f20 k) = (srt f1 f20 (tkF f1 f20 f22)) := by rw [hk]
                have hP := Eq.mp (congrArg (fun z9 => va_P g.1 vwCl (wT g a f1 f20 (tkF f1 f20 f22) (tkE f1 f20 (tkF f1 f20 f22)) z9 (nv f1 f20 (tkF f1 f20 f22) (tkE f1 f20 (tkF f1 f20 f22)))) H) he33) hP
                have hD := Eq.mp (congrArg (fun z9 => va_D (va_A (wT g a f1 f20 f21 f22 f23 f24) s.heap.size) (wT g a f1 f20 (tkF f1 f20 f22) (tkE f1 f20 (tkF f1 f20 f22)) z9 (nv f1 f20 (tkF f1 f20 f22) (tkE f1 f20 (tkF f1 f20 f22))))) he33) hD
                have hP : va_P g.1 vwCl (wT g a f1 f20 (tkF f1 f20 f22) (tkE f1 f20 (tkF f1 f20 f22)) (srt f1 f20 (tkF f1 f20 f22)) (nv f1 f20 (tkF f1 f20 f22) (tkE f1 f20 (tkF f1 f20 f22)))) H := hP
                have hD : va_D (va_A (wT g a f1 f20 f21 f22 f23 f24) s.heap.size) (wT g a f1 f20 (tkF f1 f20 f22) (tkE f1 f20 (tkF f1 f20 f22)) (srt f1 f20 (tkF f1 f20 f22)) (nv f1 f20 (tkF f1 f20 f22) (tkE f1 f20 (tkF f1 f20 f22)))) := hD
                exact W.vret hx hb hr (fun t ht hW => ⟨⟨(), rfl, trivial, by rw [ht]; exact hP, hD⟩, hS.F ht⟩) hS.2.2 dX3_nextToken_150
              · refine lv_aload_n hx hb dX3_nextToken_139 rfl (lv_at hl 0 rfl) ?_
                refine xu_i (x := iI (nvT f1 k (Int.toNat (f20 - k)))) (rV (rest := [.ref (a 0)]) hx hb hml hown hts hK hl (c_X3_numberAtHand l g a f1 f20 k f20 (srt f1 f20 k) f24 (show ∀ j, 0 ≤ f1 j ∧ f1 j ≤ 255 from h1) (show 0 ≤ f20 ∧ f20 ≤ 120 from by omega) (show 0 ≤ k ∧ k ≤ f20 ∧ f20 ≤ f20 from by omega) (show ∀ x9, k ≤ x9 → x9 < f20 → 48 ≤ f1 x9 ∧ f1 x9 ≤ 57 from (by first | (exfalso; omega) | exact (fun x x0 x1 => tk_dig (b := f1) (t := f20) (by omega) (by omega) (srt_D.mpr (by omega)) x0 (by rw [← hj]; exact x1))))) lk_X3_147 hP (va_recv hK.1 hP (ci := 3) (q0 := 0) rfl rfl) rfl rfl rfl (Rm.of rfl) rfl rfl dX3_nextToken_140) ?_
                refine lv_goto (tgt := 147) hx hb dX3_nextToken_143 (by decide) ?_
                refine xp_X3 hx hb hts hown hK hP hD hS 0 rfl 5 (by decide) fk_X3_78 rfl (v := .int (iI (nvT f1 k (Int.toNat (f20 - k))))) rfl rfl (Nat.le_of_ble_eq_true rfl) dX3_nextToken_147 (fun H locs hP hD hS => ?_)
                have hP : va_P g.1 vwCl (wT g a f1 f20 k f20 (srt f1 f20 k) (nvT f1 k (Int.toNat (f20 - k)))) H := hP
                have hD : va_D (va_A (wT g a f1 f20 f21 f22 f23 f24) s.heap.size) (wT g a f1 f20 k f20 (srt f1 f20 k) (nvT f1 k (Int.toNat (f20 - k)))) := hD
                have he35 : (nvT f1 k (Int.toNat (f20 - k))) = (nv f1 f20 (tkF f1 f20 f22) (tkE f1 f20 (tkF f1 f20 f22))) := by rw [← hk]; unfold nv; first | (rw [if_pos (srt_D.mpr (by omega)), ← hj]; done) | (rw [if_neg (by rw [srt_D]; omega)]; done) | (exfalso; omega)
                have hP := Eq.mp (congrArg (fun z9 => va_P g.1 vwCl (wT g a f1 f20 k f20 (srt f1 f20 k) z9) H) he35) hP
                have hD := Eq.mp (congrArg (fun z9 => va_D (va_A (wT g a f1 f20 f21 f22 f23 f24) s.heap.size) (wT g a f1 f20 k f20 (srt f1 f20 k) z9)) he35) hD
                have he36 : k = (tkF f1 f20 f22) := hk
                have hP := Eq.mp (congrArg (fun z9 => va_P g.1 vwCl (wT g a f1 f20 z9 f20 (srt f1 f20 k) (nv f1 f20 (tkF f1 f20 f22) (tkE f1 f20 (tkF f1 f20 f22)))) H) he36) hP
                have hD := Eq.mp (congrArg (fun z9 => va_D (va_A (wT g a f1 f20 f21 f22 f23 f24) s.heap.size) (wT g a f1 f20 z9 f20 (srt f1 f20 k) (nv f1 f20 (tkF f1 f20 f22) (tkE f1 f20 (tkF f1 f20 f22))))) he36) hD
                have he37 : f20 = (tkE f1 f20 (tkF f1 f20 f22)) := by rw [← hk]; first | exact hj | (rw [tkE_o (by omega) (by omega)]; first | (rw [if_pos (by omega)]; done) | (rw [if_neg (by omega)]; omega) | (exfalso; omega))
                have hP := Eq.mp (congrArg (fun z9 => va_P g.1 vwCl (wT g a f1 f20 (tkF f1 f20 f22) z9 (srt f1 f20 k) (nv f1 f20 (tkF f1 f20 f22) (tkE f1 f20 (tkF f1 f20 f22)))) H) he37) hP
                have hD := Eq.mp (congrArg (fun z9 => va_D (va_A (wT g a f1 f20 f21 f22 f23 f24) s.heap.size) (wT g a f1 f20 (tkF f1 f20 f22) z9 (srt f1 f20 k) (nv f1 f20 (tkF f1 f20 f22) (tkE f1 f20 (tkF f1 f20 f22))))) he37) hD
                have he38 : (srt f1 f20 k) = (srt f1 f20 (tkF f1 f20 f22)) := by rw [hk]
                have hP := Eq.mp (congrArg (fun z9 => va_P g.1 vwCl (wT g a f1 f20 (tkF f1 f20 f22) (tkE f1 f20 (tkF f1 f20 f22)) z9 (nv f1 f20 (tkF f1 f20 f22) (tkE f1 f20 (tkF f1 f20 f22)))) H) he38) hP
                have hD := Eq.mp (congrArg (fun z9 => va_D (va_A (wT g a f1 f20 f21 f22 f23 f24) s.heap.size) (wT g a f1 f20 (tkF f1 f20 f22) (tkE f1 f20 (tkF f1 f20 f22)) z9 (nv f1 f20 (tkF f1 f20 f22) (tkE f1 f20 (tkF f1 f20 f22))))) he38) hD
                have hP : va_P g.1 vwCl (wT g a f1 f20 (tkF f1 f20 f22) (tkE f1 f20 (tkF f1 f20 f22)) (srt f1 f20 (tkF f1 f20 f22)) (nv f1 f20 (tkF f1 f20 f22) (tkE f1 f20 (tkF f1 f20 f22)))) H := hP
                have hD : va_D (va_A (wT g a f1 f20 f21 f22 f23 f24) s.heap.size) (wT g a f1 f20 (tkF f1 f20 f22) (tkE f1 f20 (tkF f1 f20 f22)) (srt f1 f20 (tkF f1 f20 f22)) (nv f1 f20 (tkF f1 f20 f22) (tkE f1 f20 (tkF f1 f20 f22)))) := hD
                exact W.vret hx hb hr (fun t ht hW => ⟨⟨(), rfl, trivial, by rw [ht]; exact hP, hD⟩, hS.F ht⟩) hS.2.2 dX3_nextToken_150
            · have lp91 : ∀ (n91 : Nat) (j : Int) (n : Nat), (0 ≤ j ∧ j ≤ f20) → (rnW f1 f20 (if srt f1 f20 k = 1 then 1 else 0) (if srt f1 f20 k = 2 then 1 else 0) n j = tkE f1 f20 k) → (f20 - j < n) → (k < j) → (f20 - j).toNat < n91 → ∀ ls : Array Slot, lv_has ls 1 [(0, .ref (a 0))] → ∀ (H : Heap) (locs : List Loc), va_P g.1 vwCl (wT g a f1 f20 k j (srt f1 f20 k) f24) H → va_D (va_A (wT g a f1 f20 f21 f22 f23 f24) s.heap.size) (wT g a f1 f20 k j (srt f1 f20 k) f24) → va_S (va_A (wT g a f1 f20 f21 f22 f23 f24) s.heap.size) s.heap H locs → W pq l eq rm_X3_nextToken s mq [.ref (a 0)].toArray below meth cq H locs 0 0 (MQ below (QMv g (fun _ : Unit => wT g a f1 f20 (tkF f1 f20 f22) (tkE f1 f20 (tkF f1 f20 f22)) (srt f1 f20 (tkF f1 f20 f22)) (nv f1 f20 (tkF f1 f20 f22) (tkE f1 f20 (tkF f1 f20 f22)))) (fun _ => True) (va_A (wT g a f1 f20 f21 f22 f23 f24) s.heap.size)) [.ref (a 0)].toArray s 0 0 (va_A (wT g a f1 f20 f21 f22 f23 f24) s.heap.size)) (F0 mq 91 ls []) := by
                intro n91
                induction n91 with
                | zero => intro j n i91_1 i91_2 i91_3 i91_4 hm; exact absurd hm (Nat.not_lt_zero _)
                | succ n91 ih91 =>
                  intro j n i91_1 i91_2 i91_3 i91_4 hm91 ls hl H locs hP hD hS
                  have hsj := srt_c f1 f20 j
                  refine lv_aload_n hx hb dX3_nextToken_91 rfl (lv_at hl 0 rfl) ?_
                  refine xg_X3 hx hb hts hown hK hP 0 rfl 3 (by decide) fk_X3_19 (v := .int (iI j)) rfl dX3_nextToken_92 ?_
                  refine lv_aload_n hx hb dX3_nextToken_95 rfl (lv_at hl 0 rfl) ?_
                  refine xg_X3 hx hb hts hown hK hP 0 rfl 1 (by decide) fk_X3_15 (v := .int (iI f20)) rfl dX3_nextToken_96 ?_
                  refine xi_c_ge (tgt := 130) hx hb ⟨by omega, by omega⟩ ⟨by omega, by omega⟩ dX3_nextToken_99 (by decide) (fun z39 => ?_) (fun z39 => ?_)
                  · have hj : j = tkE f1 f20 k := by rw [← i91_2]; exact (rn_stop n (by omega)).symm
                    refine lv_aload_n hx hb dX3_nextToken_130 rfl (lv_at hl 0 rfl) ?_
                    refine lv_aload_n hx hb dX3_nextToken_131 rfl (lv_at hl 0 rfl) ?_
                    refine xg_X3 hx hb hts hown hK hP 0 rfl 4 (by decide) fk_X3_32 (v := .int (iI (srt f1 f20 k))) rfl dX3_nextToken_132 ?_
                    refine lv_iconst (v := iI (2)) hx hb dX3_nextToken_135 (by decide) ?_
                    refine xi_c_ne (tgt := 146) hx hb ⟨by omega, by omega⟩ ⟨by decide, by decide⟩ dX3_nextToken_136 (by decide) (fun z40 => ?_) (fun z40 => ?_)
                    · refine lv_iconst (v := iI (0)) hx hb dX3_nextToken_146 (by decide) ?_
                      refine xp_X3 hx hb hts hown hK hP hD hS 0 rfl 5 (by decide) fk_X3_78 rfl (v := .int (iI 0)) rfl rfl (Nat.le_of_ble_eq_true rfl) dX3_nextToken_147 (fun H locs hP hD hS => ?_)
                      have hP : va_P g.1 vwCl (wT g a f1 f20 k j (srt f1 f20 k) 0) H := hP
                      have hD : va_D (va_A (wT g a f1 f20 f21 f22 f23 f24) s.heap.size) (wT g a f1 f20 k j (srt f1 f20 k) 0) := hD
                      have he41 : 0 = (nv f1 f20 (tkF f1 f20 f22) (tkE f1 f20 (tkF f1 f20 f22))) := by rw [← hk]; unfold nv; first | (rw [if_pos (srt_D.mpr (by omega)), ← hj]; done) | (rw [if_neg (by rw [srt_D]; omega)]; done) | (exfalso; omega)
                      have hP := Eq.mp (congrArg (fun z9 => va_P g.1 vwCl (wT g a f1 f20 k j (srt f1 f20 k) z9) H) he41) hP
                      have hD := Eq.mp (congrArg (fun z9 => va_D (va_A (wT g a f1 f20 f21 f22 f23 f24) s.heap.size) (wT g a f1 f20 k j (srt f1 f20 k) z9)) he41) hD
                      have he42 : k = (tkF f1 f20 f22) := hk
                      have hP := Eq.mp (congrArg (fun z9 => va_P g.1 vwCl (wT g a f1 f20 z9 j (srt f1 f20 k) (nv f1 f20 (tkF f1 f20 f22) (tkE f1 f20 (tkF f1 f20 f22)))) H) he42) hP
                      have hD := Eq.mp (congrArg (fun z9 => va_D (va_A (wT g a f1 f20 f21 f22 f23 f24) s.heap.size) (wT g a f1 f20 z9 j (srt f1 f20 k) (nv f1 f20 (tkF f1 f20 f22) (tkE f1 f20 (tkF f1 f20 f22))))) he42) hD
                      have he43 : j = (tkE f1 f20 (tkF f1 f20 f22)) := by rw [← hk]; first | exact hj | (rw [tkE_o (by omega) (by omega)]; first | (rw [if_pos (by omega)]; done) | (rw [if_neg (by omega)]; omega) | (exfalso; omega))
                      have hP := Eq.mp (congrArg (fun z9 => va_P g.1 vwCl (wT g a f1 f20 (tkF f1 f20 f22) z9 (srt f1 f20 k) (nv f1 f20 (tkF f1 f20 f22) (tkE f1 f20 (tkF f1 f20 f22)))) H) he43) hP
                      have hD := Eq.mp (congrArg (fun z9 => va_D (va_A (wT g a f1 f20 f21 f22 f23 f24) s.heap.size) (wT g a f1 f20 (tkF f1 f20 f22) z9 (srt f1 f20 k) (nv f1 f20 (tkF f1 f20 f22) (tkE f1 f20 (tkF f1 f20 f22))))) he43) hD
                      have he44 : (srt f1 f20 k) = (srt f1 f20 (tkF f1 f20 f22)) := by rw [hk]
                      have hP := Eq.mp (congrArg (fun z9 => va_P g.1 vwCl (wT g a f1 f20 (tkF f1 f20 f22) (tkE f1 f20 (tkF f1 f20 f22)) z9 (nv f1 f20 (tkF f1 f20 f22) (tkE f1 f20 (tkF f1 f20 f22)))) H) he44) hP
                      have hD := Eq.mp (congrArg (fun z9 => va_D (va_A (wT g a f1 f20 f21 f22 f23 f24) s.heap.size) (wT g a f1 f20 (tkF f1 f20 f22) (tkE f1 f20 (tkF f1 f20 f22)) z9 (nv f1 f20 (tkF f1 f20 f22) (tkE f1 f20 (tkF f1 f20 f22))))) he44) hD
                      have hP : va_P g.1 vwCl (wT g a f1 f20 (tkF f1 f20 f22) (tkE f1 f20 (tkF f1 f20 f22)) (srt f1 f20 (tkF f1 f20 f22)) (nv f1 f20 (tkF f1 f20 f22) (tkE f1 f20 (tkF f1 f20 f22)))) H := hP
                      have hD : va_D (va_A (wT g a f1 f20 f21 f22 f23 f24) s.heap.size) (wT g a f1 f20 (tkF f1 f20 f22) (tkE f1 f20 (tkF f1 f20 f22)) (srt f1 f20 (tkF f1 f20 f22)) (nv f1 f20 (tkF f1 f20 f22) (tkE f1 f20 (tkF f1 f20 f22)))) := hD
                      exact W.vret hx hb hr (fun t ht hW => ⟨⟨(), rfl, trivial, by rw [ht]; exact hP, hD⟩, hS.F ht⟩) hS.2.2 dX3_nextToken_150
                    · refine lv_aload_n hx hb dX3_nextToken_139 rfl (lv_at hl 0 rfl) ?_
                      refine xu_i (x := iI (nvT f1 k (Int.toNat (j - k)))) (rV (rest := [.ref (a 0)]) hx hb hml hown hts hK hl (c_X3_numberAtHand l g a f1 f20 k j (srt f1 f20 k) f24 (show ∀ j, 0 ≤ f1 j ∧ f1 j ≤ 255 from h1) (show 0 ≤ f20 ∧ f20 ≤ 120 from by omega) (show 0 ≤ k ∧ k ≤ j ∧ j ≤ f20 from by omega) (show ∀ x9, k ≤ x9 → x9 < j → 48 ≤ f1 x9 ∧ f1 x9 ≤ 57 from (by first | (exfalso; omega) | exact (fun x x0 x1 => tk_dig (b := f1) (t := f20) (by omega) (by omega) (srt_D.mpr (by omega)) x0 (by rw [← hj]; exact x1))))) lk_X3_147 hP (va_recv hK.1 hP (ci := 3) (q0 := 0) rfl rfl) rfl rfl rfl (Rm.of rfl) rfl rfl dX3_nextToken_140) ?_
                      refine lv_goto (tgt := 147) hx hb dX3_nextToken_143 (by decide) ?_
                      refine xp_X3 hx hb hts hown hK hP hD hS 0 rfl 5 (by decide) fk_X3_78 rfl (v := .int (iI (nvT f1 k (Int.toNat (j - k))))) rfl rfl (Nat.le_of_ble_eq_true rfl) dX3_nextToken_147 (fun H locs hP hD hS => ?_)
                      have hP : va_P g.1 vwCl (wT g a f1 f20 k j (srt f1 f20 k) (nvT f1 k (Int.toNat (j - k)))) H := hP
                      have hD : va_D (va_A (wT g a f1 f20 f21 f22 f23 f24) s.heap.size) (wT g a f1 f20 k j (srt f1 f20 k) (nvT f1 k (Int.toNat (j - k)))) := hD
                      have he46 : (nvT f1 k (Int.toNat (j - k))) = (nv f1 f20 (tkF f1 f20 f22) (tkE f1 f20 (tkF f1 f20 f22))) := by rw [← hk]; unfold nv; first | (rw [if_pos (srt_D.mpr (by omega)), ← hj]; done) | (rw [if_neg (by rw [srt_D]; omega)]; done) | (exfalso; omega)
                      have hP := Eq.mp (congrArg (fun z9 => va_P g.1 vwCl (wT g a f1 f20 k j (srt f1 f20 k) z9) H) he46) hP
                      have hD := Eq.mp (congrArg (fun z9 => va_D (va_A (wT g a f1 f20 f21 f22 f23 f24) s.heap.size) (wT g a f1 f20 k j (srt f1 f20 k) z9)) he46) hD
                      have he47 : k = (tkF f1 f20 f22) := hk
                      have hP := Eq.mp (congrArg (fun z9 => va_P g.1 vwCl (wT g a f1 f20 z9 j (srt f1 f20 k) (nv f1 f20 (tkF f1 f20 f22) (tkE f1 f20 (tkF f1 f20 f22)))) H) he47) hP
                      have hD := Eq.mp (congrArg (fun z9 => va_D (va_A (wT g a f1 f20 f21 f22 f23 f24) s.heap.size) (wT g a f1 f20 z9 j (srt f1 f20 k) (nv f1 f20 (tkF f1 f20 f22) (tkE f1 f20 (tkF f1 f20 f22))))) he47) hD
                      have he48 : j = (tkE f1 f20 (tkF f1 f20 f22)) := by rw [← hk]; first | exact hj | (rw [tkE_o (by omega) (by omega)]; first | (rw [if_pos (by omega)]; done) | (rw [if_neg (by omega)]; omega) | (exfalso; omega))
                      have hP := Eq.mp (congrArg (fun z9 => va_P g.1 vwCl (wT g a f1 f20 (tkF f1 f20 f22) z9 (srt f1 f20 k) (nv f1 f20 (tkF f1 f20 f22) (tkE f1 f20 (tkF f1 f20 f22)))) H) he48) hP
                      have hD := Eq.mp (congrArg (fun z9 => va_D (va_A (wT g a f1 f20 f21 f22 f23 f24) s.heap.size) (wT g a f1 f20 (tkF f1 f20 f22) z9 (srt f1 f20 k) (nv f1 f20 (tkF f1 f20 f22) (tkE f1 f20 (tkF f1 f20 f22))))) he48) hD
                      have he49 : (srt f1 f20 k) = (srt f1 f20 (tkF f1 f20 f22)) := by rw [hk]
                      have hP := Eq.mp (congrArg (fun z9 => va_P g.1 vwCl (wT g a f1 f20 (tkF f1 f20 f22) (tkE f1 f20 (tkF f1 f20 f22)) z9 (nv f1 f20 (tkF f1 f20 f22) (tkE f1 f20 (tkF f1 f20 f22)))) H) he49) hP
                      have hD := Eq.mp (congrArg (fun z9 => va_D (va_A (wT g a f1 f20 f21 f22 f23 f24) s.heap.size) (wT g a f1 f20 (tkF f1 f20 f22) (tkE f1 f20 (tkF f1 f20 f22)) z9 (nv f1 f20 (tkF f1 f20 f22) (tkE f1 f20 (tkF f1 f20 f22))))) he49) hD
                      have hP : va_P g.1 vwCl (wT g a f1 f20 (tkF f1 f20 f22) (tkE f1 f20 (tkF f1 f20 f22)) (srt f1 f20 (tkF f1 f20 f22)) (nv f1 f20 (tkF f1 f20 f22) (tkE f1 f20 (tkF f1 f20 f22)))) H := hP
                      have hD : va_D (va_A (wT g a f1 f20 f21 f22 f23 f24) s.heap.size) (wT g a f1 f20 (tkF f1 f20 f22) (tkE f1 f20 (tkF f1 f20 f22)) (srt f1 f20 (tkF f1 f20 f22)) (nv f1 f20 (tkF f1 f20 f22) (tkE f1 f20 (tkF f1 f20 f22)))) := hD
                      exact W.vret hx hb hr (fun t ht hW => ⟨⟨(), rfl, trivial, by rw [ht]; exact hP, hD⟩, hS.F ht⟩) hS.2.2 dX3_nextToken_150
                  · refine lv_aload_n hx hb dX3_nextToken_102 rfl (lv_at hl 0 rfl) ?_
                    refine lv_aload_n hx hb dX3_nextToken_103 rfl (lv_at hl 0 rfl) ?_
                    refine xg_X3 hx hb hts hown hK hP 0 rfl 3 (by decide) fk_X3_19 (v := .int (iI j)) rfl dX3_nextToken_104 ?_
                    refine xu_i (x := iI (srt f1 f20 j)) (rV (rest := []) hx hb hml hown hts hK hl (c_X3_sortAt l g a f1 f20 k j (srt f1 f20 k) f24 j (show ∀ j, 0 ≤ f1 j ∧ f1 j ≤ 255 from h1) (show 0 ≤ f20 ∧ f20 ≤ 120 from by omega) (show 0 ≤ j ∧ j ≤ 121 from by omega)) lk_X3_138 hP (va_recv hK.1 hP (ci := 3) (q0 := 0) rfl rfl) rfl rfl rfl (Rm.of rfl) rfl rfl dX3_nextToken_107) ?_
                    refine lv_aload_n hx hb dX3_nextToken_110 rfl (lv_at hl 0 rfl) ?_
                    refine xg_X3 hx hb hts hown hK hP 0 rfl 4 (by decide) fk_X3_32 (v := .int (iI (srt f1 f20 k))) rfl dX3_nextToken_111 ?_
                    refine xi_c_ne (tgt := 130) hx hb ⟨by omega, by omega⟩ ⟨by omega, by omega⟩ dX3_nextToken_114 (by decide) (fun z51 => ?_) (fun z51 => ?_)
                    · have hj : j = tkE f1 f20 k := by rw [← i91_2]; exact (rn_stop n (by assumption)).symm
                      refine lv_aload_n hx hb dX3_nextToken_130 rfl (lv_at hl 0 rfl) ?_
                      refine lv_aload_n hx hb dX3_nextToken_131 rfl (lv_at hl 0 rfl) ?_
                      refine xg_X3 hx hb hts hown hK hP 0 rfl 4 (by decide) fk_X3_32 (v := .int (iI (srt f1 f20 k))) rfl dX3_nextToken_132 ?_
                      refine lv_iconst (v := iI (2)) hx hb dX3_nextToken_135 (by decide) ?_
                      refine xi_c_ne (tgt := 146) hx hb ⟨by omega, by omega⟩ ⟨by decide, by decide⟩ dX3_nextToken_136 (by decide) (fun z52 => ?_) (fun z52 => ?_)
                      · refine lv_iconst (v := iI (0)) hx hb dX3_nextToken_146 (by decide) ?_
                        refine xp_X3 hx hb hts hown hK hP hD hS 0 rfl 5 (by decide) fk_X3_78 rfl (v := .int (iI 0)) rfl rfl (Nat.le_of_ble_eq_true rfl) dX3_nextToken_147 (fun H locs hP hD hS => ?_)
                        have hP : va_P g.1 vwCl (wT g a f1 f20 k j (srt f1 f20 k) 0) H := hP
                        have hD : va_D (va_A (wT g a f1 f20 f21 f22 f23 f24) s.heap.size) (wT g a f1 f20 k j (srt f1 f20 k) 0) := hD
                        have he53 : 0 = (nv f1 f20 (tkF f1 f20 f22) (tkE f1 f20 (tkF f1 f20 f22))) := by rw [← hk]; unfold nv; first | (rw [if_pos (srt_D.mpr (by omega)), ← hj]; done) | (rw [if_neg (by rw [srt_D]; omega)]; done) | (exfalso; omega)
                        have hP := Eq.mp (congrArg (fun z9 => va_P g.1 vwCl (wT g a f1 f20 k j (srt f1 f20 k) z9) H) he53) hP
                        have hD := Eq.mp (congrArg (fun z9 => va_D (va_A (wT g a f1 f20 f21 f22 f23 f24) s.heap.size) (wT g a f1 f20 k j (srt f1 f20 k) z9)) he53) hD
                        have he54 : k = (tkF f1 f20 f22) := hk
                        have hP := Eq.mp (congrArg (fun z9 => va_P g.1 vwCl (wT g a f1 f20 z9 j (srt f1 f20 k) (nv f1 f20 (tkF f1 f20 f22) (tkE f1 f20 (tkF f1 f20 f22)))) H) he54) hP
                        have hD := Eq.mp (congrArg (fun z9 => va_D (va_A (wT g a f1 f20 f21 f22 f23 f24) s.heap.size) (wT g a f1 f20 z9 j (srt f1 f20 k) (nv f1 f20 (tkF f1 f20 f22) (tkE f1 f20 (tkF f1 f20 f22))))) he54) hD
                        have he55 : j = (tkE f1 f20 (tkF f1 f20 f22)) := by rw [← hk]; first | exact hj | (rw [tkE_o (by omega) (by omega)]; first | (rw [if_pos (by omega)]; done) | (rw [if_neg (by omega)]; omega) | (exfalso; omega))
                        have hP := Eq.mp (congrArg (fun z9 => va_P g.1 vwCl (wT g a f1 f20 (tkF f1 f20 f22) z9 (srt f1 f20 k) (nv f1 f20 (tkF f1 f20 f22) (tkE f1 f20 (tkF f1 f20 f22)))) H) he55) hP
                        have hD := Eq.mp (congrArg (fun z9 => va_D (va_A (wT g a f1 f20 f21 f22 f23 f24) s.heap.size) (wT g a f1 f20 (tkF f1 f20 f22) z9 (srt f1 f20 k) (nv f1 f20 (tkF f1 f20 f22) (tkE f1 f20 (tkF f1 f20 f22))))) he55) hD
                        have he56 : (srt f1 f20 k) = (srt f1 f20 (tkF f1 f20 f22)) := by rw [hk]
                        have hP := Eq.mp (congrArg (fun z9 => va_P g.1 vwCl (wT g a f1 f20 (tkF f1 f20 f22) (tkE f1 f20 (tkF f1 f20 f22)) z9 (nv f1 f20 (tkF f1 f20 f22) (tkE f1 f20 (tkF f1 f20 f22)))) H) he56) hP
                        have hD := Eq.mp (congrArg (fun z9 => va_D (va_A (wT g a f1 f20 f21 f22 f23 f24) s.heap.size) (wT g a f1 f20 (tkF f1 f20 f22) (tkE f1 f20 (tkF f1 f20 f22)) z9 (nv f1 f20 (tkF f1 f20 f22) (tkE f1 f20 (tkF f1 f20 f22))))) he56) hD
                        have hP : va_P g.1 vwCl (wT g a f1 f20 (tkF f1 f20 f22) (tkE f1 f20 (tkF f1 f20 f22)) (srt f1 f20 (tkF f1 f20 f22)) (nv f1 f20 (tkF f1 f20 f22) (tkE f1 f20 (tkF f1 f20 f22)))) H := hP
                        have hD : va_D (va_A (wT g a f1 f20 f21 f22 f23 f24) s.heap.size) (wT g a f1 f20 (tkF f1 f20 f22) (tkE f1 f20 (tkF f1 f20 f22)) (srt f1 f20 (tkF f1 f20 f22)) (nv f1 f20 (tkF f1 f20 f22) (tkE f1 f20 (tkF f1 f20 f22)))) := hD
                        exact W.vret hx hb hr (fun t ht hW => ⟨⟨(), rfl, trivial, by rw [ht]; exact hP, hD⟩, hS.F ht⟩) hS.2.2 dX3_nextToken_150
                      · refine lv_aload_n hx hb dX3_nextToken_139 rfl (lv_at hl 0 rfl) ?_
                        refine xu_i (x := iI (nvT f1 k (Int.toNat (j - k)))) (rV (rest := [.ref (a 0)]) hx hb hml hown hts hK hl (c_X3_numberAtHand l g a f1 f20 k j (srt f1 f20 k) f24 (show ∀ j, 0 ≤ f1 j ∧ f1 j ≤ 255 from h1) (show 0 ≤ f20 ∧ f20 ≤ 120 from by omega) (show 0 ≤ k ∧ k ≤ j ∧ j ≤ f20 from by omega) (show ∀ x9, k ≤ x9 → x9 < j → 48 ≤ f1 x9 ∧ f1 x9 ≤ 57 from (by first | (exfalso; omega) | exact (fun x x0 x1 => tk_dig (b := f1) (t := f20) (by omega) (by omega) (srt_D.mpr (by omega)) x0 (by rw [← hj]; exact x1))))) lk_X3_147 hP (va_recv hK.1 hP (ci := 3) (q0 := 0) rfl rfl) rfl rfl rfl (Rm.of rfl) rfl rfl dX3_nextToken_140) ?_
                        refine lv_goto (tgt := 147) hx hb dX3_nextToken_143 (by decide) ?_
                        refine xp_X3 hx hb hts hown hK hP hD hS 0 rfl 5 (by decide) fk_X3_78 rfl (v := .int (iI (nvT f1 k (Int.toNat (j - k))))) rfl rfl (Nat.le_of_ble_eq_true rfl) dX3_nextToken_147 (fun H locs hP hD hS => ?_)
                        have hP : va_P g.1 vwCl (wT g a f1 f20 k j (srt f1 f20 k) (nvT f1 k (Int.toNat (j - k)))) H := hP
                        have hD : va_D (va_A (wT g a f1 f20 f21 f22 f23 f24) s.heap.size) (wT g a f1 f20 k j (srt f1 f20 k) (nvT f1 k (Int.toNat (j - k)))) := hD
                        have he58 : (nvT f1 k (Int.toNat (j - k))) = (nv f1 f20 (tkF f1 f20 f22) (tkE f1 f20 (tkF f1 f20 f22))) := by rw [← hk]; unfold nv; first | (rw [if_pos (srt_D.mpr (by omega)), ← hj]; done) | (rw [if_neg (by rw [srt_D]; omega)]; done) | (exfalso; omega)
                        have hP := Eq.mp (congrArg (fun z9 => va_P g.1 vwCl (wT g a f1 f20 k j (srt f1 f20 k) z9) H) he58) hP
                        have hD := Eq.mp (congrArg (fun z9 => va_D (va_A (wT g a f1 f20 f21 f22 f23 f24) s.heap.size) (wT g a f1 f20 k j (srt f1 f20 k) z9)) he58) hD
                        have he59 : k = (tkF f1 f20 f22) := hk
                        have hP := Eq.mp (congrArg (fun z9 => va_P g.1 vwCl (wT g a f1 f20 z9 j (srt f1 f20 k) (nv f1 f20 (tkF f1 f20 f22) (tkE f1 f20 (tkF f1 f20 f22)))) H) he59) hP
                        have hD := Eq.mp (congrArg (fun z9 => va_D (va_A (wT g a f1 f20 f21 f22 f23 f24) s.heap.size) (wT g a f1 f20 z9 j (srt f1 f20 k) (nv f1 f20 (tkF f1 f20 f22) (tkE f1 f20 (tkF f1 f20 f22))))) he59) hD
                        have he60 : j = (tkE f1 f20 (tkF f1 f20 f22)) := by rw [← hk]; first | exact hj | (rw [tkE_o (by omega) (by omega)]; first | (rw [if_pos (by omega)]; done) | (rw [if_neg (by omega)]; omega) | (exfalso; omega))
                        have hP := Eq.mp (congrArg (fun z9 => va_P g.1 vwCl (wT g a f1 f20 (tkF f1 f20 f22) z9 (srt f1 f20 k) (nv f1 f20 (tkF f1 f20 f22) (tkE f1 f20 (tkF f1 f20 f22)))) H) he60) hP
                        have hD := Eq.mp (congrArg (fun z9 => va_D (va_A (wT g a f1 f20 f21 f22 f23 f24) s.heap.size) (wT g a f1 f20 (tkF f1 f20 f22) z9 (srt f1 f20 k) (nv f1 f20 (tkF f1 f20 f22) (tkE f1 f20 (tkF f1 f20 f22))))) he60) hD
                        have he61 : (srt f1 f20 k) = (srt f1 f20 (tkF f1 f20 f22)) := by rw [hk]
                        have hP := Eq.mp (congrArg (fun z9 => va_P g.1 vwCl (wT g a f1 f20 (tkF f1 f20 f22) (tkE f1 f20 (tkF f1 f20 f22)) z9 (nv f1 f20 (tkF f1 f20 f22) (tkE f1 f20 (tkF f1 f20 f22)))) H) he61) hP
                        have hD := Eq.mp (congrArg (fun z9 => va_D (va_A (wT g a f1 f20 f21 f22 f23 f24) s.heap.size) (wT g a f1 f20 (tkF f1 f20 f22) (tkE f1 f20 (tkF f1 f20 f22)) z9 (nv f1 f20 (tkF f1 f20 f22) (tkE f1 f20 (tkF f1 f20 f22))))) he61) hD
                        have hP : va_P g.1 vwCl (wT g a f1 f20 (tkF f1 f20 f22) (tkE f1 f20 (tkF f1 f20 f22)) (srt f1 f20 (tkF f1 f20 f22)) (nv f1 f20 (tkF f1 f20 f22) (tkE f1 f20 (tkF f1 f20 f22)))) H := hP
                        have hD : va_D (va_A (wT g a f1 f20 f21 f22 f23 f24) s.heap.size) (wT g a f1 f20 (tkF f1 f20 f22) (tkE f1 f20 (tkF f1 f20 f22)) (srt f1 f20 (tkF f1 f20 f22)) (nv f1 f20 (tkF f1 f20 f22) (tkE f1 f20 (tkF f1 f20 f22)))) := hD
                        exact W.vret hx hb hr (fun t ht hW => ⟨⟨(), rfl, trivial, by rw [ht]; exact hP, hD⟩, hS.F ht⟩) hS.2.2 dX3_nextToken_150
                    · refine lv_aload_n hx hb dX3_nextToken_117 rfl (lv_at hl 0 rfl) ?_
                      refine lv_dup hx hb dX3_nextToken_118 rfl ?_
                      refine xg_X3 hx hb hts hown hK hP 0 rfl 3 (by decide) fk_X3_19 (v := .int (iI j)) rfl dX3_nextToken_119 ?_
                      refine lv_iconst (v := iI (1)) hx hb dX3_nextToken_122 (by decide) ?_
                      refine xi_add hx hb dX3_nextToken_123 ?_
                      refine xp_X3 hx hb hts hown hK hP hD hS 0 rfl 3 (by decide) fk_X3_19 rfl (v := .int (iI (j + 1))) rfl rfl (Nat.le_of_ble_eq_true rfl) dX3_nextToken_124 (fun H locs hP hD hS => ?_)
                      have hP : va_P g.1 vwCl (wT g a f1 f20 k (j + 1) (srt f1 f20 k) f24) H := hP
                      have hD : va_D (va_A (wT g a f1 f20 f21 f22 f23 f24) s.heap.size) (wT g a f1 f20 k (j + 1) (srt f1 f20 k) f24) := hD
                      refine lv_goto (tgt := 91) hx hb dX3_nextToken_127 (by decide) ?_
                      exact ih91 (j + 1) (n - 1) ⟨by omega, by omega⟩ (by rw [rn_sort (by omega) (by assumption) (by omega)]; exact i91_2) (by omega) (by omega) (by omega) ls (lv_sub hl [0] rfl) H locs hP hD hS
              exact lp91 (120 + 1) f20 121 (by omega) (by first | exact rn_tk (by omega) | (exfalso; omega)) (by omega) (by omega) (by omega) ls (lv_sub hl [0] rfl) H locs hP hD hS
        · rw [e3]
          refine xp_X3 hx hb hts hown hK hP hD hS 0 rfl 3 (by decide) fk_X3_19 rfl (v := .int (iI (k + 1))) rfl rfl (Nat.le_of_ble_eq_true rfl) dX3_nextToken_72 (fun H locs hP hD hS => ?_)
          have hP : va_P g.1 vwCl (wT g a f1 f20 k (k + 1) (srt f1 f20 k) f24) H := hP
          have hD : va_D (va_A (wT g a f1 f20 f21 f22 f23 f24) s.heap.size) (wT g a f1 f20 k (k + 1) (srt f1 f20 k) f24) := hD
          refine lv_aload_n hx hb dX3_nextToken_75 rfl (lv_at hl 0 rfl) ?_
          refine xg_X3 hx hb hts hown hK hP 0 rfl 4 (by decide) fk_X3_32 (v := .int (iI (srt f1 f20 k))) rfl dX3_nextToken_76 ?_
          refine lv_iconst (v := iI (1)) hx hb dX3_nextToken_79 (by decide) ?_
          refine xi_c_eq (tgt := 91) hx hb ⟨by omega, by omega⟩ ⟨by decide, by decide⟩ dX3_nextToken_80 (by decide) (fun z62 => ?_) (fun z62 => ?_)
          · have lp91 : ∀ (n91 : Nat) (j : Int) (n : Nat), (0 ≤ j ∧ j ≤ f20) → (rnW f1 f20 (if srt f1 f20 k = 1 then 1 else 0) (if srt f1 f20 k = 2 then 1 else 0) n j = tkE f1 f20 k) → (f20 - j < n) → (k < j) → (f20 - j).toNat < n91 → ∀ ls : Array Slot, lv_has ls 1 [(0, .ref (a 0))] → ∀ (H : Heap) (locs : List Loc), va_P g.1 vwCl (wT g a f1 f20 k j (srt f1 f20 k) f24) H → va_D (va_A (wT g a f1 f20 f21 f22 f23 f24) s.heap.size) (wT g a f1 f20 k j (srt f1 f20 k) f24) → va_S (va_A (wT g a f1 f20 f21 f22 f23 f24) s.heap.size) s.heap H locs → W pq l eq rm_X3_nextToken s mq [.ref (a 0)].toArray below meth cq H locs 0 0 (MQ below (QMv g (fun _ : Unit => wT g a f1 f20 (tkF f1 f20 f22) (tkE f1 f20 (tkF f1 f20 f22)) (srt f1 f20 (tkF f1 f20 f22)) (nv f1 f20 (tkF f1 f20 f22) (tkE f1 f20 (tkF f1 f20 f22)))) (fun _ => True) (va_A (wT g a f1 f20 f21 f22 f23 f24) s.heap.size)) [.ref (a 0)].toArray s 0 0 (va_A (wT g a f1 f20 f21 f22 f23 f24) s.heap.size)) (F0 mq 91 ls []) := by
              intro n91
              induction n91 with
              | zero => intro j n i91_1 i91_2 i91_3 i91_4 hm; exact absurd hm (Nat.not_lt_zero _)
              | succ n91 ih91 =>
                intro j n i91_1 i91_2 i91_3 i91_4 hm91 ls hl H locs hP hD hS
                have hsj := srt_c f1 f20 j
                refine lv_aload_n hx hb dX3_nextToken_91 rfl (lv_at hl 0 rfl) ?_
                refine xg_X3 hx hb hts hown hK hP 0 rfl 3 (by decide) fk_X3_19 (v := .int (iI j)) rfl dX3_nextToken_92 ?_
                refine lv_aload_n hx hb dX3_nextToken_95 rfl (lv_at hl 0 rfl) ?_
                refine xg_X3 hx hb hts hown hK hP 0 rfl 1 (by decide) fk_X3_15 (v := .int (iI f20)) rfl dX3_nextToken_96 ?_
                refine xi_c_ge (tgt := 130) hx hb ⟨by omega, by omega⟩ ⟨by omega, by omega⟩ dX3_nextToken_99 (by decide) (fun z63 => ?_) (fun z63 => ?_)
                · have hj : j = tkE f1 f20 k := by rw [← i91_2]; exact (rn_stop n (by omega)).symm
                  refine lv_aload_n hx hb dX3_nextToken_130 rfl (lv_at hl 0 rfl) ?_
                  refine lv_aload_n hx hb dX3_nextToken_131 rfl (lv_at hl 0 rfl) ?_
                  refine xg_X3 hx hb hts hown hK hP 0 rfl 4 (by decide) fk_X3_32 (v := .int (iI (srt f1 f20 k))) rfl dX3_nextToken_132 ?_
                  refine lv_iconst (v := iI (2)) hx hb dX3_nextToken_135 (by decide) ?_
                  refine xi_c_ne (tgt := 146) hx hb ⟨by omega, by omega⟩ ⟨by decide, by decide⟩ dX3_nextToken_136 (by decide) (fun z64 => ?_) (fun z64 => ?_)
                  · refine lv_iconst (v := iI (0)) hx hb dX3_nextToken_146 (by decide) ?_
                    refine xp_X3 hx hb hts hown hK hP hD hS 0 rfl 5 (by decide) fk_X3_78 rfl (v := .int (iI 0)) rfl rfl (Nat.le_of_ble_eq_true rfl) dX3_nextToken_147 (fun H locs hP hD hS => ?_)
                    have hP : va_P g.1 vwCl (wT g a f1 f20 k j (srt f1 f20 k) 0) H := hP
                    have hD : va_D (va_A (wT g a f1 f20 f21 f22 f23 f24) s.heap.size) (wT g a f1 f20 k j (srt f1 f20 k) 0) := hD
                    have he65 : 0 = (nv f1 f20 (tkF f1 f20 f22) (tkE f1 f20 (tkF f1 f20 f22))) := by rw [← hk]; unfold nv; first | (rw [if_pos (srt_D.mpr (by omega)), ← hj]; done) | (rw [if_neg (by rw [srt_D]; omega)]; done) | (exfalso; omega)
                    have hP := Eq.mp (congrArg (fun z9 => va_P g.1 vwCl (wT g a f1 f20 k j (srt f1 f20 k) z9) H) he65) hP
                    have hD := Eq.mp (congrArg (fun z9 => va_D (va_A (wT g a f1 f20 f21 f22 f23 f24) s.heap.size) (wT g a f1 f20 k j (srt f1 f20 k) z9)) he65) hD
                    have he66 : k = (tkF f1 f20 f22) := hk
                    have hP := Eq.mp (congrArg (fun z9 => va_P g.1 vwCl (wT g a f1 f20 z9 j (srt f1 f20 k) (nv f1 f20 (tkF f1 f20 f22) (tkE f1 f20 (tkF f1 f20 f22)))) H) he66) hP
                    have hD := Eq.mp (congrArg (fun z9 => va_D (va_A (wT g a f1 f20 f21 f22 f23 f24) s.heap.size) (wT g a f1 f20 z9 j (srt f1 f20 k) (nv f1 f20 (tkF f1 f20 f22) (tkE f1 f20 (tkF f1 f20 f22))))) he66) hD
                    have he67 : j = (tkE f1 f20 (tkF f1 f20 f22)) := by rw [← hk]; first | exact hj | (rw [tkE_o (by omega) (by omega)]; first | (rw [if_pos (by omega)]; done) | (rw [if_neg (by omega)]; omega) | (exfalso; omega))
                    have hP := Eq.mp (congrArg (fun z9 => va_P g.1 vwCl (wT g a f1 f20 (tkF f1 f20 f22) z9 (srt f1 f20 k) (nv f1 f20 (tkF f1 f20 f22) (tkE f1 f20 (tkF f1 f20 f22)))) H) he67) hP
                    have hD := Eq.mp (congrArg (fun z9 => va_D (va_A (wT g a f1 f20 f21 f22 f23 f24) s.heap.size) (wT g a f1 f20 (tkF f1 f20 f22) z9 (srt f1 f20 k) (nv f1 f20 (tkF f1 f20 f22) (tkE f1 f20 (tkF f1 f20 f22))))) he67) hD
                    have he68 : (srt f1 f20 k) = (srt f1 f20 (tkF f1 f20 f22)) := by rw [hk]
                    have hP := Eq.mp (congrArg (fun z9 => va_P g.1 vwCl (wT g a f1 f20 (tkF f1 f20 f22) (tkE f1 f20 (tkF f1 f20 f22)) z9 (nv f1 f20 (tkF f1 f20 f22) (tkE f1 f20 (tkF f1 f20 f22)))) H) he68) hP
                    have hD := Eq.mp (congrArg (fun z9 => va_D (va_A (wT g a f1 f20 f21 f22 f23 f24) s.heap.size) (wT g a f1 f20 (tkF f1 f20 f22) (tkE f1 f20 (tkF f1 f20 f22)) z9 (nv f1 f20 (tkF f1 f20 f22) (tkE f1 f20 (tkF f1 f20 f22))))) he68) hD
                    have hP : va_P g.1 vwCl (wT g a f1 f20 (tkF f1 f20 f22) (tkE f1 f20 (tkF f1 f20 f22)) (srt f1 f20 (tkF f1 f20 f22)) (nv f1 f20 (tkF f1 f20 f22) (tkE f1 f20 (tkF f1 f20 f22)))) H := hP
                    have hD : va_D (va_A (wT g a f1 f20 f21 f22 f23 f24) s.heap.size) (wT g a f1 f20 (tkF f1 f20 f22) (tkE f1 f20 (tkF f1 f20 f22)) (srt f1 f20 (tkF f1 f20 f22)) (nv f1 f20 (tkF f1 f20 f22) (tkE f1 f20 (tkF f1 f20 f22)))) := hD
                    exact W.vret hx hb hr (fun t ht hW => ⟨⟨(), rfl, trivial, by rw [ht]; exact hP, hD⟩, hS.F ht⟩) hS.2.2 dX3_nextToken_150
                  · refine lv_aload_n hx hb dX3_nextToken_139 rfl (lv_at hl 0 rfl) ?_
                    refine xu_i (x := iI (nvT f1 k (Int.toNat (j - k)))) (rV (rest := [.ref (a 0)]) hx hb hml hown hts hK hl (c_X3_numberAtHand l g a f1 f20 k j (srt f1 f20 k) f24 (show ∀ j, 0 ≤ f1 j ∧ f1 j ≤ 255 from h1) (show 0 ≤ f20 ∧ f20 ≤ 120 from by omega) (show 0 ≤ k ∧ k ≤ j ∧ j ≤ f20 from by omega) (show ∀ x9, k ≤ x9 → x9 < j → 48 ≤ f1 x9 ∧ f1 x9 ≤ 57 from (by first | (exfalso; omega) | exact (fun x x0 x1 => tk_dig (b := f1) (t := f20) (by omega) (by omega) (srt_D.mpr (by omega)) x0 (by rw [← hj]; exact x1))))) lk_X3_147 hP (va_recv hK.1 hP (ci := 3) (q0 := 0) rfl rfl) rfl rfl rfl (Rm.of rfl) rfl rfl dX3_nextToken_140) ?_
                    refine lv_goto (tgt := 147) hx hb dX3_nextToken_143 (by decide) ?_
                    refine xp_X3 hx hb hts hown hK hP hD hS 0 rfl 5 (by decide) fk_X3_78 rfl (v := .int (iI (nvT f1 k (Int.toNat (j - k))))) rfl rfl (Nat.le_of_ble_eq_true rfl) dX3_nextToken_147 (fun H locs hP hD hS => ?_)
                    have hP : va_P g.1 vwCl (wT g a f1 f20 k j (srt f1 f20 k) (nvT f1 k (Int.toNat (j - k)))) H := hP
                    have hD : va_D (va_A (wT g a f1 f20 f21 f22 f23 f24) s.heap.size) (wT g a f1 f20 k j (srt f1 f20 k) (nvT f1 k (Int.toNat (j - k)))) := hD
                    have he70 : (nvT f1 k (Int.toNat (j - k))) = (nv f1 f20 (tkF f1 f20 f22) (tkE f1 f20 (tkF f1 f20 f22))) := by rw [← hk]; unfold nv; first | (rw [if_pos (srt_D.mpr (by omega)), ← hj]; done) | (rw [if_neg (by rw [srt_D]; omega)]; done) | (exfalso; omega)
                    have hP := Eq.mp (congrArg (fun z9 => va_P g.1 vwCl (wT g a f1 f20 k j (srt f1 f20 k) z9) H) he70) hP
                    have hD := Eq.mp (congrArg (fun z9 => va_D (va_A (wT g a f1 f20 f21 f22 f23 f24) s.heap.size) (wT g a f1 f20 k j (srt f1 f20 k) z9)) he70) hD
                    have he71 : k = (tkF f1 f20 f22) := hk
                    have hP := Eq.mp (congrArg (fun z9 => va_P g.1 vwCl (wT g a f1 f20 z9 j (srt f1 f20 k) (nv f1 f20 (tkF f1 f20 f22) (tkE f1 f20 (tkF f1 f20 f22)))) H) he71) hP
                    have hD := Eq.mp (congrArg (fun z9 => va_D (va_A (wT g a f1 f20 f21 f22 f23 f24) s.heap.size) (wT g a f1 f20 z9 j (srt f1 f20 k) (nv f1 f20 (tkF f1 f20 f22) (tkE f1 f20 (tkF f1 f20 f22))))) he71) hD
                    have he72 : j = (tkE f1 f20 (tkF f1 f20 f22)) := by rw [← hk]; first | exact hj | (rw [tkE_o (by omega) (by omega)]; first | (rw [if_pos (by omega)]; done) | (rw [if_neg (by omega)]; omega) | (exfalso; omega))
                    have hP := Eq.mp (congrArg (fun z9 => va_P g.1 vwCl (wT g a f1 f20 (tkF f1 f20 f22) z9 (srt f1 f20 k) (nv f1 f20 (tkF f1 f20 f22) (tkE f1 f20 (tkF f1 f20 f22)))) H) he72) hP
                    have hD := Eq.mp (congrArg (fun z9 => va_D (va_A (wT g a f1 f20 f21 f22 f23 f24) s.heap.size) (wT g a f1 f20 (tkF f1 f20 f22) z9 (srt f1 f20 k) (nv f1 f20 (tkF f1 f20 f22) (tkE f1 f20 (tkF f1 f20 f22))))) he72) hD
                    have he73 : (srt f1 f20 k) = (srt f1 f20 (tkF f1 f20 f22)) := by rw [hk]
                    have hP := Eq.mp (congrArg (fun z9 => va_P g.1 vwCl (wT g a f1 f20 (tkF f1 f20 f22) (tkE f1 f20 (tkF f1 f20 f22)) z9 (nv f1 f20 (tkF f1 f20 f22) (tkE f1 f20 (tkF f1 f20 f22)))) H) he73) hP
                    have hD := Eq.mp (congrArg (fun z9 => va_D (va_A (wT g a f1 f20 f21 f22 f23 f24) s.heap.size) (wT g a f1 f20 (tkF f1 f20 f22) (tkE f1 f20 (tkF f1 f20 f22)) z9 (nv f1 f20 (tkF f1 f20 f22) (tkE f1 f20 (tkF f1 f20 f22))))) he73) hD
                    have hP : va_P g.1 vwCl (wT g a f1 f20 (tkF f1 f20 f22) (tkE f1 f20 (tkF f1 f20 f22)) (srt f1 f20 (tkF f1 f20 f22)) (nv f1 f20 (tkF f1 f20 f22) (tkE f1 f20 (tkF f1 f20 f22)))) H := hP
                    have hD : va_D (va_A (wT g a f1 f20 f21 f22 f23 f24) s.heap.size) (wT g a f1 f20 (tkF f1 f20 f22) (tkE f1 f20 (tkF f1 f20 f22)) (srt f1 f20 (tkF f1 f20 f22)) (nv f1 f20 (tkF f1 f20 f22) (tkE f1 f20 (tkF f1 f20 f22)))) := hD
                    exact W.vret hx hb hr (fun t ht hW => ⟨⟨(), rfl, trivial, by rw [ht]; exact hP, hD⟩, hS.F ht⟩) hS.2.2 dX3_nextToken_150
                · refine lv_aload_n hx hb dX3_nextToken_102 rfl (lv_at hl 0 rfl) ?_
                  refine lv_aload_n hx hb dX3_nextToken_103 rfl (lv_at hl 0 rfl) ?_
                  refine xg_X3 hx hb hts hown hK hP 0 rfl 3 (by decide) fk_X3_19 (v := .int (iI j)) rfl dX3_nextToken_104 ?_
                  refine xu_i (x := iI (srt f1 f20 j)) (rV (rest := []) hx hb hml hown hts hK hl (c_X3_sortAt l g a f1 f20 k j (srt f1 f20 k) f24 j (show ∀ j, 0 ≤ f1 j ∧ f1 j ≤ 255 from h1) (show 0 ≤ f20 ∧ f20 ≤ 120 from by omega) (show 0 ≤ j ∧ j ≤ 121 from by omega)) lk_X3_138 hP (va_recv hK.1 hP (ci := 3) (q0 := 0) rfl rfl) rfl rfl rfl (Rm.of rfl) rfl rfl dX3_nextToken_107) ?_
                  refine lv_aload_n hx hb dX3_nextToken_110 rfl (lv_at hl 0 rfl) ?_
                  refine xg_X3 hx hb hts hown hK hP 0 rfl 4 (by decide) fk_X3_32 (v := .int (iI (srt f1 f20 k))) rfl dX3_nextToken_111 ?_
                  refine xi_c_ne (tgt := 130) hx hb ⟨by omega, by omega⟩ ⟨by omega, by omega⟩ dX3_nextToken_114 (by decide) (fun z75 => ?_) (fun z75 => ?_)
                  · have hj : j = tkE f1 f20 k := by rw [← i91_2]; exact (rn_stop n (by assumption)).symm
                    refine lv_aload_n hx hb dX3_nextToken_130 rfl (lv_at hl 0 rfl) ?_
                    refine lv_aload_n hx hb dX3_nextToken_131 rfl (lv_at hl 0 rfl) ?_
                    refine xg_X3 hx hb hts hown hK hP 0 rfl 4 (by decide) fk_X3_32 (v := .int (iI (srt f1 f20 k))) rfl dX3_nextToken_132 ?_
                    refine lv_iconst (v := iI (2)) hx hb dX3_nextToken_135 (by decide) ?_
                    refine xi_c_ne (tgt := 146) hx hb ⟨by omega, by omega⟩ ⟨by decide, by decide⟩ dX3_nextToken_136 (by decide) (fun z76 => ?_) (fun z76 => ?_)
                    · refine lv_iconst (v := iI (0)) hx hb dX3_nextToken_146 (by decide) ?_
                      refine xp_X3 hx hb hts hown hK hP hD hS 0 rfl 5 (by decide) fk_X3_78 rfl (v := .int (iI 0)) rfl rfl (Nat.le_of_ble_eq_true rfl) dX3_nextToken_147 (fun H locs hP hD hS => ?_)
                      have hP : va_P g.1 vwCl (wT g a f1 f20 k j (srt f1 f20 k) 0) H := hP
                      have hD : va_D (va_A (wT g a f1 f20 f21 f22 f23 f24) s.heap.size) (wT g a f1 f20 k j (srt f1 f20 k) 0) := hD
                      have he77 : 0 = (nv f1 f20 (tkF f1 f20 f22) (tkE f1 f20 (tkF f1 f20 f22))) := by rw [← hk]; unfold nv; first | (rw [if_pos (srt_D.mpr (by omega)), ← hj]; done) | (rw [if_neg (by rw [srt_D]; omega)]; done) | (exfalso; omega)
                      have hP := Eq.mp (congrArg (fun z9 => va_P g.1 vwCl (wT g a f1 f20 k j (srt f1 f20 k) z9) H) he77) hP
                      have hD := Eq.mp (congrArg (fun z9 => va_D (va_A (wT g a f1 f20 f21 f22 f23 f24) s.heap.size) (wT g a f1 f20 k j (srt f1 f20 k) z9)) he77) hD
                      have he78 : k = (tkF f1 f20 f22) := hk
                      have hP := Eq.mp (congrArg (fun z9 => va_P g.1 vwCl (wT g a f1 f20 z9 j (srt f1 f20 k) (nv f1 f20 (tkF f1 f20 f22) (tkE f1 f20 (tkF f1 f20 f22)))) H) he78) hP
                      have hD := Eq.mp (congrArg (fun z9 => va_D (va_A (wT g a f1 f20 f21 f22 f23 f24) s.heap.size) (wT g a f1 f20 z9 j (srt f1 f20 k) (nv f1 f20 (tkF f1 f20 f22) (tkE f1 f20 (tkF f1 f20 f22))))) he78) hD
                      have he79 : j = (tkE f1 f20 (tkF f1 f20 f22)) := by rw [← hk]; first | exact hj | (rw [tkE_o (by omega) (by omega)]; first | (rw [if_pos (by omega)]; done) | (rw [if_neg (by omega)]; omega) | (exfalso; omega))
                      have hP := Eq.mp (congrArg (fun z9 => va_P g.1 vwCl (wT g a f1 f20 (tkF f1 f20 f22) z9 (srt f1 f20 k) (nv f1 f20 (tkF f1 f20 f22) (tkE f1 f20 (tkF f1 f20 f22)))) H) he79) hP
                      have hD := Eq.mp (congrArg (fun z9 => va_D (va_A (wT g a f1 f20 f21 f22 f23 f24) s.heap.size) (wT g a f1 f20 (tkF f1 f20 f22) z9 (srt f1 f20 k) (nv f1 f20 (tkF f1 f20 f22) (tkE f1 f20 (tkF f1 f20 f22))))) he79) hD
                      have he80 : (srt f1 f20 k) = (srt f1 f20 (tkF f1 f20 f22)) := by rw [hk]
                      have hP := Eq.mp (congrArg (fun z9 => va_P g.1 vwCl (wT g a f1 f20 (tkF f1 f20 f22) (tkE f1 f20 (tkF f1 f20 f22)) z9 (nv f1 f20 (tkF f1 f20 f22) (tkE f1 f20 (tkF f1 f20 f22)))) H) he80) hP
                      have hD := Eq.mp (congrArg (fun z9 => va_D (va_A (wT g a f1 f20 f21 f22 f23 f24) s.heap.size) (wT g a f1 f20 (tkF f1 f20 f22) (tkE f1 f20 (tkF f1 f20 f22)) z9 (nv f1 f20 (tkF f1 f20 f22) (tkE f1 f20 (tkF f1 f20 f22))))) he80) hD
                      have hP : va_P g.1 vwCl (wT g a f1 f20 (tkF f1 f20 f22) (tkE f1 f20 (tkF f1 f20 f22)) (srt f1 f20 (tkF f1 f20 f22)) (nv f1 f20 (tkF f1 f20 f22) (tkE f1 f20 (tkF f1 f20 f22)))) H := hP
                      have hD : va_D (va_A (wT g a f1 f20 f21 f22 f23 f24) s.heap.size) (wT g a f1 f20 (tkF f1 f20 f22) (tkE f1 f20 (tkF f1 f20 f22)) (srt f1 f20 (tkF f1 f20 f22)) (nv f1 f20 (tkF f1 f20 f22) (tkE f1 f20 (tkF f1 f20 f22)))) := hD
                      exact W.vret hx hb hr (fun t ht hW => ⟨⟨(), rfl, trivial, by rw [ht]; exact hP, hD⟩, hS.F ht⟩) hS.2.2 dX3_nextToken_150
                    · refine lv_aload_n hx hb dX3_nextToken_139 rfl (lv_at hl 0 rfl) ?_
                      refine xu_i (x := iI (nvT f1 k (Int.toNat (j - k)))) (rV (rest := [.ref (a 0)]) hx hb hml hown hts hK hl (c_X3_numberAtHand l g a f1 f20 k j (srt f1 f20 k) f24 (show ∀ j, 0 ≤ f1 j ∧ f1 j ≤ 255 from h1) (show 0 ≤ f20 ∧ f20 ≤ 120 from by omega) (show 0 ≤ k ∧ k ≤ j ∧ j ≤ f20 from by omega) (show ∀ x9, k ≤ x9 → x9 < j → 48 ≤ f1 x9 ∧ f1 x9 ≤ 57 from (by first | (exfalso; omega) | exact (fun x x0 x1 => tk_dig (b := f1) (t := f20) (by omega) (by omega) (srt_D.mpr (by omega)) x0 (by rw [← hj]; exact x1))))) lk_X3_147 hP (va_recv hK.1 hP (ci := 3) (q0 := 0) rfl rfl) rfl rfl rfl (Rm.of rfl) rfl rfl dX3_nextToken_140) ?_
                      refine lv_goto (tgt := 147) hx hb dX3_nextToken_143 (by decide) ?_
                      refine xp_X3 hx hb hts hown hK hP hD hS 0 rfl 5 (by decide) fk_X3_78 rfl (v := .int (iI (nvT f1 k (Int.toNat (j - k))))) rfl rfl (Nat.le_of_ble_eq_true rfl) dX3_nextToken_147 (fun H locs hP hD hS => ?_)
                      have hP : va_P g.1 vwCl (wT g a f1 f20 k j (srt f1 f20 k) (nvT f1 k (Int.toNat (j - k)))) H := hP
                      have hD : va_D (va_A (wT g a f1 f20 f21 f22 f23 f24) s.heap.size) (wT g a f1 f20 k j (srt f1 f20 k) (nvT f1 k (Int.toNat (j - k)))) := hD
                      have he82 : (nvT f1 k (Int.toNat (j - k))) = (nv f1 f20 (tkF f1 f20 f22) (tkE f1 f20 (tkF f1 f20 f22))) := by rw [← hk]; unfold nv; first | (rw [if_pos (srt_D.mpr (by omega)), ← hj]; done) | (rw [if_neg (by rw [srt_D]; omega)]; done) | (exfalso; omega)
                      have hP := Eq.mp (congrArg (fun z9 => va_P g.1 vwCl (wT g a f1 f20 k j (srt f1 f20 k) z9) H) he82) hP
                      have hD := Eq.mp (congrArg (fun z9 => va_D (va_A (wT g a f1 f20 f21 f22 f23 f24) s.heap.size) (wT g a f1 f20 k j (srt f1 f20 k) z9)) he82) hD
                      have he83 : k = (tkF f1 f20 f22) := hk
                      have hP := Eq.mp (congrArg (fun z9 => va_P g.1 vwCl (wT g a f1 f20 z9 j (srt f1 f20 k) (nv f1 f20 (tkF f1 f20 f22) (tkE f1 f20 (tkF f1 f20 f22)))) H) he83) hP
                      have hD := Eq.mp (congrArg (fun z9 => va_D (va_A (wT g a f1 f20 f21 f22 f23 f24) s.heap.size) (wT g a f1 f20 z9 j (srt f1 f20 k) (nv f1 f20 (tkF f1 f20 f22) (tkE f1 f20 (tkF f1 f20 f22))))) he83) hD
                      have he84 : j = (tkE f1 f20 (tkF f1 f20 f22)) := by rw [← hk]; first | exact hj | (rw [tkE_o (by omega) (by omega)]; first | (rw [if_pos (by omega)]; done) | (rw [if_neg (by omega)]; omega) | (exfalso; omega))
                      have hP := Eq.mp (congrArg (fun z9 => va_P g.1 vwCl (wT g a f1 f20 (tkF f1 f20 f22) z9 (srt f1 f20 k) (nv f1 f20 (tkF f1 f20 f22) (tkE f1 f20 (tkF f1 f20 f22)))) H) he84) hP
                      have hD := Eq.mp (congrArg (fun z9 => va_D (va_A (wT g a f1 f20 f21 f22 f23 f24) s.heap.size) (wT g a f1 f20 (tkF f1 f20 f22) z9 (srt f1 f20 k) (nv f1 f20 (tkF f1 f20 f22) (tkE f1 f20 (tkF f1 f20 f22))))) he84) hD
                      have he85 : (srt f1 f20 k) = (srt f1 f20 (tkF f1 f20 f22)) := by rw [hk]
                      have hP := Eq.mp (congrArg (fun z9 => va_P g.1 vwCl (wT g a f1 f20 (tkF f1 f20 f22) (tkE f1 f20 (tkF f1 f20 f22)) z9 (nv f1 f20 (tkF f1 f20 f22) (tkE f1 f20 (tkF f1 f20 f22)))) H) he85) hP
                      have hD := Eq.mp (congrArg (fun z9 => va_D (va_A (wT g a f1 f20 f21 f22 f23 f24) s.heap.size) (wT g a f1 f20 (tkF f1 f20 f22) (tkE f1 f20 (tkF f1 f20 f22)) z9 (nv f1 f20 (tkF f1 f20 f22) (tkE f1 f20 (tkF f1 f20 f22))))) he85) hD
                      have hP : va_P g.1 vwCl (wT g a f1 f20 (tkF f1 f20 f22) (tkE f1 f20 (tkF f1 f20 f22)) (srt f1 f20 (tkF f1 f20 f22)) (nv f1 f20 (tkF f1 f20 f22) (tkE f1 f20 (tkF f1 f20 f22)))) H := hP
                      have hD : va_D (va_A (wT g a f1 f20 f21 f22 f23 f24) s.heap.size) (wT g a f1 f20 (tkF f1 f20 f22) (tkE f1 f20 (tkF f1 f20 f22)) (srt f1 f20 (tkF f1 f20 f22)) (nv f1 f20 (tkF f1 f20 f22) (tkE f1 f20 (tkF f1 f20 f22)))) := hD
                      exact W.vret hx hb hr (fun t ht hW => ⟨⟨(), rfl, trivial, by rw [ht]; exact hP, hD⟩, hS.F ht⟩) hS.2.2 dX3_nextToken_150
                  · refine lv_aload_n hx hb dX3_nextToken_117 rfl (lv_at hl 0 rfl) ?_
                    refine lv_dup hx hb dX3_nextToken_118 rfl ?_
                    refine xg_X3 hx hb hts hown hK hP 0 rfl 3 (by decide) fk_X3_19 (v := .int (iI j)) rfl dX3_nextToken_119 ?_
                    refine lv_iconst (v := iI (1)) hx hb dX3_nextToken_122 (by decide) ?_
                    refine xi_add hx hb dX3_nextToken_123 ?_
                    refine xp_X3 hx hb hts hown hK hP hD hS 0 rfl 3 (by decide) fk_X3_19 rfl (v := .int (iI (j + 1))) rfl rfl (Nat.le_of_ble_eq_true rfl) dX3_nextToken_124 (fun H locs hP hD hS => ?_)
                    have hP : va_P g.1 vwCl (wT g a f1 f20 k (j + 1) (srt f1 f20 k) f24) H := hP
                    have hD : va_D (va_A (wT g a f1 f20 f21 f22 f23 f24) s.heap.size) (wT g a f1 f20 k (j + 1) (srt f1 f20 k) f24) := hD
                    refine lv_goto (tgt := 91) hx hb dX3_nextToken_127 (by decide) ?_
                    exact ih91 (j + 1) (n - 1) ⟨by omega, by omega⟩ (by rw [rn_sort (by omega) (by assumption) (by omega)]; exact i91_2) (by omega) (by omega) (by omega) ls (lv_sub hl [0] rfl) H locs hP hD hS
            exact lp91 (120 + 1) (k + 1) 121 (by omega) (by first | exact rn_tk (by omega) | (exfalso; omega)) (by omega) (by omega) (by omega) ls (lv_sub hl [0] rfl) H locs hP hD hS
          · refine lv_aload_n hx hb dX3_nextToken_83 rfl (lv_at hl 0 rfl) ?_
            refine xg_X3 hx hb hts hown hK hP 0 rfl 4 (by decide) fk_X3_32 (v := .int (iI (srt f1 f20 k))) rfl dX3_nextToken_84 ?_
            refine lv_iconst (v := iI (2)) hx hb dX3_nextToken_87 (by decide) ?_
            refine xi_c_ne (tgt := 130) hx hb ⟨by omega, by omega⟩ ⟨by decide, by decide⟩ dX3_nextToken_88 (by decide) (fun z86 => ?_) (fun z86 => ?_)
            · refine lv_aload_n hx hb dX3_nextToken_130 rfl (lv_at hl 0 rfl) ?_
              refine lv_aload_n hx hb dX3_nextToken_131 rfl (lv_at hl 0 rfl) ?_
              refine xg_X3 hx hb hts hown hK hP 0 rfl 4 (by decide) fk_X3_32 (v := .int (iI (srt f1 f20 k))) rfl dX3_nextToken_132 ?_
              refine lv_iconst (v := iI (2)) hx hb dX3_nextToken_135 (by decide) ?_
              refine xi_c_ne (tgt := 146) hx hb ⟨by omega, by omega⟩ ⟨by decide, by decide⟩ dX3_nextToken_136 (by decide) (fun z87 => ?_) (fun z87 => ?_)
              · refine lv_iconst (v := iI (0)) hx hb dX3_nextToken_146 (by decide) ?_
                refine xp_X3 hx hb hts hown hK hP hD hS 0 rfl 5 (by decide) fk_X3_78 rfl (v := .int (iI 0)) rfl rfl (Nat.le_of_ble_eq_true rfl) dX3_nextToken_147 (fun H locs hP hD hS => ?_)
                have hP : va_P g.1 vwCl (wT g a f1 f20 k (k + 1) (srt f1 f20 k) 0) H := hP
                have hD : va_D (va_A (wT g a f1 f20 f21 f22 f23 f24) s.heap.size) (wT g a f1 f20 k (k + 1) (srt f1 f20 k) 0) := hD
                have he88 : 0 = (nv f1 f20 (tkF f1 f20 f22) (tkE f1 f20 (tkF f1 f20 f22))) := by rw [← hk]; unfold nv; first | (rw [if_pos (srt_D.mpr (by omega)), ← hj]; done) | (rw [if_neg (by rw [srt_D]; omega)]; done) | (exfalso; omega)
                have hP := Eq.mp (congrArg (fun z9 => va_P g.1 vwCl (wT g a f1 f20 k (k + 1) (srt f1 f20 k) z9) H) he88) hP
                have hD := Eq.mp (congrArg (fun z9 => va_D (va_A (wT g a f1 f20 f21 f22 f23 f24) s.heap.size) (wT g a f1 f20 k (k + 1) (srt f1 f20 k) z9)) he88) hD
                have he89 : k = (tkF f1 f20 f22) := hk
                have hP := Eq.mp (congrArg (fun z9 => va_P g.1 vwCl (wT g a f1 f20 z9 (k + 1) (srt f1 f20 k) (nv f1 f20 (tkF f1 f20 f22) (tkE f1 f20 (tkF f1 f20 f22)))) H) he89) hP
                have hD := Eq.mp (congrArg (fun z9 => va_D (va_A (wT g a f1 f20 f21 f22 f23 f24) s.heap.size) (wT g a f1 f20 z9 (k + 1) (srt f1 f20 k) (nv f1 f20 (tkF f1 f20 f22) (tkE f1 f20 (tkF f1 f20 f22))))) he89) hD
                have he90 : (k + 1) = (tkE f1 f20 (tkF f1 f20 f22)) := by rw [← hk]; first | exact hj | (rw [tkE_o (by omega) (by omega)]; first | (rw [if_pos (by omega)]; done) | (rw [if_neg (by omega)]; omega) | (exfalso; omega))
                have hP := Eq.mp (congrArg (fun z9 => va_P g.1 vwCl (wT g a f1 f20 (tkF f1 f20 f22) z9 (srt f1 f20 k) (nv f1 f20 (tkF f1 f20 f22) (tkE f1 f20 (tkF f1 f20 f22)))) H) he90) hP
                have hD := Eq.mp (congrArg (fun z9 => va_D (va_A (wT g a f1 f20 f21 f22 f23 f24) s.heap.size) (wT g a f1 f20 (tkF f1 f20 f22) z9 (srt f1 f20 k) (nv f1 f20 (tkF f1 f20 f22) (tkE f1 f20 (tkF f1 f20 f22))))) he90) hD
                have he91 : (srt f1 f20 k) = (srt f1 f20 (tkF f1 f20 f22)) := by rw [hk]
                have hP := Eq.mp (congrArg (fun z9 => va_P g.1 vwCl (wT g a f1 f20 (tkF f1 f20 f22) (tkE f1 f20 (tkF f1 f20 f22)) z9 (nv f1 f20 (tkF f1 f20 f22) (tkE f1 f20 (tkF f1 f20 f22)))) H) he91) hP
                have hD := Eq.mp (congrArg (fun z9 => va_D (va_A (wT g a f1 f20 f21 f22 f23 f24) s.heap.size) (wT g a f1 f20 (tkF f1 f20 f22) (tkE f1 f20 (tkF f1 f20 f22)) z9 (nv f1 f20 (tkF f1 f20 f22) (tkE f1 f20 (tkF f1 f20 f22))))) he91) hD
                have hP : va_P g.1 vwCl (wT g a f1 f20 (tkF f1 f20 f22) (tkE f1 f20 (tkF f1 f20 f22)) (srt f1 f20 (tkF f1 f20 f22)) (nv f1 f20 (tkF f1 f20 f22) (tkE f1 f20 (tkF f1 f20 f22)))) H := hP
                have hD : va_D (va_A (wT g a f1 f20 f21 f22 f23 f24) s.heap.size) (wT g a f1 f20 (tkF f1 f20 f22) (tkE f1 f20 (tkF f1 f20 f22)) (srt f1 f20 (tkF f1 f20 f22)) (nv f1 f20 (tkF f1 f20 f22) (tkE f1 f20 (tkF f1 f20 f22)))) := hD
                exact W.vret hx hb hr (fun t ht hW => ⟨⟨(), rfl, trivial, by rw [ht]; exact hP, hD⟩, hS.F ht⟩) hS.2.2 dX3_nextToken_150
              · refine lv_aload_n hx hb dX3_nextToken_139 rfl (lv_at hl 0 rfl) ?_
                refine xu_i (x := iI (nvT f1 k (Int.toNat ((k + 1) - k)))) (rV (rest := [.ref (a 0)]) hx hb hml hown hts hK hl (c_X3_numberAtHand l g a f1 f20 k (k + 1) (srt f1 f20 k) f24 (show ∀ j, 0 ≤ f1 j ∧ f1 j ≤ 255 from h1) (show 0 ≤ f20 ∧ f20 ≤ 120 from by omega) (show 0 ≤ k ∧ k ≤ (k + 1) ∧ (k + 1) ≤ f20 from by omega) (show ∀ x9, k ≤ x9 → x9 < (k + 1) → 48 ≤ f1 x9 ∧ f1 x9 ≤ 57 from (by first | (exfalso; omega) | exact (fun x x0 x1 => tk_dig (b := f1) (t := f20) (by omega) (by omega) (srt_D.mpr (by omega)) x0 (by rw [← hj]; exact x1))))) lk_X3_147 hP (va_recv hK.1 hP (ci := 3) (q0 := 0) rfl rfl) rfl rfl rfl (Rm.of rfl) rfl rfl dX3_nextToken_140) ?_
                refine lv_goto (tgt := 147) hx hb dX3_nextToken_143 (by decide) ?_
                refine xp_X3 hx hb hts hown hK hP hD hS 0 rfl 5 (by decide) fk_X3_78 rfl (v := .int (iI (nvT f1 k (Int.toNat ((k + 1) - k))))) rfl rfl (Nat.le_of_ble_eq_true rfl) dX3_nextToken_147 (fun H locs hP hD hS => ?_)
                have hP : va_P g.1 vwCl (wT g a f1 f20 k (k + 1) (srt f1 f20 k) (nvT f1 k (Int.toNat ((k + 1) - k)))) H := hP
                have hD : va_D (va_A (wT g a f1 f20 f21 f22 f23 f24) s.heap.size) (wT g a f1 f20 k (k + 1) (srt f1 f20 k) (nvT f1 k (Int.toNat ((k + 1) - k)))) := hD
                have he93 : (nvT f1 k (Int.toNat ((k + 1) - k))) = (nv f1 f20 (tkF f1 f20 f22) (tkE f1 f20 (tkF f1 f20 f22))) := by rw [← hk]; unfold nv; first | (rw [if_pos (srt_D.mpr (by omega)), ← hj]; done) | (rw [if_neg (by rw [srt_D]; omega)]; done) | (exfalso; omega)
                have hP := Eq.mp (congrArg (fun z9 => va_P g.1 vwCl (wT g a f1 f20 k (k + 1) (srt f1 f20 k) z9) H) he93) hP
                have hD := Eq.mp (congrArg (fun z9 => va_D (va_A (wT g a f1 f20 f21 f22 f23 f24) s.heap.size) (wT g a f1 f20 k (k + 1) (srt f1 f20 k) z9)) he93) hD
                have he94 : k = (tkF f1 f20 f22) := hk
                have hP := Eq.mp (congrArg (fun z9 => va_P g.1 vwCl (wT g a f1 f20 z9 (k + 1) (srt f1 f20 k) (nv f1 f20 (tkF f1 f20 f22) (tkE f1 f20 (tkF f1 f20 f22)))) H) he94) hP
                have hD := Eq.mp (congrArg (fun z9 => va_D (va_A (wT g a f1 f20 f21 f22 f23 f24) s.heap.size) (wT g a f1 f20 z9 (k + 1) (srt f1 f20 k) (nv f1 f20 (tkF f1 f20 f22) (tkE f1 f20 (tkF f1 f20 f22))))) he94) hD
                have he95 : (k + 1) = (tkE f1 f20 (tkF f1 f20 f22)) := by rw [← hk]; first | exact hj | (rw [tkE_o (by omega) (by omega)]; first | (rw [if_pos (by omega)]; done) | (rw [if_neg (by omega)]; omega) | (exfalso; omega))
                have hP := Eq.mp (congrArg (fun z9 => va_P g.1 vwCl (wT g a f1 f20 (tkF f1 f20 f22) z9 (srt f1 f20 k) (nv f1 f20 (tkF f1 f20 f22) (tkE f1 f20 (tkF f1 f20 f22)))) H) he95) hP
                have hD := Eq.mp (congrArg (fun z9 => va_D (va_A (wT g a f1 f20 f21 f22 f23 f24) s.heap.size) (wT g a f1 f20 (tkF f1 f20 f22) z9 (srt f1 f20 k) (nv f1 f20 (tkF f1 f20 f22) (tkE f1 f20 (tkF f1 f20 f22))))) he95) hD
                have he96 : (srt f1 f20 k) = (srt f1 f20 (tkF f1 f20 f22)) := by rw [hk]
                have hP := Eq.mp (congrArg (fun z9 => va_P g.1 vwCl (wT g a f1 f20 (tkF f1 f20 f22) (tkE f1 f20 (tkF f1 f20 f22)) z9 (nv f1 f20 (tkF f1 f20 f22) (tkE f1 f20 (tkF f1 f20 f22)))) H) he96) hP
                have hD := Eq.mp (congrArg (fun z9 => va_D (va_A (wT g a f1 f20 f21 f22 f23 f24) s.heap.size) (wT g a f1 f20 (tkF f1 f20 f22) (tkE f1 f20 (tkF f1 f20 f22)) z9 (nv f1 f20 (tkF f1 f20 f22) (tkE f1 f20 (tkF f1 f20 f22))))) he96) hD
                have hP : va_P g.1 vwCl (wT g a f1 f20 (tkF f1 f20 f22) (tkE f1 f20 (tkF f1 f20 f22)) (srt f1 f20 (tkF f1 f20 f22)) (nv f1 f20 (tkF f1 f20 f22) (tkE f1 f20 (tkF f1 f20 f22)))) H := hP
                have hD : va_D (va_A (wT g a f1 f20 f21 f22 f23 f24) s.heap.size) (wT g a f1 f20 (tkF f1 f20 f22) (tkE f1 f20 (tkF f1 f20 f22)) (srt f1 f20 (tkF f1 f20 f22)) (nv f1 f20 (tkF f1 f20 f22) (tkE f1 f20 (tkF f1 f20 f22)))) := hD
                exact W.vret hx hb hr (fun t ht hW => ⟨⟨(), rfl, trivial, by rw [ht]; exact hP, hD⟩, hS.F ht⟩) hS.2.2 dX3_nextToken_150
            · have lp91 : ∀ (n91 : Nat) (j : Int) (n : Nat), (0 ≤ j ∧ j ≤ f20) → (rnW f1 f20 (if srt f1 f20 k = 1 then 1 else 0) (if srt f1 f20 k = 2 then 1 else 0) n j = tkE f1 f20 k) → (f20 - j < n) → (k < j) → (f20 - j).toNat < n91 → ∀ ls : Array Slot, lv_has ls 1 [(0, .ref (a 0))] → ∀ (H : Heap) (locs : List Loc), va_P g.1 vwCl (wT g a f1 f20 k j (srt f1 f20 k) f24) H → va_D (va_A (wT g a f1 f20 f21 f22 f23 f24) s.heap.size) (wT g a f1 f20 k j (srt f1 f20 k) f24) → va_S (va_A (wT g a f1 f20 f21 f22 f23 f24) s.heap.size) s.heap H locs → W pq l eq rm_X3_nextToken s mq [.ref (a 0)].toArray below meth cq H locs 0 0 (MQ below (QMv g (fun _ : Unit => wT g a f1 f20 (tkF f1 f20 f22) (tkE f1 f20 (tkF f1 f20 f22)) (srt f1 f20 (tkF f1 f20 f22)) (nv f1 f20 (tkF f1 f20 f22) (tkE f1 f20 (tkF f1 f20 f22)))) (fun _ => True) (va_A (wT g a f1 f20 f21 f22 f23 f24) s.heap.size)) [.ref (a 0)].toArray s 0 0 (va_A (wT g a f1 f20 f21 f22 f23 f24) s.heap.size)) (F0 mq 91 ls []) := by
                intro n91
                induction n91 with
                | zero => intro j n i91_1 i91_2 i91_3 i91_4 hm; exact absurd hm (Nat.not_lt_zero _)
                | succ n91 ih91 =>
                  intro j n i91_1 i91_2 i91_3 i91_4 hm91 ls hl H locs hP hD hS
                  have hsj := srt_c f1 f20 j
                  refine lv_aload_n hx hb dX3_nextToken_91 rfl (lv_at hl 0 rfl) ?_
                  refine xg_X3 hx hb hts hown hK hP 0 rfl 3 (by decide) fk_X3_19 (v := .int (iI j)) rfl dX3_nextToken_92 ?_
                  refine lv_aload_n hx hb dX3_nextToken_95 rfl (lv_at hl 0 rfl) ?_
                  refine xg_X3 hx hb hts hown hK hP 0 rfl 1 (by decide) fk_X3_15 (v := .int (iI f20)) rfl dX3_nextToken_96 ?_
                  refine xi_c_ge (tgt := 130) hx hb ⟨by omega, by omega⟩ ⟨by omega, by omega⟩ dX3_nextToken_99 (by decide) (fun z97 => ?_) (fun z97 => ?_)
                  · have hj : j = tkE f1 f20 k := by rw [← i91_2]; exact (rn_stop n (by omega)).symm
                    refine lv_aload_n hx hb dX3_nextToken_130 rfl (lv_at hl 0 rfl) ?_
                    refine lv_aload_n hx hb dX3_nextToken_131 rfl (lv_at hl 0 rfl) ?_
                    refine xg_X3 hx hb hts hown hK hP 0 rfl 4 (by decide) fk_X3_32 (v := .int (iI (srt f1 f20 k))) rfl dX3_nextToken_132 ?_
                    refine lv_iconst (v := iI (2)) hx hb dX3_nextToken_135 (by decide) ?_
                    refine xi_c_ne (tgt := 146) hx hb ⟨by omega, by omega⟩ ⟨by decide, by decide⟩ dX3_nextToken_136 (by decide) (fun z98 => ?_) (fun z98 => ?_)
                    · refine lv_iconst (v := iI (0)) hx hb dX3_nextToken_146 (by decide) ?_
                      refine xp_X3 hx hb hts hown hK hP hD hS 0 rfl 5 (by decide) fk_X3_78 rfl (v := .int (iI 0)) rfl rfl (Nat.le_of_ble_eq_true rfl) dX3_nextToken_147 (fun H locs hP hD hS => ?_)
                      have hP : va_P g.1 vwCl (wT g a f1 f20 k j (srt f1 f20 k) 0) H := hP
                      have hD : va_D (va_A (wT g a f1 f20 f21 f22 f23 f24) s.heap.size) (wT g a f1 f20 k j (srt f1 f20 k) 0) := hD
                      have he99 : 0 = (nv f1 f20 (tkF f1 f20 f22) (tkE f1 f20 (tkF f1 f20 f22))) := by rw [← hk]; unfold nv; first | (rw [if_pos (srt_D.mpr (by omega)), ← hj]; done) | (rw [if_neg (by rw [srt_D]; omega)]; done) | (exfalso; omega)
                      have hP := Eq.mp (congrArg (fun z9 => va_P g.1 vwCl (wT g a f1 f20 k j (srt f1 f20 k) z9) H) he99) hP
                      have hD := Eq.mp (congrArg (fun z9 => va_D (va_A (wT g a f1 f20 f21 f22 f23 f24) s.heap.size) (wT g a f1 f20 k j (srt f1 f20 k) z9)) he99) hD
                      have he100 : k = (tkF f1 f20 f22) := hk
                      have hP := Eq.mp (congrArg (fun z9 => va_P g.1 vwCl (wT g a f1 f20 z9 j (srt f1 f20 k) (nv f1 f20 (tkF f1 f20 f22) (tkE f1 f20 (tkF f1 f20 f22)))) H) he100) hP
                      have hD := Eq.mp (congrArg (fun z9 => va_D (va_A (wT g a f1 f20 f21 f22 f23 f24) s.heap.size) (wT g a f1 f20 z9 j (srt f1 f20 k) (nv f1 f20 (tkF f1 f20 f22) (tkE f1 f20 (tkF f1 f20 f22))))) he100) hD
                      have he101 : j = (tkE f1 f20 (tkF f1 f20 f22)) := by rw [← hk]; first | exact hj | (rw [tkE_o (by omega) (by omega)]; first | (rw [if_pos (by omega)]; done) | (rw [if_neg (by omega)]; omega) | (exfalso; omega))
                      have hP := Eq.mp (congrArg (fun z9 => va_P g.1 vwCl (wT g a f1 f20 (tkF f1 f20 f22) z9 (srt f1 f20 k) (nv f1 f20 (tkF f1 f20 f22) (tkE f1 f20 (tkF f1 f20 f22)))) H) he101) hP
                      have hD := Eq.mp (congrArg (fun z9 => va_D (va_A (wT g a f1 f20 f21 f22 f23 f24) s.heap.size) (wT g a f1 f20 (tkF f1 f20 f22) z9 (srt f1 f20 k) (nv f1 f20 (tkF f1 f20 f22) (tkE f1 f20 (tkF f1 f20 f22))))) he101) hD
                      have he102 : (srt f1 f20 k) = (srt f1 f20 (tkF f1 f20 f22)) := by rw [hk]
                      have hP := Eq.mp (congrArg (fun z9 => va_P g.1 vwCl (wT g a f1 f20 (tkF f1 f20 f22) (tkE f1 f20 (tkF f1 f20 f22)) z9 (nv f1 f20 (tkF f1 f20 f22) (tkE f1 f20 (tkF f1 f20 f22)))) H) he102) hP
                      have hD := Eq.mp (congrArg (fun z9 => va_D (va_A (wT g a f1 f20 f21 f22 f23 f24) s.heap.size) (wT g a f1 f20 (tkF f1 f20 f22) (tkE f1 f20 (tkF f1 f20 f22)) z9 (nv f1 f20 (tkF f1 f20 f22) (tkE f1 f20 (tkF f1 f20 f22))))) he102) hD
                      have hP : va_P g.1 vwCl (wT g a f1 f20 (tkF f1 f20 f22) (tkE f1 f20 (tkF f1 f20 f22)) (srt f1 f20 (tkF f1 f20 f22)) (nv f1 f20 (tkF f1 f20 f22) (tkE f1 f20 (tkF f1 f20 f22)))) H := hP
                      have hD : va_D (va_A (wT g a f1 f20 f21 f22 f23 f24) s.heap.size) (wT g a f1 f20 (tkF f1 f20 f22) (tkE f1 f20 (tkF f1 f20 f22)) (srt f1 f20 (tkF f1 f20 f22)) (nv f1 f20 (tkF f1 f20 f22) (tkE f1 f20 (tkF f1 f20 f22)))) := hD
                      exact W.vret hx hb hr (fun t ht hW => ⟨⟨(), rfl, trivial, by rw [ht]; exact hP, hD⟩, hS.F ht⟩) hS.2.2 dX3_nextToken_150
                    · refine lv_aload_n hx hb dX3_nextToken_139 rfl (lv_at hl 0 rfl) ?_
                      refine xu_i (x := iI (nvT f1 k (Int.toNat (j - k)))) (rV (rest := [.ref (a 0)]) hx hb hml hown hts hK hl (c_X3_numberAtHand l g a f1 f20 k j (srt f1 f20 k) f24 (show ∀ j, 0 ≤ f1 j ∧ f1 j ≤ 255 from h1) (show 0 ≤ f20 ∧ f20 ≤ 120 from by omega) (show 0 ≤ k ∧ k ≤ j ∧ j ≤ f20 from by omega) (show ∀ x9, k ≤ x9 → x9 < j → 48 ≤ f1 x9 ∧ f1 x9 ≤ 57 from (by first | (exfalso; omega) | exact (fun x x0 x1 => tk_dig (b := f1) (t := f20) (by omega) (by omega) (srt_D.mpr (by omega)) x0 (by rw [← hj]; exact x1))))) lk_X3_147 hP (va_recv hK.1 hP (ci := 3) (q0 := 0) rfl rfl) rfl rfl rfl (Rm.of rfl) rfl rfl dX3_nextToken_140) ?_
                      refine lv_goto (tgt := 147) hx hb dX3_nextToken_143 (by decide) ?_
                      refine xp_X3 hx hb hts hown hK hP hD hS 0 rfl 5 (by decide) fk_X3_78 rfl (v := .int (iI (nvT f1 k (Int.toNat (j - k))))) rfl rfl (Nat.le_of_ble_eq_true rfl) dX3_nextToken_147 (fun H locs hP hD hS => ?_)
                      have hP : va_P g.1 vwCl (wT g a f1 f20 k j (srt f1 f20 k) (nvT f1 k (Int.toNat (j - k)))) H := hP
                      have hD : va_D (va_A (wT g a f1 f20 f21 f22 f23 f24) s.heap.size) (wT g a f1 f20 k j (srt f1 f20 k) (nvT f1 k (Int.toNat (j - k)))) := hD
                      have he104 : (nvT f1 k (Int.toNat (j - k))) = (nv f1 f20 (tkF f1 f20 f22) (tkE f1 f20 (tkF f1 f20 f22))) := by rw [← hk]; unfold nv; first | (rw [if_pos (srt_D.mpr (by omega)), ← hj]; done) | (rw [if_neg (by rw [srt_D]; omega)]; done) | (exfalso; omega)
                      have hP := Eq.mp (congrArg (fun z9 => va_P g.1 vwCl (wT g a f1 f20 k j (srt f1 f20 k) z9) H) he104) hP
                      have hD := Eq.mp (congrArg (fun z9 => va_D (va_A (wT g a f1 f20 f21 f22 f23 f24) s.heap.size) (wT g a f1 f20 k j (srt f1 f20 k) z9)) he104) hD
                      have he105 : k = (tkF f1 f20 f22) := hk
                      have hP := Eq.mp (congrArg (fun z9 => va_P g.1 vwCl (wT g a f1 f20 z9 j (srt f1 f20 k) (nv f1 f20 (tkF f1 f20 f22) (tkE f1 f20 (tkF f1 f20 f22)))) H) he105) hP
                      have hD := Eq.mp (congrArg (fun z9 => va_D (va_A (wT g a f1 f20 f21 f22 f23 f24) s.heap.size) (wT g a f1 f20 z9 j (srt f1 f20 k) (nv f1 f20 (tkF f1 f20 f22) (tkE f1 f20 (tkF f1 f20 f22))))) he105) hD
                      have he106 : j = (tkE f1 f20 (tkF f1 f20 f22)) := by rw [← hk]; first | exact hj | (rw [tkE_o (by omega) (by omega)]; first | (rw [if_pos (by omega)]; done) | (rw [if_neg (by omega)]; omega) | (exfalso; omega))
                      have hP := Eq.mp (congrArg (fun z9 => va_P g.1 vwCl (wT g a f1 f20 (tkF f1 f20 f22) z9 (srt f1 f20 k) (nv f1 f20 (tkF f1 f20 f22) (tkE f1 f20 (tkF f1 f20 f22)))) H) he106) hP
                      have hD := Eq.mp (congrArg (fun z9 => va_D (va_A (wT g a f1 f20 f21 f22 f23 f24) s.heap.size) (wT g a f1 f20 (tkF f1 f20 f22) z9 (srt f1 f20 k) (nv f1 f20 (tkF f1 f20 f22) (tkE f1 f20 (tkF f1 f20 f22))))) he106) hD
                      have he107 : (srt f1 f20 k) = (srt f1 f20 (tkF f1 f20 f22)) := by rw [hk]
                      have hP := Eq.mp (congrArg (fun z9 => va_P g.1 vwCl (wT g a f1 f20 (tkF f1 f20 f22) (tkE f1 f20 (tkF f1 f20 f22)) z9 (nv f1 f20 (tkF f1 f20 f22) (tkE f1 f20 (tkF f1 f20 f22)))) H) he107) hP
                      have hD := Eq.mp (congrArg (fun z9 => va_D (va_A (wT g a f1 f20 f21 f22 f23 f24) s.heap.size) (wT g a f1 f20 (tkF f1 f20 f22) (tkE f1 f20 (tkF f1 f20 f22)) z9 (nv f1 f20 (tkF f1 f20 f22) (tkE f1 f20 (tkF f1 f20 f22))))) he107) hD
                      have hP : va_P g.1 vwCl (wT g a f1 f20 (tkF f1 f20 f22) (tkE f1 f20 (tkF f1 f20 f22)) (srt f1 f20 (tkF f1 f20 f22)) (nv f1 f20 (tkF f1 f20 f22) (tkE f1 f20 (tkF f1 f20 f22)))) H := hP
                      have hD : va_D (va_A (wT g a f1 f20 f21 f22 f23 f24) s.heap.size) (wT g a f1 f20 (tkF f1 f20 f22) (tkE f1 f20 (tkF f1 f20 f22)) (srt f1 f20 (tkF f1 f20 f22)) (nv f1 f20 (tkF f1 f20 f22) (tkE f1 f20 (tkF f1 f20 f22)))) := hD
                      exact W.vret hx hb hr (fun t ht hW => ⟨⟨(), rfl, trivial, by rw [ht]; exact hP, hD⟩, hS.F ht⟩) hS.2.2 dX3_nextToken_150
                  · refine lv_aload_n hx hb dX3_nextToken_102 rfl (lv_at hl 0 rfl) ?_
                    refine lv_aload_n hx hb dX3_nextToken_103 rfl (lv_at hl 0 rfl) ?_
                    refine xg_X3 hx hb hts hown hK hP 0 rfl 3 (by decide) fk_X3_19 (v := .int (iI j)) rfl dX3_nextToken_104 ?_
                    refine xu_i (x := iI (srt f1 f20 j)) (rV (rest := []) hx hb hml hown hts hK hl (c_X3_sortAt l g a f1 f20 k j (srt f1 f20 k) f24 j (show ∀ j, 0 ≤ f1 j ∧ f1 j ≤ 255 from h1) (show 0 ≤ f20 ∧ f20 ≤ 120 from by omega) (show 0 ≤ j ∧ j ≤ 121 from by omega)) lk_X3_138 hP (va_recv hK.1 hP (ci := 3) (q0 := 0) rfl rfl) rfl rfl rfl (Rm.of rfl) rfl rfl dX3_nextToken_107) ?_
                    refine lv_aload_n hx hb dX3_nextToken_110 rfl (lv_at hl 0 rfl) ?_
                    refine xg_X3 hx hb hts hown hK hP 0 rfl 4 (by decide) fk_X3_32 (v := .int (iI (srt f1 f20 k))) rfl dX3_nextToken_111 ?_
                    refine xi_c_ne (tgt := 130) hx hb ⟨by omega, by omega⟩ ⟨by omega, by omega⟩ dX3_nextToken_114 (by decide) (fun z109 => ?_) (fun z109 => ?_)
                    · have hj : j = tkE f1 f20 k := by rw [← i91_2]; exact (rn_stop n (by assumption)).symm
                      refine lv_aload_n hx hb dX3_nextToken_130 rfl (lv_at hl 0 rfl) ?_
                      refine lv_aload_n hx hb dX3_nextToken_131 rfl (lv_at hl 0 rfl) ?_
                      refine xg_X3 hx hb hts hown hK hP 0 rfl 4 (by decide) fk_X3_32 (v := .int (iI (srt f1 f20 k))) rfl dX3_nextToken_132 ?_
                      refine lv_iconst (v := iI (2)) hx hb dX3_nextToken_135 (by decide) ?_
                      refine xi_c_ne (tgt := 146) hx hb ⟨by omega, by omega⟩ ⟨by decide, by decide⟩ dX3_nextToken_136 (by decide) (fun z110 => ?_) (fun z110 => ?_)
                      · refine lv_iconst (v := iI (0)) hx hb dX3_nextToken_146 (by decide) ?_
                        refine xp_X3 hx hb hts hown hK hP hD hS 0 rfl 5 (by decide) fk_X3_78 rfl (v := .int (iI 0)) rfl rfl (Nat.le_of_ble_eq_true rfl) dX3_nextToken_147 (fun H locs hP hD hS => ?_)
                        have hP : va_P g.1 vwCl (wT g a f1 f20 k j (srt f1 f20 k) 0) H := hP
                        have hD : va_D (va_A (wT g a f1 f20 f21 f22 f23 f24) s.heap.size) (wT g a f1 f20 k j (srt f1 f20 k) 0) := hD
                        have he111 : 0 = (nv f1 f20 (tkF f1 f20 f22) (tkE f1 f20 (tkF f1 f20 f22))) := by rw [← hk]; unfold nv; first | (rw [if_pos (srt_D.mpr (by omega)), ← hj]; done) | (rw [if_neg (by rw [srt_D]; omega)]; done) | (exfalso; omega)
                        have hP := Eq.mp (congrArg (fun z9 => va_P g.1 vwCl (wT g a f1 f20 k j (srt f1 f20 k) z9) H) he111) hP
                        have hD := Eq.mp (congrArg (fun z9 => va_D (va_A (wT g a f1 f20 f21 f22 f23 f24) s.heap.size) (wT g a f1 f20 k j (srt f1 f20 k) z9)) he111) hD
                        have he112 : k = (tkF f1 f20 f22) := hk
                        have hP := Eq.mp (congrArg (fun z9 => va_P g.1 vwCl (wT g a f1 f20 z9 j (srt f1 f20 k) (nv f1 f20 (tkF f1 f20 f22) (tkE f1 f20 (tkF f1 f20 f22)))) H) he112) hP
                        have hD := Eq.mp (congrArg (fun z9 => va_D (va_A (wT g a f1 f20 f21 f22 f23 f24) s.heap.size) (wT g a f1 f20 z9 j (srt f1 f20 k) (nv f1 f20 (tkF f1 f20 f22) (tkE f1 f20 (tkF f1 f20 f22))))) he112) hD
                        have he113 : j = (tkE f1 f20 (tkF f1 f20 f22)) := by rw [← hk]; first | exact hj | (rw [tkE_o (by omega) (by omega)]; first | (rw [if_pos (by omega)]; done) | (rw [if_neg (by omega)]; omega) | (exfalso; omega))
                        have hP := Eq.mp (congrArg (fun z9 => va_P g.1 vwCl (wT g a f1 f20 (tkF f1 f20 f22) z9 (srt f1 f20 k) (nv f1 f20 (tkF f1 f20 f22) (tkE f1 f20 (tkF f1 f20 f22)))) H) he113) hP
                        have hD := Eq.mp (congrArg (fun z9 => va_D (va_A (wT g a f1 f20 f21 f22 f23 f24) s.heap.size) (wT g a f1 f20 (tkF f1 f20 f22) z9 (srt f1 f20 k) (nv f1 f20 (tkF f1 f20 f22) (tkE f1 f20 (tkF f1 f20 f22))))) he113) hD
                        have he114 : (srt f1 f20 k) = (srt f1 f20 (tkF f1 f20 f22)) := by rw [hk]
                        have hP := Eq.mp (congrArg (fun z9 => va_P g.1 vwCl (wT g a f1 f20 (tkF f1 f20 f22) (tkE f1 f20 (tkF f1 f20 f22)) z9 (nv f1 f20 (tkF f1 f20 f22) (tkE f1 f20 (tkF f1 f20 f22)))) H) he114) hP
                        have hD := Eq.mp (congrArg (fun z9 => va_D (va_A (wT g a f1 f20 f21 f22 f23 f24) s.heap.size) (wT g a f1 f20 (tkF f1 f20 f22) (tkE f1 f20 (tkF f1 f20 f22)) z9 (nv f1 f20 (tkF f1 f20 f22) (tkE f1 f20 (tkF f1 f20 f22))))) he114) hD
                        have hP : va_P g.1 vwCl (wT g a f1 f20 (tkF f1 f20 f22) (tkE f1 f20 (tkF f1 f20 f22)) (srt f1 f20 (tkF f1 f20 f22)) (nv f1 f20 (tkF f1 f20 f22) (tkE f1 f20 (tkF f1 f20 f22)))) H := hP
                        have hD : va_D (va_A (wT g a f1 f20 f21 f22 f23 f24) s.heap.size) (wT g a f1 f20 (tkF f1 f20 f22) (tkE f1 f20 (tkF f1 f20 f22)) (srt f1 f20 (tkF f1 f20 f22)) (nv f1 f20 (tkF f1 f20 f22) (tkE f1 f20 (tkF f1 f20 f22)))) := hD
                        exact W.vret hx hb hr (fun t ht hW => ⟨⟨(), rfl, trivial, by rw [ht]; exact hP, hD⟩, hS.F ht⟩) hS.2.2 dX3_nextToken_150
                      · refine lv_aload_n hx hb dX3_nextToken_139 rfl (lv_at hl 0 rfl) ?_
                        refine xu_i (x := iI (nvT f1 k (Int.toNat (j - k)))) (rV (rest := [.ref (a 0)]) hx hb hml hown hts hK hl (c_X3_numberAtHand l g a f1 f20 k j (srt f1 f20 k) f24 (show ∀ j, 0 ≤ f1 j ∧ f1 j ≤ 255 from h1) (show 0 ≤ f20 ∧ f20 ≤ 120 from by omega) (show 0 ≤ k ∧ k ≤ j ∧ j ≤ f20 from by omega) (show ∀ x9, k ≤ x9 → x9 < j → 48 ≤ f1 x9 ∧ f1 x9 ≤ 57 from (by first | (exfalso; omega) | exact (fun x x0 x1 => tk_dig (b := f1) (t := f20) (by omega) (by omega) (srt_D.mpr (by omega)) x0 (by rw [← hj]; exact x1))))) lk_X3_147 hP (va_recv hK.1 hP (ci := 3) (q0 := 0) rfl rfl) rfl rfl rfl (Rm.of rfl) rfl rfl dX3_nextToken_140) ?_
                        refine lv_goto (tgt := 147) hx hb dX3_nextToken_143 (by decide) ?_
                        refine xp_X3 hx hb hts hown hK hP hD hS 0 rfl 5 (by decide) fk_X3_78 rfl (v := .int (iI (nvT f1 k (Int.toNat (j - k))))) rfl rfl (Nat.le_of_ble_eq_true rfl) dX3_nextToken_147 (fun H locs hP hD hS => ?_)
                        have hP : va_P g.1 vwCl (wT g a f1 f20 k j (srt f1 f20 k) (nvT f1 k (Int.toNat (j - k)))) H := hP
                        have hD : va_D (va_A (wT g a f1 f20 f21 f22 f23 f24) s.heap.size) (wT g a f1 f20 k j (srt f1 f20 k) (nvT f1 k (Int.toNat (j - k)))) := hD
                        have he116 : (nvT f1 k (Int.toNat (j - k))) = (nv f1 f20 (tkF f1 f20 f22) (tkE f1 f20 (tkF f1 f20 f22))) := by rw [← hk]; unfold nv; first | (rw [if_pos (srt_D.mpr (by omega)), ← hj]; done) | (rw [if_neg (by rw [srt_D]; omega)]; done) | (exfalso; omega)
                        have hP := Eq.mp (congrArg (fun z9 => va_P g.1 vwCl (wT g a f1 f20 k j (srt f1 f20 k) z9) H) he116) hP
                        have hD := Eq.mp (congrArg (fun z9 => va_D (va_A (wT g a f1 f20 f21 f22 f23 f24) s.heap.size) (wT g a f1 f20 k j (srt f1 f20 k) z9)) he116) hD
                        have he117 : k = (tkF f1 f20 f22) := hk
                        have hP := Eq.mp (congrArg (fun z9 => va_P g.1 vwCl (wT g a f1 f20 z9 j (srt f1 f20 k) (nv f1 f20 (tkF f1 f20 f22) (tkE f1 f20 (tkF f1 f20 f22)))) H) he117) hP
                        have hD := Eq.mp (congrArg (fun z9 => va_D (va_A (wT g a f1 f20 f21 f22 f23 f24) s.heap.size) (wT g a f1 f20 z9 j (srt f1 f20 k) (nv f1 f20 (tkF f1 f20 f22) (tkE f1 f20 (tkF f1 f20 f22))))) he117) hD
                        have he118 : j = (tkE f1 f20 (tkF f1 f20 f22)) := by rw [← hk]; first | exact hj | (rw [tkE_o (by omega) (by omega)]; first | (rw [if_pos (by omega)]; done) | (rw [if_neg (by omega)]; omega) | (exfalso; omega))
                        have hP := Eq.mp (congrArg (fun z9 => va_P g.1 vwCl (wT g a f1 f20 (tkF f1 f20 f22) z9 (srt f1 f20 k) (nv f1 f20 (tkF f1 f20 f22) (tkE f1 f20 (tkF f1 f20 f22)))) H) he118) hP
                        have hD := Eq.mp (congrArg (fun z9 => va_D (va_A (wT g a f1 f20 f21 f22 f23 f24) s.heap.size) (wT g a f1 f20 (tkF f1 f20 f22) z9 (srt f1 f20 k) (nv f1 f20 (tkF f1 f20 f22) (tkE f1 f20 (tkF f1 f20 f22))))) he118) hD
                        have he119 : (srt f1 f20 k) = (srt f1 f20 (tkF f1 f20 f22)) := by rw [hk]
                        have hP := Eq.mp (congrArg (fun z9 => va_P g.1 vwCl (wT g a f1 f20 (tkF f1 f20 f22) (tkE f1 f20 (tkF f1 f20 f22)) z9 (nv f1 f20 (tkF f1 f20 f22) (tkE f1 f20 (tkF f1 f20 f22)))) H) he119) hP
                        have hD := Eq.mp (congrArg (fun z9 => va_D (va_A (wT g a f1 f20 f21 f22 f23 f24) s.heap.size) (wT g a f1 f20 (tkF f1 f20 f22) (tkE f1 f20 (tkF f1 f20 f22)) z9 (nv f1 f20 (tkF f1 f20 f22) (tkE f1 f20 (tkF f1 f20 f22))))) he119) hD
                        have hP : va_P g.1 vwCl (wT g a f1 f20 (tkF f1 f20 f22) (tkE f1 f20 (tkF f1 f20 f22)) (srt f1 f20 (tkF f1 f20 f22)) (nv f1 f20 (tkF f1 f20 f22) (tkE f1 f20 (tkF f1 f20 f22)))) H := hP
                        have hD : va_D (va_A (wT g a f1 f20 f21 f22 f23 f24) s.heap.size) (wT g a f1 f20 (tkF f1 f20 f22) (tkE f1 f20 (tkF f1 f20 f22)) (srt f1 f20 (tkF f1 f20 f22)) (nv f1 f20 (tkF f1 f20 f22) (tkE f1 f20 (tkF f1 f20 f22)))) := hD
                        exact W.vret hx hb hr (fun t ht hW => ⟨⟨(), rfl, trivial, by rw [ht]; exact hP, hD⟩, hS.F ht⟩) hS.2.2 dX3_nextToken_150
                    · refine lv_aload_n hx hb dX3_nextToken_117 rfl (lv_at hl 0 rfl) ?_
                      refine lv_dup hx hb dX3_nextToken_118 rfl ?_
                      refine xg_X3 hx hb hts hown hK hP 0 rfl 3 (by decide) fk_X3_19 (v := .int (iI j)) rfl dX3_nextToken_119 ?_
                      refine lv_iconst (v := iI (1)) hx hb dX3_nextToken_122 (by decide) ?_
                      refine xi_add hx hb dX3_nextToken_123 ?_
                      refine xp_X3 hx hb hts hown hK hP hD hS 0 rfl 3 (by decide) fk_X3_19 rfl (v := .int (iI (j + 1))) rfl rfl (Nat.le_of_ble_eq_true rfl) dX3_nextToken_124 (fun H locs hP hD hS => ?_)
                      have hP : va_P g.1 vwCl (wT g a f1 f20 k (j + 1) (srt f1 f20 k) f24) H := hP
                      have hD : va_D (va_A (wT g a f1 f20 f21 f22 f23 f24) s.heap.size) (wT g a f1 f20 k (j + 1) (srt f1 f20 k) f24) := hD
                      refine lv_goto (tgt := 91) hx hb dX3_nextToken_127 (by decide) ?_
                      exact ih91 (j + 1) (n - 1) ⟨by omega, by omega⟩ (by rw [rn_sort (by omega) (by assumption) (by omega)]; exact i91_2) (by omega) (by omega) (by omega) ls (lv_sub hl [0] rfl) H locs hP hD hS
              exact lp91 (120 + 1) (k + 1) 121 (by omega) (by first | exact rn_tk (by omega) | (exfalso; omega)) (by omega) (by omega) (by omega) ls (lv_sub hl [0] rfl) H locs hP hD hS
      · refine lv_aload_n hx hb dX3_nextToken_19 rfl (lv_at hl 0 rfl) ?_
        refine xg_X3 hx hb hts hown hK hP 0 rfl 0 (by decide) fk_X3_9 (v := .ref (a 1)) rfl dX3_nextToken_20 ?_
        refine lv_aload_n hx hb dX3_nextToken_23 rfl (lv_at hl 0 rfl) ?_
        refine xg_X3 hx hb hts hown hK hP 0 rfl 2 (by decide) fk_X3_29 (v := .int (iI k)) rfl dX3_nextToken_24 ?_
        refine xi_ald hx hb hK hP 1 (f := f1) rfl (i := k) ⟨by omega, by omega⟩ rfl dX3_nextToken_27 ?_
        refine lv_bipush (v := iI (32)) hx hb dX3_nextToken_28 (by decide) ?_
        refine xi_c_ne (tgt := 46) hx hb ⟨by omega, by omega⟩ ⟨by decide, by decide⟩ dX3_nextToken_30 (by decide) (fun z120 => ?_) (fun z120 => ?_)
        · have hk : k = (tkF f1 f20 f22) := by rw [← i8_2]; exact (skT_stop (by rw [bAt_lt (by omega)]; assumption) m).symm
          have hsc := srt_c f1 f20 k
          refine lv_aload_n hx hb dX3_nextToken_46 rfl (lv_at hl 0 rfl) ?_
          refine lv_aload_n hx hb dX3_nextToken_47 rfl (lv_at hl 0 rfl) ?_
          refine lv_aload_n hx hb dX3_nextToken_48 rfl (lv_at hl 0 rfl) ?_
          refine xg_X3 hx hb hts hown hK hP 0 rfl 2 (by decide) fk_X3_29 (v := .int (iI k)) rfl dX3_nextToken_49 ?_
          refine xu_i (x := iI (srt f1 f20 k)) (rV (rest := [.ref (a 0)]) hx hb hml hown hts hK hl (c_X3_sortAt l g a f1 f20 k f22 f23 f24 k (show ∀ j, 0 ≤ f1 j ∧ f1 j ≤ 255 from h1) (show 0 ≤ f20 ∧ f20 ≤ 120 from by omega) (show 0 ≤ k ∧ k ≤ 121 from by omega)) lk_X3_138 hP (va_recv hK.1 hP (ci := 3) (q0 := 0) rfl rfl) rfl rfl rfl (Rm.of rfl) rfl rfl dX3_nextToken_52) ?_
          refine xp_X3 hx hb hts hown hK hP hD hS 0 rfl 4 (by decide) fk_X3_32 rfl (v := .int (iI (srt f1 f20 k))) rfl rfl (Nat.le_of_ble_eq_true rfl) dX3_nextToken_55 (fun H locs hP hD hS => ?_)
          have hP : va_P g.1 vwCl (wT g a f1 f20 k f22 (srt f1 f20 k) f24) H := hP
          have hD : va_D (va_A (wT g a f1 f20 f21 f22 f23 f24) s.heap.size) (wT g a f1 f20 k f22 (srt f1 f20 k) f24) := hD
          refine lv_aload_n hx hb dX3_nextToken_58 rfl (lv_at hl 0 rfl) ?_
          refine lv_aload_n hx hb dX3_nextToken_59 rfl (lv_at hl 0 rfl) ?_
          refine xg_X3 hx hb hts hown hK hP 0 rfl 2 (by decide) fk_X3_29 (v := .int (iI k)) rfl dX3_nextToken_60 ?_
          refine lv_iconst (v := iI (1)) hx hb dX3_nextToken_63 (by decide) ?_
          refine xi_add hx hb dX3_nextToken_64 ?_
          refine lv_aload_n hx hb dX3_nextToken_65 rfl (lv_at hl 0 rfl) ?_
          refine xg_X3 hx hb hts hown hK hP 0 rfl 1 (by decide) fk_X3_15 (v := .int (iI f20)) rfl dX3_nextToken_66 ?_
          refine xj_min hx hb hml hown hts hl mk_X3_141 ⟨by omega, by omega⟩ ⟨by omega, by omega⟩ (Nat.le_of_ble_eq_true rfl) rfl (Nat.le_of_ble_eq_true rfl) (Nat.le_of_ble_eq_true rfl) dX3_nextToken_69 ?_
          rcases (show ((f20 < k + 1) ∧ (if f20 < k + 1 then f20 else k + 1) = f20) ∨ (¬ (f20 < k + 1) ∧ (if f20 < k + 1 then f20 else k + 1) = k + 1) from (if h : f20 < k + 1 then Or.inl ⟨h, if_pos h⟩ else Or.inr ⟨h, if_neg h⟩)) with ⟨z122, e122⟩ | ⟨z122, e122⟩
          · rw [e122]
            refine xp_X3 hx hb hts hown hK hP hD hS 0 rfl 3 (by decide) fk_X3_19 rfl (v := .int (iI f20)) rfl rfl (Nat.le_of_ble_eq_true rfl) dX3_nextToken_72 (fun H locs hP hD hS => ?_)
            have hP : va_P g.1 vwCl (wT g a f1 f20 k f20 (srt f1 f20 k) f24) H := hP
            have hD : va_D (va_A (wT g a f1 f20 f21 f22 f23 f24) s.heap.size) (wT g a f1 f20 k f20 (srt f1 f20 k) f24) := hD
            refine lv_aload_n hx hb dX3_nextToken_75 rfl (lv_at hl 0 rfl) ?_
            refine xg_X3 hx hb hts hown hK hP 0 rfl 4 (by decide) fk_X3_32 (v := .int (iI (srt f1 f20 k))) rfl dX3_nextToken_76 ?_
            refine lv_iconst (v := iI (1)) hx hb dX3_nextToken_79 (by decide) ?_
            refine xi_c_eq (tgt := 91) hx hb ⟨by omega, by omega⟩ ⟨by decide, by decide⟩ dX3_nextToken_80 (by decide) (fun z123 => ?_) (fun z123 => ?_)
            · have lp91 : ∀ (n91 : Nat) (j : Int) (n : Nat), (0 ≤ j ∧ j ≤ f20) → (rnW f1 f20 (if srt f1 f20 k = 1 then 1 else 0) (if srt f1 f20 k = 2 then 1 else 0) n j = tkE f1 f20 k) → (f20 - j < n) → (k < j) → (f20 - j).toNat < n91 → ∀ ls : Array Slot, lv_has ls 1 [(0, .ref (a 0))] → ∀ (H : Heap) (locs : List Loc), va_P g.1 vwCl (wT g a f1 f20 k j (srt f1 f20 k) f24) H → va_D (va_A (wT g a f1 f20 f21 f22 f23 f24) s.heap.size) (wT g a f1 f20 k j (srt f1 f20 k) f24) → va_S (va_A (wT g a f1 f20 f21 f22 f23 f24) s.heap.size) s.heap H locs → W pq l eq rm_X3_nextToken s mq [.ref (a 0)].toArray below meth cq H locs 0 0 (MQ below (QMv g (fun _ : Unit => wT g a f1 f20 (tkF f1 f20 f22) (tkE f1 f20 (tkF f1 f20 f22)) (srt f1 f20 (tkF f1 f20 f22)) (nv f1 f20 (tkF f1 f20 f22) (tkE f1 f20 (tkF f1 f20 f22)))) (fun _ => True) (va_A (wT g a f1 f20 f21 f22 f23 f24) s.heap.size)) [.ref (a 0)].toArray s 0 0 (va_A (wT g a f1 f20 f21 f22 f23 f24) s.heap.size)) (F0 mq 91 ls []) := by
                intro n91
                induction n91 with
                | zero => intro j n i91_1 i91_2 i91_3 i91_4 hm; exact absurd hm (Nat.not_lt_zero _)
                | succ n91 ih91 =>
                  intro j n i91_1 i91_2 i91_3 i91_4 hm91 ls hl H locs hP hD hS
                  have hsj := srt_c f1 f20 j
                  refine lv_aload_n hx hb dX3_nextToken_91 rfl (lv_at hl 0 rfl) ?_
                  refine xg_X3 hx hb hts hown hK hP 0 rfl 3 (by decide) fk_X3_19 (v := .int (iI j)) rfl dX3_nextToken_92 ?_
                  refine lv_aload_n hx hb dX3_nextToken_95 rfl (lv_at hl 0 rfl) ?_
                  refine xg_X3 hx hb hts hown hK hP 0 rfl 1 (by decide) fk_X3_15 (v := .int (iI f20)) rfl dX3_nextToken_96 ?_
                  refine xi_c_ge (tgt := 130) hx hb ⟨by omega, by omega⟩ ⟨by omega, by omega⟩ dX3_nextToken_99 (by decide) (fun z124 => ?_) (fun z124 => ?_)
                  · have hj : j = tkE f1 f20 k := by rw [← i91_2]; exact (rn_stop n (by omega)).symm
                    refine lv_aload_n hx hb dX3_nextToken_130 rfl (lv_at hl 0 rfl) ?_
                    refine lv_aload_n hx hb dX3_nextToken_131 rfl (lv_at hl 0 rfl) ?_
                    refine xg_X3 hx hb hts hown hK hP 0 rfl 4 (by decide) fk_X3_32 (v := .int (iI (srt f1 f20 k))) rfl dX3_nextToken_132 ?_
                    refine lv_iconst (v := iI (2)) hx hb dX3_nextToken_135 (by decide) ?_
                    refine xi_c_ne (tgt := 146) hx hb ⟨by omega, by omega⟩ ⟨by decide, by decide⟩ dX3_nextToken_136 (by decide) (fun z125 => ?_) (fun z125 => ?_)
                    · refine lv_iconst (v := iI (0)) hx hb dX3_nextToken_146 (by decide) ?_
                      refine xp_X3 hx hb hts hown hK hP hD hS 0 rfl 5 (by decide) fk_X3_78 rfl (v := .int (iI 0)) rfl rfl (Nat.le_of_ble_eq_true rfl) dX3_nextToken_147 (fun H locs hP hD hS => ?_)
                      have hP : va_P g.1 vwCl (wT g a f1 f20 k j (srt f1 f20 k) 0) H := hP
                      have hD : va_D (va_A (wT g a f1 f20 f21 f22 f23 f24) s.heap.size) (wT g a f1 f20 k j (srt f1 f20 k) 0) := hD
                      have he126 : 0 = (nv f1 f20 (tkF f1 f20 f22) (tkE f1 f20 (tkF f1 f20 f22))) := by rw [← hk]; unfold nv; first | (rw [if_pos (srt_D.mpr (by omega)), ← hj]; done) | (rw [if_neg (by rw [srt_D]; omega)]; done) | (exfalso; omega)
                      have hP := Eq.mp (congrArg (fun z9 => va_P g.1 vwCl (wT g a f1 f20 k j (srt f1 f20 k) z9) H) he126) hP
                      have hD := Eq.mp (congrArg (fun z9 => va_D (va_A (wT g a f1 f20 f21 f22 f23 f24) s.heap.size) (wT g a f1 f20 k j (srt f1 f20 k) z9)) he126) hD
                      have he127 : k = (tkF f1 f20 f22) := hk
                      have hP := Eq.mp (congrArg (fun z9 => va_P g.1 vwCl (wT g a f1 f20 z9 j (srt f1 f20 k) (nv f1 f20 (tkF f1 f20 f22) (tkE f1 f20 (tkF f1 f20 f22)))) H) he127) hP
                      have hD := Eq.mp (congrArg (fun z9 => va_D (va_A (wT g a f1 f20 f21 f22 f23 f24) s.heap.size) (wT g a f1 f20 z9 j (srt f1 f20 k) (nv f1 f20 (tkF f1 f20 f22) (tkE f1 f20 (tkF f1 f20 f22))))) he127) hD
                      have he128 : j = (tkE f1 f20 (tkF f1 f20 f22)) := by rw [← hk]; first | exact hj | (rw [tkE_o (by omega) (by omega)]; first | (rw [if_pos (by omega)]; done) | (rw [if_neg (by omega)]; omega) | (exfalso; omega))
                      have hP := Eq.mp (congrArg (fun z9 => va_P g.1 vwCl (wT g a f1 f20 (tkF f1 f20 f22) z9 (srt f1 f20 k) (nv f1 f20 (tkF f1 f20 f22) (tkE f1 f20 (tkF f1 f20 f22)))) H) he128) hP
                      have hD := Eq.mp (congrArg (fun z9 => va_D (va_A (wT g a f1 f20 f21 f22 f23 f24) s.heap.size) (wT g a f1 f20 (tkF f1 f20 f22) z9 (srt f1 f20 k) (nv f1 f20 (tkF f1 f20 f22) (tkE f1 f20 (tkF f1 f20 f22))))) he128) hD
                      have he129 : (srt f1 f20 k) = (srt f1 f20 (tkF f1 f20 f22)) := by rw [hk]
                      have hP := Eq.mp (congrArg (fun z9 => va_P g.1 vwCl (wT g a f1 f20 (tkF f1 f20 f22) (tkE f1 f20 (tkF f1 f20 f22)) z9 (nv f1 f20 (tkF f1 f20 f22) (tkE f1 f20 (tkF f1 f20 f22)))) H) he129) hP
                      have hD := Eq.mp (congrArg (fun z9 => va_D (va_A (wT g a f1 f20 f21 f22 f23 f24) s.heap.size) (wT g a f1 f20 (tkF f1 f20 f22) (tkE f1 f20 (tkF f1 f20 f22)) z9 (nv f1 f20 (tkF f1 f20 f22) (tkE f1 f20 (tkF f1 f20 f22))))) he129) hD
                      have hP : va_P g.1 vwCl (wT g a f1 f20 (tkF f1 f20 f22) (tkE f1 f20 (tkF f1 f20 f22)) (srt f1 f20 (tkF f1 f20 f22)) (nv f1 f20 (tkF f1 f20 f22) (tkE f1 f20 (tkF f1 f20 f22)))) H := hP
                      have hD : va_D (va_A (wT g a f1 f20 f21 f22 f23 f24) s.heap.size) (wT g a f1 f20 (tkF f1 f20 f22) (tkE f1 f20 (tkF f1 f20 f22)) (srt f1 f20 (tkF f1 f20 f22)) (nv f1 f20 (tkF f1 f20 f22) (tkE f1 f20 (tkF f1 f20 f22)))) := hD
                      exact W.vret hx hb hr (fun t ht hW => ⟨⟨(), rfl, trivial, by rw [ht]; exact hP, hD⟩, hS.F ht⟩) hS.2.2 dX3_nextToken_150
                    · refine lv_aload_n hx hb dX3_nextToken_139 rfl (lv_at hl 0 rfl) ?_
                      refine xu_i (x := iI (nvT f1 k (Int.toNat (j - k)))) (rV (rest := [.ref (a 0)]) hx hb hml hown hts hK hl (c_X3_numberAtHand l g a f1 f20 k j (srt f1 f20 k) f24 (show ∀ j, 0 ≤ f1 j ∧ f1 j ≤ 255 from h1) (show 0 ≤ f20 ∧ f20 ≤ 120 from by omega) (show 0 ≤ k ∧ k ≤ j ∧ j ≤ f20 from by omega) (show ∀ x9, k ≤ x9 → x9 < j → 48 ≤ f1 x9 ∧ f1 x9 ≤ 57 from (by first | (exfalso; omega) | exact (fun x x0 x1 => tk_dig (b := f1) (t := f20) (by omega) (by omega) (srt_D.mpr (by omega)) x0 (by rw [← hj]; exact x1))))) lk_X3_147 hP (va_recv hK.1 hP (ci := 3) (q0 := 0) rfl rfl) rfl rfl rfl (Rm.of rfl) rfl rfl dX3_nextToken_140) ?_
                      refine lv_goto (tgt := 147) hx hb dX3_nextToken_143 (by decide) ?_
                      refine xp_X3 hx hb hts hown hK hP hD hS 0 rfl 5 (by decide) fk_X3_78 rfl (v := .int (iI (nvT f1 k (Int.toNat (j - k))))) rfl rfl (Nat.le_of_ble_eq_true rfl) dX3_nextToken_147 (fun H locs hP hD hS => ?_)
                      have hP : va_P g.1 vwCl (wT g a f1 f20 k j (srt f1 f20 k) (nvT f1 k (Int.toNat (j - k)))) H := hP
                      have hD : va_D (va_A (wT g a f1 f20 f21 f22 f23 f24) s.heap.size) (wT g a f1 f20 k j (srt f1 f20 k) (nvT f1 k (Int.toNat (j - k)))) := hD
                      have he131 : (nvT f1 k (Int.toNat (j - k))) = (nv f1 f20 (tkF f1 f20 f22) (tkE f1 f20 (tkF f1 f20 f22))) := by rw [← hk]; unfold nv; first | (rw [if_pos (srt_D.mpr (by omega)), ← hj]; done) | (rw [if_neg (by rw [srt_D]; omega)]; done) | (exfalso; omega)
                      have hP := Eq.mp (congrArg (fun z9 => va_P g.1 vwCl (wT g a f1 f20 k j (srt f1 f20 k) z9) H) he131) hP
                      have hD := Eq.mp (congrArg (fun z9 => va_D (va_A (wT g a f1 f20 f21 f22 f23 f24) s.heap.size) (wT g a f1 f20 k j (srt f1 f20 k) z9)) he131) hD
                      have he132 : k = (tkF f1 f20 f22) := hk
                      have hP := Eq.mp (congrArg (fun z9 => va_P g.1 vwCl (wT g a f1 f20 z9 j (srt f1 f20 k) (nv f1 f20 (tkF f1 f20 f22) (tkE f1 f20 (tkF f1 f20 f22)))) H) he132) hP
                      have hD := Eq.mp (congrArg (fun z9 => va_D (va_A (wT g a f1 f20 f21 f22 f23 f24) s.heap.size) (wT g a f1 f20 z9 j (srt f1 f20 k) (nv f1 f20 (tkF f1 f20 f22) (tkE f1 f20 (tkF f1 f20 f22))))) he132) hD
                      have he133 : j = (tkE f1 f20 (tkF f1 f20 f22)) := by rw [← hk]; first | exact hj | (rw [tkE_o (by omega) (by omega)]; first | (rw [if_pos (by omega)]; done) | (rw [if_neg (by omega)]; omega) | (exfalso; omega))
                      have hP := Eq.mp (congrArg (fun z9 => va_P g.1 vwCl (wT g a f1 f20 (tkF f1 f20 f22) z9 (srt f1 f20 k) (nv f1 f20 (tkF f1 f20 f22) (tkE f1 f20 (tkF f1 f20 f22)))) H) he133) hP
                      have hD := Eq.mp (congrArg (fun z9 => va_D (va_A (wT g a f1 f20 f21 f22 f23 f24) s.heap.size) (wT g a f1 f20 (tkF f1 f20 f22) z9 (srt f1 f20 k) (nv f1 f20 (tkF f1 f20 f22) (tkE f1 f20 (tkF f1 f20 f22))))) he133) hD
                      have he134 : (srt f1 f20 k) = (srt f1 f20 (tkF f1 f20 f22)) := by rw [hk]
                      have hP := Eq.mp (congrArg (fun z9 => va_P g.1 vwCl (wT g a f1 f20 (tkF f1 f20 f22) (tkE f1 f20 (tkF f1 f20 f22)) z9 (nv f1 f20 (tkF f1 f20 f22) (tkE f1 f20 (tkF f1 f20 f22)))) H) he134) hP
                      have hD := Eq.mp (congrArg (fun z9 => va_D (va_A (wT g a f1 f20 f21 f22 f23 f24) s.heap.size) (wT g a f1 f20 (tkF f1 f20 f22) (tkE f1 f20 (tkF f1 f20 f22)) z9 (nv f1 f20 (tkF f1 f20 f22) (tkE f1 f20 (tkF f1 f20 f22))))) he134) hD
                      have hP : va_P g.1 vwCl (wT g a f1 f20 (tkF f1 f20 f22) (tkE f1 f20 (tkF f1 f20 f22)) (srt f1 f20 (tkF f1 f20 f22)) (nv f1 f20 (tkF f1 f20 f22) (tkE f1 f20 (tkF f1 f20 f22)))) H := hP
                      have hD : va_D (va_A (wT g a f1 f20 f21 f22 f23 f24) s.heap.size) (wT g a f1 f20 (tkF f1 f20 f22) (tkE f1 f20 (tkF f1 f20 f22)) (srt f1 f20 (tkF f1 f20 f22)) (nv f1 f20 (tkF f1 f20 f22) (tkE f1 f20 (tkF f1 f20 f22)))) := hD
                      exact W.vret hx hb hr (fun t ht hW => ⟨⟨(), rfl, trivial, by rw [ht]; exact hP, hD⟩, hS.F ht⟩) hS.2.2 dX3_nextToken_150
                  · refine lv_aload_n hx hb dX3_nextToken_102 rfl (lv_at hl 0 rfl) ?_
                    refine lv_aload_n hx hb dX3_nextToken_103 rfl (lv_at hl 0 rfl) ?_
                    refine xg_X3 hx hb hts hown hK hP 0 rfl 3 (by decide) fk_X3_19 (v := .int (iI j)) rfl dX3_nextToken_104 ?_
                    refine xu_i (x := iI (srt f1 f20 j)) (rV (rest := []) hx hb hml hown hts hK hl (c_X3_sortAt l g a f1 f20 k j (srt f1 f20 k) f24 j (show ∀ j, 0 ≤ f1 j ∧ f1 j ≤ 255 from h1) (show 0 ≤ f20 ∧ f20 ≤ 120 from by omega) (show 0 ≤ j ∧ j ≤ 121 from by omega)) lk_X3_138 hP (va_recv hK.1 hP (ci := 3) (q0 := 0) rfl rfl) rfl rfl rfl (Rm.of rfl) rfl rfl dX3_nextToken_107) ?_
                    refine lv_aload_n hx hb dX3_nextToken_110 rfl (lv_at hl 0 rfl) ?_
                    refine xg_X3 hx hb hts hown hK hP 0 rfl 4 (by decide) fk_X3_32 (v := .int (iI (srt f1 f20 k))) rfl dX3_nextToken_111 ?_
                    refine xi_c_ne (tgt := 130) hx hb ⟨by omega, by omega⟩ ⟨by omega, by omega⟩ dX3_nextToken_114 (by decide) (fun z136 => ?_) (fun z136 => ?_)
                    · have hj : j = tkE f1 f20 k := by rw [← i91_2]; exact (rn_stop n (by assumption)).symm
                      refine lv_aload_n hx hb dX3_nextToken_130 rfl (lv_at hl 0 rfl) ?_
                      refine lv_aload_n hx hb dX3_nextToken_131 rfl (lv_at hl 0 rfl) ?_
                      refine xg_X3 hx hb hts hown hK hP 0 rfl 4 (by decide) fk_X3_32 (v := .int (iI (srt f1 f20 k))) rfl dX3_nextToken_132 ?_
                      refine lv_iconst (v := iI (2)) hx hb dX3_nextToken_135 (by decide) ?_
                      refine xi_c_ne (tgt := 146) hx hb ⟨by omega, by omega⟩ ⟨by decide, by decide⟩ dX3_nextToken_136 (by decide) (fun z137 => ?_) (fun z137 => ?_)
                      · refine lv_iconst (v := iI (0)) hx hb dX3_nextToken_146 (by decide) ?_
                        refine xp_X3 hx hb hts hown hK hP hD hS 0 rfl 5 (by decide) fk_X3_78 rfl (v := .int (iI 0)) rfl rfl (Nat.le_of_ble_eq_true rfl) dX3_nextToken_147 (fun H locs hP hD hS => ?_)
                        have hP : va_P g.1 vwCl (wT g a f1 f20 k j (srt f1 f20 k) 0) H := hP
                        have hD : va_D (va_A (wT g a f1 f20 f21 f22 f23 f24) s.heap.size) (wT g a f1 f20 k j (srt f1 f20 k) 0) := hD
                        have he138 : 0 = (nv f1 f20 (tkF f1 f20 f22) (tkE f1 f20 (tkF f1 f20 f22))) := by rw [← hk]; unfold nv; first | (rw [if_pos (srt_D.mpr (by omega)), ← hj]; done) | (rw [if_neg (by rw [srt_D]; omega)]; done) | (exfalso; omega)
                        have hP := Eq.mp (congrArg (fun z9 => va_P g.1 vwCl (wT g a f1 f20 k j (srt f1 f20 k) z9) H) he138) hP
                        have hD := Eq.mp (congrArg (fun z9 => va_D (va_A (wT g a f1 f20 f21 f22 f23 f24) s.heap.size) (wT g a f1 f20 k j (srt f1 f20 k) z9)) he138) hD
                        have he139 : k = (tkF f1 f20 f22) := hk
                        have hP := Eq.mp (congrArg (fun z9 => va_P g.1 vwCl (wT g a f1 f20 z9 j (srt f1 f20 k) (nv f1 f20 (tkF f1 f20 f22) (tkE f1 f20 (tkF f1 f20 f22)))) H) he139) hP
                        have hD := Eq.mp (congrArg (fun z9 => va_D (va_A (wT g a f1 f20 f21 f22 f23 f24) s.heap.size) (wT g a f1 f20 z9 j (srt f1 f20 k) (nv f1 f20 (tkF f1 f20 f22) (tkE f1 f20 (tkF f1 f20 f22))))) he139) hD
                        have he140 : j = (tkE f1 f20 (tkF f1 f20 f22)) := by rw [← hk]; first | exact hj | (rw [tkE_o (by omega) (by omega)]; first | (rw [if_pos (by omega)]; done) | (rw [if_neg (by omega)]; omega) | (exfalso; omega))
                        have hP := Eq.mp (congrArg (fun z9 => va_P g.1 vwCl (wT g a f1 f20 (tkF f1 f20 f22) z9 (srt f1 f20 k) (nv f1 f20 (tkF f1 f20 f22) (tkE f1 f20 (tkF f1 f20 f22)))) H) he140) hP
                        have hD := Eq.mp (congrArg (fun z9 => va_D (va_A (wT g a f1 f20 f21 f22 f23 f24) s.heap.size) (wT g a f1 f20 (tkF f1 f20 f22) z9 (srt f1 f20 k) (nv f1 f20 (tkF f1 f20 f22) (tkE f1 f20 (tkF f1 f20 f22))))) he140) hD
                        have he141 : (srt f1 f20 k) = (srt f1 f20 (tkF f1 f20 f22)) := by rw [hk]
                        have hP := Eq.mp (congrArg (fun z9 => va_P g.1 vwCl (wT g a f1 f20 (tkF f1 f20 f22) (tkE f1 f20 (tkF f1 f20 f22)) z9 (nv f1 f20 (tkF f1 f20 f22) (tkE f1 f20 (tkF f1 f20 f22)))) H) he141) hP
                        have hD := Eq.mp (congrArg (fun z9 => va_D (va_A (wT g a f1 f20 f21 f22 f23 f24) s.heap.size) (wT g a f1 f20 (tkF f1 f20 f22) (tkE f1 f20 (tkF f1 f20 f22)) z9 (nv f1 f20 (tkF f1 f20 f22) (tkE f1 f20 (tkF f1 f20 f22))))) he141) hD
                        have hP : va_P g.1 vwCl (wT g a f1 f20 (tkF f1 f20 f22) (tkE f1 f20 (tkF f1 f20 f22)) (srt f1 f20 (tkF f1 f20 f22)) (nv f1 f20 (tkF f1 f20 f22) (tkE f1 f20 (tkF f1 f20 f22)))) H := hP
                        have hD : va_D (va_A (wT g a f1 f20 f21 f22 f23 f24) s.heap.size) (wT g a f1 f20 (tkF f1 f20 f22) (tkE f1 f20 (tkF f1 f20 f22)) (srt f1 f20 (tkF f1 f20 f22)) (nv f1 f20 (tkF f1 f20 f22) (tkE f1 f20 (tkF f1 f20 f22)))) := hD
                        exact W.vret hx hb hr (fun t ht hW => ⟨⟨(), rfl, trivial, by rw [ht]; exact hP, hD⟩, hS.F ht⟩) hS.2.2 dX3_nextToken_150
                      · refine lv_aload_n hx hb dX3_nextToken_139 rfl (lv_at hl 0 rfl) ?_
                        refine xu_i (x := iI (nvT f1 k (Int.toNat (j - k)))) (rV (rest := [.ref (a 0)]) hx hb hml hown hts hK hl (c_X3_numberAtHand l g a f1 f20 k j (srt f1 f20 k) f24 (show ∀ j, 0 ≤ f1 j ∧ f1 j ≤ 255 from h1) (show 0 ≤ f20 ∧ f20 ≤ 120 from by omega) (show 0 ≤ k ∧ k ≤ j ∧ j ≤ f20 from by omega) (show ∀ x9, k ≤ x9 → x9 < j → 48 ≤ f1 x9 ∧ f1 x9 ≤ 57 from (by first | (exfalso; omega) | exact (fun x x0 x1 => tk_dig (b := f1) (t := f20) (by omega) (by omega) (srt_D.mpr (by omega)) x0 (by rw [← hj]; exact x1))))) lk_X3_147 hP (va_recv hK.1 hP (ci := 3) (q0 := 0) rfl rfl) rfl rfl rfl (Rm.of rfl) rfl rfl dX3_nextToken_140) ?_
                        refine lv_goto (tgt := 147) hx hb dX3_nextToken_143 (by decide) ?_
                        refine xp_X3 hx hb hts hown hK hP hD hS 0 rfl 5 (by decide) fk_X3_78 rfl (v := .int (iI (nvT f1 k (Int.toNat (j - k))))) rfl rfl (Nat.le_of_ble_eq_true rfl) dX3_nextToken_147 (fun H locs hP hD hS => ?_)
                        have hP : va_P g.1 vwCl (wT g a f1 f20 k j (srt f1 f20 k) (nvT f1 k (Int.toNat (j - k)))) H := hP
                        have hD : va_D (va_A (wT g a f1 f20 f21 f22 f23 f24) s.heap.size) (wT g a f1 f20 k j (srt f1 f20 k) (nvT f1 k (Int.toNat (j - k)))) := hD
                        have he143 : (nvT f1 k (Int.toNat (j - k))) = (nv f1 f20 (tkF f1 f20 f22) (tkE f1 f20 (tkF f1 f20 f22))) := by rw [← hk]; unfold nv; first | (rw [if_pos (srt_D.mpr (by omega)), ← hj]; done) | (rw [if_neg (by rw [srt_D]; omega)]; done) | (exfalso; omega)
                        have hP := Eq.mp (congrArg (fun z9 => va_P g.1 vwCl (wT g a f1 f20 k j (srt f1 f20 k) z9) H) he143) hP
                        have hD := Eq.mp (congrArg (fun z9 => va_D (va_A (wT g a f1 f20 f21 f22 f23 f24) s.heap.size) (wT g a f1 f20 k j (srt f1 f20 k) z9)) he143) hD
                        have he144 : k = (tkF f1 f20 f22) := hk
                        have hP := Eq.mp (congrArg (fun z9 => va_P g.1 vwCl (wT g a f1 f20 z9 j (srt f1 f20 k) (nv f1 f20 (tkF f1 f20 f22) (tkE f1 f20 (tkF f1 f20 f22)))) H) he144) hP
                        have hD := Eq.mp (congrArg (fun z9 => va_D (va_A (wT g a f1 f20 f21 f22 f23 f24) s.heap.size) (wT g a f1 f20 z9 j (srt f1 f20 k) (nv f1 f20 (tkF f1 f20 f22) (tkE f1 f20 (tkF f1 f20 f22))))) he144) hD
                        have he145 : j = (tkE f1 f20 (tkF f1 f20 f22)) := by rw [← hk]; first | exact hj | (rw [tkE_o (by omega) (by omega)]; first | (rw [if_pos (by omega)]; done) | (rw [if_neg (by omega)]; omega) | (exfalso; omega))
                        have hP := Eq.mp (congrArg (fun z9 => va_P g.1 vwCl (wT g a f1 f20 (tkF f1 f20 f22) z9 (srt f1 f20 k) (nv f1 f20 (tkF f1 f20 f22) (tkE f1 f20 (tkF f1 f20 f22)))) H) he145) hP
                        have hD := Eq.mp (congrArg (fun z9 => va_D (va_A (wT g a f1 f20 f21 f22 f23 f24) s.heap.size) (wT g a f1 f20 (tkF f1 f20 f22) z9 (srt f1 f20 k) (nv f1 f20 (tkF f1 f20 f22) (tkE f1 f20 (tkF f1 f20 f22))))) he145) hD
                        have he146 : (srt f1 f20 k) = (srt f1 f20 (tkF f1 f20 f22)) := by rw [hk]
                        have hP := Eq.mp (congrArg (fun z9 => va_P g.1 vwCl (wT g a f1 f20 (tkF f1 f20 f22) (tkE f1 f20 (tkF f1 f20 f22)) z9 (nv f1 f20 (tkF f1 f20 f22) (tkE f1 f20 (tkF f1 f20 f22)))) H) he146) hP
                        have hD := Eq.mp (congrArg (fun z9 => va_D (va_A (wT g a f1 f20 f21 f22 f23 f24) s.heap.size) (wT g a f1 f20 (tkF f1 f20 f22) (tkE f1 f20 (tkF f1 f20 f22)) z9 (nv f1 f20 (tkF f1 f20 f22) (tkE f1 f20 (tkF f1 f20 f22))))) he146) hD
                        have hP : va_P g.1 vwCl (wT g a f1 f20 (tkF f1 f20 f22) (tkE f1 f20 (tkF f1 f20 f22)) (srt f1 f20 (tkF f1 f20 f22)) (nv f1 f20 (tkF f1 f20 f22) (tkE f1 f20 (tkF f1 f20 f22)))) H := hP
                        have hD : va_D (va_A (wT g a f1 f20 f21 f22 f23 f24) s.heap.size) (wT g a f1 f20 (tkF f1 f20 f22) (tkE f1 f20 (tkF f1 f20 f22)) (srt f1 f20 (tkF f1 f20 f22)) (nv f1 f20 (tkF f1 f20 f22) (tkE f1 f20 (tkF f1 f20 f22)))) := hD
                        exact W.vret hx hb hr (fun t ht hW => ⟨⟨(), rfl, trivial, by rw [ht]; exact hP, hD⟩, hS.F ht⟩) hS.2.2 dX3_nextToken_150
                    · refine lv_aload_n hx hb dX3_nextToken_117 rfl (lv_at hl 0 rfl) ?_
                      refine lv_dup hx hb dX3_nextToken_118 rfl ?_
                      refine xg_X3 hx hb hts hown hK hP 0 rfl 3 (by decide) fk_X3_19 (v := .int (iI j)) rfl dX3_nextToken_119 ?_
                      refine lv_iconst (v := iI (1)) hx hb dX3_nextToken_122 (by decide) ?_
                      refine xi_add hx hb dX3_nextToken_123 ?_
                      refine xp_X3 hx hb hts hown hK hP hD hS 0 rfl 3 (by decide) fk_X3_19 rfl (v := .int (iI (j + 1))) rfl rfl (Nat.le_of_ble_eq_true rfl) dX3_nextToken_124 (fun H locs hP hD hS => ?_)
                      have hP : va_P g.1 vwCl (wT g a f1 f20 k (j + 1) (srt f1 f20 k) f24) H := hP
                      have hD : va_D (va_A (wT g a f1 f20 f21 f22 f23 f24) s.heap.size) (wT g a f1 f20 k (j + 1) (srt f1 f20 k) f24) := hD
                      refine lv_goto (tgt := 91) hx hb dX3_nextToken_127 (by decide) ?_
                      exact ih91 (j + 1) (n - 1) ⟨by omega, by omega⟩ (by rw [rn_sort (by omega) (by assumption) (by omega)]; exact i91_2) (by omega) (by omega) (by omega) ls (lv_sub hl [0] rfl) H locs hP hD hS
              exact lp91 (120 + 1) f20 121 (by omega) (by first | exact rn_tk (by omega) | (exfalso; omega)) (by omega) (by omega) (by omega) ls (lv_sub hl [0] rfl) H locs hP hD hS
            · refine lv_aload_n hx hb dX3_nextToken_83 rfl (lv_at hl 0 rfl) ?_
              refine xg_X3 hx hb hts hown hK hP 0 rfl 4 (by decide) fk_X3_32 (v := .int (iI (srt f1 f20 k))) rfl dX3_nextToken_84 ?_
              refine lv_iconst (v := iI (2)) hx hb dX3_nextToken_87 (by decide) ?_
              refine xi_c_ne (tgt := 130) hx hb ⟨by omega, by omega⟩ ⟨by decide, by decide⟩ dX3_nextToken_88 (by decide) (fun z147 => ?_) (fun z147 => ?_)
              · refine lv_aload_n hx hb dX3_nextToken_130 rfl (lv_at hl 0 rfl) ?_
                refine lv_aload_n hx hb dX3_nextToken_131 rfl (lv_at hl 0 rfl) ?_
                refine xg_X3 hx hb hts hown hK hP 0 rfl 4 (by decide) fk_X3_32 (v := .int (iI (srt f1 f20 k))) rfl dX3_nextToken_132 ?_
                refine lv_iconst (v := iI (2)) hx hb dX3_nextToken_135 (by decide) ?_
                refine xi_c_ne (tgt := 146) hx hb ⟨by omega, by omega⟩ ⟨by decide, by decide⟩ dX3_nextToken_136 (by decide) (fun z148 => ?_) (fun z148 => ?_)
                · refine lv_iconst (v := iI (0)) hx hb dX3_nextToken_146 (by decide) ?_
                  refine xp_X3 hx hb hts hown hK hP hD hS 0 rfl 5 (by decide) fk_X3_78 rfl (v := .int (iI 0)) rfl rfl (Nat.le_of_ble_eq_true rfl) dX3_nextToken_147 (fun H locs hP hD hS => ?_)
                  have hP : va_P g.1 vwCl (wT g a f1 f20 k f20 (srt f1 f20 k) 0) H := hP
                  have hD : va_D (va_A (wT g a f1 f20 f21 f22 f23 f24) s.heap.size) (wT g a f1 f20 k f20 (srt f1 f20 k) 0) := hD
                  have he149 : 0 = (nv f1 f20 (tkF f1 f20 f22) (tkE f1 f20 (tkF f1 f20 f22))) := by rw [← hk]; unfold nv; first | (rw [if_pos (srt_D.mpr (by omega)), ← hj]; done) | (rw [if_neg (by rw [srt_D]; omega)]; done) | (exfalso; omega)
                  have hP := Eq.mp (congrArg (fun z9 => va_P g.1 vwCl (wT g a f1 f20 k f20 (srt f1 f20 k) z9) H) he149) hP
                  have hD := Eq.mp (congrArg (fun z9 => va_D (va_A (wT g a f1 f20 f21 f22 f23 f24) s.heap.size) (wT g a f1 f20 k f20 (srt f1 f20 k) z9)) he149) hD
                  have he150 : k = (tkF f1 f20 f22) := hk
                  have hP := Eq.mp (congrArg (fun z9 => va_P g.1 vwCl (wT g a f1 f20 z9 f20 (srt f1 f20 k) (nv f1 f20 (tkF f1 f20 f22) (tkE f1 f20 (tkF f1 f20 f22)))) H) he150) hP
                  have hD := Eq.mp (congrArg (fun z9 => va_D (va_A (wT g a f1 f20 f21 f22 f23 f24) s.heap.size) (wT g a f1 f20 z9 f20 (srt f1 f20 k) (nv f1 f20 (tkF f1 f20 f22) (tkE f1 f20 (tkF f1 f20 f22))))) he150) hD
                  have he151 : f20 = (tkE f1 f20 (tkF f1 f20 f22)) := by rw [← hk]; first | exact hj | (rw [tkE_o (by omega) (by omega)]; first | (rw [if_pos (by omega)]; done) | (rw [if_neg (by omega)]; omega) | (exfalso; omega))
                  have hP := Eq.mp (congrArg (fun z9 => va_P g.1 vwCl (wT g a f1 f20 (tkF f1 f20 f22) z9 (srt f1 f20 k) (nv f1 f20 (tkF f1 f20 f22) (tkE f1 f20 (tkF f1 f20 f22)))) H) he151) hP
                  have hD := Eq.mp (congrArg (fun z9 => va_D (va_A (wT g a f1 f20 f21 f22 f23 f24) s.heap.size) (wT g a f1 f20 (tkF f1 f20 f22) z9 (srt f1 f20 k) (nv f1 f20 (tkF f1 f20 f22) (tkE f1 f20 (tkF f1 f20 f22))))) he151) hD
                  have he152 : (srt f1 f20 k) = (srt f1 f20 (tkF f1 f20 f22)) := by rw [hk]
                  have hP := Eq.mp (congrArg (fun z9 => va_P g.1 vwCl (wT g a f1 f20 (tkF f1 f20 f22) (tkE f1 f20 (tkF f1 f20 f22)) z9 (nv f1 f20 (tkF f1 f20 f22) (tkE f1 f20 (tkF f1 f20 f22)))) H) he152) hP
                  have hD := Eq.mp (congrArg (fun z9 => va_D (va_A (wT g a f1 f20 f21 f22 f23 f24) s.heap.size) (wT g a f1 f20 (tkF f1 f20 f22) (tkE f1 f20 (tkF f1 f20 f22)) z9 (nv f1 f20 (tkF f1 f20 f22) (tkE f1 f20 (tkF f1 f20 f22))))) he152) hD
                  have hP : va_P g.1 vwCl (wT g a f1 f20 (tkF f1 f20 f22) (tkE f1 f20 (tkF f1 f20 f22)) (srt f1 f20 (tkF f1 f20 f22)) (nv f1 f20 (tkF f1 f20 f22) (tkE f1 f20 (tkF f1 f20 f22)))) H := hP
                  have hD : va_D (va_A (wT g a f1 f20 f21 f22 f23 f24) s.heap.size) (wT g a f1 f20 (tkF f1 f20 f22) (tkE f1 f20 (tkF f1 f20 f22)) (srt f1 f20 (tkF f1 f20 f22)) (nv f1 f20 (tkF f1 f20 f22) (tkE f1 f20 (tkF f1 f20 f22)))) := hD
                  exact W.vret hx hb hr (fun t ht hW => ⟨⟨(), rfl, trivial, by rw [ht]; exact hP, hD⟩, hS.F ht⟩) hS.2.2 dX3_nextToken_150
                · refine lv_aload_n hx hb dX3_nextToken_139 rfl (lv_at hl 0 rfl) ?_
                  refine xu_i (x := iI (nvT f1 k (Int.toNat (f20 - k)))) (rV (rest := [.ref (a 0)]) hx hb hml hown hts hK hl (c_X3_numberAtHand l g a f1 f20 k f20 (srt f1 f20 k) f24 (show ∀ j, 0 ≤ f1 j ∧ f1 j ≤ 255 from h1) (show 0 ≤ f20 ∧ f20 ≤ 120 from by omega) (show 0 ≤ k ∧ k ≤ f20 ∧ f20 ≤ f20 from by omega) (show ∀ x9, k ≤ x9 → x9 < f20 → 48 ≤ f1 x9 ∧ f1 x9 ≤ 57 from (by first | (exfalso; omega) | exact (fun x x0 x1 => tk_dig (b := f1) (t := f20) (by omega) (by omega) (srt_D.mpr (by omega)) x0 (by rw [← hj]; exact x1))))) lk_X3_147 hP (va_recv hK.1 hP (ci := 3) (q0 := 0) rfl rfl) rfl rfl rfl (Rm.of rfl) rfl rfl dX3_nextToken_140) ?_
                  refine lv_goto (tgt := 147) hx hb dX3_nextToken_143 (by decide) ?_
                  refine xp_X3 hx hb hts hown hK hP hD hS 0 rfl 5 (by decide) fk_X3_78 rfl (v := .int (iI (nvT f1 k (Int.toNat (f20 - k))))) rfl rfl (Nat.le_of_ble_eq_true rfl) dX3_nextToken_147 (fun H locs hP hD hS => ?_)
                  have hP : va_P g.1 vwCl (wT g a f1 f20 k f20 (srt f1 f20 k) (nvT f1 k (Int.toNat (f20 - k)))) H := hP
                  have hD : va_D (va_A (wT g a f1 f20 f21 f22 f23 f24) s.heap.size) (wT g a f1 f20 k f20 (srt f1 f20 k) (nvT f1 k (Int.toNat (f20 - k)))) := hD
                  have he154 : (nvT f1 k (Int.toNat (f20 - k))) = (nv f1 f20 (tkF f1 f20 f22) (tkE f1 f20 (tkF f1 f20 f22))) := by rw [← hk]; unfold nv; first | (rw [if_pos (srt_D.mpr (by omega)), ← hj]; done) | (rw [if_neg (by rw [srt_D]; omega)]; done) | (exfalso; omega)
                  have hP := Eq.mp (congrArg (fun z9 => va_P g.1 vwCl (wT g a f1 f20 k f20 (srt f1 f20 k) z9) H) he154) hP
                  have hD := Eq.mp (congrArg (fun z9 => va_D (va_A (wT g a f1 f20 f21 f22 f23 f24) s.heap.size) (wT g a f1 f20 k f20 (srt f1 f20 k) z9)) he154) hD
                  have he155 : k = (tkF f1 f20 f22) := hk
                  have hP := Eq.mp (congrArg (fun z9 => va_P g.1 vwCl (wT g a f1 f20 z9 f20 (srt f1 f20 k) (nv f1 f20 (tkF f1 f20 f22) (tkE f1 f20 (tkF f1 f20 f22)))) H) he155) hP
                  have hD := Eq.mp (congrArg (fun z9 => va_D (va_A (wT g a f1 f20 f21 f22 f23 f24) s.heap.size) (wT g a f1 f20 z9 f20 (srt f1 f20 k) (nv f1 f20 (tkF f1 f20 f22) (tkE f1 f20 (tkF f1 f20 f22))))) he155) hD
                  have he156 : f20 = (tkE f1 f20 (tkF f1 f20 f22)) := by rw [← hk]; first | exact hj | (rw [tkE_o (by omega) (by omega)]; first | (rw [if_pos (by omega)]; done) | (rw [if_neg (by omega)]; omega) | (exfalso; omega))
                  have hP := Eq.mp (congrArg (fun z9 => va_P g.1 vwCl (wT g a f1 f20 (tkF f1 f20 f22) z9 (srt f1 f20 k) (nv f1 f20 (tkF f1 f20 f22) (tkE f1 f20 (tkF f1 f20 f22)))) H) he156) hP
                  have hD := Eq.mp (congrArg (fun z9 => va_D (va_A (wT g a f1 f20 f21 f22 f23 f24) s.heap.size) (wT g a f1 f20 (tkF f1 f20 f22) z9 (srt f1 f20 k) (nv f1 f20 (tkF f1 f20 f22) (tkE f1 f20 (tkF f1 f20 f22))))) he156) hD
                  have he157 : (srt f1 f20 k) = (srt f1 f20 (tkF f1 f20 f22)) := by rw [hk]
                  have hP := Eq.mp (congrArg (fun z9 => va_P g.1 vwCl (wT g a f1 f20 (tkF f1 f20 f22) (tkE f1 f20 (tkF f1 f20 f22)) z9 (nv f1 f20 (tkF f1 f20 f22) (tkE f1 f20 (tkF f1 f20 f22)))) H) he157) hP
                  have hD := Eq.mp (congrArg (fun z9 => va_D (va_A (wT g a f1 f20 f21 f22 f23 f24) s.heap.size) (wT g a f1 f20 (tkF f1 f20 f22) (tkE f1 f20 (tkF f1 f20 f22)) z9 (nv f1 f20 (tkF f1 f20 f22) (tkE f1 f20 (tkF f1 f20 f22))))) he157) hD
                  have hP : va_P g.1 vwCl (wT g a f1 f20 (tkF f1 f20 f22) (tkE f1 f20 (tkF f1 f20 f22)) (srt f1 f20 (tkF f1 f20 f22)) (nv f1 f20 (tkF f1 f20 f22) (tkE f1 f20 (tkF f1 f20 f22)))) H := hP
                  have hD : va_D (va_A (wT g a f1 f20 f21 f22 f23 f24) s.heap.size) (wT g a f1 f20 (tkF f1 f20 f22) (tkE f1 f20 (tkF f1 f20 f22)) (srt f1 f20 (tkF f1 f20 f22)) (nv f1 f20 (tkF f1 f20 f22) (tkE f1 f20 (tkF f1 f20 f22)))) := hD
                  exact W.vret hx hb hr (fun t ht hW => ⟨⟨(), rfl, trivial, by rw [ht]; exact hP, hD⟩, hS.F ht⟩) hS.2.2 dX3_nextToken_150
              · have lp91 : ∀ (n91 : Nat) (j : Int) (n : Nat), (0 ≤ j ∧ j ≤ f20) → (rnW f1 f20 (if srt f1 f20 k = 1 then 1 else 0) (if srt f1 f20 k = 2 then 1 else 0) n j = tkE f1 f20 k) → (f20 - j < n) → (k < j) → (f20 - j).toNat < n91 → ∀ ls : Array Slot, lv_has ls 1 [(0, .ref (a 0))] → ∀ (H : Heap) (locs : List Loc), va_P g.1 vwCl (wT g a f1 f20 k j (srt f1 f20 k) f24) H → va_D (va_A (wT g a f1 f20 f21 f22 f23 f24) s.heap.size) (wT g a f1 f20 k j (srt f1 f20 k) f24) → va_S (va_A (wT g a f1 f20 f21 f22 f23 f24) s.heap.size) s.heap H locs → W pq l eq rm_X3_nextToken s mq [.ref (a 0)].toArray below meth cq H locs 0 0 (MQ below (QMv g (fun _ : Unit => wT g a f1 f20 (tkF f1 f20 f22) (tkE f1 f20 (tkF f1 f20 f22)) (srt f1 f20 (tkF f1 f20 f22)) (nv f1 f20 (tkF f1 f20 f22) (tkE f1 f20 (tkF f1 f20 f22)))) (fun _ => True) (va_A (wT g a f1 f20 f21 f22 f23 f24) s.heap.size)) [.ref (a 0)].toArray s 0 0 (va_A (wT g a f1 f20 f21 f22 f23 f24) s.heap.size)) (F0 mq 91 ls []) := by
                  intro n91
                  induction n91 with
                  | zero => intro j n i91_1 i91_2 i91_3 i91_4 hm; exact absurd hm (Nat.not_lt_zero _)
                  | succ n91 ih91 =>
                    intro j n i91_1 i91_2 i91_3 i91_4 hm91 ls hl H locs hP hD hS
                    have hsj := srt_c f1 f20 j
                    refine lv_aload_n hx hb dX3_nextToken_91 rfl (lv_at hl 0 rfl) ?_
                    refine xg_X3 hx hb hts hown hK hP 0 rfl 3 (by decide) fk_X3_19 (v := .int (iI j)) rfl dX3_nextToken_92 ?_
                    refine lv_aload_n hx hb dX3_nextToken_95 rfl (lv_at hl 0 rfl) ?_
                    refine xg_X3 hx hb hts hown hK hP 0 rfl 1 (by decide) fk_X3_15 (v := .int (iI f20)) rfl dX3_nextToken_96 ?_
                    refine xi_c_ge (tgt := 130) hx hb ⟨by omega, by omega⟩ ⟨by omega, by omega⟩ dX3_nextToken_99 (by decide) (fun z158 => ?_) (fun z158 => ?_)
                    · have hj : j = tkE f1 f20 k := by rw [← i91_2]; exact (rn_stop n (by omega)).symm
                      refine lv_aload_n hx hb dX3_nextToken_130 rfl (lv_at hl 0 rfl) ?_
                      refine lv_aload_n hx hb dX3_nextToken_131 rfl (lv_at hl 0 rfl) ?_
                      refine xg_X3 hx hb hts hown hK hP 0 rfl 4 (by decide) fk_X3_32 (v := .int (iI (srt f1 f20 k))) rfl dX3_nextToken_132 ?_
                      refine lv_iconst (v := iI (2)) hx hb dX3_nextToken_135 (by decide) ?_
                      refine xi_c_ne (tgt := 146) hx hb ⟨by omega, by omega⟩ ⟨by decide, by decide⟩ dX3_nextToken_136 (by decide) (fun z159 => ?_) (fun z159 => ?_)
                      · refine lv_iconst (v := iI (0)) hx hb dX3_nextToken_146 (by decide) ?_
                        refine xp_X3 hx hb hts hown hK hP hD hS 0 rfl 5 (by decide) fk_X3_78 rfl (v := .int (iI 0)) rfl rfl (Nat.le_of_ble_eq_true rfl) dX3_nextToken_147 (fun H locs hP hD hS => ?_)
                        have hP : va_P g.1 vwCl (wT g a f1 f20 k j (srt f1 f20 k) 0) H := hP
                        have hD : va_D (va_A (wT g a f1 f20 f21 f22 f23 f24) s.heap.size) (wT g a f1 f20 k j (srt f1 f20 k) 0) := hD
                        have he160 : 0 = (nv f1 f20 (tkF f1 f20 f22) (tkE f1 f20 (tkF f1 f20 f22))) := by rw [← hk]; unfold nv; first | (rw [if_pos (srt_D.mpr (by omega)), ← hj]; done) | (rw [if_neg (by rw [srt_D]; omega)]; done) | (exfalso; omega)
                        have hP := Eq.mp (congrArg (fun z9 => va_P g.1 vwCl (wT g a f1 f20 k j (srt f1 f20 k) z9) H) he160) hP
                        have hD := Eq.mp (congrArg (fun z9 => va_D (va_A (wT g a f1 f20 f21 f22 f23 f24) s.heap.size) (wT g a f1 f20 k j (srt f1 f20 k) z9)) he160) hD
                        have he161 : k = (tkF f1 f20 f22) := hk
                        have hP := Eq.mp (congrArg (fun z9 => va_P g.1 vwCl (wT g a f1 f20 z9 j (srt f1 f20 k) (nv f1 f20 (tkF f1 f20 f22) (tkE f1 f20 (tkF f1 f20 f22)))) H) he161) hP
                        have hD := Eq.mp (congrArg (fun z9 => va_D (va_A (wT g a f1 f20 f21 f22 f23 f24) s.heap.size) (wT g a f1 f20 z9 j (srt f1 f20 k) (nv f1 f20 (tkF f1 f20 f22) (tkE f1 f20 (tkF f1 f20 f22))))) he161) hD
                        have he162 : j = (tkE f1 f20 (tkF f1 f20 f22)) := by rw [← hk]; first | exact hj | (rw [tkE_o (by omega) (by omega)]; first | (rw [if_pos (by omega)]; done) | (rw [if_neg (by omega)]; omega) | (exfalso; omega))
                        have hP := Eq.mp (congrArg (fun z9 => va_P g.1 vwCl (wT g a f1 f20 (tkF f1 f20 f22) z9 (srt f1 f20 k) (nv f1 f20 (tkF f1 f20 f22) (tkE f1 f20 (tkF f1 f20 f22)))) H) he162) hP
                        have hD := Eq.mp (congrArg (fun z9 => va_D (va_A (wT g a f1 f20 f21 f22 f23 f24) s.heap.size) (wT g a f1 f20 (tkF f1 f20 f22) z9 (srt f1 f20 k) (nv f1 f20 (tkF f1 f20 f22) (tkE f1 f20 (tkF f1 f20 f22))))) he162) hD
                        have he163 : (srt f1 f20 k) = (srt f1 f20 (tkF f1 f20 f22)) := by rw [hk]
                        have hP := Eq.mp (congrArg (fun z9 => va_P g.1 vwCl (wT g a f1 f20 (tkF f1 f20 f22) (tkE f1 f20 (tkF f1 f20 f22)) z9 (nv f1 f20 (tkF f1 f20 f22) (tkE f1 f20 (tkF f1 f20 f22)))) H) he163) hP
                        have hD := Eq.mp (congrArg (fun z9 => va_D (va_A (wT g a f1 f20 f21 f22 f23 f24) s.heap.size) (wT g a f1 f20 (tkF f1 f20 f22) (tkE f1 f20 (tkF f1 f20 f22)) z9 (nv f1 f20 (tkF f1 f20 f22) (tkE f1 f20 (tkF f1 f20 f22))))) he163) hD
                        have hP : va_P g.1 vwCl (wT g a f1 f20 (tkF f1 f20 f22) (tkE f1 f20 (tkF f1 f20 f22)) (srt f1 f20 (tkF f1 f20 f22)) (nv f1 f20 (tkF f1 f20 f22) (tkE f1 f20 (tkF f1 f20 f22)))) H := hP
                        have hD : va_D (va_A (wT g a f1 f20 f21 f22 f23 f24) s.heap.size) (wT g a f1 f20 (tkF f1 f20 f22) (tkE f1 f20 (tkF f1 f20 f22)) (srt f1 f20 (tkF f1 f20 f22)) (nv f1 f20 (tkF f1 f20 f22) (tkE f1 f20 (tkF f1 f20 f22)))) := hD
                        exact W.vret hx hb hr (fun t ht hW => ⟨⟨(), rfl, trivial, by rw [ht]; exact hP, hD⟩, hS.F ht⟩) hS.2.2 dX3_nextToken_150
                      · refine lv_aload_n hx hb dX3_nextToken_139 rfl (lv_at hl 0 rfl) ?_
                        refine xu_i (x := iI (nvT f1 k (Int.toNat (j - k)))) (rV (rest := [.ref (a 0)]) hx hb hml hown hts hK hl (c_X3_numberAtHand l g a f1 f20 k j (srt f1 f20 k) f24 (show ∀ j, 0 ≤ f1 j ∧ f1 j ≤ 255 from h1) (show 0 ≤ f20 ∧ f20 ≤ 120 from by omega) (show 0 ≤ k ∧ k ≤ j ∧ j ≤ f20 from by omega) (show ∀ x9, k ≤ x9 → x9 < j → 48 ≤ f1 x9 ∧ f1 x9 ≤ 57 from (by first | (exfalso; omega) | exact (fun x x0 x1 => tk_dig (b := f1) (t := f20) (by omega) (by omega) (srt_D.mpr (by omega)) x0 (by rw [← hj]; exact x1))))) lk_X3_147 hP (va_recv hK.1 hP (ci := 3) (q0 := 0) rfl rfl) rfl rfl rfl (Rm.of rfl) rfl rfl dX3_nextToken_140) ?_
                        refine lv_goto (tgt := 147) hx hb dX3_nextToken_143 (by decide) ?_
                        refine xp_X3 hx hb hts hown hK hP hD hS 0 rfl 5 (by decide) fk_X3_78 rfl (v := .int (iI (nvT f1 k (Int.toNat (j - k))))) rfl rfl (Nat.le_of_ble_eq_true rfl) dX3_nextToken_147 (fun H locs hP hD hS => ?_)
                        have hP : va_P g.1 vwCl (wT g a f1 f20 k j (srt f1 f20 k) (nvT f1 k (Int.toNat (j - k)))) H := hP
                        have hD : va_D (va_A (wT g a f1 f20 f21 f22 f23 f24) s.heap.size) (wT g a f1 f20 k j (srt f1 f20 k) (nvT f1 k (Int.toNat (j - k)))) := hD
                        have he165 : (nvT f1 k (Int.toNat (j - k))) = (nv f1 f20 (tkF f1 f20 f22) (tkE f1 f20 (tkF f1 f20 f22))) := by rw [← hk]; unfold nv; first | (rw [if_pos (srt_D.mpr (by omega)), ← hj]; done) | (rw [if_neg (by rw [srt_D]; omega)]; done) | (exfalso; omega)
                        have hP := Eq.mp (congrArg (fun z9 => va_P g.1 vwCl (wT g a f1 f20 k j (srt f1 f20 k) z9) H) he165) hP
                        have hD := Eq.mp (congrArg (fun z9 => va_D (va_A (wT g a f1 f20 f21 f22 f23 f24) s.heap.size) (wT g a f1 f20 k j (srt f1 f20 k) z9)) he165) hD
                        have he166 : k = (tkF f1 f20 f22) := hk
                        have hP := Eq.mp (congrArg (fun z9 => va_P g.1 vwCl (wT g a f1 f20 z9 j (srt f1 f20 k) (nv f1 f20 (tkF f1 f20 f22) (tkE f1 f20 (tkF f1 f20 f22)))) H) he166) hP
                        have hD := Eq.mp (congrArg (fun z9 => va_D (va_A (wT g a f1 f20 f21 f22 f23 f24) s.heap.size) (wT g a f1 f20 z9 j (srt f1 f20 k) (nv f1 f20 (tkF f1 f20 f22) (tkE f1 f20 (tkF f1 f20 f22))))) he166) hD
                        have he167 : j = (tkE f1 f20 (tkF f1 f20 f22)) := by rw [← hk]; first | exact hj | (rw [tkE_o (by omega) (by omega)]; first | (rw [if_pos (by omega)]; done) | (rw [if_neg (by omega)]; omega) | (exfalso; omega))
                        have hP := Eq.mp (congrArg (fun z9 => va_P g.1 vwCl (wT g a f1 f20 (tkF f1 f20 f22) z9 (srt f1 f20 k) (nv f1 f20 (tkF f1 f20 f22) (tkE f1 f20 (tkF f1 f20 f22)))) H) he167) hP
                        have hD := Eq.mp (congrArg (fun z9 => va_D (va_A (wT g a f1 f20 f21 f22 f23 f24) s.heap.size) (wT g a f1 f20 (tkF f1 f20 f22) z9 (srt f1 f20 k) (nv f1 f20 (tkF f1 f20 f22) (tkE f1 f20 (tkF f1 f20 f22))))) he167) hD
                        have he168 : (srt f1 f20 k) = (srt f1 f20 (tkF f1 f20 f22)) := by rw [hk]
                        have hP := Eq.mp (congrArg (fun z9 => va_P g.1 vwCl (wT g a f1 f20 (tkF f1 f20 f22) (tkE f1 f20 (tkF f1 f20 f22)) z9 (nv f1 f20 (tkF f1 f20 f22) (tkE f1 f20 (tkF f1 f20 f22)))) H) he168) hP
                        have hD := Eq.mp (congrArg (fun z9 => va_D (va_A (wT g a f1 f20 f21 f22 f23 f24) s.heap.size) (wT g a f1 f20 (tkF f1 f20 f22) (tkE f1 f20 (tkF f1 f20 f22)) z9 (nv f1 f20 (tkF f1 f20 f22) (tkE f1 f20 (tkF f1 f20 f22))))) he168) hD
                        have hP : va_P g.1 vwCl (wT g a f1 f20 (tkF f1 f20 f22) (tkE f1 f20 (tkF f1 f20 f22)) (srt f1 f20 (tkF f1 f20 f22)) (nv f1 f20 (tkF f1 f20 f22) (tkE f1 f20 (tkF f1 f20 f22)))) H := hP
                        have hD : va_D (va_A (wT g a f1 f20 f21 f22 f23 f24) s.heap.size) (wT g a f1 f20 (tkF f1 f20 f22) (tkE f1 f20 (tkF f1 f20 f22)) (srt f1 f20 (tkF f1 f20 f22)) (nv f1 f20 (tkF f1 f20 f22) (tkE f1 f20 (tkF f1 f20 f22)))) := hD
                        exact W.vret hx hb hr (fun t ht hW => ⟨⟨(), rfl, trivial, by rw [ht]; exact hP, hD⟩, hS.F ht⟩) hS.2.2 dX3_nextToken_150
                    · refine lv_aload_n hx hb dX3_nextToken_102 rfl (lv_at hl 0 rfl) ?_
                      refine lv_aload_n hx hb dX3_nextToken_103 rfl (lv_at hl 0 rfl) ?_
                      refine xg_X3 hx hb hts hown hK hP 0 rfl 3 (by decide) fk_X3_19 (v := .int (iI j)) rfl dX3_nextToken_104 ?_
                      refine xu_i (x := iI (srt f1 f20 j)) (rV (rest := []) hx hb hml hown hts hK hl (c_X3_sortAt l g a f1 f20 k j (srt f1 f20 k) f24 j (show ∀ j, 0 ≤ f1 j ∧ f1 j ≤ 255 from h1) (show 0 ≤ f20 ∧ f20 ≤ 120 from by omega) (show 0 ≤ j ∧ j ≤ 121 from by omega)) lk_X3_138 hP (va_recv hK.1 hP (ci := 3) (q0 := 0) rfl rfl) rfl rfl rfl (Rm.of rfl) rfl rfl dX3_nextToken_107) ?_
                      refine lv_aload_n hx hb dX3_nextToken_110 rfl (lv_at hl 0 rfl) ?_
                      refine xg_X3 hx hb hts hown hK hP 0 rfl 4 (by decide) fk_X3_32 (v := .int (iI (srt f1 f20 k))) rfl dX3_nextToken_111 ?_
                      refine xi_c_ne (tgt := 130) hx hb ⟨by omega, by omega⟩ ⟨by omega, by omega⟩ dX3_nextToken_114 (by decide) (fun z170 => ?_) (fun z170 => ?_)
                      · have hj : j = tkE f1 f20 k := by rw [← i91_2]; exact (rn_stop n (by assumption)).symm
                        refine lv_aload_n hx hb dX3_nextToken_130 rfl (lv_at hl 0 rfl) ?_
                        refine lv_aload_n hx hb dX3_nextToken_131 rfl (lv_at hl 0 rfl) ?_
                        refine xg_X3 hx hb hts hown hK hP 0 rfl 4 (by decide) fk_X3_32 (v := .int (iI (srt f1 f20 k))) rfl dX3_nextToken_132 ?_
                        refine lv_iconst (v := iI (2)) hx hb dX3_nextToken_135 (by decide) ?_
                        refine xi_c_ne (tgt := 146) hx hb ⟨by omega, by omega⟩ ⟨by decide, by decide⟩ dX3_nextToken_136 (by decide) (fun z171 => ?_) (fun z171 => ?_)
                        · refine lv_iconst (v := iI (0)) hx hb dX3_nextToken_146 (by decide) ?_
                          refine xp_X3 hx hb hts hown hK hP hD hS 0 rfl 5 (by decide) fk_X3_78 rfl (v := .int (iI 0)) rfl rfl (Nat.le_of_ble_eq_true rfl) dX3_nextToken_147 (fun H locs hP hD hS => ?_)
                          have hP : va_P g.1 vwCl (wT g a f1 f20 k j (srt f1 f20 k) 0) H := hP
                          have hD : va_D (va_A (wT g a f1 f20 f21 f22 f23 f24) s.heap.size) (wT g a f1 f20 k j (srt f1 f20 k) 0) := hD
                          have he172 : 0 = (nv f1 f20 (tkF f1 f20 f22) (tkE f1 f20 (tkF f1 f20 f22))) := by rw [← hk]; unfold nv; first | (rw [if_pos (srt_D.mpr (by omega)), ← hj]; done) | (rw [if_neg (by rw [srt_D]; omega)]; done) | (exfalso; omega)
                          have hP := Eq.mp (congrArg (fun z9 => va_P g.1 vwCl (wT g a f1 f20 k j (srt f1 f20 k) z9) H) he172) hP
                          have hD := Eq.mp (congrArg (fun z9 => va_D (va_A (wT g a f1 f20 f21 f22 f23 f24) s.heap.size) (wT g a f1 f20 k j (srt f1 f20 k) z9)) he172) hD
                          have he173 : k = (tkF f1 f20 f22) := hk
                          have hP := Eq.mp (congrArg (fun z9 => va_P g.1 vwCl (wT g a f1 f20 z9 j (srt f1 f20 k) (nv f1 f20 (tkF f1 f20 f22) (tkE f1 f20 (tkF f1 f20 f22)))) H) he173) hP
                          have hD := Eq.mp (congrArg (fun z9 => va_D (va_A (wT g a f1 f20 f21 f22 f23 f24) s.heap.size) (wT g a f1 f20 z9 j (srt f1 f20 k) (nv f1 f20 (tkF f1 f20 f22) (tkE f1 f20 (tkF f1 f20 f22))))) he173) hD
                          have he174 : j = (tkE f1 f20 (tkF f1 f20 f22)) := by rw [← hk]; first | exact hj | (rw [tkE_o (by omega) (by omega)]; first | (rw [if_pos (by omega)]; done) | (rw [if_neg (by omega)]; omega) | (exfalso; omega))
                          have hP := Eq.mp (congrArg (fun z9 => va_P g.1 vwCl (wT g a f1 f20 (tkF f1 f20 f22) z9 (srt f1 f20 k) (nv f1 f20 (tkF f1 f20 f22) (tkE f1 f20 (tkF f1 f20 f22)))) H) he174) hP
                          have hD := Eq.mp (congrArg (fun z9 => va_D (va_A (wT g a f1 f20 f21 f22 f23 f24) s.heap.size) (wT g a f1 f20 (tkF f1 f20 f22) z9 (srt f1 f20 k) (nv f1 f20 (tkF f1 f20 f22) (tkE f1 f20 (tkF f1 f20 f22))))) he174) hD
                          have he175 : (srt f1 f20 k) = (srt f1 f20 (tkF f1 f20 f22)) := by rw [hk]
                          have hP := Eq.mp (congrArg (fun z9 => va_P g.1 vwCl (wT g a f1 f20 (tkF f1 f20 f22) (tkE f1 f20 (tkF f1 f20 f22)) z9 (nv f1 f20 (tkF f1 f20 f22) (tkE f1 f20 (tkF f1 f20 f22)))) H) he175) hP
                          have hD := Eq.mp (congrArg (fun z9 => va_D (va_A (wT g a f1 f20 f21 f22 f23 f24) s.heap.size) (wT g a f1 f20 (tkF f1 f20 f22) (tkE f1 f20 (tkF f1 f20 f22)) z9 (nv f1 f20 (tkF f1 f20 f22) (tkE f1 f20 (tkF f1 f20 f22))))) he175) hD
                          have hP : va_P g.1 vwCl (wT g a f1 f20 (tkF f1 f20 f22) (tkE f1 f20 (tkF f1 f20 f22)) (srt f1 f20 (tkF f1 f20 f22)) (nv f1 f20 (tkF f1 f20 f22) (tkE f1 f20 (tkF f1 f20 f22)))) H := hP
                          have hD : va_D (va_A (wT g a f1 f20 f21 f22 f23 f24) s.heap.size) (wT g a f1 f20 (tkF f1 f20 f22) (tkE f1 f20 (tkF f1 f20 f22)) (srt f1 f20 (tkF f1 f20 f22)) (nv f1 f20 (tkF f1 f20 f22) (tkE f1 f20 (tkF f1 f20 f22)))) := hD
                          exact W.vret hx hb hr (fun t ht hW => ⟨⟨(), rfl, trivial, by rw [ht]; exact hP, hD⟩, hS.F ht⟩) hS.2.2 dX3_nextToken_150
                        · refine lv_aload_n hx hb dX3_nextToken_139 rfl (lv_at hl 0 rfl) ?_
                          refine xu_i (x := iI (nvT f1 k (Int.toNat (j - k)))) (rV (rest := [.ref (a 0)]) hx hb hml hown hts hK hl (c_X3_numberAtHand l g a f1 f20 k j (srt f1 f20 k) f24 (show ∀ j, 0 ≤ f1 j ∧ f1 j ≤ 255 from h1) (show 0 ≤ f20 ∧ f20 ≤ 120 from by omega) (show 0 ≤ k ∧ k ≤ j ∧ j ≤ f20 from by omega) (show ∀ x9, k ≤ x9 → x9 < j → 48 ≤ f1 x9 ∧ f1 x9 ≤ 57 from (by first | (exfalso; omega) | exact (fun x x0 x1 => tk_dig (b := f1) (t := f20) (by omega) (by omega) (srt_D.mpr (by omega)) x0 (by rw [← hj]; exact x1))))) lk_X3_147 hP (va_recv hK.1 hP (ci := 3) (q0 := 0) rfl rfl) rfl rfl rfl (Rm.of rfl) rfl rfl dX3_nextToken_140) ?_
                          refine lv_goto (tgt := 147) hx hb dX3_nextToken_143 (by decide) ?_
                          refine xp_X3 hx hb hts hown hK hP hD hS 0 rfl 5 (by decide) fk_X3_78 rfl (v := .int (iI (nvT f1 k (Int.toNat (j - k))))) rfl rfl (Nat.le_of_ble_eq_true rfl) dX3_nextToken_147 (fun H locs hP hD hS => ?_)
                          have hP : va_P g.1 vwCl (wT g a f1 f20 k j (srt f1 f20 k) (nvT f1 k (Int.toNat (j - k)))) H := hP
                          have hD : va_D (va_A (wT g a f1 f20 f21 f22 f23 f24) s.heap.size) (wT g a f1 f20 k j (srt f1 f20 k) (nvT f1 k (Int.toNat (j - k)))) := hD
                          have he177 : (nvT f1 k (Int.toNat (j - k))) = (nv f1 f20 (tkF f1 f20 f22) (tkE f1 f20 (tkF f1 f20 f22))) := by rw [← hk]; unfold nv; first | (rw [if_pos (srt_D.mpr (by omega)), ← hj]; done) | (rw [if_neg (by rw [srt_D]; omega)]; done) | (exfalso; omega)
                          have hP := Eq.mp (congrArg (fun z9 => va_P g.1 vwCl (wT g a f1 f20 k j (srt f1 f20 k) z9) H) he177) hP
                          have hD := Eq.mp (congrArg (fun z9 => va_D (va_A (wT g a f1 f20 f21 f22 f23 f24) s.heap.size) (wT g a f1 f20 k j (srt f1 f20 k) z9)) he177) hD
                          have he178 : k = (tkF f1 f20 f22) := hk
                          have hP := Eq.mp (congrArg (fun z9 => va_P g.1 vwCl (wT g a f1 f20 z9 j (srt f1 f20 k) (nv f1 f20 (tkF f1 f20 f22) (tkE f1 f20 (tkF f1 f20 f22)))) H) he178) hP
                          have hD := Eq.mp (congrArg (fun z9 => va_D (va_A (wT g a f1 f20 f21 f22 f23 f24) s.heap.size) (wT g a f1 f20 z9 j (srt f1 f20 k) (nv f1 f20 (tkF f1 f20 f22) (tkE f1 f20 (tkF f1 f20 f22))))) he178) hD
                          have he179 : j = (tkE f1 f20 (tkF f1 f20 f22)) := by rw [← hk]; first | exact hj | (rw [tkE_o (by omega) (by omega)]; first | (rw [if_pos (by omega)]; done) | (rw [if_neg (by omega)]; omega) | (exfalso; omega))
                          have hP := Eq.mp (congrArg (fun z9 => va_P g.1 vwCl (wT g a f1 f20 (tkF f1 f20 f22) z9 (srt f1 f20 k) (nv f1 f20 (tkF f1 f20 f22) (tkE f1 f20 (tkF f1 f20 f22)))) H) he179) hP
                          have hD := Eq.mp (congrArg (fun z9 => va_D (va_A (wT g a f1 f20 f21 f22 f23 f24) s.heap.size) (wT g a f1 f20 (tkF f1 f20 f22) z9 (srt f1 f20 k) (nv f1 f20 (tkF f1 f20 f22) (tkE f1 f20 (tkF f1 f20 f22))))) he179) hD
                          have he180 : (srt f1 f20 k) = (srt f1 f20 (tkF f1 f20 f22)) := by rw [hk]
                          have hP := Eq.mp (congrArg (fun z9 => va_P g.1 vwCl (wT g a f1 f20 (tkF f1 f20 f22) (tkE f1 f20 (tkF f1 f20 f22)) z9 (nv f1 f20 (tkF f1 f20 f22) (tkE f1 f20 (tkF f1 f20 f22)))) H) he180) hP
                          have hD := Eq.mp (congrArg (fun z9 => va_D (va_A (wT g a f1 f20 f21 f22 f23 f24) s.heap.size) (wT g a f1 f20 (tkF f1 f20 f22) (tkE f1 f20 (tkF f1 f20 f22)) z9 (nv f1 f20 (tkF f1 f20 f22) (tkE f1 f20 (tkF f1 f20 f22))))) he180) hD
                          have hP : va_P g.1 vwCl (wT g a f1 f20 (tkF f1 f20 f22) (tkE f1 f20 (tkF f1 f20 f22)) (srt f1 f20 (tkF f1 f20 f22)) (nv f1 f20 (tkF f1 f20 f22) (tkE f1 f20 (tkF f1 f20 f22)))) H := hP
                          have hD : va_D (va_A (wT g a f1 f20 f21 f22 f23 f24) s.heap.size) (wT g a f1 f20 (tkF f1 f20 f22) (tkE f1 f20 (tkF f1 f20 f22)) (srt f1 f20 (tkF f1 f20 f22)) (nv f1 f20 (tkF f1 f20 f22) (tkE f1 f20 (tkF f1 f20 f22)))) := hD
                          exact W.vret hx hb hr (fun t ht hW => ⟨⟨(), rfl, trivial, by rw [ht]; exact hP, hD⟩, hS.F ht⟩) hS.2.2 dX3_nextToken_150
                      · refine lv_aload_n hx hb dX3_nextToken_117 rfl (lv_at hl 0 rfl) ?_
                        refine lv_dup hx hb dX3_nextToken_118 rfl ?_
                        refine xg_X3 hx hb hts hown hK hP 0 rfl 3 (by decide) fk_X3_19 (v := .int (iI j)) rfl dX3_nextToken_119 ?_
                        refine lv_iconst (v := iI (1)) hx hb dX3_nextToken_122 (by decide) ?_
                        refine xi_add hx hb dX3_nextToken_123 ?_
                        refine xp_X3 hx hb hts hown hK hP hD hS 0 rfl 3 (by decide) fk_X3_19 rfl (v := .int (iI (j + 1))) rfl rfl (Nat.le_of_ble_eq_true rfl) dX3_nextToken_124 (fun H locs hP hD hS => ?_)
                        have hP : va_P g.1 vwCl (wT g a f1 f20 k (j + 1) (srt f1 f20 k) f24) H := hP
                        have hD : va_D (va_A (wT g a f1 f20 f21 f22 f23 f24) s.heap.size) (wT g a f1 f20 k (j + 1) (srt f1 f20 k) f24) := hD
                        refine lv_goto (tgt := 91) hx hb dX3_nextToken_127 (by decide) ?_
                        exact ih91 (j + 1) (n - 1) ⟨by omega, by omega⟩ (by rw [rn_sort (by omega) (by assumption) (by omega)]; exact i91_2) (by omega) (by omega) (by omega) ls (lv_sub hl [0] rfl) H locs hP hD hS
                exact lp91 (120 + 1) f20 121 (by omega) (by first | exact rn_tk (by omega) | (exfalso; omega)) (by omega) (by omega) (by omega) ls (lv_sub hl [0] rfl) H locs hP hD hS
          · rw [e122]
            refine xp_X3 hx hb hts hown hK hP hD hS 0 rfl 3 (by decide) fk_X3_19 rfl (v := .int (iI (k + 1))) rfl rfl (Nat.le_of_ble_eq_true rfl) dX3_nextToken_72 (fun H locs hP hD hS => ?_)
            have hP : va_P g.1 vwCl (wT g a f1 f20 k (k + 1) (srt f1 f20 k) f24) H := hP
            have hD : va_D (va_A (wT g a f1 f20 f21 f22 f23 f24) s.heap.size) (wT g a f1 f20 k (k + 1) (srt f1 f20 k) f24) := hD
            refine lv_aload_n hx hb dX3_nextToken_75 rfl (lv_at hl 0 rfl) ?_
            refine xg_X3 hx hb hts hown hK hP 0 rfl 4 (by decide) fk_X3_32 (v := .int (iI (srt f1 f20 k))) rfl dX3_nextToken_76 ?_
            refine lv_iconst (v := iI (1)) hx hb dX3_nextToken_79 (by decide) ?_
            refine xi_c_eq (tgt := 91) hx hb ⟨by omega, by omega⟩ ⟨by decide, by decide⟩ dX3_nextToken_80 (by decide) (fun z181 => ?_) (fun z181 => ?_)
            · have lp91 : ∀ (n91 : Nat) (j : Int) (n : Nat), (0 ≤ j ∧ j ≤ f20) → (rnW f1 f20 (if srt f1 f20 k = 1 then 1 else 0) (if srt f1 f20 k = 2 then 1 else 0) n j = tkE f1 f20 k) → (f20 - j < n) → (k < j) → (f20 - j).toNat < n91 → ∀ ls : Array Slot, lv_has ls 1 [(0, .ref (a 0))] → ∀ (H : Heap) (locs : List Loc), va_P g.1 vwCl (wT g a f1 f20 k j (srt f1 f20 k) f24) H → va_D (va_A (wT g a f1 f20 f21 f22 f23 f24) s.heap.size) (wT g a f1 f20 k j (srt f1 f20 k) f24) → va_S (va_A (wT g a f1 f20 f21 f22 f23 f24) s.heap.size) s.heap H locs → W pq l eq rm_X3_nextToken s mq [.ref (a 0)].toArray below meth cq H locs 0 0 (MQ below (QMv g (fun _ : Unit => wT g a f1 f20 (tkF f1 f20 f22) (tkE f1 f20 (tkF f1 f20 f22)) (srt f1 f20 (tkF f1 f20 f22)) (nv f1 f20 (tkF f1 f20 f22) (tkE f1 f20 (tkF f1 f20 f22)))) (fun _ => True) (va_A (wT g a f1 f20 f21 f22 f23 f24) s.heap.size)) [.ref (a 0)].toArray s 0 0 (va_A (wT g a f1 f20 f21 f22 f23 f24) s.heap.size)) (F0 mq 91 ls []) := by
                intro n91
                induction n91 with
                | zero => intro j n i91_1 i91_2 i91_3 i91_4 hm; exact absurd hm (Nat.not_lt_zero _)
                | succ n91 ih91 =>
                  intro j n i91_1 i91_2 i91_3 i91_4 hm91 ls hl H locs hP hD hS
                  have hsj := srt_c f1 f20 j
                  refine lv_aload_n hx hb dX3_nextToken_91 rfl (lv_at hl 0 rfl) ?_
                  refine xg_X3 hx hb hts hown hK hP 0 rfl 3 (by decide) fk_X3_19 (v := .int (iI j)) rfl dX3_nextToken_92 ?_
                  refine lv_aload_n hx hb dX3_nextToken_95 rfl (lv_at hl 0 rfl) ?_
                  refine xg_X3 hx hb hts hown hK hP 0 rfl 1 (by decide) fk_X3_15 (v := .int (iI f20)) rfl dX3_nextToken_96 ?_
                  refine xi_c_ge (tgt := 130) hx hb ⟨by omega, by omega⟩ ⟨by omega, by omega⟩ dX3_nextToken_99 (by decide) (fun z182 => ?_) (fun z182 => ?_)
                  · have hj : j = tkE f1 f20 k := by rw [← i91_2]; exact (rn_stop n (by omega)).symm
                    refine lv_aload_n hx hb dX3_nextToken_130 rfl (lv_at hl 0 rfl) ?_
                    refine lv_aload_n hx hb dX3_nextToken_131 rfl (lv_at hl 0 rfl) ?_
                    refine xg_X3 hx hb hts hown hK hP 0 rfl 4 (by decide) fk_X3_32 (v := .int (iI (srt f1 f20 k))) rfl dX3_nextToken_132 ?_
                    refine lv_iconst (v := iI (2)) hx hb dX3_nextToken_135 (by decide) ?_
                    refine xi_c_ne (tgt := 146) hx hb ⟨by omega, by omega⟩ ⟨by decide, by decide⟩ dX3_nextToken_136 (by decide) (fun z183 => ?_) (fun z183 => ?_)
                    · refine lv_iconst (v := iI (0)) hx hb dX3_nextToken_146 (by decide) ?_
                      refine xp_X3 hx hb hts hown hK hP hD hS 0 rfl 5 (by decide) fk_X3_78 rfl (v := .int (iI 0)) rfl rfl (Nat.le_of_ble_eq_true rfl) dX3_nextToken_147 (fun H locs hP hD hS => ?_)
                      have hP : va_P g.1 vwCl (wT g a f1 f20 k j (srt f1 f20 k) 0) H := hP
                      have hD : va_D (va_A (wT g a f1 f20 f21 f22 f23 f24) s.heap.size) (wT g a f1 f20 k j (srt f1 f20 k) 0) := hD
                      have he184 : 0 = (nv f1 f20 (tkF f1 f20 f22) (tkE f1 f20 (tkF f1 f20 f22))) := by rw [← hk]; unfold nv; first | (rw [if_pos (srt_D.mpr (by omega)), ← hj]; done) | (rw [if_neg (by rw [srt_D]; omega)]; done) | (exfalso; omega)
                      have hP := Eq.mp (congrArg (fun z9 => va_P g.1 vwCl (wT g a f1 f20 k j (srt f1 f20 k) z9) H) he184) hP
                      have hD := Eq.mp (congrArg (fun z9 => va_D (va_A (wT g a f1 f20 f21 f22 f23 f24) s.heap.size) (wT g a f1 f20 k j (srt f1 f20 k) z9)) he184) hD
                      have he185 : k = (tkF f1 f20 f22) := hk
                      have hP := Eq.mp (congrArg (fun z9 => va_P g.1 vwCl (wT g a f1 f20 z9 j (srt f1 f20 k) (nv f1 f20 (tkF f1 f20 f22) (tkE f1 f20 (tkF f1 f20 f22)))) H) he185) hP
                      have hD := Eq.mp (congrArg (fun z9 => va_D (va_A (wT g a f1 f20 f21 f22 f23 f24) s.heap.size) (wT g a f1 f20 z9 j (srt f1 f20 k) (nv f1 f20 (tkF f1 f20 f22) (tkE f1 f20 (tkF f1 f20 f22))))) he185) hD
                      have he186 : j = (tkE f1 f20 (tkF f1 f20 f22)) := by rw [← hk]; first | exact hj | (rw [tkE_o (by omega) (by omega)]; first | (rw [if_pos (by omega)]; done) | (rw [if_neg (by omega)]; omega) | (exfalso; omega))
                      have hP := Eq.mp (congrArg (fun z9 => va_P g.1 vwCl (wT g a f1 f20 (tkF f1 f20 f22) z9 (srt f1 f20 k) (nv f1 f20 (tkF f1 f20 f22) (tkE f1 f20 (tkF f1 f20 f22)))) H) he186) hP
                      have hD := Eq.mp (congrArg (fun z9 => va_D (va_A (wT g a f1 f20 f21 f22 f23 f24) s.heap.size) (wT g a f1 f20 (tkF f1 f20 f22) z9 (srt f1 f20 k) (nv f1 f20 (tkF f1 f20 f22) (tkE f1 f20 (tkF f1 f20 f22))))) he186) hD
                      have he187 : (srt f1 f20 k) = (srt f1 f20 (tkF f1 f20 f22)) := by rw [hk]
                      have hP := Eq.mp (congrArg (fun z9 => va_P g.1 vwCl (wT g a f1 f20 (tkF f1 f20 f22) (tkE f1 f20 (tkF f1 f20 f22)) z9 (nv f1 f20 (tkF f1 f20 f22) (tkE f1 f20 (tkF f1 f20 f22)))) H) he187) hP
                      have hD := Eq.mp (congrArg (fun z9 => va_D (va_A (wT g a f1 f20 f21 f22 f23 f24) s.heap.size) (wT g a f1 f20 (tkF f1 f20 f22) (tkE f1 f20 (tkF f1 f20 f22)) z9 (nv f1 f20 (tkF f1 f20 f22) (tkE f1 f20 (tkF f1 f20 f22))))) he187) hD
                      have hP : va_P g.1 vwCl (wT g a f1 f20 (tkF f1 f20 f22) (tkE f1 f20 (tkF f1 f20 f22)) (srt f1 f20 (tkF f1 f20 f22)) (nv f1 f20 (tkF f1 f20 f22) (tkE f1 f20 (tkF f1 f20 f22)))) H := hP
                      have hD : va_D (va_A (wT g a f1 f20 f21 f22 f23 f24) s.heap.size) (wT g a f1 f20 (tkF f1 f20 f22) (tkE f1 f20 (tkF f1 f20 f22)) (srt f1 f20 (tkF f1 f20 f22)) (nv f1 f20 (tkF f1 f20 f22) (tkE f1 f20 (tkF f1 f20 f22)))) := hD
                      exact W.vret hx hb hr (fun t ht hW => ⟨⟨(), rfl, trivial, by rw [ht]; exact hP, hD⟩, hS.F ht⟩) hS.2.2 dX3_nextToken_150
                    · refine lv_aload_n hx hb dX3_nextToken_139 rfl (lv_at hl 0 rfl) ?_
                      refine xu_i (x := iI (nvT f1 k (Int.toNat (j - k)))) (rV (rest := [.ref (a 0)]) hx hb hml hown hts hK hl (c_X3_numberAtHand l g a f1 f20 k j (srt f1 f20 k) f24 (show ∀ j, 0 ≤ f1 j ∧ f1 j ≤ 255 from h1) (show 0 ≤ f20 ∧ f20 ≤ 120 from by omega) (show 0 ≤ k ∧ k ≤ j ∧ j ≤ f20 from by omega) (show ∀ x9, k ≤ x9 → x9 < j → 48 ≤ f1 x9 ∧ f1 x9 ≤ 57 from (by first | (exfalso; omega) | exact (fun x x0 x1 => tk_dig (b := f1) (t := f20) (by omega) (by omega) (srt_D.mpr (by omega)) x0 (by rw [← hj]; exact x1))))) lk_X3_147 hP (va_recv hK.1 hP (ci := 3) (q0 := 0) rfl rfl) rfl rfl rfl (Rm.of rfl) rfl rfl dX3_nextToken_140) ?_
                      refine lv_goto (tgt := 147) hx hb dX3_nextToken_143 (by decide) ?_
                      refine xp_X3 hx hb hts hown hK hP hD hS 0 rfl 5 (by decide) fk_X3_78 rfl (v := .int (iI (nvT f1 k (Int.toNat (j - k))))) rfl rfl (Nat.le_of_ble_eq_true rfl) dX3_nextToken_147 (fun H locs hP hD hS => ?_)
                      have hP : va_P g.1 vwCl (wT g a f1 f20 k j (srt f1 f20 k) (nvT f1 k (Int.toNat (j - k)))) H := hP
                      have hD : va_D (va_A (wT g a f1 f20 f21 f22 f23 f24) s.heap.size) (wT g a f1 f20 k j (srt f1 f20 k) (nvT f1 k (Int.toNat (j - k)))) := hD
                      have he189 : (nvT f1 k (Int.toNat (j - k))) = (nv f1 f20 (tkF f1 f20 f22) (tkE f1 f20 (tkF f1 f20 f22))) := by rw [← hk]; unfold nv; first | (rw [if_pos (srt_D.mpr (by omega)), ← hj]; done) | (rw [if_neg (by rw [srt_D]; omega)]; done) | (exfalso; omega)
                      have hP := Eq.mp (congrArg (fun z9 => va_P g.1 vwCl (wT g a f1 f20 k j (srt f1 f20 k) z9) H) he189) hP
                      have hD := Eq.mp (congrArg (fun z9 => va_D (va_A (wT g a f1 f20 f21 f22 f23 f24) s.heap.size) (wT g a f1 f20 k j (srt f1 f20 k) z9)) he189) hD
                      have he190 : k = (tkF f1 f20 f22) := hk
                      have hP := Eq.mp (congrArg (fun z9 => va_P g.1 vwCl (wT g a f1 f20 z9 j (srt f1 f20 k) (nv f1 f20 (tkF f1 f20 f22) (tkE f1 f20 (tkF f1 f20 f22)))) H) he190) hP
                      have hD := Eq.mp (congrArg (fun z9 => va_D (va_A (wT g a f1 f20 f21 f22 f23 f24) s.heap.size) (wT g a f1 f20 z9 j (srt f1 f20 k) (nv f1 f20 (tkF f1 f20 f22) (tkE f1 f20 (tkF f1 f20 f22))))) he190) hD
                      have he191 : j = (tkE f1 f20 (tkF f1 f20 f22)) := by rw [← hk]; first | exact hj | (rw [tkE_o (by omega) (by omega)]; first | (rw [if_pos (by omega)]; done) | (rw [if_neg (by omega)]; omega) | (exfalso; omega))
                      have hP := Eq.mp (congrArg (fun z9 => va_P g.1 vwCl (wT g a f1 f20 (tkF f1 f20 f22) z9 (srt f1 f20 k) (nv f1 f20 (tkF f1 f20 f22) (tkE f1 f20 (tkF f1 f20 f22)))) H) he191) hP
                      have hD := Eq.mp (congrArg (fun z9 => va_D (va_A (wT g a f1 f20 f21 f22 f23 f24) s.heap.size) (wT g a f1 f20 (tkF f1 f20 f22) z9 (srt f1 f20 k) (nv f1 f20 (tkF f1 f20 f22) (tkE f1 f20 (tkF f1 f20 f22))))) he191) hD
                      have he192 : (srt f1 f20 k) = (srt f1 f20 (tkF f1 f20 f22)) := by rw [hk]
                      have hP := Eq.mp (congrArg (fun z9 => va_P g.1 vwCl (wT g a f1 f20 (tkF f1 f20 f22) (tkE f1 f20 (tkF f1 f20 f22)) z9 (nv f1 f20 (tkF f1 f20 f22) (tkE f1 f20 (tkF f1 f20 f22)))) H) he192) hP
                      have hD := Eq.mp (congrArg (fun z9 => va_D (va_A (wT g a f1 f20 f21 f22 f23 f24) s.heap.size) (wT g a f1 f20 (tkF f1 f20 f22) (tkE f1 f20 (tkF f1 f20 f22)) z9 (nv f1 f20 (tkF f1 f20 f22) (tkE f1 f20 (tkF f1 f20 f22))))) he192) hD
                      have hP : va_P g.1 vwCl (wT g a f1 f20 (tkF f1 f20 f22) (tkE f1 f20 (tkF f1 f20 f22)) (srt f1 f20 (tkF f1 f20 f22)) (nv f1 f20 (tkF f1 f20 f22) (tkE f1 f20 (tkF f1 f20 f22)))) H := hP
                      have hD : va_D (va_A (wT g a f1 f20 f21 f22 f23 f24) s.heap.size) (wT g a f1 f20 (tkF f1 f20 f22) (tkE f1 f20 (tkF f1 f20 f22)) (srt f1 f20 (tkF f1 f20 f22)) (nv f1 f20 (tkF f1 f20 f22) (tkE f1 f20 (tkF f1 f20 f22)))) := hD
                      exact W.vret hx hb hr (fun t ht hW => ⟨⟨(), rfl, trivial, by rw [ht]; exact hP, hD⟩, hS.F ht⟩) hS.2.2 dX3_nextToken_150
                  · refine lv_aload_n hx hb dX3_nextToken_102 rfl (lv_at hl 0 rfl) ?_
                    refine lv_aload_n hx hb dX3_nextToken_103 rfl (lv_at hl 0 rfl) ?_
                    refine xg_X3 hx hb hts hown hK hP 0 rfl 3 (by decide) fk_X3_19 (v := .int (iI j)) rfl dX3_nextToken_104 ?_
                    refine xu_i (x := iI (srt f1 f20 j)) (rV (rest := []) hx hb hml hown hts hK hl (c_X3_sortAt l g a f1 f20 k j (srt f1 f20 k) f24 j (show ∀ j, 0 ≤ f1 j ∧ f1 j ≤ 255 from h1) (show 0 ≤ f20 ∧ f20 ≤ 120 from by omega) (show 0 ≤ j ∧ j ≤ 121 from by omega)) lk_X3_138 hP (va_recv hK.1 hP (ci := 3) (q0 := 0) rfl rfl) rfl rfl rfl (Rm.of rfl) rfl rfl dX3_nextToken_107) ?_
                    refine lv_aload_n hx hb dX3_nextToken_110 rfl (lv_at hl 0 rfl) ?_
                    refine xg_X3 hx hb hts hown hK hP 0 rfl 4 (by decide) fk_X3_32 (v := .int (iI (srt f1 f20 k))) rfl dX3_nextToken_111 ?_
                    refine xi_c_ne (tgt := 130) hx hb ⟨by omega, by omega⟩ ⟨by omega, by omega⟩ dX3_nextToken_114 (by decide) (fun z194 => ?_) (fun z194 => ?_)
                    · have hj : j = tkE f1 f20 k := by rw [← i91_2]; exact (rn_stop n (by assumption)).symm
                      refine lv_aload_n hx hb dX3_nextToken_130 rfl (lv_at hl 0 rfl) ?_
                      refine lv_aload_n hx hb dX3_nextToken_131 rfl (lv_at hl 0 rfl) ?_
                      refine xg_X3 hx hb hts hown hK hP 0 rfl 4 (by decide) fk_X3_32 (v := .int (iI (srt f1 f20 k))) rfl dX3_nextToken_132 ?_
                      refine lv_iconst (v := iI (2)) hx hb dX3_nextToken_135 (by decide) ?_
                      refine xi_c_ne (tgt := 146) hx hb ⟨by omega, by omega⟩ ⟨by decide, by decide⟩ dX3_nextToken_136 (by decide) (fun z195 => ?_) (fun z195 => ?_)
                      · refine lv_iconst (v := iI (0)) hx hb dX3_nextToken_146 (by decide) ?_
                        refine xp_X3 hx hb hts hown hK hP hD hS 0 rfl 5 (by decide) fk_X3_78 rfl (v := .int (iI 0)) rfl rfl (Nat.le_of_ble_eq_true rfl) dX3_nextToken_147 (fun H locs hP hD hS => ?_)
                        have hP : va_P g.1 vwCl (wT g a f1 f20 k j (srt f1 f20 k) 0) H := hP
                        have hD : va_D (va_A (wT g a f1 f20 f21 f22 f23 f24) s.heap.size) (wT g a f1 f20 k j (srt f1 f20 k) 0) := hD
                        have he196 : 0 = (nv f1 f20 (tkF f1 f20 f22) (tkE f1 f20 (tkF f1 f20 f22))) := by rw [← hk]; unfold nv; first | (rw [if_pos (srt_D.mpr (by omega)), ← hj]; done) | (rw [if_neg (by rw [srt_D]; omega)]; done) | (exfalso; omega)
                        have hP := Eq.mp (congrArg (fun z9 => va_P g.1 vwCl (wT g a f1 f20 k j (srt f1 f20 k) z9) H) he196) hP
                        have hD := Eq.mp (congrArg (fun z9 => va_D (va_A (wT g a f1 f20 f21 f22 f23 f24) s.heap.size) (wT g a f1 f20 k j (srt f1 f20 k) z9)) he196) hD
                        have he197 : k = (tkF f1 f20 f22) := hk
                        have hP := Eq.mp (congrArg (fun z9 => va_P g.1 vwCl (wT g a f1 f20 z9 j (srt f1 f20 k) (nv f1 f20 (tkF f1 f20 f22) (tkE f1 f20 (tkF f1 f20 f22)))) H) he197) hP
                        have hD := Eq.mp (congrArg (fun z9 => va_D (va_A (wT g a f1 f20 f21 f22 f23 f24) s.heap.size) (wT g a f1 f20 z9 j (srt f1 f20 k) (nv f1 f20 (tkF f1 f20 f22) (tkE f1 f20 (tkF f1 f20 f22))))) he197) hD
                        have he198 : j = (tkE f1 f20 (tkF f1 f20 f22)) := by rw [← hk]; first | exact hj | (rw [tkE_o (by omega) (by omega)]; first | (rw [if_pos (by omega)]; done) | (rw [if_neg (by omega)]; omega) | (exfalso; omega))
                        have hP := Eq.mp (congrArg (fun z9 => va_P g.1 vwCl (wT g a f1 f20 (tkF f1 f20 f22) z9 (srt f1 f20 k) (nv f1 f20 (tkF f1 f20 f22) (tkE f1 f20 (tkF f1 f20 f22)))) H) he198) hP
                        have hD := Eq.mp (congrArg (fun z9 => va_D (va_A (wT g a f1 f20 f21 f22 f23 f24) s.heap.size) (wT g a f1 f20 (tkF f1 f20 f22) z9 (srt f1 f20 k) (nv f1 f20 (tkF f1 f20 f22) (tkE f1 f20 (tkF f1 f20 f22))))) he198) hD
                        have he199 : (srt f1 f20 k) = (srt f1 f20 (tkF f1 f20 f22)) := by rw [hk]
                        have hP := Eq.mp (congrArg (fun z9 => va_P g.1 vwCl (wT g a f1 f20 (tkF f1 f20 f22) (tkE f1 f20 (tkF f1 f20 f22)) z9 (nv f1 f20 (tkF f1 f20 f22) (tkE f1 f20 (tkF f1 f20 f22)))) H) he199) hP
                        have hD := Eq.mp (congrArg (fun z9 => va_D (va_A (wT g a f1 f20 f21 f22 f23 f24) s.heap.size) (wT g a f1 f20 (tkF f1 f20 f22) (tkE f1 f20 (tkF f1 f20 f22)) z9 (nv f1 f20 (tkF f1 f20 f22) (tkE f1 f20 (tkF f1 f20 f22))))) he199) hD
                        have hP : va_P g.1 vwCl (wT g a f1 f20 (tkF f1 f20 f22) (tkE f1 f20 (tkF f1 f20 f22)) (srt f1 f20 (tkF f1 f20 f22)) (nv f1 f20 (tkF f1 f20 f22) (tkE f1 f20 (tkF f1 f20 f22)))) H := hP
                        have hD : va_D (va_A (wT g a f1 f20 f21 f22 f23 f24) s.heap.size) (wT g a f1 f20 (tkF f1 f20 f22) (tkE f1 f20 (tkF f1 f20 f22)) (srt f1 f20 (tkF f1 f20 f22)) (nv f1 f20 (tkF f1 f20 f22) (tkE f1 f20 (tkF f1 f20 f22)))) := hD
                        exact W.vret hx hb hr (fun t ht hW => ⟨⟨(), rfl, trivial, by rw [ht]; exact hP, hD⟩, hS.F ht⟩) hS.2.2 dX3_nextToken_150
                      · refine lv_aload_n hx hb dX3_nextToken_139 rfl (lv_at hl 0 rfl) ?_
                        refine xu_i (x := iI (nvT f1 k (Int.toNat (j - k)))) (rV (rest := [.ref (a 0)]) hx hb hml hown hts hK hl (c_X3_numberAtHand l g a f1 f20 k j (srt f1 f20 k) f24 (show ∀ j, 0 ≤ f1 j ∧ f1 j ≤ 255 from h1) (show 0 ≤ f20 ∧ f20 ≤ 120 from by omega) (show 0 ≤ k ∧ k ≤ j ∧ j ≤ f20 from by omega) (show ∀ x9, k ≤ x9 → x9 < j → 48 ≤ f1 x9 ∧ f1 x9 ≤ 57 from (by first | (exfalso; omega) | exact (fun x x0 x1 => tk_dig (b := f1) (t := f20) (by omega) (by omega) (srt_D.mpr (by omega)) x0 (by rw [← hj]; exact x1))))) lk_X3_147 hP (va_recv hK.1 hP (ci := 3) (q0 := 0) rfl rfl) rfl rfl rfl (Rm.of rfl) rfl rfl dX3_nextToken_140) ?_
                        refine lv_goto (tgt := 147) hx hb dX3_nextToken_143 (by decide) ?_
                        refine xp_X3 hx hb hts hown hK hP hD hS 0 rfl 5 (by decide) fk_X3_78 rfl (v := .int (iI (nvT f1 k (Int.toNat (j - k))))) rfl rfl (Nat.le_of_ble_eq_true rfl) dX3_nextToken_147 (fun H locs hP hD hS => ?_)
                        have hP : va_P g.1 vwCl (wT g a f1 f20 k j (srt f1 f20 k) (nvT f1 k (Int.toNat (j - k)))) H := hP
                        have hD : va_D (va_A (wT g a f1 f20 f21 f22 f23 f24) s.heap.size) (wT g a f1 f20 k j (srt f1 f20 k) (nvT f1 k (Int.toNat (j - k)))) := hD
                        have he201 : (nvT f1 k (Int.toNat (j - k))) = (nv f1 f20 (tkF f1 f20 f22) (tkE f1 f20 (tkF f1 f20 f22))) := by rw [← hk]; unfold nv; first | (rw [if_pos (srt_D.mpr (by omega)), ← hj]; done) | (rw [if_neg (by rw [srt_D]; omega)]; done) | (exfalso; omega)
                        have hP := Eq.mp (congrArg (fun z9 => va_P g.1 vwCl (wT g a f1 f20 k j (srt f1 f20 k) z9) H) he201) hP
                        have hD := Eq.mp (congrArg (fun z9 => va_D (va_A (wT g a f1 f20 f21 f22 f23 f24) s.heap.size) (wT g a f1 f20 k j (srt f1 f20 k) z9)) he201) hD
                        have he202 : k = (tkF f1 f20 f22) := hk
                        have hP := Eq.mp (congrArg (fun z9 => va_P g.1 vwCl (wT g a f1 f20 z9 j (srt f1 f20 k) (nv f1 f20 (tkF f1 f20 f22) (tkE f1 f20 (tkF f1 f20 f22)))) H) he202) hP
                        have hD := Eq.mp (congrArg (fun z9 => va_D (va_A (wT g a f1 f20 f21 f22 f23 f24) s.heap.size) (wT g a f1 f20 z9 j (srt f1 f20 k) (nv f1 f20 (tkF f1 f20 f22) (tkE f1 f20 (tkF f1 f20 f22))))) he202) hD
                        have he203 : j = (tkE f1 f20 (tkF f1 f20 f22)) := by rw [← hk]; first | exact hj | (rw [tkE_o (by omega) (by omega)]; first | (rw [if_pos (by omega)]; done) | (rw [if_neg (by omega)]; omega) | (exfalso; omega))
                        have hP := Eq.mp (congrArg (fun z9 => va_P g.1 vwCl (wT g a f1 f20 (tkF f1 f20 f22) z9 (srt f1 f20 k) (nv f1 f20 (tkF f1 f20 f22) (tkE f1 f20 (tkF f1 f20 f22)))) H) he203) hP
                        have hD := Eq.mp (congrArg (fun z9 => va_D (va_A (wT g a f1 f20 f21 f22 f23 f24) s.heap.size) (wT g a f1 f20 (tkF f1 f20 f22) z9 (srt f1 f20 k) (nv f1 f20 (tkF f1 f20 f22) (tkE f1 f20 (tkF f1 f20 f22))))) he203) hD
                        have he204 : (srt f1 f20 k) = (srt f1 f20 (tkF f1 f20 f22)) := by rw [hk]
                        have hP := Eq.mp (congrArg (fun z9 => va_P g.1 vwCl (wT g a f1 f20 (tkF f1 f20 f22) (tkE f1 f20 (tkF f1 f20 f22)) z9 (nv f1 f20 (tkF f1 f20 f22) (tkE f1 f20 (tkF f1 f20 f22)))) H) he204) hP
                        have hD := Eq.mp (congrArg (fun z9 => va_D (va_A (wT g a f1 f20 f21 f22 f23 f24) s.heap.size) (wT g a f1 f20 (tkF f1 f20 f22) (tkE f1 f20 (tkF f1 f20 f22)) z9 (nv f1 f20 (tkF f1 f20 f22) (tkE f1 f20 (tkF f1 f20 f22))))) he204) hD
                        have hP : va_P g.1 vwCl (wT g a f1 f20 (tkF f1 f20 f22) (tkE f1 f20 (tkF f1 f20 f22)) (srt f1 f20 (tkF f1 f20 f22)) (nv f1 f20 (tkF f1 f20 f22) (tkE f1 f20 (tkF f1 f20 f22)))) H := hP
                        have hD : va_D (va_A (wT g a f1 f20 f21 f22 f23 f24) s.heap.size) (wT g a f1 f20 (tkF f1 f20 f22) (tkE f1 f20 (tkF f1 f20 f22)) (srt f1 f20 (tkF f1 f20 f22)) (nv f1 f20 (tkF f1 f20 f22) (tkE f1 f20 (tkF f1 f20 f22)))) := hD
                        exact W.vret hx hb hr (fun t ht hW => ⟨⟨(), rfl, trivial, by rw [ht]; exact hP, hD⟩, hS.F ht⟩) hS.2.2 dX3_nextToken_150
                    · refine lv_aload_n hx hb dX3_nextToken_117 rfl (lv_at hl 0 rfl) ?_
                      refine lv_dup hx hb dX3_nextToken_118 rfl ?_
                      refine xg_X3 hx hb hts hown hK hP 0 rfl 3 (by decide) fk_X3_19 (v := .int (iI j)) rfl dX3_nextToken_119 ?_
                      refine lv_iconst (v := iI (1)) hx hb dX3_nextToken_122 (by decide) ?_
                      refine xi_add hx hb dX3_nextToken_123 ?_
                      refine xp_X3 hx hb hts hown hK hP hD hS 0 rfl 3 (by decide) fk_X3_19 rfl (v := .int (iI (j + 1))) rfl rfl (Nat.le_of_ble_eq_true rfl) dX3_nextToken_124 (fun H locs hP hD hS => ?_)
                      have hP : va_P g.1 vwCl (wT g a f1 f20 k (j + 1) (srt f1 f20 k) f24) H := hP
                      have hD : va_D (va_A (wT g a f1 f20 f21 f22 f23 f24) s.heap.size) (wT g a f1 f20 k (j + 1) (srt f1 f20 k) f24) := hD
                      refine lv_goto (tgt := 91) hx hb dX3_nextToken_127 (by decide) ?_
                      exact ih91 (j + 1) (n - 1) ⟨by omega, by omega⟩ (by rw [rn_sort (by omega) (by assumption) (by omega)]; exact i91_2) (by omega) (by omega) (by omega) ls (lv_sub hl [0] rfl) H locs hP hD hS
              exact lp91 (120 + 1) (k + 1) 121 (by omega) (by first | exact rn_tk (by omega) | (exfalso; omega)) (by omega) (by omega) (by omega) ls (lv_sub hl [0] rfl) H locs hP hD hS
            · refine lv_aload_n hx hb dX3_nextToken_83 rfl (lv_at hl 0 rfl) ?_
              refine xg_X3 hx hb hts hown hK hP 0 rfl 4 (by decide) fk_X3_32 (v := .int (iI (srt f1 f20 k))) rfl dX3_nextToken_84 ?_
              refine lv_iconst (v := iI (2)) hx hb dX3_nextToken_87 (by decide) ?_
              refine xi_c_ne (tgt := 130) hx hb ⟨by omega, by omega⟩ ⟨by decide, by decide⟩ dX3_nextToken_88 (by decide) (fun z205 => ?_) (fun z205 => ?_)
              · refine lv_aload_n hx hb dX3_nextToken_130 rfl (lv_at hl 0 rfl) ?_
                refine lv_aload_n hx hb dX3_nextToken_131 rfl (lv_at hl 0 rfl) ?_
                refine xg_X3 hx hb hts hown hK hP 0 rfl 4 (by decide) fk_X3_32 (v := .int (iI (srt f1 f20 k))) rfl dX3_nextToken_132 ?_
                refine lv_iconst (v := iI (2)) hx hb dX3_nextToken_135 (by decide) ?_
                refine xi_c_ne (tgt := 146) hx hb ⟨by omega, by omega⟩ ⟨by decide, by decide⟩ dX3_nextToken_136 (by decide) (fun z206 => ?_) (fun z206 => ?_)
                · refine lv_iconst (v := iI (0)) hx hb dX3_nextToken_146 (by decide) ?_
                  refine xp_X3 hx hb hts hown hK hP hD hS 0 rfl 5 (by decide) fk_X3_78 rfl (v := .int (iI 0)) rfl rfl (Nat.le_of_ble_eq_true rfl) dX3_nextToken_147 (fun H locs hP hD hS => ?_)
                  have hP : va_P g.1 vwCl (wT g a f1 f20 k (k + 1) (srt f1 f20 k) 0) H := hP
                  have hD : va_D (va_A (wT g a f1 f20 f21 f22 f23 f24) s.heap.size) (wT g a f1 f20 k (k + 1) (srt f1 f20 k) 0) := hD
                  have he207 : 0 = (nv f1 f20 (tkF f1 f20 f22) (tkE f1 f20 (tkF f1 f20 f22))) := by rw [← hk]; unfold nv; first | (rw [if_pos (srt_D.mpr (by omega)), ← hj]; done) | (rw [if_neg (by rw [srt_D]; omega)]; done) | (exfalso; omega)
                  have hP := Eq.mp (congrArg (fun z9 => va_P g.1 vwCl (wT g a f1 f20 k (k + 1) (srt f1 f20 k) z9) H) he207) hP
                  have hD := Eq.mp (congrArg (fun z9 => va_D (va_A (wT g a f1 f20 f21 f22 f23 f24) s.heap.size) (wT g a f1 f20 k (k + 1) (srt f1 f20 k) z9)) he207) hD
                  have he208 : k = (tkF f1 f20 f22) := hk
                  have hP := Eq.mp (congrArg (fun z9 => va_P g.1 vwCl (wT g a f1 f20 z9 (k + 1) (srt f1 f20 k) (nv f1 f20 (tkF f1 f20 f22) (tkE f1 f20 (tkF f1 f20 f22)))) H) he208) hP
                  have hD := Eq.mp (congrArg (fun z9 => va_D (va_A (wT g a f1 f20 f21 f22 f23 f24) s.heap.size) (wT g a f1 f20 z9 (k + 1) (srt f1 f20 k) (nv f1 f20 (tkF f1 f20 f22) (tkE f1 f20 (tkF f1 f20 f22))))) he208) hD
                  have he209 : (k + 1) = (tkE f1 f20 (tkF f1 f20 f22)) := by rw [← hk]; first | exact hj | (rw [tkE_o (by omega) (by omega)]; first | (rw [if_pos (by omega)]; done) | (rw [if_neg (by omega)]; omega) | (exfalso; omega))
                  have hP := Eq.mp (congrArg (fun z9 => va_P g.1 vwCl (wT g a f1 f20 (tkF f1 f20 f22) z9 (srt f1 f20 k) (nv f1 f20 (tkF f1 f20 f22) (tkE f1 f20 (tkF f1 f20 f22)))) H) he209) hP
                  have hD := Eq.mp (congrArg (fun z9 => va_D (va_A (wT g a f1 f20 f21 f22 f23 f24) s.heap.size) (wT g a f1 f20 (tkF f1 f20 f22) z9 (srt f1 f20 k) (nv f1 f20 (tkF f1 f20 f22) (tkE f1 f20 (tkF f1 f20 f22))))) he209) hD
                  have he210 : (srt f1 f20 k) = (srt f1 f20 (tkF f1 f20 f22)) := by rw [hk]
                  have hP := Eq.mp (congrArg (fun z9 => va_P g.1 vwCl (wT g a f1 f20 (tkF f1 f20 f22) (tkE f1 f20 (tkF f1 f20 f22)) z9 (nv f1 f20 (tkF f1 f20 f22) (tkE f1 f20 (tkF f1 f20 f22)))) H) he210) hP
                  have hD := Eq.mp (congrArg (fun z9 => va_D (va_A (wT g a f1 f20 f21 f22 f23 f24) s.heap.size) (wT g a f1 f20 (tkF f1 f20 f22) (tkE f1 f20 (tkF f1 f20 f22)) z9 (nv f1 f20 (tkF f1 f20 f22) (tkE f1 f20 (tkF f1 f20 f22))))) he210) hD
                  have hP : va_P g.1 vwCl (wT g a f1 f20 (tkF f1 f20 f22) (tkE f1 f20 (tkF f1 f20 f22)) (srt f1 f20 (tkF f1 f20 f22)) (nv f1 f20 (tkF f1 f20 f22) (tkE f1 f20 (tkF f1 f20 f22)))) H := hP
                  have hD : va_D (va_A (wT g a f1 f20 f21 f22 f23 f24) s.heap.size) (wT g a f1 f20 (tkF f1 f20 f22) (tkE f1 f20 (tkF f1 f20 f22)) (srt f1 f20 (tkF f1 f20 f22)) (nv f1 f20 (tkF f1 f20 f22) (tkE f1 f20 (tkF f1 f20 f22)))) := hD
                  exact W.vret hx hb hr (fun t ht hW => ⟨⟨(), rfl, trivial, by rw [ht]; exact hP, hD⟩, hS.F ht⟩) hS.2.2 dX3_nextToken_150
                · refine lv_aload_n hx hb dX3_nextToken_139 rfl (lv_at hl 0 rfl) ?_
                  refine xu_i (x := iI (nvT f1 k (Int.toNat ((k + 1) - k)))) (rV (rest := [.ref (a 0)]) hx hb hml hown hts hK hl (c_X3_numberAtHand l g a f1 f20 k (k + 1) (srt f1 f20 k) f24 (show ∀ j, 0 ≤ f1 j ∧ f1 j ≤ 255 from h1) (show 0 ≤ f20 ∧ f20 ≤ 120 from by omega) (show 0 ≤ k ∧ k ≤ (k + 1) ∧ (k + 1) ≤ f20 from by omega) (show ∀ x9, k ≤ x9 → x9 < (k + 1) → 48 ≤ f1 x9 ∧ f1 x9 ≤ 57 from (by first | (exfalso; omega) | exact (fun x x0 x1 => tk_dig (b := f1) (t := f20) (by omega) (by omega) (srt_D.mpr (by omega)) x0 (by rw [← hj]; exact x1))))) lk_X3_147 hP (va_recv hK.1 hP (ci := 3) (q0 := 0) rfl rfl) rfl rfl rfl (Rm.of rfl) rfl rfl dX3_nextToken_140) ?_
                  refine lv_goto (tgt := 147) hx hb dX3_nextToken_143 (by decide) ?_
                  refine xp_X3 hx hb hts hown hK hP hD hS 0 rfl 5 (by decide) fk_X3_78 rfl (v := .int (iI (nvT f1 k (Int.toNat ((k + 1) - k))))) rfl rfl (Nat.le_of_ble_eq_true rfl) dX3_nextToken_147 (fun H locs hP hD hS => ?_)
                  have hP : va_P g.1 vwCl (wT g a f1 f20 k (k + 1) (srt f1 f20 k) (nvT f1 k (Int.toNat ((k + 1) - k)))) H := hP
                  have hD : va_D (va_A (wT g a f1 f20 f21 f22 f23 f24) s.heap.size) (wT g a f1 f20 k (k + 1) (srt f1 f20 k) (nvT f1 k (Int.toNat ((k + 1) - k)))) := hD
                  have he212 : (nvT f1 k (Int.toNat ((k + 1) - k))) = (nv f1 f20 (tkF f1 f20 f22) (tkE f1 f20 (tkF f1 f20 f22))) := by rw [← hk]; unfold nv; first | (rw [if_pos (srt_D.mpr (by omega)), ← hj]; done) | (rw [if_neg (by rw [srt_D]; omega)]; done) | (exfalso; omega)
                  have hP := Eq.mp (congrArg (fun z9 => va_P g.1 vwCl (wT g a f1 f20 k (k + 1) (srt f1 f20 k) z9) H) he212) hP
                  have hD := Eq.mp (congrArg (fun z9 => va_D (va_A (wT g a f1 f20 f21 f22 f23 f24) s.heap.size) (wT g a f1 f20 k (k + 1) (srt f1 f20 k) z9)) he212) hD
                  have he213 : k = (tkF f1 f20 f22) := hk
                  have hP := Eq.mp (congrArg (fun z9 => va_P g.1 vwCl (wT g a f1 f20 z9 (k + 1) (srt f1 f20 k) (nv f1 f20 (tkF f1 f20 f22) (tkE f1 f20 (tkF f1 f20 f22)))) H) he213) hP
                  have hD := Eq.mp (congrArg (fun z9 => va_D (va_A (wT g a f1 f20 f21 f22 f23 f24) s.heap.size) (wT g a f1 f20 z9 (k + 1) (srt f1 f20 k) (nv f1 f20 (tkF f1 f20 f22) (tkE f1 f20 (tkF f1 f20 f22))))) he213) hD
                  have he214 : (k + 1) = (tkE f1 f20 (tkF f1 f20 f22)) := by rw [← hk]; first | exact hj | (rw [tkE_o (by omega) (by omega)]; first | (rw [if_pos (by omega)]; done) | (rw [if_neg (by omega)]; omega) | (exfalso; omega))
                  have hP := Eq.mp (congrArg (fun z9 => va_P g.1 vwCl (wT g a f1 f20 (tkF f1 f20 f22) z9 (srt f1 f20 k) (nv f1 f20 (tkF f1 f20 f22) (tkE f1 f20 (tkF f1 f20 f22)))) H) he214) hP
                  have hD := Eq.mp (congrArg (fun z9 => va_D (va_A (wT g a f1 f20 f21 f22 f23 f24) s.heap.size) (wT g a f1 f20 (tkF f1 f20 f22) z9 (srt f1 f20 k) (nv f1 f20 (tkF f1 f20 f22) (tkE f1 f20 (tkF f1 f20 f22))))) he214) hD
                  have he215 : (srt f1 f20 k) = (srt f1 f20 (tkF f1 f20 f22)) := by rw [hk]
                  have hP := Eq.mp (congrArg (fun z9 => va_P g.1 vwCl (wT g a f1 f20 (tkF f1 f20 f22) (tkE f1 f20 (tkF f1 f20 f22)) z9 (nv f1 f20 (tkF f1 f20 f22) (tkE f1 f20 (tkF f1 f20 f22)))) H) he215) hP
                  have hD := Eq.mp (congrArg (fun z9 => va_D (va_A (wT g a f1 f20 f21 f22 f23 f24) s.heap.size) (wT g a f1 f20 (tkF f1 f20 f22) (tkE f1 f20 (tkF f1 f20 f22)) z9 (nv f1 f20 (tkF f1 f20 f22) (tkE f1 f20 (tkF f1 f20 f22))))) he215) hD
                  have hP : va_P g.1 vwCl (wT g a f1 f20 (tkF f1 f20 f22) (tkE f1 f20 (tkF f1 f20 f22)) (srt f1 f20 (tkF f1 f20 f22)) (nv f1 f20 (tkF f1 f20 f22) (tkE f1 f20 (tkF f1 f20 f22)))) H := hP
                  have hD : va_D (va_A (wT g a f1 f20 f21 f22 f23 f24) s.heap.size) (wT g a f1 f20 (tkF f1 f20 f22) (tkE f1 f20 (tkF f1 f20 f22)) (srt f1 f20 (tkF f1 f20 f22)) (nv f1 f20 (tkF f1 f20 f22) (tkE f1 f20 (tkF f1 f20 f22)))) := hD
                  exact W.vret hx hb hr (fun t ht hW => ⟨⟨(), rfl, trivial, by rw [ht]; exact hP, hD⟩, hS.F ht⟩) hS.2.2 dX3_nextToken_150
              · have lp91 : ∀ (n91 : Nat) (j : Int) (n : Nat), (0 ≤ j ∧ j ≤ f20) → (rnW f1 f20 (if srt f1 f20 k = 1 then 1 else 0) (if srt f1 f20 k = 2 then 1 else 0) n j = tkE f1 f20 k) → (f20 - j < n) → (k < j) → (f20 - j).toNat < n91 → ∀ ls : Array Slot, lv_has ls 1 [(0, .ref (a 0))] → ∀ (H : Heap) (locs : List Loc), va_P g.1 vwCl (wT g a f1 f20 k j (srt f1 f20 k) f24) H → va_D (va_A (wT g a f1 f20 f21 f22 f23 f24) s.heap.size) (wT g a f1 f20 k j (srt f1 f20 k) f24) → va_S (va_A (wT g a f1 f20 f21 f22 f23 f24) s.heap.size) s.heap H locs → W pq l eq rm_X3_nextToken s mq [.ref (a 0)].toArray below meth cq H locs 0 0 (MQ below (QMv g (fun _ : Unit => wT g a f1 f20 (tkF f1 f20 f22) (tkE f1 f20 (tkF f1 f20 f22)) (srt f1 f20 (tkF f1 f20 f22)) (nv f1 f20 (tkF f1 f20 f22) (tkE f1 f20 (tkF f1 f20 f22)))) (fun _ => True) (va_A (wT g a f1 f20 f21 f22 f23 f24) s.heap.size)) [.ref (a 0)].toArray s 0 0 (va_A (wT g a f1 f20 f21 f22 f23 f24) s.heap.size)) (F0 mq 91 ls []) := by
                  intro n91
                  induction n91 with
                  | zero => intro j n i91_1 i91_2 i91_3 i91_4 hm; exact absurd hm (Nat.not_lt_zero _)
                  | succ n91 ih91 =>
                    intro j n i91_1 i91_2 i91_3 i91_4 hm91 ls hl H locs hP hD hS
                    have hsj := srt_c f1 f20 j
                    refine lv_aload_n hx hb dX3_nextToken_91 rfl (lv_at hl 0 rfl) ?_
                    refine xg_X3 hx hb hts hown hK hP 0 rfl 3 (by decide) fk_X3_19 (v := .int (iI j)) rfl dX3_nextToken_92 ?_
                    refine lv_aload_n hx hb dX3_nextToken_95 rfl (lv_at hl 0 rfl) ?_
                    refine xg_X3 hx hb hts hown hK hP 0 rfl 1 (by decide) fk_X3_15 (v := .int (iI f20)) rfl dX3_nextToken_96 ?_
                    refine xi_c_ge (tgt := 130) hx hb ⟨by omega, by omega⟩ ⟨by omega, by omega⟩ dX3_nextToken_99 (by decide) (fun z216 => ?_) (fun z216 => ?_)
                    · have hj : j = tkE f1 f20 k := by rw [← i91_2]; exact (rn_stop n (by omega)).symm
                      refine lv_aload_n hx hb dX3_nextToken_130 rfl (lv_at hl 0 rfl) ?_
                      refine lv_aload_n hx hb dX3_nextToken_131 rfl (lv_at hl 0 rfl) ?_
                      refine xg_X3 hx hb hts hown hK hP 0 rfl 4 (by decide) fk_X3_32 (v := .int (iI (srt f1 f20 k))) rfl dX3_nextToken_132 ?_
                      refine lv_iconst (v := iI (2)) hx hb dX3_nextToken_135 (by decide) ?_
                      refine xi_c_ne (tgt := 146) hx hb ⟨by omega, by omega⟩ ⟨by decide, by decide⟩ dX3_nextToken_136 (by decide) (fun z217 => ?_) (fun z217 => ?_)
                      · refine lv_iconst (v := iI (0)) hx hb dX3_nextToken_146 (by decide) ?_
                        refine xp_X3 hx hb hts hown hK hP hD hS 0 rfl 5 (by decide) fk_X3_78 rfl (v := .int (iI 0)) rfl rfl (Nat.le_of_ble_eq_true rfl) dX3_nextToken_147 (fun H locs hP hD hS => ?_)
                        have hP : va_P g.1 vwCl (wT g a f1 f20 k j (srt f1 f20 k) 0) H := hP
                        have hD : va_D (va_A (wT g a f1 f20 f21 f22 f23 f24) s.heap.size) (wT g a f1 f20 k j (srt f1 f20 k) 0) := hD
                        have he218 : 0 = (nv f1 f20 (tkF f1 f20 f22) (tkE f1 f20 (tkF f1 f20 f22))) := by rw [← hk]; unfold nv; first | (rw [if_pos (srt_D.mpr (by omega)), ← hj]; done) | (rw [if_neg (by rw [srt_D]; omega)]; done) | (exfalso; omega)
                        have hP := Eq.mp (congrArg (fun z9 => va_P g.1 vwCl (wT g a f1 f20 k j (srt f1 f20 k) z9) H) he218) hP
                        have hD := Eq.mp (congrArg (fun z9 => va_D (va_A (wT g a f1 f20 f21 f22 f23 f24) s.heap.size) (wT g a f1 f20 k j (srt f1 f20 k) z9)) he218) hD
                        have he219 : k = (tkF f1 f20 f22) := hk
                        have hP := Eq.mp (congrArg (fun z9 => va_P g.1 vwCl (wT g a f1 f20 z9 j (srt f1 f20 k) (nv f1 f20 (tkF f1 f20 f22) (tkE f1 f20 (tkF f1 f20 f22)))) H) he219) hP
                        have hD := Eq.mp (congrArg (fun z9 => va_D (va_A (wT g a f1 f20 f21 f22 f23 f24) s.heap.size) (wT g a f1 f20 z9 j (srt f1 f20 k) (nv f1 f20 (tkF f1 f20 f22) (tkE f1 f20 (tkF f1 f20 f22))))) he219) hD
                        have he220 : j = (tkE f1 f20 (tkF f1 f20 f22)) := by rw [← hk]; first | exact hj | (rw [tkE_o (by omega) (by omega)]; first | (rw [if_pos (by omega)]; done) | (rw [if_neg (by omega)]; omega) | (exfalso; omega))
                        have hP := Eq.mp (congrArg (fun z9 => va_P g.1 vwCl (wT g a f1 f20 (tkF f1 f20 f22) z9 (srt f1 f20 k) (nv f1 f20 (tkF f1 f20 f22) (tkE f1 f20 (tkF f1 f20 f22)))) H) he220) hP
                        have hD := Eq.mp (congrArg (fun z9 => va_D (va_A (wT g a f1 f20 f21 f22 f23 f24) s.heap.size) (wT g a f1 f20 (tkF f1 f20 f22) z9 (srt f1 f20 k) (nv f1 f20 (tkF f1 f20 f22) (tkE f1 f20 (tkF f1 f20 f22))))) he220) hD
                        have he221 : (srt f1 f20 k) = (srt f1 f20 (tkF f1 f20 f22)) := by rw [hk]
                        have hP := Eq.mp (congrArg (fun z9 => va_P g.1 vwCl (wT g a f1 f20 (tkF f1 f20 f22) (tkE f1 f20 (tkF f1 f20 f22)) z9 (nv f1 f20 (tkF f1 f20 f22) (tkE f1 f20 (tkF f1 f20 f22)))) H) he221) hP
                        have hD := Eq.mp (congrArg (fun z9 => va_D (va_A (wT g a f1 f20 f21 f22 f23 f24) s.heap.size) (wT g a f1 f20 (tkF f1 f20 f22) (tkE f1 f20 (tkF f1 f20 f22)) z9 (nv f1 f20 (tkF f1 f20 f22) (tkE f1 f20 (tkF f1 f20 f22))))) he221) hD
                        have hP : va_P g.1 vwCl (wT g a f1 f20 (tkF f1 f20 f22) (tkE f1 f20 (tkF f1 f20 f22)) (srt f1 f20 (tkF f1 f20 f22)) (nv f1 f20 (tkF f1 f20 f22) (tkE f1 f20 (tkF f1 f20 f22)))) H := hP
                        have hD : va_D (va_A (wT g a f1 f20 f21 f22 f23 f24) s.heap.size) (wT g a f1 f20 (tkF f1 f20 f22) (tkE f1 f20 (tkF f1 f20 f22)) (srt f1 f20 (tkF f1 f20 f22)) (nv f1 f20 (tkF f1 f20 f22) (tkE f1 f20 (tkF f1 f20 f22)))) := hD
                        exact W.vret hx hb hr (fun t ht hW => ⟨⟨(), rfl, trivial, by rw [ht]; exact hP, hD⟩, hS.F ht⟩) hS.2.2 dX3_nextToken_150
                      · refine lv_aload_n hx hb dX3_nextToken_139 rfl (lv_at hl 0 rfl) ?_
                        refine xu_i (x := iI (nvT f1 k (Int.toNat (j - k)))) (rV (rest := [.ref (a 0)]) hx hb hml hown hts hK hl (c_X3_numberAtHand l g a f1 f20 k j (srt f1 f20 k) f24 (show ∀ j, 0 ≤ f1 j ∧ f1 j ≤ 255 from h1) (show 0 ≤ f20 ∧ f20 ≤ 120 from by omega) (show 0 ≤ k ∧ k ≤ j ∧ j ≤ f20 from by omega) (show ∀ x9, k ≤ x9 → x9 < j → 48 ≤ f1 x9 ∧ f1 x9 ≤ 57 from (by first | (exfalso; omega) | exact (fun x x0 x1 => tk_dig (b := f1) (t := f20) (by omega) (by omega) (srt_D.mpr (by omega)) x0 (by rw [← hj]; exact x1))))) lk_X3_147 hP (va_recv hK.1 hP (ci := 3) (q0 := 0) rfl rfl) rfl rfl rfl (Rm.of rfl) rfl rfl dX3_nextToken_140) ?_
                        refine lv_goto (tgt := 147) hx hb dX3_nextToken_143 (by decide) ?_
                        refine xp_X3 hx hb hts hown hK hP hD hS 0 rfl 5 (by decide) fk_X3_78 rfl (v := .int (iI (nvT f1 k (Int.toNat (j - k))))) rfl rfl (Nat.le_of_ble_eq_true rfl) dX3_nextToken_147 (fun H locs hP hD hS => ?_)
                        have hP : va_P g.1 vwCl (wT g a f1 f20 k j (srt f1 f20 k) (nvT f1 k (Int.toNat (j - k)))) H := hP
                        have hD : va_D (va_A (wT g a f1 f20 f21 f22 f23 f24) s.heap.size) (wT g a f1 f20 k j (srt f1 f20 k) (nvT f1 k (Int.toNat (j - k)))) := hD
                        have he223 : (nvT f1 k (Int.toNat (j - k))) = (nv f1 f20 (tkF f1 f20 f22) (tkE f1 f20 (tkF f1 f20 f22))) := by rw [← hk]; unfold nv; first | (rw [if_pos (srt_D.mpr (by omega)), ← hj]; done) | (rw [if_neg (by rw [srt_D]; omega)]; done) | (exfalso; omega)
                        have hP := Eq.mp (congrArg (fun z9 => va_P g.1 vwCl (wT g a f1 f20 k j (srt f1 f20 k) z9) H) he223) hP
                        have hD := Eq.mp (congrArg (fun z9 => va_D (va_A (wT g a f1 f20 f21 f22 f23 f24) s.heap.size) (wT g a f1 f20 k j (srt f1 f20 k) z9)) he223) hD
                        have he224 : k = (tkF f1 f20 f22) := hk
                        have hP := Eq.mp (congrArg (fun z9 => va_P g.1 vwCl (wT g a f1 f20 z9 j (srt f1 f20 k) (nv f1 f20 (tkF f1 f20 f22) (tkE f1 f20 (tkF f1 f20 f22)))) H) he224) hP
                        have hD := Eq.mp (congrArg (fun z9 => va_D (va_A (wT g a f1 f20 f21 f22 f23 f24) s.heap.size) (wT g a f1 f20 z9 j (srt f1 f20 k) (nv f1 f20 (tkF f1 f20 f22) (tkE f1 f20 (tkF f1 f20 f22))))) he224) hD
                        have he225 : j = (tkE f1 f20 (tkF f1 f20 f22)) := by rw [← hk]; first | exact hj | (rw [tkE_o (by omega) (by omega)]; first | (rw [if_pos (by omega)]; done) | (rw [if_neg (by omega)]; omega) | (exfalso; omega))
                        have hP := Eq.mp (congrArg (fun z9 => va_P g.1 vwCl (wT g a f1 f20 (tkF f1 f20 f22) z9 (srt f1 f20 k) (nv f1 f20 (tkF f1 f20 f22) (tkE f1 f20 (tkF f1 f20 f22)))) H) he225) hP
                        have hD := Eq.mp (congrArg (fun z9 => va_D (va_A (wT g a f1 f20 f21 f22 f23 f24) s.heap.size) (wT g a f1 f20 (tkF f1 f20 f22) z9 (srt f1 f20 k) (nv f1 f20 (tkF f1 f20 f22) (tkE f1 f20 (tkF f1 f20 f22))))) he225) hD
                        have he226 : (srt f1 f20 k) = (srt f1 f20 (tkF f1 f20 f22)) := by rw [hk]
                        have hP := Eq.mp (congrArg (fun z9 => va_P g.1 vwCl (wT g a f1 f20 (tkF f1 f20 f22) (tkE f1 f20 (tkF f1 f20 f22)) z9 (nv f1 f20 (tkF f1 f20 f22) (tkE f1 f20 (tkF f1 f20 f22)))) H) he226) hP
                        have hD := Eq.mp (congrArg (fun z9 => va_D (va_A (wT g a f1 f20 f21 f22 f23 f24) s.heap.size) (wT g a f1 f20 (tkF f1 f20 f22) (tkE f1 f20 (tkF f1 f20 f22)) z9 (nv f1 f20 (tkF f1 f20 f22) (tkE f1 f20 (tkF f1 f20 f22))))) he226) hD
                        have hP : va_P g.1 vwCl (wT g a f1 f20 (tkF f1 f20 f22) (tkE f1 f20 (tkF f1 f20 f22)) (srt f1 f20 (tkF f1 f20 f22)) (nv f1 f20 (tkF f1 f20 f22) (tkE f1 f20 (tkF f1 f20 f22)))) H := hP
                        have hD : va_D (va_A (wT g a f1 f20 f21 f22 f23 f24) s.heap.size) (wT g a f1 f20 (tkF f1 f20 f22) (tkE f1 f20 (tkF f1 f20 f22)) (srt f1 f20 (tkF f1 f20 f22)) (nv f1 f20 (tkF f1 f20 f22) (tkE f1 f20 (tkF f1 f20 f22)))) := hD
                        exact W.vret hx hb hr (fun t ht hW => ⟨⟨(), rfl, trivial, by rw [ht]; exact hP, hD⟩, hS.F ht⟩) hS.2.2 dX3_nextToken_150
                    · refine lv_aload_n hx hb dX3_nextToken_102 rfl (lv_at hl 0 rfl) ?_
                      refine lv_aload_n hx hb dX3_nextToken_103 rfl (lv_at hl 0 rfl) ?_
                      refine xg_X3 hx hb hts hown hK hP 0 rfl 3 (by decide) fk_X3_19 (v := .int (iI j)) rfl dX3_nextToken_104 ?_
                      refine xu_i (x := iI (srt f1 f20 j)) (rV (rest := []) hx hb hml hown hts hK hl (c_X3_sortAt l g a f1 f20 k j (srt f1 f20 k) f24 j (show ∀ j, 0 ≤ f1 j ∧ f1 j ≤ 255 from h1) (show 0 ≤ f20 ∧ f20 ≤ 120 from by omega) (show 0 ≤ j ∧ j ≤ 121 from by omega)) lk_X3_138 hP (va_recv hK.1 hP (ci := 3) (q0 := 0) rfl rfl) rfl rfl rfl (Rm.of rfl) rfl rfl dX3_nextToken_107) ?_
                      refine lv_aload_n hx hb dX3_nextToken_110 rfl (lv_at hl 0 rfl) ?_
                      refine xg_X3 hx hb hts hown hK hP 0 rfl 4 (by decide) fk_X3_32 (v := .int (iI (srt f1 f20 k))) rfl dX3_nextToken_111 ?_
                      refine xi_c_ne (tgt := 130) hx hb ⟨by omega, by omega⟩ ⟨by omega, by omega⟩ dX3_nextToken_114 (by decide) (fun z228 => ?_) (fun z228 => ?_)
                      · have hj : j = tkE f1 f20 k := by rw [← i91_2]; exact (rn_stop n (by assumption)).symm
                        refine lv_aload_n hx hb dX3_nextToken_130 rfl (lv_at hl 0 rfl) ?_
                        refine lv_aload_n hx hb dX3_nextToken_131 rfl (lv_at hl 0 rfl) ?_
                        refine xg_X3 hx hb hts hown hK hP 0 rfl 4 (by decide) fk_X3_32 (v := .int (iI (srt f1 f20 k))) rfl dX3_nextToken_132 ?_
                        refine lv_iconst (v := iI (2)) hx hb dX3_nextToken_135 (by decide) ?_
                        refine xi_c_ne (tgt := 146) hx hb ⟨by omega, by omega⟩ ⟨by decide, by decide⟩ dX3_nextToken_136 (by decide) (fun z229 => ?_) (fun z229 => ?_)
                        · refine lv_iconst (v := iI (0)) hx hb dX3_nextToken_146 (by decide) ?_
                          refine xp_X3 hx hb hts hown hK hP hD hS 0 rfl 5 (by decide) fk_X3_78 rfl (v := .int (iI 0)) rfl rfl (Nat.le_of_ble_eq_true rfl) dX3_nextToken_147 (fun H locs hP hD hS => ?_)
                          have hP : va_P g.1 vwCl (wT g a f1 f20 k j (srt f1 f20 k) 0) H := hP
                          have hD : va_D (va_A (wT g a f1 f20 f21 f22 f23 f24) s.heap.size) (wT g a f1 f20 k j (srt f1 f20 k) 0) := hD
                          have he230 : 0 = (nv f1 f20 (tkF f1 f20 f22) (tkE f1 f20 (tkF f1 f20 f22))) := by rw [← hk]; unfold nv; first | (rw [if_pos (srt_D.mpr (by omega)), ← hj]; done) | (rw [if_neg (by rw [srt_D]; omega)]; done) | (exfalso; omega)
                          have hP := Eq.mp (congrArg (fun z9 => va_P g.1 vwCl (wT g a f1 f20 k j (srt f1 f20 k) z9) H) he230) hP
                          have hD := Eq.mp (congrArg (fun z9 => va_D (va_A (wT g a f1 f20 f21 f22 f23 f24) s.heap.size) (wT g a f1 f20 k j (srt f1 f20 k) z9)) he230) hD
                          have he231 : k = (tkF f1 f20 f22) := hk
                          have hP := Eq.mp (congrArg (fun z9 => va_P g.1 vwCl (wT g a f1 f20 z9 j (srt f1 f20 k) (nv f1 f20 (tkF f1 f20 f22) (tkE f1 f20 (tkF f1 f20 f22)))) H) he231) hP
                          have hD := Eq.mp (congrArg (fun z9 => va_D (va_A (wT g a f1 f20 f21 f22 f23 f24) s.heap.size) (wT g a f1 f20 z9 j (srt f1 f20 k) (nv f1 f20 (tkF f1 f20 f22) (tkE f1 f20 (tkF f1 f20 f22))))) he231) hD
                          have he232 : j = (tkE f1 f20 (tkF f1 f20 f22)) := by rw [← hk]; first | exact hj | (rw [tkE_o (by omega) (by omega)]; first | (rw [if_pos (by omega)]; done) | (rw [if_neg (by omega)]; omega) | (exfalso; omega))
                          have hP := Eq.mp (congrArg (fun z9 => va_P g.1 vwCl (wT g a f1 f20 (tkF f1 f20 f22) z9 (srt f1 f20 k) (nv f1 f20 (tkF f1 f20 f22) (tkE f1 f20 (tkF f1 f20 f22)))) H) he232) hP
                          have hD := Eq.mp (congrArg (fun z9 => va_D (va_A (wT g a f1 f20 f21 f22 f23 f24) s.heap.size) (wT g a f1 f20 (tkF f1 f20 f22) z9 (srt f1 f20 k) (nv f1 f20 (tkF f1 f20 f22) (tkE f1 f20 (tkF f1 f20 f22))))) he232) hD
                          have he233 : (srt f1 f20 k) = (srt f1 f20 (tkF f1 f20 f22)) := by rw [hk]
                          have hP := Eq.mp (congrArg (fun z9 => va_P g.1 vwCl (wT g a f1 f20 (tkF f1 f20 f22) (tkE f1 f20 (tkF f1 f20 f22)) z9 (nv f1 f20 (tkF f1 f20 f22) (tkE f1 f20 (tkF f1 f20 f22)))) H) he233) hP
                          have hD := Eq.mp (congrArg (fun z9 => va_D (va_A (wT g a f1 f20 f21 f22 f23 f24) s.heap.size) (wT g a f1 f20 (tkF f1 f20 f22) (tkE f1 f20 (tkF f1 f20 f22)) z9 (nv f1 f20 (tkF f1 f20 f22) (tkE f1 f20 (tkF f1 f20 f22))))) he233) hD
                          have hP : va_P g.1 vwCl (wT g a f1 f20 (tkF f1 f20 f22) (tkE f1 f20 (tkF f1 f20 f22)) (srt f1 f20 (tkF f1 f20 f22)) (nv f1 f20 (tkF f1 f20 f22) (tkE f1 f20 (tkF f1 f20 f22)))) H := hP
                          have hD : va_D (va_A (wT g a f1 f20 f21 f22 f23 f24) s.heap.size) (wT g a f1 f20 (tkF f1 f20 f22) (tkE f1 f20 (tkF f1 f20 f22)) (srt f1 f20 (tkF f1 f20 f22)) (nv f1 f20 (tkF f1 f20 f22) (tkE f1 f20 (tkF f1 f20 f22)))) := hD
                          exact W.vret hx hb hr (fun t ht hW => ⟨⟨(), rfl, trivial, by rw [ht]; exact hP, hD⟩, hS.F ht⟩) hS.2.2 dX3_nextToken_150
                        · refine lv_aload_n hx hb dX3_nextToken_139 rfl (lv_at hl 0 rfl) ?_
                          refine xu_i (x := iI (nvT f1 k (Int.toNat (j - k)))) (rV (rest := [.ref (a 0)]) hx hb hml hown hts hK hl (c_X3_numberAtHand l g a f1 f20 k j (srt f1 f20 k) f24 (show ∀ j, 0 ≤ f1 j ∧ f1 j ≤ 255 from h1) (show 0 ≤ f20 ∧ f20 ≤ 120 from by omega) (show 0 ≤ k ∧ k ≤ j ∧ j ≤ f20 from by omega) (show ∀ x9, k ≤ x9 → x9 < j → 48 ≤ f1 x9 ∧ f1 x9 ≤ 57 from (by first | (exfalso; omega) | exact (fun x x0 x1 => tk_dig (b := f1) (t := f20) (by omega) (by omega) (srt_D.mpr (by omega)) x0 (by rw [← hj]; exact x1))))) lk_X3_147 hP (va_recv hK.1 hP (ci := 3) (q0 := 0) rfl rfl) rfl rfl rfl (Rm.of rfl) rfl rfl dX3_nextToken_140) ?_
                          refine lv_goto (tgt := 147) hx hb dX3_nextToken_143 (by decide) ?_
                          refine xp_X3 hx hb hts hown hK hP hD hS 0 rfl 5 (by decide) fk_X3_78 rfl (v := .int (iI (nvT f1 k (Int.toNat (j - k))))) rfl rfl (Nat.le_of_ble_eq_true rfl) dX3_nextToken_147 (fun H locs hP hD hS => ?_)
                          have hP : va_P g.1 vwCl (wT g a f1 f20 k j (srt f1 f20 k) (nvT f1 k (Int.toNat (j - k)))) H := hP
                          have hD : va_D (va_A (wT g a f1 f20 f21 f22 f23 f24) s.heap.size) (wT g a f1 f20 k j (srt f1 f20 k) (nvT f1 k (Int.toNat (j - k)))) := hD
                          have he235 : (nvT f1 k (Int.toNat (j - k))) = (nv f1 f20 (tkF f1 f20 f22) (tkE f1 f20 (tkF f1 f20 f22))) := by rw [← hk]; unfold nv; first | (rw [if_pos (srt_D.mpr (by omega)), ← hj]; done) | (rw [if_neg (by rw [srt_D]; omega)]; done) | (exfalso; omega)
                          have hP := Eq.mp (congrArg (fun z9 => va_P g.1 vwCl (wT g a f1 f20 k j (srt f1 f20 k) z9) H) he235) hP
                          have hD := Eq.mp (congrArg (fun z9 => va_D (va_A (wT g a f1 f20 f21 f22 f23 f24) s.heap.size) (wT g a f1 f20 k j (srt f1 f20 k) z9)) he235) hD
                          have he236 : k = (tkF f1 f20 f22) := hk
                          have hP := Eq.mp (congrArg (fun z9 => va_P g.1 vwCl (wT g a f1 f20 z9 j (srt f1 f20 k) (nv f1 f20 (tkF f1 f20 f22) (tkE f1 f20 (tkF f1 f20 f22)))) H) he236) hP
                          have hD := Eq.mp (congrArg (fun z9 => va_D (va_A (wT g a f1 f20 f21 f22 f23 f24) s.heap.size) (wT g a f1 f20 z9 j (srt f1 f20 k) (nv f1 f20 (tkF f1 f20 f22) (tkE f1 f20 (tkF f1 f20 f22))))) he236) hD
                          have he237 : j = (tkE f1 f20 (tkF f1 f20 f22)) := by rw [← hk]; first | exact hj | (rw [tkE_o (by omega) (by omega)]; first | (rw [if_pos (by omega)]; done) | (rw [if_neg (by omega)]; omega) | (exfalso; omega))
                          have hP := Eq.mp (congrArg (fun z9 => va_P g.1 vwCl (wT g a f1 f20 (tkF f1 f20 f22) z9 (srt f1 f20 k) (nv f1 f20 (tkF f1 f20 f22) (tkE f1 f20 (tkF f1 f20 f22)))) H) he237) hP
                          have hD := Eq.mp (congrArg (fun z9 => va_D (va_A (wT g a f1 f20 f21 f22 f23 f24) s.heap.size) (wT g a f1 f20 (tkF f1 f20 f22) z9 (srt f1 f20 k) (nv f1 f20 (tkF f1 f20 f22) (tkE f1 f20 (tkF f1 f20 f22))))) he237) hD
                          have he238 : (srt f1 f20 k) = (srt f1 f20 (tkF f1 f20 f22)) := by rw [hk]
                          have hP := Eq.mp (congrArg (fun z9 => va_P g.1 vwCl (wT g a f1 f20 (tkF f1 f20 f22) (tkE f1 f20 (tkF f1 f20 f22)) z9 (nv f1 f20 (tkF f1 f20 f22) (tkE f1 f20 (tkF f1 f20 f22)))) H) he238) hP
                          have hD := Eq.mp (congrArg (fun z9 => va_D (va_A (wT g a f1 f20 f21 f22 f23 f24) s.heap.size) (wT g a f1 f20 (tkF f1 f20 f22) (tkE f1 f20 (tkF f1 f20 f22)) z9 (nv f1 f20 (tkF f1 f20 f22) (tkE f1 f20 (tkF f1 f20 f22))))) he238) hD
                          have hP : va_P g.1 vwCl (wT g a f1 f20 (tkF f1 f20 f22) (tkE f1 f20 (tkF f1 f20 f22)) (srt f1 f20 (tkF f1 f20 f22)) (nv f1 f20 (tkF f1 f20 f22) (tkE f1 f20 (tkF f1 f20 f22)))) H := hP
                          have hD : va_D (va_A (wT g a f1 f20 f21 f22 f23 f24) s.heap.size) (wT g a f1 f20 (tkF f1 f20 f22) (tkE f1 f20 (tkF f1 f20 f22)) (srt f1 f20 (tkF f1 f20 f22)) (nv f1 f20 (tkF f1 f20 f22) (tkE f1 f20 (tkF f1 f20 f22)))) := hD
                          exact W.vret hx hb hr (fun t ht hW => ⟨⟨(), rfl, trivial, by rw [ht]; exact hP, hD⟩, hS.F ht⟩) hS.2.2 dX3_nextToken_150
                      · refine lv_aload_n hx hb dX3_nextToken_117 rfl (lv_at hl 0 rfl) ?_
                        refine lv_dup hx hb dX3_nextToken_118 rfl ?_
                        refine xg_X3 hx hb hts hown hK hP 0 rfl 3 (by decide) fk_X3_19 (v := .int (iI j)) rfl dX3_nextToken_119 ?_
                        refine lv_iconst (v := iI (1)) hx hb dX3_nextToken_122 (by decide) ?_
                        refine xi_add hx hb dX3_nextToken_123 ?_
                        refine xp_X3 hx hb hts hown hK hP hD hS 0 rfl 3 (by decide) fk_X3_19 rfl (v := .int (iI (j + 1))) rfl rfl (Nat.le_of_ble_eq_true rfl) dX3_nextToken_124 (fun H locs hP hD hS => ?_)
                        have hP : va_P g.1 vwCl (wT g a f1 f20 k (j + 1) (srt f1 f20 k) f24) H := hP
                        have hD : va_D (va_A (wT g a f1 f20 f21 f22 f23 f24) s.heap.size) (wT g a f1 f20 k (j + 1) (srt f1 f20 k) f24) := hD
                        refine lv_goto (tgt := 91) hx hb dX3_nextToken_127 (by decide) ?_
                        exact ih91 (j + 1) (n - 1) ⟨by omega, by omega⟩ (by rw [rn_sort (by omega) (by assumption) (by omega)]; exact i91_2) (by omega) (by omega) (by omega) ls (lv_sub hl [0] rfl) H locs hP hD hS
                exact lp91 (120 + 1) (k + 1) 121 (by omega) (by first | exact rn_tk (by omega) | (exfalso; omega)) (by omega) (by omega) (by omega) ls (lv_sub hl [0] rfl) H locs hP hD hS
        · refine lv_aload_n hx hb dX3_nextToken_33 rfl (lv_at hl 0 rfl) ?_
          refine lv_dup hx hb dX3_nextToken_34 rfl ?_
          refine xg_X3 hx hb hts hown hK hP 0 rfl 2 (by decide) fk_X3_29 (v := .int (iI k)) rfl dX3_nextToken_35 ?_
          refine lv_iconst (v := iI (1)) hx hb dX3_nextToken_38 (by decide) ?_
          refine xi_add hx hb dX3_nextToken_39 ?_
          refine xp_X3 hx hb hts hown hK hP hD hS 0 rfl 2 (by decide) fk_X3_29 rfl (v := .int (iI (k + 1))) rfl rfl (Nat.le_of_ble_eq_true rfl) dX3_nextToken_40 (fun H locs hP hD hS => ?_)
          have hP : va_P g.1 vwCl (wT g a f1 f20 (k + 1) f22 f23 f24) H := hP
          have hD : va_D (va_A (wT g a f1 f20 f21 f22 f23 f24) s.heap.size) (wT g a f1 f20 (k + 1) f22 f23 f24) := hD
          refine lv_goto (tgt := 8) hx hb dX3_nextToken_43 (by decide) ?_
          exact ih8 (k + 1) (m - 1) ⟨by omega, by omega⟩ (by rw [skT_step ((srt_32 (by omega)).mpr (by assumption)) (by omega)]; exact i8_2) (by omega) (by omega) ls (lv_sub hl [0] rfl) H locs hP hD hS
  exact lp8 (120 + 1) f22 121 (by omega) rfl (by omega) (by omega) ls (lv_sub hl [0] rfl) H locs hP hD hS
abbrev rm_X3_takeNumber : Room := { frames := 2, cells := 0, slots := 0, locals := 42 }
set_option maxRecDepth 100000 in
set_option maxHeartbeats 4000000 in
theorem c_X3_takeNumber (l : Launch) (g : Gd) (a : Nat → Nat) (f1 : Int → Int) (f20 : Int) (f21 : Int) (f22 : Int) (f23 : Int) (f24 : Int) (sz : Nat) (h1 : ∀ j, 0 ≤ f1 j ∧ f1 j ≤ 255) (h2 : 0 ≤ f20 ∧ f20 ≤ 120) (h3 : 0 ≤ f22 ∧ f22 ≤ f20) : Met l yX3_takeNumber (wsOf yX3_takeNumber cX3_takeNumber 2 (some .int)) rm_X3_takeNumber (PX g (wP g (wT g a f1 f20 f21 f22 f23 f24) sz) [.ref (a 0)]) (QMi g (fun _ : Unit => wT g a f1 f20 (tkF f1 f20 f22) (tkE f1 f20 (tkF f1 f20 f22)) (srt f1 f20 (tkF f1 f20 f22)) (nv f1 f20 (tkF f1 f20 f22) (tkE f1 f20 (tkF f1 f20 f22)))) (fun r9 _ => r9 = iI f24) (va_A (wT g a f1 f20 f21 f22 f23 f24) sz)) 0 0 (va_A (wT g a f1 f20 f21 f22 f23 f24) sz) := by
  refine me (g := g) (by decide) rfl ?_
  intro pq eq s mq below meth cq C hnm hB ls hl
  obtain ⟨hx, hb, hr, hml, hown, hts, hlocks, hK⟩ := C
  have hown : s.vm.findClass RX3 = some mq.cls := hown
  have hl : lv_has ls 2 [(0, .ref (a 0))] := hl
  obtain ⟨hsz, hP, hD0⟩ := hB
  subst hsz
  have hD := hD0.self (sz := s.heap.size)
  have hA : ∀ q : Nat, s.heap.size ≤ q → va_A (wT g a f1 f20 f21 f22 f23 f24) s.heap.size q := fun q h => Or.inr h
  have hS : va_S (va_A (wT g a f1 f20 f21 f22 f23 f24) s.heap.size) s.heap s.heap [] := va_S.rf
  refine lv_aload_n hx hb dX3_takeNumber_0 rfl (lv_at hl 0 rfl) ?_
  refine xg_X3 hx hb hts hown hK hP 0 rfl 5 (by decide) fk_X3_78 (v := .int (iI f24)) rfl dX3_takeNumber_1 ?_
  refine lv_istore_n (lv' := [(1, .int (iI f24)), (0, .ref (a 0))]) hx hb dX3_takeNumber_4 rfl hl (by decide) rfl (fun ls hl => ?_)
  refine lv_aload_n hx hb dX3_takeNumber_5 rfl (lv_at hl 1 rfl) ?_
  refine xm_v (rV (rest := []) hx hb hml hown hts hK hl (c_X3_nextToken l g a f1 f20 f21 f22 f23 f24 (s.heap).size (show ∀ j, 0 ≤ f1 j ∧ f1 j ≤ 255 from h1) (show 0 ≤ f20 ∧ f20 ≤ 120 from by omega) (show 0 ≤ f22 ∧ f22 ≤ f20 from by omega)) lk_X3_22 ⟨rfl, hP, hD.weaken (fun _ _ _ _ => trivial)⟩ (va_recv hK.1 hP (ci := 3) (q0 := 0) rfl rfl) rfl rfl rfl (Rm.of rfl) rfl rfl dX3_takeNumber_6) hD hS hA (fun _ H locs hw hP hD hS => ?_)
  have hP : va_P g.1 vwCl (wT g a f1 f20 (tkF f1 f20 f22) (tkE f1 f20 (tkF f1 f20 f22)) (srt f1 f20 (tkF f1 f20 f22)) (nv f1 f20 (tkF f1 f20 f22) (tkE f1 f20 (tkF f1 f20 f22)))) H := hP
  have hD : va_D (va_A (wT g a f1 f20 f21 f22 f23 f24) s.heap.size) (wT g a f1 f20 (tkF f1 f20 f22) (tkE f1 f20 (tkF f1 f20 f22)) (srt f1 f20 (tkF f1 f20 f22)) (nv f1 f20 (tkF f1 f20 f22) (tkE f1 f20 (tkF f1 f20 f22)))) := hD
  refine lv_iload_n hx hb dX3_takeNumber_9 rfl (lv_at hl 0 rfl) ?_
  have hP : va_P g.1 vwCl (wT g a f1 f20 (tkF f1 f20 f22) (tkE f1 f20 (tkF f1 f20 f22)) (srt f1 f20 (tkF f1 f20 f22)) (nv f1 f20 (tkF f1 f20 f22) (tkE f1 f20 (tkF f1 f20 f22)))) H := hP
  have hD : va_D (va_A (wT g a f1 f20 f21 f22 f23 f24) s.heap.size) (wT g a f1 f20 (tkF f1 f20 f22) (tkE f1 f20 (tkF f1 f20 f22)) (srt f1 f20 (tkF f1 f20 f22)) (nv f1 f20 (tkF f1 f20 f22) (tkE f1 f20 (tkF f1 f20 f22)))) := hD
  exact W.iret hx hb hr (fun t ht hW => ⟨⟨_, (), rfl, rfl, by rw [ht]; exact hP, hD⟩, hS.F ht⟩) hS.2.2 dX3_takeNumber_10
abbrev rm_X3_isNumber : Room := { frames := 1, cells := 0, slots := 0, locals := 22 }
set_option maxRecDepth 100000 in
set_option maxHeartbeats 4000000 in
theorem c_X3_isNumber (l : Launch) (g : Gd) (a : Nat → Nat) (f1 : Int → Int) (f20 : Int) (f21 : Int) (f22 : Int) (f23 : Int) (f24 : Int) (lo : Int) (hi : Int) (h1 : 0 ≤ f23 ∧ f23 ≤ 4) (h2 : 0 ≤ f24 ∧ f24 ≤ 9999) (h3 : IR lo) (h4 : IR hi) : Met l yX3_isNumber (wsOf yX3_isNumber cX3_isNumber 3 (some .boolean)) rm_X3_isNumber (PX g (va_P g.1 vwCl (wT g a f1 f20 f21 f22 f23 f24)) [.ref (a 0), .int (iI lo), .int (iI hi)]) (vp_Si (fun r9 => r9 = iI (bI (f23 = 2 ∧ lo ≤ f24 ∧ f24 ≤ hi)))) 0 0 (fun _ => False) := by
  refine me (g := g) (by decide) rfl ?_
  intro pq eq s mq below meth cq C hnm hB ls hl
  obtain ⟨hx, hb, hr, hml, hown, hts, hlocks, hK⟩ := C
  have hown : s.vm.findClass RX3 = some mq.cls := hown
  have hl : lv_has ls 3 [(0, .ref (a 0)), (1, .int (iI lo)), (2, .int (iI hi))] := hl
  have hP : va_P g.1 vwCl (wT g a f1 f20 f21 f22 f23 f24) s.heap := hB
  have q1 := h3.1
  have q2 := h3.2
  have q3 := h4.1
  have q4 := h4.2
  refine lv_aload_n hx hb dX3_isNumber_0 rfl (lv_at hl 0 rfl) ?_
  refine xg_X3 hx hb hts hown hK hP 0 rfl 4 (by decide) fk_X3_32 (v := .int (iI f23)) rfl dX3_isNumber_1 ?_
  refine lv_iconst (v := iI (2)) hx hb dX3_isNumber_4 (by decide) ?_
  refine xi_c_ne (tgt := 24) hx hb ⟨by omega, by omega⟩ ⟨by decide, by decide⟩ dX3_isNumber_5 (by decide) (fun z1 => ?_) (fun z1 => ?_)
  · refine lv_iconst (v := iI (0)) hx hb dX3_isNumber_24 (by decide) ?_
    exact W.zret hx hb hr (by decide) (fun t ht hW => ⟨_, rfl, by rw [bI_f (by omega)], ht⟩) (fun q h => by cases h) dX3_isNumber_25
  · refine lv_aload_n hx hb dX3_isNumber_8 rfl (lv_at hl 0 rfl) ?_
    refine xg_X3 hx hb hts hown hK hP 0 rfl 5 (by decide) fk_X3_78 (v := .int (iI f24)) rfl dX3_isNumber_9 ?_
    refine lv_iload_n hx hb dX3_isNumber_12 rfl (lv_at hl 1 rfl) ?_
    refine lv_iload_n hx hb dX3_isNumber_13 rfl (lv_at hl 2 rfl) ?_
    refine xu_b (P := lo ≤ f24 ∧ f24 ≤ hi) (rSN (rest := []) hx hb hml hown hts hK hl (c_X4_isBetween l g f24 lo hi (show IR f24 from ⟨by omega, by omega⟩) (show IR lo from ⟨by omega, by omega⟩) (show IR hi from ⟨by omega, by omega⟩)) lk_X3_109 trivial rfl rfl rfl (Rm.of rfl) rfl rfl dX3_isNumber_14) (fun z2 => ?_) (fun z2 => ?_)
    · refine xi_zf_eq hx hb ⟨by decide, by decide⟩ (by decide) dX3_isNumber_17 ⟨24, by decide⟩ ?_
      refine lv_iconst (v := iI (1)) hx hb dX3_isNumber_20 (by decide) ?_
      refine lv_goto (tgt := 25) hx hb dX3_isNumber_21 (by decide) ?_
      exact W.zret hx hb hr (by decide) (fun t ht hW => ⟨_, rfl, by rw [bI_t (by omega)], ht⟩) (fun q h => by cases h) dX3_isNumber_25
    · refine xi_zt_eq (tgt := 24) hx hb ⟨by decide, by decide⟩ (by decide) dX3_isNumber_17 (by decide) ?_
      refine lv_iconst (v := iI (0)) hx hb dX3_isNumber_24 (by decide) ?_
      exact W.zret hx hb hr (by decide) (fun t ht hW => ⟨_, rfl, by rw [bI_f (by omega)], ht⟩) (fun q h => by cases h) dX3_isNumber_25
abbrev rm_X3_isWord : Room := { frames := 4, cells := 0, slots := 0, locals := 85 }
set_option maxRecDepth 100000 in
set_option maxHeartbeats 4000000 in
theorem c_X3_isWord (l : Launch) (g : Gd) (σ : Sg) (a : Nat → Nat) (f1 : Int → Int) (f20 : Int) (f21 : Int) (f22 : Int) (f23 : Int) (f24 : Int) (i : Nat) (h1 : ∀ j, 0 ≤ f1 j ∧ f1 j ≤ 255) (h2 : 0 ≤ f20 ∧ f20 ≤ 120) (h3 : TI f1 f20 f21 f22 f23 f24) (h4 : i < 13) : Met l yX3_isWord (wsOf yX3_isWord cX3_isWord 3 (some .boolean)) rm_X3_isWord (PXs g σ (fun _ => False) (va_P g.1 vwCl (wT g a f1 f20 f21 f22 f23 f24)) [.ref (a 0), .ref (σ.1 i)]) (vp_Si (fun r9 => r9 = iI (bI (wdQ f1 f20 (0, f21, f22, 0) = sHs.getD i 0)))) 0 0 (fun _ => False) := by
  refine me (g := g) (by decide) rfl ?_
  intro pq eq s mq below meth cq C hnm hB ls hl
  obtain ⟨hx, hb, hr, hml, hown, hts, hlocks, hK⟩ := C
  obtain ⟨hSB, hB⟩ := hB
  have hown : s.vm.findClass RX3 = some mq.cls := hown
  have hl : lv_has ls 3 [(0, .ref (a 0)), (1, .ref (σ.1 i))] := hl
  have hP : va_P g.1 vwCl (wT g a f1 f20 f21 f22 f23 f24) s.heap := hB
  have hT := h3
  have hTb := hT.1
  have hso := hT.2.2.1
  have hsr := srt_c f1 f20 f21
  have hnb := hT.nb
  have hi := h4
  have hsl := sl_b i hi
  have hwi := wd_is hT hi 0
  refine lv_aload_n hx hb dX3_isWord_0 rfl (lv_at hl 0 rfl) ?_
  refine xg_X3 hx hb hts hown hK hP 0 rfl 4 (by decide) fk_X3_32 (v := .int (iI f23)) rfl dX3_isWord_1 ?_
  refine lv_iconst (v := iI (1)) hx hb dX3_isWord_4 (by decide) ?_
  refine xi_c_ne (tgt := 24) hx hb ⟨by omega, by omega⟩ ⟨by decide, by decide⟩ dX3_isWord_5 (by decide) (fun z1 => ?_) (fun z1 => ?_)
  · refine lv_iconst (v := iI (0)) hx hb dX3_isWord_24 (by decide) ?_
    exact W.zret hx hb hr (by decide) (fun t ht hW => ⟨_, rfl, by rw [bI_f (fun z => by have h9 := hwi.mp z; have a1 := h9.1; have a2 := h9.2.1; omega)], ht⟩) (fun q h => by cases h) dX3_isWord_25
  · refine lv_aload_n hx hb dX3_isWord_8 rfl (lv_at hl 0 rfl) ?_
    refine xg_X3 hx hb hts hown hK hP 0 rfl 3 (by decide) fk_X3_19 (v := .int (iI f22)) rfl dX3_isWord_9 ?_
    refine lv_aload_n hx hb dX3_isWord_12 rfl (lv_at hl 0 rfl) ?_
    refine xg_X3 hx hb hts hown hK hP 0 rfl 2 (by decide) fk_X3_29 (v := .int (iI f21)) rfl dX3_isWord_13 ?_
    refine xi_sub hx hb dX3_isWord_16 ?_
    refine lv_aload_n hx hb dX3_isWord_17 rfl (lv_at hl 1 rfl) ?_
    refine xu_i (x := iI ((sLen.getD i 0 : Nat) : Int)) (rVs (rest := [.int (iI (f22 - f21))]) hx hb hml hown hts hK hl hSB va_S.rf (fun _ h => h) (c_J0_length_8abf5 l g σ hi) lk_X3_113 trivial (sb_recv hSB hi va_S.rf) rfl rfl rfl (Rm.of rfl) rfl rfl dX3_isWord_18) ?_
    refine xi_c_eq (tgt := 26) hx hb ⟨by omega, by omega⟩ ⟨by omega, by omega⟩ dX3_isWord_21 (by decide) (fun z2 => ?_) (fun z2 => ?_)
    · refine lv_iconst (v := iI (0)) hx hb dX3_isWord_26 (by decide) ?_
      refine lv_istore_n (lv' := [(2, .int (iI 0)), (0, .ref (a 0)), (1, .ref (σ.1 i))]) hx hb dX3_isWord_27 rfl hl (by decide) rfl (fun ls hl => ?_)
      have lp28 : ∀ (n28 : Nat) (k : Nat), (k ≤ sLen.getD i 0) → (∀ j : Nat, j < k → f1 (f21 + j) = sCh i (j : Int)) → 7 - k < n28 → ∀ ls : Array Slot, lv_has ls 3 [(2, .int (iI (k : Int))), (0, .ref (a 0)), (1, .ref (σ.1 i))] → W pq l eq rm_X3_isWord s mq [.ref (a 0), .ref (σ.1 i)].toArray below meth cq s.heap [] 0 0 (MQ below (vp_Si (fun r9 => r9 = iI (bI (wdQ f1 f20 (0, f21, f22, 0) = sHs.getD i 0)))) [.ref (a 0), .ref (σ.1 i)].toArray s 0 0 (fun _ => False)) (F0 mq 28 ls []) := by
        intro n28
        induction n28 with
        | zero => intro k i28_1 i28_2 hm; exact absurd hm (Nat.not_lt_zero _)
        | succ n28 ih28 =>
          intro k i28_1 i28_2 hm28 ls hl
          refine lv_iload_n hx hb dX3_isWord_28 rfl (lv_at hl 0 rfl) ?_
          refine lv_aload_n hx hb dX3_isWord_29 rfl (lv_at hl 2 rfl) ?_
          refine xu_i (x := iI ((sLen.getD i 0 : Nat) : Int)) (rVs (rest := [.int (iI (k : Int))]) hx hb hml hown hts hK hl hSB va_S.rf (fun _ h => h) (c_J0_length_8abf5 l g σ hi) lk_X3_113 trivial (sb_recv hSB hi va_S.rf) rfl rfl rfl (Rm.of rfl) rfl rfl dX3_isWord_30) ?_
          refine xi_c_ge (tgt := 63) hx hb ⟨by omega, by omega⟩ ⟨by omega, by omega⟩ dX3_isWord_33 (by decide) (fun z3 => ?_) (fun z3 => ?_)
          · refine lv_iconst (v := iI (1)) hx hb dX3_isWord_63 (by decide) ?_
            exact W.zret hx hb hr (by decide) (fun t ht hW => ⟨_, rfl, by rw [bI_t (hwi.mpr ⟨by omega, by omega, fun j hj => i28_2 j (by omega)⟩)], ht⟩) (fun q h => by cases h) dX3_isWord_64
          · have hcb := (sc_b i hi k (by omega)).2.2 (by omega)
            have hby := h1 (f21 + (k : Int))
            refine lv_aload_n hx hb dX3_isWord_36 rfl (lv_at hl 1 rfl) ?_
            refine xg_X3 hx hb hts hown hK hP 0 rfl 0 (by decide) fk_X3_9 (v := .ref (a 1)) rfl dX3_isWord_37 ?_
            refine lv_aload_n hx hb dX3_isWord_40 rfl (lv_at hl 1 rfl) ?_
            refine xg_X3 hx hb hts hown hK hP 0 rfl 2 (by decide) fk_X3_29 (v := .int (iI f21)) rfl dX3_isWord_41 ?_
            refine lv_iload_n hx hb dX3_isWord_44 rfl (lv_at hl 0 rfl) ?_
            refine xi_add hx hb dX3_isWord_45 ?_
            refine xi_ald hx hb hK hP 1 (f := f1) rfl (i := f21 + (k : Int)) ⟨by omega, by omega⟩ rfl dX3_isWord_46 ?_
            refine lv_aload_n hx hb dX3_isWord_47 rfl (lv_at hl 2 rfl) ?_
            refine lv_iload_n hx hb dX3_isWord_48 rfl (lv_at hl 0 rfl) ?_
            refine xu_i (x := iI (sCh i (k : Int))) (rVs (rest := [.int (iI (f1 (f21 + (k : Int))))]) hx hb hml hown hts hK hl hSB va_S.rf (fun _ h => h) (c_J0_charAt_5068e l g σ hi (k := k) (by omega)) lk_X3_118 trivial (sb_recv hSB hi va_S.rf) rfl rfl rfl (Rm.of rfl) rfl rfl dX3_isWord_49) ?_
            refine xi_c_eq (tgt := 57) hx hb ⟨by omega, by omega⟩ ⟨by omega, by omega⟩ dX3_isWord_52 (by decide) (fun z4 => ?_) (fun z4 => ?_)
            · refine xi_inc (lv' := [(2, .int (iI ((k : Int) + 1))), (0, .ref (a 0)), (1, .ref (σ.1 i))]) hx hb dX3_isWord_57 hl (k := 0) rfl (by decide) rfl (fun ls hl => ?_)
              refine lv_goto (tgt := 28) hx hb dX3_isWord_60 (by decide) ?_
              have hq5 : ((k : Int) + 1) = ((k + 1) : Int) := by omega
              have hl : lv_has ls 3 [(2, .int (iI ((k : Int) + 1))), (0, .ref (a 0)), (1, .ref (σ.1 i))] := lv_sub hl [0, 1, 2] rfl
              have hl := Eq.mp (congrArg (fun z9 => lv_has ls 3 [(2, .int (iI z9)), (0, .ref (a 0)), (1, .ref (σ.1 i))]) hq5) hl
              exact ih28 (k + 1) (by omega) (fun j hj => if h : j = k then (by rw [h]; assumption) else i28_2 j (by omega)) (by omega) ls hl
            · refine lv_iconst (v := iI (0)) hx hb dX3_isWord_55 (by decide) ?_
              exact W.zret hx hb hr (by decide) (fun t ht hW => ⟨_, rfl, by rw [bI_f (fun z => absurd ((hwi.mp z).2.2 k (by omega)) (by assumption))], ht⟩) (fun q h => by cases h) dX3_isWord_56
      have hq6 : 0 = (0 : Int) := rfl
      have hl : lv_has ls 3 [(2, .int (iI 0)), (0, .ref (a 0)), (1, .ref (σ.1 i))] := lv_sub hl [0, 1, 2] rfl
      have hl := Eq.mp (congrArg (fun z9 => lv_has ls 3 [(2, .int (iI z9)), (0, .ref (a 0)), (1, .ref (σ.1 i))]) hq6) hl
      exact lp28 (7 + 1) 0 (by omega) (fun j hj => by omega) (by omega) ls hl
    · refine lv_iconst (v := iI (0)) hx hb dX3_isWord_24 (by decide) ?_
      exact W.zret hx hb hr (by decide) (fun t ht hW => ⟨_, rfl, by rw [bI_f (fun z => by have h9 := hwi.mp z; have a1 := h9.1; have a2 := h9.2.1; omega)], ht⟩) (fun q h => by cases h) dX3_isWord_25
abbrev rm_X3_nameOfKind : Room := { frames := 0, cells := 0, slots := 0, locals := 0 }
set_option maxRecDepth 100000 in
set_option maxHeartbeats 4000000 in
theorem c_X3_nameOfKind0 (l : Launch) (g : Gd) (σ : Sg) (n9 : Int) (h1 : IR n9) (h2 : n9 = 0) : Met l yX3_nameOfKind (wsOf yX3_nameOfKind cX3_nameOfKind 1 (some (.object "java/lang/String"))) rm_X3_nameOfKind (PXs g σ (fun _ => False) (fun _ => True) [.int (iI n9)]) (vp_Sv (.ref (σ.1 12))) 0 0 (fun _ => False) := by
  refine me (g := g) (by decide) rfl ?_
  intro pq eq s mq below meth cq C hnm hB ls hl
  obtain ⟨hx, hb, hr, hml, hown, hts, hlocks, hK⟩ := C
  obtain ⟨hSB, hB⟩ := hB
  have hown : s.vm.findClass RX3 = some mq.cls := hown
  have hl : lv_has ls 1 [(0, .int (iI n9))] := hl
  have q1 := h1.1
  have q2 := h1.2
  refine lv_iload_n hx hb dX3_nameOfKind_0 rfl (lv_at hl 0 rfl) ?_
  have hir1 : IR (n9) := ⟨by omega, by omega⟩
  rcases (show (n9) = 1 ∨ (n9) = 2 ∨ (n9) = 3 ∨ (n9) = 4 ∨ (n9) = 5 ∨ ((n9) < 1 ∨ 5 < (n9)) by omega) with z1 | z1 | z1 | z1 | z1 | z1
  · refine lv_tableIn (tgt := 36) (off := 35) hx hb dX3_nameOfKind_1 (by rw [iI_toInt hir1, z1]; decide) (by rw [iI_toInt hir1, z1]; decide) (by rw [iI_toInt hir1, z1]; rfl) (by decide) ?_
    refine va_ldcS hx hb hown (hSB.2.2.2 7 (by decide)) dX3_nameOfKind_36 ?_
    exfalso; omega
  · refine lv_tableIn (tgt := 39) (off := 38) hx hb dX3_nameOfKind_1 (by rw [iI_toInt hir1, z1]; decide) (by rw [iI_toInt hir1, z1]; decide) (by rw [iI_toInt hir1, z1]; rfl) (by decide) ?_
    refine va_ldcS hx hb hown (hSB.2.2.2 8 (by decide)) dX3_nameOfKind_39 ?_
    exfalso; omega
  · refine lv_tableIn (tgt := 42) (off := 41) hx hb dX3_nameOfKind_1 (by rw [iI_toInt hir1, z1]; decide) (by rw [iI_toInt hir1, z1]; decide) (by rw [iI_toInt hir1, z1]; rfl) (by decide) ?_
    refine va_ldcS hx hb hown (hSB.2.2.2 9 (by decide)) dX3_nameOfKind_42 ?_
    exfalso; omega
  · refine lv_tableIn (tgt := 45) (off := 44) hx hb dX3_nameOfKind_1 (by rw [iI_toInt hir1, z1]; decide) (by rw [iI_toInt hir1, z1]; decide) (by rw [iI_toInt hir1, z1]; rfl) (by decide) ?_
    refine va_ldcS hx hb hown (hSB.2.2.2 10 (by decide)) dX3_nameOfKind_45 ?_
    exfalso; omega
  · refine lv_tableIn (tgt := 48) (off := 47) hx hb dX3_nameOfKind_1 (by rw [iI_toInt hir1, z1]; decide) (by rw [iI_toInt hir1, z1]; decide) (by rw [iI_toInt hir1, z1]; rfl) (by decide) ?_
    refine va_ldcS hx hb hown (hSB.2.2.2 11 (by decide)) dX3_nameOfKind_48 ?_
    exfalso; omega
  · refine lv_tableOut (tgt := 51) hx hb dX3_nameOfKind_1 (by rw [iI_toInt hir1]; exact z1) (by decide) ?_
    refine va_ldcS hx hb hown (hSB.2.2.2 12 (by decide)) dX3_nameOfKind_51 ?_
    exact W.aret hx hb hr (Or.inl ⟨_, rfl⟩) (Or.inr ⟨_, rfl⟩) (fun t ht hW => ⟨rfl, ht⟩) (fun q h => by cases h) dX3_nameOfKind_53
set_option maxRecDepth 100000 in
set_option maxHeartbeats 4000000 in
theorem c_X3_nameOfKind1 (l : Launch) (g : Gd) (σ : Sg) (n9 : Int) (h1 : IR n9) (h2 : n9 = 1) : Met l yX3_nameOfKind (wsOf yX3_nameOfKind cX3_nameOfKind 1 (some (.object "java/lang/String"))) rm_X3_nameOfKind (PXs g σ (fun _ => False) (fun _ => True) [.int (iI n9)]) (vp_Sv (.ref (σ.1 7))) 0 0 (fun _ => False) := by
  refine me (g := g) (by decide) rfl ?_
  intro pq eq s mq below meth cq C hnm hB ls hl
  obtain ⟨hx, hb, hr, hml, hown, hts, hlocks, hK⟩ := C
  obtain ⟨hSB, hB⟩ := hB
  have hown : s.vm.findClass RX3 = some mq.cls := hown
  have hl : lv_has ls 1 [(0, .int (iI n9))] := hl
  have q1 := h1.1
  have q2 := h1.2
  refine lv_iload_n hx hb dX3_nameOfKind_0 rfl (lv_at hl 0 rfl) ?_
  have hir1 : IR (n9) := ⟨by omega, by omega⟩
  rcases (show (n9) = 1 ∨ (n9) = 2 ∨ (n9) = 3 ∨ (n9) = 4 ∨ (n9) = 5 ∨ ((n9) < 1 ∨ 5 < (n9)) by omega) with z1 | z1 | z1 | z1 | z1 | z1
  · refine lv_tableIn (tgt := 36) (off := 35) hx hb dX3_nameOfKind_1 (by rw [iI_toInt hir1, z1]; decide) (by rw [iI_toInt hir1, z1]; decide) (by rw [iI_toInt hir1, z1]; rfl) (by decide) ?_
    refine va_ldcS hx hb hown (hSB.2.2.2 7 (by decide)) dX3_nameOfKind_36 ?_
    exact W.aret hx hb hr (Or.inl ⟨_, rfl⟩) (Or.inr ⟨_, rfl⟩) (fun t ht hW => ⟨rfl, ht⟩) (fun q h => by cases h) dX3_nameOfKind_38
  · refine lv_tableIn (tgt := 39) (off := 38) hx hb dX3_nameOfKind_1 (by rw [iI_toInt hir1, z1]; decide) (by rw [iI_toInt hir1, z1]; decide) (by rw [iI_toInt hir1, z1]; rfl) (by decide) ?_
    refine va_ldcS hx hb hown (hSB.2.2.2 8 (by decide)) dX3_nameOfKind_39 ?_
    exfalso; omega
  · refine lv_tableIn (tgt := 42) (off := 41) hx hb dX3_nameOfKind_1 (by rw [iI_toInt hir1, z1]; decide) (by rw [iI_toInt hir1, z1]; decide) (by rw [iI_toInt hir1, z1]; rfl) (by decide) ?_
    refine va_ldcS hx hb hown (hSB.2.2.2 9 (by decide)) dX3_nameOfKind_42 ?_
    exfalso; omega
  · refine lv_tableIn (tgt := 45) (off := 44) hx hb dX3_nameOfKind_1 (by rw [iI_toInt hir1, z1]; decide) (by rw [iI_toInt hir1, z1]; decide) (by rw [iI_toInt hir1, z1]; rfl) (by decide) ?_
    refine va_ldcS hx hb hown (hSB.2.2.2 10 (by decide)) dX3_nameOfKind_45 ?_
    exfalso; omega
  · refine lv_tableIn (tgt := 48) (off := 47) hx hb dX3_nameOfKind_1 (by rw [iI_toInt hir1, z1]; decide) (by rw [iI_toInt hir1, z1]; decide) (by rw [iI_toInt hir1, z1]; rfl) (by decide) ?_
    refine va_ldcS hx hb hown (hSB.2.2.2 11 (by decide)) dX3_nameOfKind_48 ?_
    exfalso; omega
  · refine lv_tableOut (tgt := 51) hx hb dX3_nameOfKind_1 (by rw [iI_toInt hir1]; exact z1) (by decide) ?_
    refine va_ldcS hx hb hown (hSB.2.2.2 12 (by decide)) dX3_nameOfKind_51 ?_
    exfalso; omega
set_option maxRecDepth 100000 in
set_option maxHeartbeats 4000000 in
theorem c_X3_nameOfKind2 (l : Launch) (g : Gd) (σ : Sg) (n9 : Int) (h1 : IR n9) (h2 : n9 = 2) : Met l yX3_nameOfKind (wsOf yX3_nameOfKind cX3_nameOfKind 1 (some (.object "java/lang/String"))) rm_X3_nameOfKind (PXs g σ (fun _ => False) (fun _ => True) [.int (iI n9)]) (vp_Sv (.ref (σ.1 8))) 0 0 (fun _ => False) := by
  refine me (g := g) (by decide) rfl ?_
  intro pq eq s mq below meth cq C hnm hB ls hl
  obtain ⟨hx, hb, hr, hml, hown, hts, hlocks, hK⟩ := C
  obtain ⟨hSB, hB⟩ := hB
  have hown : s.vm.findClass RX3 = some mq.cls := hown
  have hl : lv_has ls 1 [(0, .int (iI n9))] := hl
  have q1 := h1.1
  have q2 := h1.2
  refine lv_iload_n hx hb dX3_nameOfKind_0 rfl (lv_at hl 0 rfl) ?_
  have hir1 : IR (n9) := ⟨by omega, by omega⟩
  rcases (show (n9) = 1 ∨ (n9) = 2 ∨ (n9) = 3 ∨ (n9) = 4 ∨ (n9) = 5 ∨ ((n9) < 1 ∨ 5 < (n9)) by omega) with z1 | z1 | z1 | z1 | z1 | z1
  · refine lv_tableIn (tgt := 36) (off := 35) hx hb dX3_nameOfKind_1 (by rw [iI_toInt hir1, z1]; decide) (by rw [iI_toInt hir1, z1]; decide) (by rw [iI_toInt hir1, z1]; rfl) (by decide) ?_
    refine va_ldcS hx hb hown (hSB.2.2.2 7 (by decide)) dX3_nameOfKind_36 ?_
    exfalso; omega
  · refine lv_tableIn (tgt := 39) (off := 38) hx hb dX3_nameOfKind_1 (by rw [iI_toInt hir1, z1]; decide) (by rw [iI_toInt hir1, z1]; decide) (by rw [iI_toInt hir1, z1]; rfl) (by decide) ?_
    refine va_ldcS hx hb hown (hSB.2.2.2 8 (by decide)) dX3_nameOfKind_39 ?_
    exact W.aret hx hb hr (Or.inl ⟨_, rfl⟩) (Or.inr ⟨_, rfl⟩) (fun t ht hW => ⟨rfl, ht⟩) (fun q h => by cases h) dX3_nameOfKind_41
  · refine lv_tableIn (tgt := 42) (off := 41) hx hb dX3_nameOfKind_1 (by rw [iI_toInt hir1, z1]; decide) (by rw [iI_toInt hir1, z1]; decide) (by rw [iI_toInt hir1, z1]; rfl) (by decide) ?_
    refine va_ldcS hx hb hown (hSB.2.2.2 9 (by decide)) dX3_nameOfKind_42 ?_
    exfalso; omega
  · refine lv_tableIn (tgt := 45) (off := 44) hx hb dX3_nameOfKind_1 (by rw [iI_toInt hir1, z1]; decide) (by rw [iI_toInt hir1, z1]; decide) (by rw [iI_toInt hir1, z1]; rfl) (by decide) ?_
    refine va_ldcS hx hb hown (hSB.2.2.2 10 (by decide)) dX3_nameOfKind_45 ?_
    exfalso; omega
  · refine lv_tableIn (tgt := 48) (off := 47) hx hb dX3_nameOfKind_1 (by rw [iI_toInt hir1, z1]; decide) (by rw [iI_toInt hir1, z1]; decide) (by rw [iI_toInt hir1, z1]; rfl) (by decide) ?_
    refine va_ldcS hx hb hown (hSB.2.2.2 11 (by decide)) dX3_nameOfKind_48 ?_
    exfalso; omega
  · refine lv_tableOut (tgt := 51) hx hb dX3_nameOfKind_1 (by rw [iI_toInt hir1]; exact z1) (by decide) ?_
    refine va_ldcS hx hb hown (hSB.2.2.2 12 (by decide)) dX3_nameOfKind_51 ?_
    exfalso; omega
set_option maxRecDepth 100000 in
set_option maxHeartbeats 4000000 in
theorem c_X3_nameOfKind3 (l : Launch) (g : Gd) (σ : Sg) (n9 : Int) (h1 : IR n9) (h2 : n9 = 3) : Met l yX3_nameOfKind (wsOf yX3_nameOfKind cX3_nameOfKind 1 (some (.object "java/lang/String"))) rm_X3_nameOfKind (PXs g σ (fun _ => False) (fun _ => True) [.int (iI n9)]) (vp_Sv (.ref (σ.1 9))) 0 0 (fun _ => False) := by
  refine me (g := g) (by decide) rfl ?_
  intro pq eq s mq below meth cq C hnm hB ls hl
  obtain ⟨hx, hb, hr, hml, hown, hts, hlocks, hK⟩ := C
  obtain ⟨hSB, hB⟩ := hB
  have hown : s.vm.findClass RX3 = some mq.cls := hown
  have hl : lv_has ls 1 [(0, .int (iI n9))] := hl
  have q1 := h1.1
  have q2 := h1.2
  refine lv_iload_n hx hb dX3_nameOfKind_0 rfl (lv_at hl 0 rfl) ?_
  have hir1 : IR (n9) := ⟨by omega, by omega⟩
  rcases (show (n9) = 1 ∨ (n9) = 2 ∨ (n9) = 3 ∨ (n9) = 4 ∨ (n9) = 5 ∨ ((n9) < 1 ∨ 5 < (n9)) by omega) with z1 | z1 | z1 | z1 | z1 | z1
  · refine lv_tableIn (tgt := 36) (off := 35) hx hb dX3_nameOfKind_1 (by rw [iI_toInt hir1, z1]; decide) (by rw [iI_toInt hir1, z1]; decide) (by rw [iI_toInt hir1, z1]; rfl) (by decide) ?_
    refine va_ldcS hx hb hown (hSB.2.2.2 7 (by decide)) dX3_nameOfKind_36 ?_
    exfalso; omega
  · refine lv_tableIn (tgt := 39) (off := 38) hx hb dX3_nameOfKind_1 (by rw [iI_toInt hir1, z1]; decide) (by rw [iI_toInt hir1, z1]; decide) (by rw [iI_toInt hir1, z1]; rfl) (by decide) ?_
    refine va_ldcS hx hb hown (hSB.2.2.2 8 (by decide)) dX3_nameOfKind_39 ?_
    exfalso; omega
  · refine lv_tableIn (tgt := 42) (off := 41) hx hb dX3_nameOfKind_1 (by rw [iI_toInt hir1, z1]; decide) (by rw [iI_toInt hir1, z1]; decide) (by rw [iI_toInt hir1, z1]; rfl) (by decide) ?_
    refine va_ldcS hx hb hown (hSB.2.2.2 9 (by decide)) dX3_nameOfKind_42 ?_
    exact W.aret hx hb hr (Or.inl ⟨_, rfl⟩) (Or.inr ⟨_, rfl⟩) (fun t ht hW => ⟨rfl, ht⟩) (fun q h => by cases h) dX3_nameOfKind_44
  · refine lv_tableIn (tgt := 45) (off := 44) hx hb dX3_nameOfKind_1 (by rw [iI_toInt hir1, z1]; decide) (by rw [iI_toInt hir1, z1]; decide) (by rw [iI_toInt hir1, z1]; rfl) (by decide) ?_
    refine va_ldcS hx hb hown (hSB.2.2.2 10 (by decide)) dX3_nameOfKind_45 ?_
    exfalso; omega
  · refine lv_tableIn (tgt := 48) (off := 47) hx hb dX3_nameOfKind_1 (by rw [iI_toInt hir1, z1]; decide) (by rw [iI_toInt hir1, z1]; decide) (by rw [iI_toInt hir1, z1]; rfl) (by decide) ?_
    refine va_ldcS hx hb hown (hSB.2.2.2 11 (by decide)) dX3_nameOfKind_48 ?_
    exfalso; omega
  · refine lv_tableOut (tgt := 51) hx hb dX3_nameOfKind_1 (by rw [iI_toInt hir1]; exact z1) (by decide) ?_
    refine va_ldcS hx hb hown (hSB.2.2.2 12 (by decide)) dX3_nameOfKind_51 ?_
    exfalso; omega
set_option maxRecDepth 100000 in
set_option maxHeartbeats 4000000 in
theorem c_X3_nameOfKind4 (l : Launch) (g : Gd) (σ : Sg) (n9 : Int) (h1 : IR n9) (h2 : n9 = 4) : Met l yX3_nameOfKind (wsOf yX3_nameOfKind cX3_nameOfKind 1 (some (.object "java/lang/String"))) rm_X3_nameOfKind (PXs g σ (fun _ => False) (fun _ => True) [.int (iI n9)]) (vp_Sv (.ref (σ.1 10))) 0 0 (fun _ => False) := by
  refine me (g := g) (by decide) rfl ?_
  intro pq eq s mq below meth cq C hnm hB ls hl
  obtain ⟨hx, hb, hr, hml, hown, hts, hlocks, hK⟩ := C
  obtain ⟨hSB, hB⟩ := hB
  have hown : s.vm.findClass RX3 = some mq.cls := hown
  have hl : lv_has ls 1 [(0, .int (iI n9))] := hl
  have q1 := h1.1
  have q2 := h1.2
  refine lv_iload_n hx hb dX3_nameOfKind_0 rfl (lv_at hl 0 rfl) ?_
  have hir1 : IR (n9) := ⟨by omega, by omega⟩
  rcases (show (n9) = 1 ∨ (n9) = 2 ∨ (n9) = 3 ∨ (n9) = 4 ∨ (n9) = 5 ∨ ((n9) < 1 ∨ 5 < (n9)) by omega) with z1 | z1 | z1 | z1 | z1 | z1
  · refine lv_tableIn (tgt := 36) (off := 35) hx hb dX3_nameOfKind_1 (by rw [iI_toInt hir1, z1]; decide) (by rw [iI_toInt hir1, z1]; decide) (by rw [iI_toInt hir1, z1]; rfl) (by decide) ?_
    refine va_ldcS hx hb hown (hSB.2.2.2 7 (by decide)) dX3_nameOfKind_36 ?_
    exfalso; omega
  · refine lv_tableIn (tgt := 39) (off := 38) hx hb dX3_nameOfKind_1 (by rw [iI_toInt hir1, z1]; decide) (by rw [iI_toInt hir1, z1]; decide) (by rw [iI_toInt hir1, z1]; rfl) (by decide) ?_
    refine va_ldcS hx hb hown (hSB.2.2.2 8 (by decide)) dX3_nameOfKind_39 ?_
    exfalso; omega
  · refine lv_tableIn (tgt := 42) (off := 41) hx hb dX3_nameOfKind_1 (by rw [iI_toInt hir1, z1]; decide) (by rw [iI_toInt hir1, z1]; decide) (by rw [iI_toInt hir1, z1]; rfl) (by decide) ?_
    refine va_ldcS hx hb hown (hSB.2.2.2 9 (by decide)) dX3_nameOfKind_42 ?_
    exfalso; omega
  · refine lv_tableIn (tgt := 45) (off := 44) hx hb dX3_nameOfKind_1 (by rw [iI_toInt hir1, z1]; decide) (by rw [iI_toInt hir1, z1]; decide) (by rw [iI_toInt hir1, z1]; rfl) (by decide) ?_
    refine va_ldcS hx hb hown (hSB.2.2.2 10 (by decide)) dX3_nameOfKind_45 ?_
    exact W.aret hx hb hr (Or.inl ⟨_, rfl⟩) (Or.inr ⟨_, rfl⟩) (fun t ht hW => ⟨rfl, ht⟩) (fun q h => by cases h) dX3_nameOfKind_47
  · refine lv_tableIn (tgt := 48) (off := 47) hx hb dX3_nameOfKind_1 (by rw [iI_toInt hir1, z1]; decide) (by rw [iI_toInt hir1, z1]; decide) (by rw [iI_toInt hir1, z1]; rfl) (by decide) ?_
    refine va_ldcS hx hb hown (hSB.2.2.2 11 (by decide)) dX3_nameOfKind_48 ?_
    exfalso; omega
  · refine lv_tableOut (tgt := 51) hx hb dX3_nameOfKind_1 (by rw [iI_toInt hir1]; exact z1) (by decide) ?_
    refine va_ldcS hx hb hown (hSB.2.2.2 12 (by decide)) dX3_nameOfKind_51 ?_
    exfalso; omega
set_option maxRecDepth 100000 in
set_option maxHeartbeats 4000000 in
theorem c_X3_nameOfKind5 (l : Launch) (g : Gd) (σ : Sg) (n9 : Int) (h1 : IR n9) (h2 : n9 = 5) : Met l yX3_nameOfKind (wsOf yX3_nameOfKind cX3_nameOfKind 1 (some (.object "java/lang/String"))) rm_X3_nameOfKind (PXs g σ (fun _ => False) (fun _ => True) [.int (iI n9)]) (vp_Sv (.ref (σ.1 11))) 0 0 (fun _ => False) := by
  refine me (g := g) (by decide) rfl ?_
  intro pq eq s mq below meth cq C hnm hB ls hl
  obtain ⟨hx, hb, hr, hml, hown, hts, hlocks, hK⟩ := C
  obtain ⟨hSB, hB⟩ := hB
  have hown : s.vm.findClass RX3 = some mq.cls := hown
  have hl : lv_has ls 1 [(0, .int (iI n9))] := hl
  have q1 := h1.1
  have q2 := h1.2
  refine lv_iload_n hx hb dX3_nameOfKind_0 rfl (lv_at hl 0 rfl) ?_
  have hir1 : IR (n9) := ⟨by omega, by omega⟩
  rcases (show (n9) = 1 ∨ (n9) = 2 ∨ (n9) = 3 ∨ (n9) = 4 ∨ (n9) = 5 ∨ ((n9) < 1 ∨ 5 < (n9)) by omega) with z1 | z1 | z1 | z1 | z1 | z1
  · refine lv_tableIn (tgt := 36) (off := 35) hx hb dX3_nameOfKind_1 (by rw [iI_toInt hir1, z1]; decide) (by rw [iI_toInt hir1, z1]; decide) (by rw [iI_toInt hir1, z1]; rfl) (by decide) ?_
    refine va_ldcS hx hb hown (hSB.2.2.2 7 (by decide)) dX3_nameOfKind_36 ?_
    exfalso; omega
  · refine lv_tableIn (tgt := 39) (off := 38) hx hb dX3_nameOfKind_1 (by rw [iI_toInt hir1, z1]; decide) (by rw [iI_toInt hir1, z1]; decide) (by rw [iI_toInt hir1, z1]; rfl) (by decide) ?_
    refine va_ldcS hx hb hown (hSB.2.2.2 8 (by decide)) dX3_nameOfKind_39 ?_
    exfalso; omega
  · refine lv_tableIn (tgt := 42) (off := 41) hx hb dX3_nameOfKind_1 (by rw [iI_toInt hir1, z1]; decide) (by rw [iI_toInt hir1, z1]; decide) (by rw [iI_toInt hir1, z1]; rfl) (by decide) ?_
    refine va_ldcS hx hb hown (hSB.2.2.2 9 (by decide)) dX3_nameOfKind_42 ?_
    exfalso; omega
  · refine lv_tableIn (tgt := 45) (off := 44) hx hb dX3_nameOfKind_1 (by rw [iI_toInt hir1, z1]; decide) (by rw [iI_toInt hir1, z1]; decide) (by rw [iI_toInt hir1, z1]; rfl) (by decide) ?_
    refine va_ldcS hx hb hown (hSB.2.2.2 10 (by decide)) dX3_nameOfKind_45 ?_
    exfalso; omega
  · refine lv_tableIn (tgt := 48) (off := 47) hx hb dX3_nameOfKind_1 (by rw [iI_toInt hir1, z1]; decide) (by rw [iI_toInt hir1, z1]; decide) (by rw [iI_toInt hir1, z1]; rfl) (by decide) ?_
    refine va_ldcS hx hb hown (hSB.2.2.2 11 (by decide)) dX3_nameOfKind_48 ?_
    exact W.aret hx hb hr (Or.inl ⟨_, rfl⟩) (Or.inr ⟨_, rfl⟩) (fun t ht hW => ⟨rfl, ht⟩) (fun q h => by cases h) dX3_nameOfKind_50
  · refine lv_tableOut (tgt := 51) hx hb dX3_nameOfKind_1 (by rw [iI_toInt hir1]; exact z1) (by decide) ?_
    refine va_ldcS hx hb hown (hSB.2.2.2 12 (by decide)) dX3_nameOfKind_51 ?_
    exfalso; omega
abbrev rm_X3_kindAtHand : Room := { frames := 5, cells := 0, slots := 0, locals := 107 }
set_option maxRecDepth 100000 in
set_option maxHeartbeats 4000000 in
theorem c_X3_kindAtHand (l : Launch) (g : Gd) (σ : Sg) (a : Nat → Nat) (f1 : Int → Int) (f20 : Int) (f21 : Int) (f22 : Int) (f23 : Int) (f24 : Int) (h1 : ∀ j, 0 ≤ f1 j ∧ f1 j ≤ 255) (h2 : 0 ≤ f20 ∧ f20 ≤ 120) (h3 : TI f1 f20 f21 f22 f23 f24) : Met l yX3_kindAtHand (wsOf yX3_kindAtHand cX3_kindAtHand 2 (some .int)) rm_X3_kindAtHand (PXs g σ (fun _ => False) (va_P g.1 vwCl (wT g a f1 f20 f21 f22 f23 f24)) [.ref (a 0)]) (vp_Si (fun r9 => r9 = iI (kdQ (wdQ f1 f20 (0, f21, f22, 0))))) 0 0 (fun _ => False) := by
  refine me (g := g) (by decide) rfl ?_
  intro pq eq s mq below meth cq C hnm hB ls hl
  obtain ⟨hx, hb, hr, hml, hown, hts, hlocks, hK⟩ := C
  obtain ⟨hSB, hB⟩ := hB
  have hown : s.vm.findClass RX3 = some mq.cls := hown
  have hl : lv_has ls 2 [(0, .ref (a 0))] := hl
  have hP : va_P g.1 vwCl (wT g a f1 f20 f21 f22 f23 f24) s.heap := hB
  have hT := h3
  have hTb := hT.1
  have hso := hT.2.2.1
  have hsr := srt_c f1 f20 f21
  have hnb := hT.nb
  refine lv_iconst (v := iI (0)) hx hb dX3_kindAtHand_0 (by decide) ?_
  refine lv_istore_n (lv' := [(1, .int (iI 0)), (0, .ref (a 0))]) hx hb dX3_kindAtHand_1 rfl hl (by decide) rfl (fun ls hl => ?_)
  have lp2 : ∀ (n2 : Nat) (k : Nat), (k ≤ 6) → ((0 < k → ¬ (wdQ f1 f20 (0, f21, f22, 0)) = 18921701) ∧ (1 < k → ¬ (wdQ f1 f20 (0, f21, f22, 0)) = 271756) ∧ (2 < k → ¬ (wdQ f1 f20 (0, f21, f22, 0)) = 529451) ∧ (3 < k → ¬ (wdQ f1 f20 (0, f21, f22, 0)) = 7920002226) ∧ (4 < k → ¬ (wdQ f1 f20 (0, f21, f22, 0)) = 441842) ∧ (5 < k → ¬ (wdQ f1 f20 (0, f21, f22, 0)) = 679214)) → 6 - k < n2 → ∀ ls : Array Slot, lv_has ls 2 [(1, .int (iI (k : Int))), (0, .ref (a 0))] → W pq l eq rm_X3_kindAtHand s mq [.ref (a 0)].toArray below meth cq s.heap [] 0 0 (MQ below (vp_Si (fun r9 => r9 = iI (kdQ (wdQ f1 f20 (0, f21, f22, 0))))) [.ref (a 0)].toArray s 0 0 (fun _ => False)) (F0 mq 2 ls []) := by
    intro n2
    induction n2 with
    | zero => intro k i2_1 i2_2 hm; exact absurd hm (Nat.not_lt_zero _)
    | succ n2 ih2 =>
      intro k i2_1 i2_2 hm2 ls hl
      refine lv_iload_n hx hb dX3_kindAtHand_2 rfl (lv_at hl 0 rfl) ?_
      refine lv_bipush (v := iI (6)) hx hb dX3_kindAtHand_3 (by decide) ?_
      refine xi_c_ge (tgt := 27) hx hb ⟨by omega, by omega⟩ ⟨by decide, by decide⟩ dX3_kindAtHand_5 (by decide) (fun z1 => ?_) (fun z1 => ?_)
      · refine lv_iconst (v := iI (-1)) hx hb dX3_kindAtHand_27 (by decide) ?_
        exact W.iret hx hb hr (fun t ht hW => ⟨_, rfl, congrArg iI (by unfold kdQ; (repeat (first | rw [if_pos (by omega)] | rw [if_neg (by omega)]))), ht⟩) (fun q h => by cases h) dX3_kindAtHand_28
      · refine lv_aload_n hx hb dX3_kindAtHand_8 rfl (lv_at hl 1 rfl) ?_
        refine lv_iload_n hx hb dX3_kindAtHand_9 rfl (lv_at hl 0 rfl) ?_
        rcases (show ((k : Int) = 0) ∨ ((k : Int) = 1) ∨ ((k : Int) = 2) ∨ ((k : Int) = 3) ∨ ((k : Int) = 4) ∨ ((k : Int) = 5) from by omega) with z2 | z2 | z2 | z2 | z2 | z2
        · refine xu_v (v := .ref (σ.1 12)) (rSs (rest := [.ref (a 0)]) hx hb hml hown hts hK hl hSB va_S.rf (fun _ h => h.elim) (c_X3_nameOfKind0 l g σ (k : Int) (show IR (k : Int) from ⟨by omega, by omega⟩) (show (k : Int) = 0 from by omega)) lk_X3_122 trivial rfl rfl rfl (Rm.of rfl) rfl rfl dX3_kindAtHand_10) ?_
          refine xu_b (P := wdQ f1 f20 (0, f21, f22, 0) = 18921701) (rVs (rest := []) hx hb hml hown hts hK hl hSB va_S.rf (fun _ h => h.elim) (c_X3_isWord l g σ a f1 f20 f21 f22 f23 f24 12 (show ∀ j, 0 ≤ f1 j ∧ f1 j ≤ 255 from h1) (show 0 ≤ f20 ∧ f20 ≤ 120 from h2) (show TI f1 f20 f21 f22 f23 f24 from h3) (show 12 < 13 from by decide)) lk_X3_37 hP (va_recv hK.1 hP (ci := 3) (q0 := 0) rfl rfl) rfl rfl rfl (Rm.of rfl) rfl rfl dX3_kindAtHand_13) (fun z4 => ?_) (fun z4 => ?_)
          · refine xi_zf_eq hx hb ⟨by decide, by decide⟩ (by decide) dX3_kindAtHand_16 ⟨21, by decide⟩ ?_
            refine lv_iload_n hx hb dX3_kindAtHand_19 rfl (lv_at hl 0 rfl) ?_
            exact W.iret hx hb hr (fun t ht hW => ⟨_, rfl, congrArg iI (by unfold kdQ; (repeat (first | rw [if_pos (by omega)] | rw [if_neg (by omega)])); first | done | omega), ht⟩) (fun q h => by cases h) dX3_kindAtHand_20
          · refine xi_zt_eq (tgt := 21) hx hb ⟨by decide, by decide⟩ (by decide) dX3_kindAtHand_16 (by decide) ?_
            refine xi_inc (lv' := [(1, .int (iI ((k : Int) + 1))), (0, .ref (a 0))]) hx hb dX3_kindAtHand_21 hl (k := 0) rfl (by decide) rfl (fun ls hl => ?_)
            refine lv_goto (tgt := 2) hx hb dX3_kindAtHand_24 (by decide) ?_
            have hq5 : ((k : Int) + 1) = ((k + 1) : Int) := by omega
            have hl : lv_has ls 2 [(1, .int (iI ((k : Int) + 1))), (0, .ref (a 0))] := lv_sub hl [0, 1] rfl
            have hl := Eq.mp (congrArg (fun z9 => lv_has ls 2 [(1, .int (iI z9)), (0, .ref (a 0))]) hq5) hl
            exact ih2 (k + 1) (by omega) (by omega) (by omega) ls hl
        · refine xu_v (v := .ref (σ.1 7)) (rSs (rest := [.ref (a 0)]) hx hb hml hown hts hK hl hSB va_S.rf (fun _ h => h.elim) (c_X3_nameOfKind1 l g σ (k : Int) (show IR (k : Int) from ⟨by omega, by omega⟩) (show (k : Int) = 1 from by omega)) lk_X3_122 trivial rfl rfl rfl (Rm.of rfl) rfl rfl dX3_kindAtHand_10) ?_
          refine xu_b (P := wdQ f1 f20 (0, f21, f22, 0) = 271756) (rVs (rest := []) hx hb hml hown hts hK hl hSB va_S.rf (fun _ h => h.elim) (c_X3_isWord l g σ a f1 f20 f21 f22 f23 f24 7 (show ∀ j, 0 ≤ f1 j ∧ f1 j ≤ 255 from h1) (show 0 ≤ f20 ∧ f20 ≤ 120 from h2) (show TI f1 f20 f21 f22 f23 f24 from h3) (show 7 < 13 from by decide)) lk_X3_37 hP (va_recv hK.1 hP (ci := 3) (q0 := 0) rfl rfl) rfl rfl rfl (Rm.of rfl) rfl rfl dX3_kindAtHand_13) (fun z7 => ?_) (fun z7 => ?_)
          · refine xi_zf_eq hx hb ⟨by decide, by decide⟩ (by decide) dX3_kindAtHand_16 ⟨21, by decide⟩ ?_
            refine lv_iload_n hx hb dX3_kindAtHand_19 rfl (lv_at hl 0 rfl) ?_
            exact W.iret hx hb hr (fun t ht hW => ⟨_, rfl, congrArg iI (by unfold kdQ; (repeat (first | rw [if_pos (by omega)] | rw [if_neg (by omega)])); first | done | omega), ht⟩) (fun q h => by cases h) dX3_kindAtHand_20
          · refine xi_zt_eq (tgt := 21) hx hb ⟨by decide, by decide⟩ (by decide) dX3_kindAtHand_16 (by decide) ?_
            refine xi_inc (lv' := [(1, .int (iI ((k : Int) + 1))), (0, .ref (a 0))]) hx hb dX3_kindAtHand_21 hl (k := 0) rfl (by decide) rfl (fun ls hl => ?_)
            refine lv_goto (tgt := 2) hx hb dX3_kindAtHand_24 (by decide) ?_
            have hq8 : ((k : Int) + 1) = ((k + 1) : Int) := by omega
            have hl : lv_has ls 2 [(1, .int (iI ((k : Int) + 1))), (0, .ref (a 0))] := lv_sub hl [0, 1] rfl
            have hl := Eq.mp (congrArg (fun z9 => lv_has ls 2 [(1, .int (iI z9)), (0, .ref (a 0))]) hq8) hl
            exact ih2 (k + 1) (by omega) (by omega) (by omega) ls hl
        · refine xu_v (v := .ref (σ.1 8)) (rSs (rest := [.ref (a 0)]) hx hb hml hown hts hK hl hSB va_S.rf (fun _ h => h.elim) (c_X3_nameOfKind2 l g σ (k : Int) (show IR (k : Int) from ⟨by omega, by omega⟩) (show (k : Int) = 2 from by omega)) lk_X3_122 trivial rfl rfl rfl (Rm.of rfl) rfl rfl dX3_kindAtHand_10) ?_
          refine xu_b (P := wdQ f1 f20 (0, f21, f22, 0) = 529451) (rVs (rest := []) hx hb hml hown hts hK hl hSB va_S.rf (fun _ h => h.elim) (c_X3_isWord l g σ a f1 f20 f21 f22 f23 f24 8 (show ∀ j, 0 ≤ f1 j ∧ f1 j ≤ 255 from h1) (show 0 ≤ f20 ∧ f20 ≤ 120 from h2) (show TI f1 f20 f21 f22 f23 f24 from h3) (show 8 < 13 from by decide)) lk_X3_37 hP (va_recv hK.1 hP (ci := 3) (q0 := 0) rfl rfl) rfl rfl rfl (Rm.of rfl) rfl rfl dX3_kindAtHand_13) (fun z10 => ?_) (fun z10 => ?_)
          · refine xi_zf_eq hx hb ⟨by decide, by decide⟩ (by decide) dX3_kindAtHand_16 ⟨21, by decide⟩ ?_
            refine lv_iload_n hx hb dX3_kindAtHand_19 rfl (lv_at hl 0 rfl) ?_
            exact W.iret hx hb hr (fun t ht hW => ⟨_, rfl, congrArg iI (by unfold kdQ; (repeat (first | rw [if_pos (by omega)] | rw [if_neg (by omega)])); first | done | omega), ht⟩) (fun q h => by cases h) dX3_kindAtHand_20
          · refine xi_zt_eq (tgt := 21) hx hb ⟨by decide, by decide⟩ (by decide) dX3_kindAtHand_16 (by decide) ?_
            refine xi_inc (lv' := [(1, .int (iI ((k : Int) + 1))), (0, .ref (a 0))]) hx hb dX3_kindAtHand_21 hl (k := 0) rfl (by decide) rfl (fun ls hl => ?_)
            refine lv_goto (tgt := 2) hx hb dX3_kindAtHand_24 (by decide) ?_
            have hq11 : ((k : Int) + 1) = ((k + 1) : Int) := by omega
            have hl : lv_has ls 2 [(1, .int (iI ((k : Int) + 1))), (0, .ref (a 0))] := lv_sub hl [0, 1] rfl
            have hl := Eq.mp (congrArg (fun z9 => lv_has ls 2 [(1, .int (iI z9)), (0, .ref (a 0))]) hq11) hl
            exact ih2 (k + 1) (by omega) (by omega) (by omega) ls hl
        · refine xu_v (v := .ref (σ.1 9)) (rSs (rest := [.ref (a 0)]) hx hb hml hown hts hK hl hSB va_S.rf (fun _ h => h.elim) (c_X3_nameOfKind3 l g σ (k : Int) (show IR (k : Int) from ⟨by omega, by omega⟩) (show (k : Int) = 3 from by omega)) lk_X3_122 trivial rfl rfl rfl (Rm.of rfl) rfl rfl dX3_kindAtHand_10) ?_
          refine xu_b (P := wdQ f1 f20 (0, f21, f22, 0) = 7920002226) (rVs (rest := []) hx hb hml hown hts hK hl hSB va_S.rf (fun _ h => h.elim) (c_X3_isWord l g σ a f1 f20 f21 f22 f23 f24 9 (show ∀ j, 0 ≤ f1 j ∧ f1 j ≤ 255 from h1) (show 0 ≤ f20 ∧ f20 ≤ 120 from h2) (show TI f1 f20 f21 f22 f23 f24 from h3) (show 9 < 13 from by decide)) lk_X3_37 hP (va_recv hK.1 hP (ci := 3) (q0 := 0) rfl rfl) rfl rfl rfl (Rm.of rfl) rfl rfl dX3_kindAtHand_13) (fun z13 => ?_) (fun z13 => ?_)
          · refine xi_zf_eq hx hb ⟨by decide, by decide⟩ (by decide) dX3_kindAtHand_16 ⟨21, by decide⟩ ?_
            refine lv_iload_n hx hb dX3_kindAtHand_19 rfl (lv_at hl 0 rfl) ?_
            exact W.iret hx hb hr (fun t ht hW => ⟨_, rfl, congrArg iI (by unfold kdQ; (repeat (first | rw [if_pos (by omega)] | rw [if_neg (by omega)])); first | done | omega), ht⟩) (fun q h => by cases h) dX3_kindAtHand_20
          · refine xi_zt_eq (tgt := 21) hx hb ⟨by decide, by decide⟩ (by decide) dX3_kindAtHand_16 (by decide) ?_
            refine xi_inc (lv' := [(1, .int (iI ((k : Int) + 1))), (0, .ref (a 0))]) hx hb dX3_kindAtHand_21 hl (k := 0) rfl (by decide) rfl (fun ls hl => ?_)
            refine lv_goto (tgt := 2) hx hb dX3_kindAtHand_24 (by decide) ?_
            have hq14 : ((k : Int) + 1) = ((k + 1) : Int) := by omega
            have hl : lv_has ls 2 [(1, .int (iI ((k : Int) + 1))), (0, .ref (a 0))] := lv_sub hl [0, 1] rfl
            have hl := Eq.mp (congrArg (fun z9 => lv_has ls 2 [(1, .int (iI z9)), (0, .ref (a 0))]) hq14) hl
            exact ih2 (k + 1) (by omega) (by omega) (by omega) ls hl
        · refine xu_v (v := .ref (σ.1 10)) (rSs (rest := [.ref (a 0)]) hx hb hml hown hts hK hl hSB va_S.rf (fun _ h => h.elim) (c_X3_nameOfKind4 l g σ (k : Int) (show IR (k : Int) from ⟨by omega, by omega⟩) (show (k : Int) = 4 from by omega)) lk_X3_122 trivial rfl rfl rfl (Rm.of rfl) rfl rfl dX3_kindAtHand_10) ?_
          refine xu_b (P := wdQ f1 f20 (0, f21, f22, 0) = 441842) (rVs (rest := []) hx hb hml hown hts hK hl hSB va_S.rf (fun _ h => h.elim) (c_X3_isWord l g σ a f1 f20 f21 f22 f23 f24 10 (show ∀ j, 0 ≤ f1 j ∧ f1 j ≤ 255 from h1) (show 0 ≤ f20 ∧ f20 ≤ 120 from h2) (show TI f1 f20 f21 f22 f23 f24 from h3) (show 10 < 13 from by decide)) lk_X3_37 hP (va_recv hK.1 hP (ci := 3) (q0 := 0) rfl rfl) rfl rfl rfl (Rm.of rfl) rfl rfl dX3_kindAtHand_13) (fun z16 => ?_) (fun z16 => ?_)
          · refine xi_zf_eq hx hb ⟨by decide, by decide⟩ (by decide) dX3_kindAtHand_16 ⟨21, by decide⟩ ?_
            refine lv_iload_n hx hb dX3_kindAtHand_19 rfl (lv_at hl 0 rfl) ?_
            exact W.iret hx hb hr (fun t ht hW => ⟨_, rfl, congrArg iI (by unfold kdQ; (repeat (first | rw [if_pos (by omega)] | rw [if_neg (by omega)])); first | done | omega), ht⟩) (fun q h => by cases h) dX3_kindAtHand_20
          · refine xi_zt_eq (tgt := 21) hx hb ⟨by decide, by decide⟩ (by decide) dX3_kindAtHand_16 (by decide) ?_
            refine xi_inc (lv' := [(1, .int (iI ((k : Int) + 1))), (0, .ref (a 0))]) hx hb dX3_kindAtHand_21 hl (k := 0) rfl (by decide) rfl (fun ls hl => ?_)
            refine lv_goto (tgt := 2) hx hb dX3_kindAtHand_24 (by decide) ?_
            have hq17 : ((k : Int) + 1) = ((k + 1) : Int) := by omega
            have hl : lv_has ls 2 [(1, .int (iI ((k : Int) + 1))), (0, .ref (a 0))] := lv_sub hl [0, 1] rfl
            have hl := Eq.mp (congrArg (fun z9 => lv_has ls 2 [(1, .int (iI z9)), (0, .ref (a 0))]) hq17) hl
            exact ih2 (k + 1) (by omega) (by omega) (by omega) ls hl
        · refine xu_v (v := .ref (σ.1 11)) (rSs (rest := [.ref (a 0)]) hx hb hml hown hts hK hl hSB va_S.rf (fun _ h => h.elim) (c_X3_nameOfKind5 l g σ (k : Int) (show IR (k : Int) from ⟨by omega, by omega⟩) (show (k : Int) = 5 from by omega)) lk_X3_122 trivial rfl rfl rfl (Rm.of rfl) rfl rfl dX3_kindAtHand_10) ?_
          refine xu_b (P := wdQ f1 f20 (0, f21, f22, 0) = 679214) (rVs (rest := []) hx hb hml hown hts hK hl hSB va_S.rf (fun _ h => h.elim) (c_X3_isWord l g σ a f1 f20 f21 f22 f23 f24 11 (show ∀ j, 0 ≤ f1 j ∧ f1 j ≤ 255 from h1) (show 0 ≤ f20 ∧ f20 ≤ 120 from h2) (show TI f1 f20 f21 f22 f23 f24 from h3) (show 11 < 13 from by decide)) lk_X3_37 hP (va_recv hK.1 hP (ci := 3) (q0 := 0) rfl rfl) rfl rfl rfl (Rm.of rfl) rfl rfl dX3_kindAtHand_13) (fun z19 => ?_) (fun z19 => ?_)
          · refine xi_zf_eq hx hb ⟨by decide, by decide⟩ (by decide) dX3_kindAtHand_16 ⟨21, by decide⟩ ?_
            refine lv_iload_n hx hb dX3_kindAtHand_19 rfl (lv_at hl 0 rfl) ?_
            exact W.iret hx hb hr (fun t ht hW => ⟨_, rfl, congrArg iI (by unfold kdQ; (repeat (first | rw [if_pos (by omega)] | rw [if_neg (by omega)])); first | done | omega), ht⟩) (fun q h => by cases h) dX3_kindAtHand_20
          · refine xi_zt_eq (tgt := 21) hx hb ⟨by decide, by decide⟩ (by decide) dX3_kindAtHand_16 (by decide) ?_
            refine xi_inc (lv' := [(1, .int (iI ((k : Int) + 1))), (0, .ref (a 0))]) hx hb dX3_kindAtHand_21 hl (k := 0) rfl (by decide) rfl (fun ls hl => ?_)
            refine lv_goto (tgt := 2) hx hb dX3_kindAtHand_24 (by decide) ?_
            have hq20 : ((k : Int) + 1) = ((k + 1) : Int) := by omega
            have hl : lv_has ls 2 [(1, .int (iI ((k : Int) + 1))), (0, .ref (a 0))] := lv_sub hl [0, 1] rfl
            have hl := Eq.mp (congrArg (fun z9 => lv_has ls 2 [(1, .int (iI z9)), (0, .ref (a 0))]) hq20) hl
            exact ih2 (k + 1) (by omega) (by omega) (by omega) ls hl
  have hq21 : 0 = (0 : Int) := rfl
  have hl : lv_has ls 2 [(1, .int (iI 0)), (0, .ref (a 0))] := lv_sub hl [0, 1] rfl
  have hl := Eq.mp (congrArg (fun z9 => lv_has ls 2 [(1, .int (iI z9)), (0, .ref (a 0))]) hq21) hl
  exact lp2 (6 + 1) 0 (by omega) (by omega) (by omega) ls hl

abbrev rm_X5_places : Room := { frames := 2, cells := 0, slots := 0, locals := 43 }
set_option maxRecDepth 100000 in
set_option maxHeartbeats 4000000 in
theorem c_X5_places (l : Launch) (g : Gd) (a : Nat → Nat) (f1 : Int → Int) (f2 : Int → Int) (f3 : Int → Int) (f4 : Int → Int) (f5 : Int → Int) (f6 : Int → Int) (f7 : Int → Int) (f8 : Int → Int) (f9 : Int → Int) (f10 : Int → Int) (f11 : Int → Int) (f12 : Int → Int) (f13 : Int → Int) (f20 : Int) (f21 : Int) (f22 : Int) (f23 : Int) (f24 : Int) (f25 : Int) (h1 : Inv f1) : Met l yX5_places (wsOf yX5_places cX5_places 3 (some .int)) rm_X5_places (PX g (va_P g.1 vwCl (wM g a f1 f2 f3 f4 f5 f6 f7 f8 f9 f10 f11 f12 f13 f20 f21 f22 f23 f24 f25)) [.ref (a 0)]) (vp_Si (fun r9 => r9 = orT (plT f1) (f1 1).toNat)) 0 0 (fun _ => False) := by
  refine me (g := g) (by decide) rfl ?_
  intro pq eq s mq below meth cq C hnm hB ls hl
  obtain ⟨hx, hb, hr, hml, hown, hts, hlocks, hK⟩ := C
  have hown : s.vm.findClass RX5 = some mq.cls := hown
  have hl : lv_has ls 3 [(0, .ref (a 0))] := hl
  have hP : va_P g.1 vwCl (wM g a f1 f2 f3 f4 f5 f6 f7 f8 f9 f10 f11 f12 f13 f20 f21 f22 f23 f24 f25) s.heap := hB
  have hI := h1
  have hn := hI.num
  have hs := hI.sea
  refine lv_iconst (v := iI (0)) hx hb dX5_places_0 (by decide) ?_
  refine lv_istore_n (lv' := [(1, .int (iI 0)), (0, .ref (a 0))]) hx hb dX5_places_1 rfl hl (by decide) rfl (fun ls hl => ?_)
  refine lv_iconst (v := iI (0)) hx hb dX5_places_2 (by decide) ?_
  refine lv_istore_n (lv' := [(2, .int (iI 0)), (1, .int (iI 0)), (0, .ref (a 0))]) hx hb dX5_places_3 rfl hl (by decide) rfl (fun ls hl => ?_)
  have lp4 : ∀ (n4 : Nat) (k : Nat), ((k : Int) ≤ f1 1) → 8 - k < n4 → ∀ ls : Array Slot, lv_has ls 3 [(2, .int (iI (k : Int))), (1, .int (orT (plT f1) k)), (0, .ref (a 0))] → W pq l eq rm_X5_places s mq [.ref (a 0)].toArray below meth cq s.heap [] 0 0 (MQ below (vp_Si (fun r9 => r9 = orT (plT f1) (f1 1).toNat)) [.ref (a 0)].toArray s 0 0 (fun _ => False)) (F0 mq 4 ls []) := by
    intro n4
    induction n4 with
    | zero => intro k i4_1 hm; exact absurd hm (Nat.not_lt_zero _)
    | succ n4 ih4 =>
      intro k i4_1 hm4 ls hl
      refine lv_iload_n hx hb dX5_places_4 rfl (lv_at hl 0 rfl) ?_
      refine lv_aload_n hx hb dX5_places_5 rfl (lv_at hl 2 rfl) ?_
      refine xg_X5 hx hb hts hown hK hP 0 rfl 0 (by decide) fk_X5_7 (v := .ref (a 1)) rfl dX5_places_6 ?_
      refine lv_iconst (v := iI (1)) hx hb dX5_places_9 (by decide) ?_
      refine xi_ald hx hb hK hP 1 (f := f1) rfl (i := 1) ⟨by omega, by omega⟩ rfl dX5_places_10 ?_
      refine xi_c_ge (tgt := 31) hx hb ⟨by omega, by omega⟩ ⟨by omega, by omega⟩ dX5_places_11 (by decide) (fun z1 => ?_) (fun z1 => ?_)
      · refine lv_iload_n hx hb dX5_places_31 rfl (lv_at hl 1 rfl) ?_
        exact W.iret hx hb hr (fun t ht hW => ⟨_, rfl, congrArg (fun z => orT (plT f1) z) (show k = (f1 1).toNat by omega), ht⟩) (fun q h => by cases h) dX5_places_32
      · refine lv_iload_n hx hb dX5_places_14 rfl (lv_at hl 1 rfl) ?_
        refine lv_iconst (v := iI (1)) hx hb dX5_places_15 (by decide) ?_
        refine lv_aload_n hx hb dX5_places_16 rfl (lv_at hl 2 rfl) ?_
        refine lv_iload_n hx hb dX5_places_17 rfl (lv_at hl 0 rfl) ?_
        refine lv_iconst (v := iI (1)) hx hb dX5_places_18 (by decide) ?_
        refine xu_i (x := iI (f1 (61 + 5 * (k : Int) + 1))) (rV (rest := [.int (iI 1), .int (orT (plT f1) k)]) hx hb hml hown hts hK hl (c_X5_its l g a f1 f2 f3 f4 f5 f6 f7 f8 f9 f10 f11 f12 f13 f20 f21 f22 f23 f24 f25 (k : Int) 1 (show 0 ≤ 61 + 5 * (k : Int) + 1 ∧ 61 + 5 * (k : Int) + 1 < 101 from by omega)) lk_X5_63 hP (va_recv hK.1 hP (ci := 5) (q0 := 0) rfl rfl) rfl rfl rfl (Rm.of rfl) rfl rfl dX5_places_19) ?_
        refine lv_ishl hx hb dX5_places_22 ?_
        refine lv_ior hx hb dX5_places_23 ?_
        refine lv_istore_n (lv' := [(1, .int (((orT (plT f1) k)) ||| (((iI 1) <<< ((iI (f1 (61 + 5 * (k : Int) + 1))) &&& 31))))), (2, .int (iI (k : Int))), (0, .ref (a 0))]) hx hb dX5_places_24 rfl hl (by decide) rfl (fun ls hl => ?_)
        refine xi_inc (lv' := [(2, .int (iI ((k : Int) + 1))), (1, .int (((orT (plT f1) k)) ||| (((iI 1) <<< ((iI (f1 (61 + 5 * (k : Int) + 1))) &&& 31))))), (0, .ref (a 0))]) hx hb dX5_places_25 hl (k := 1) rfl (by decide) rfl (fun ls hl => ?_)
        refine lv_goto (tgt := 4) hx hb dX5_places_28 (by decide) ?_
        have hq3 : ((k : Int) + 1) = ((k + 1) : Int) := by omega
        have hq4 : (((orT (plT f1) k)) ||| (((iI 1) <<< ((iI (f1 (61 + 5 * (k : Int) + 1))) &&& 31)))) = (orT (plT f1) (k + 1)) := rfl
        have hl : lv_has ls 3 [(2, .int (iI ((k : Int) + 1))), (1, .int (((orT (plT f1) k)) ||| (((iI 1) <<< ((iI (f1 (61 + 5 * (k : Int) + 1))) &&& 31))))), (0, .ref (a 0))] := lv_sub hl [0, 1, 2] rfl
        have hl := Eq.mp (congrArg (fun z9 => lv_has ls 3 [(2, .int (iI z9)), (1, .int (((orT (plT f1) k)) ||| (((iI 1) <<< ((iI (f1 (61 + 5 * (k : Int) + 1))) &&& 31))))), (0, .ref (a 0))]) hq3) hl
        have hl := Eq.mp (congrArg (fun z9 => lv_has ls 3 [(2, .int (iI ((k + 1) : Int))), (1, .int z9), (0, .ref (a 0))]) hq4) hl
        exact ih4 (k + 1) (by omega) (by omega) ls hl
  have hq5 : 0 = (0 : Int) := rfl
  have hq6 : (iI 0) = (orT (plT f1) 0) := rfl
  have hl : lv_has ls 3 [(2, .int (iI 0)), (1, .int (iI 0)), (0, .ref (a 0))] := lv_sub hl [0, 1, 2] rfl
  have hl := Eq.mp (congrArg (fun z9 => lv_has ls 3 [(2, .int (iI z9)), (1, .int (iI 0)), (0, .ref (a 0))]) hq5) hl
  have hl := Eq.mp (congrArg (fun z9 => lv_has ls 3 [(2, .int (iI (0 : Int))), (1, .int z9), (0, .ref (a 0))]) hq6) hl
  exact lp4 (8 + 1) 0 (by omega) (by omega) ls hl
abbrev rm_X5_openPasses : Room := { frames := 1, cells := 0, slots := 0, locals := 21 }
set_option maxRecDepth 100000 in
set_option maxHeartbeats 4000000 in
theorem c_X5_openPasses (l : Launch) (g : Gd) (a : Nat → Nat) (f1 : Int → Int) (f2 : Int → Int) (f3 : Int → Int) (f4 : Int → Int) (f5 : Int → Int) (f6 : Int → Int) (f7 : Int → Int) (f8 : Int → Int) (f9 : Int → Int) (f10 : Int → Int) (f11 : Int → Int) (f12 : Int → Int) (f13 : Int → Int) (f20 : Int) (f21 : Int) (f22 : Int) (f23 : Int) (f24 : Int) (f25 : Int) (h1 : Inv f1) : Met l yX5_openPasses (wsOf yX5_openPasses cX5_openPasses 3 (some .int)) rm_X5_openPasses (PX g (va_P g.1 vwCl (wM g a f1 f2 f3 f4 f5 f6 f7 f8 f9 f10 f11 f12 f13 f20 f21 f22 f23 f24 f25)) [.ref (a 0)]) (vp_Si (fun r9 => r9 = orT (opT f1) 24)) 0 0 (fun _ => False) := by
  refine me (g := g) (by decide) rfl ?_
  intro pq eq s mq below meth cq C hnm hB ls hl
  obtain ⟨hx, hb, hr, hml, hown, hts, hlocks, hK⟩ := C
  have hown : s.vm.findClass RX5 = some mq.cls := hown
  have hl : lv_has ls 3 [(0, .ref (a 0))] := hl
  have hP : va_P g.1 vwCl (wM g a f1 f2 f3 f4 f5 f6 f7 f8 f9 f10 f11 f12 f13 f20 f21 f22 f23 f24 f25) s.heap := hB
  have hI := h1
  have hn := hI.num
  have hs := hI.sea
  refine lv_iconst (v := iI (0)) hx hb dX5_openPasses_0 (by decide) ?_
  refine lv_istore_n (lv' := [(1, .int (iI 0)), (0, .ref (a 0))]) hx hb dX5_openPasses_1 rfl hl (by decide) rfl (fun ls hl => ?_)
  refine lv_iconst (v := iI (0)) hx hb dX5_openPasses_2 (by decide) ?_
  refine lv_istore_n (lv' := [(2, .int (iI 0)), (1, .int (iI 0)), (0, .ref (a 0))]) hx hb dX5_openPasses_3 rfl hl (by decide) rfl (fun ls hl => ?_)
  have lp4 : ∀ (n4 : Nat) (k : Nat), ((k : Int) ≤ 24) → 24 - k < n4 → ∀ ls : Array Slot, lv_has ls 3 [(2, .int (iI (k : Int))), (1, .int (orT (opT f1) k)), (0, .ref (a 0))] → W pq l eq rm_X5_openPasses s mq [.ref (a 0)].toArray below meth cq s.heap [] 0 0 (MQ below (vp_Si (fun r9 => r9 = orT (opT f1) 24)) [.ref (a 0)].toArray s 0 0 (fun _ => False)) (F0 mq 4 ls []) := by
    intro n4
    induction n4 with
    | zero => intro k i4_1 hm; exact absurd hm (Nat.not_lt_zero _)
    | succ n4 ih4 =>
      intro k i4_1 hm4 ls hl
      refine lv_iload_n hx hb dX5_openPasses_4 rfl (lv_at hl 0 rfl) ?_
      refine lv_bipush (v := iI (24)) hx hb dX5_openPasses_5 (by decide) ?_
      refine xi_c_ge (tgt := 46) hx hb ⟨by omega, by omega⟩ ⟨by decide, by decide⟩ dX5_openPasses_7 (by decide) (fun z1 => ?_) (fun z1 => ?_)
      · refine lv_iload_n hx hb dX5_openPasses_46 rfl (lv_at hl 1 rfl) ?_
        exact W.iret hx hb hr (fun t ht hW => ⟨_, rfl, congrArg (fun z => orT (opT f1) z) (show k = 24 by omega), ht⟩) (fun q h => by cases h) dX5_openPasses_47
      · have hp := hI.pas (k : Int) (by omega) (by omega)
        refine lv_iload_n hx hb dX5_openPasses_10 rfl (lv_at hl 1 rfl) ?_
        refine lv_aload_n hx hb dX5_openPasses_11 rfl (lv_at hl 2 rfl) ?_
        refine xg_X5 hx hb hts hown hK hP 0 rfl 0 (by decide) fk_X5_7 (v := .ref (a 1)) rfl dX5_openPasses_12 ?_
        refine lv_bipush (v := iI (7)) hx hb dX5_openPasses_15 (by decide) ?_
        refine lv_iload_n hx hb dX5_openPasses_17 rfl (lv_at hl 0 rfl) ?_
        refine xi_add hx hb dX5_openPasses_18 ?_
        refine xi_ald hx hb hK hP 1 (f := f1) rfl (i := 7 + (k : Int)) ⟨by omega, by omega⟩ rfl dX5_openPasses_19 ?_
        refine xi_z_le (tgt := 37) hx hb ⟨by omega, by omega⟩ dX5_openPasses_20 (by decide) (fun z2 => ?_) (fun z2 => ?_)
        · refine lv_iconst (v := iI (0)) hx hb dX5_openPasses_37 (by decide) ?_
          refine lv_ior hx hb dX5_openPasses_38 ?_
          refine lv_istore_n (lv' := [(1, .int (((orT (opT f1) k)) ||| (iI 0))), (2, .int (iI (k : Int))), (0, .ref (a 0))]) hx hb dX5_openPasses_39 rfl hl (by decide) rfl (fun ls hl => ?_)
          refine xi_inc (lv' := [(2, .int (iI ((k : Int) + 1))), (1, .int (((orT (opT f1) k)) ||| (iI 0))), (0, .ref (a 0))]) hx hb dX5_openPasses_40 hl (k := 1) rfl (by decide) rfl (fun ls hl => ?_)
          refine lv_goto (tgt := 4) hx hb dX5_openPasses_43 (by decide) ?_
          have hq3 : ((k : Int) + 1) = ((k + 1) : Int) := by omega
          have hq4 : (((orT (opT f1) k)) ||| (iI 0)) = (orT (opT f1) (k + 1)) := by simp only [orT, opT]; first | (rw [if_pos ⟨by omega, by assumption⟩]; rfl) | (rw [if_neg (fun z => by first | exact absurd z.2 (by assumption) | (have := z.1; omega))])
          have hl : lv_has ls 3 [(2, .int (iI ((k : Int) + 1))), (1, .int (((orT (opT f1) k)) ||| (iI 0))), (0, .ref (a 0))] := lv_sub hl [0, 1, 2] rfl
          have hl := Eq.mp (congrArg (fun z9 => lv_has ls 3 [(2, .int (iI z9)), (1, .int (((orT (opT f1) k)) ||| (iI 0))), (0, .ref (a 0))]) hq3) hl
          have hl := Eq.mp (congrArg (fun z9 => lv_has ls 3 [(2, .int (iI ((k + 1) : Int))), (1, .int z9), (0, .ref (a 0))]) hq4) hl
          exact ih4 (k + 1) (by omega) (by omega) ls hl
        · refine lv_aload_n hx hb dX5_openPasses_23 rfl (lv_at hl 2 rfl) ?_
          refine lv_iload_n hx hb dX5_openPasses_24 rfl (lv_at hl 0 rfl) ?_
          refine xu_b (P := opn f1 (k : Int)) (rV (rest := [.int (orT (opT f1) k)]) hx hb hml hown hts hK hl (c_X5_isOpen l g a f1 f2 f3 f4 f5 f6 f7 f8 f9 f10 f11 f12 f13 f20 f21 f22 f23 f24 f25 (k : Int) (show Inv f1 from h1) (show 0 ≤ (k : Int) ∧ (k : Int) < 24 from by omega)) lk_X5_84 hP (va_recv hK.1 hP (ci := 5) (q0 := 0) rfl rfl) rfl rfl rfl (Rm.of rfl) rfl rfl dX5_openPasses_25) (fun z5 => ?_) (fun z5 => ?_)
          · refine xi_zf_eq hx hb ⟨by decide, by decide⟩ (by decide) dX5_openPasses_28 ⟨37, by decide⟩ ?_
            refine lv_iconst (v := iI (1)) hx hb dX5_openPasses_31 (by decide) ?_
            refine lv_iload_n hx hb dX5_openPasses_32 rfl (lv_at hl 0 rfl) ?_
            refine lv_ishl hx hb dX5_openPasses_33 ?_
            refine lv_goto (tgt := 38) hx hb dX5_openPasses_34 (by decide) ?_
            refine lv_ior hx hb dX5_openPasses_38 ?_
            refine lv_istore_n (lv' := [(1, .int (((orT (opT f1) k)) ||| (((iI 1) <<< ((iI (k : Int)) &&& 31))))), (2, .int (iI (k : Int))), (0, .ref (a 0))]) hx hb dX5_openPasses_39 rfl hl (by decide) rfl (fun ls hl => ?_)
            refine xi_inc (lv' := [(2, .int (iI ((k : Int) + 1))), (1, .int (((orT (opT f1) k)) ||| (((iI 1) <<< ((iI (k : Int)) &&& 31))))), (0, .ref (a 0))]) hx hb dX5_openPasses_40 hl (k := 1) rfl (by decide) rfl (fun ls hl => ?_)
            refine lv_goto (tgt := 4) hx hb dX5_openPasses_43 (by decide) ?_
            have hq6 : ((k : Int) + 1) = ((k + 1) : Int) := by omega
            have hq7 : (((orT (opT f1) k)) ||| (((iI 1) <<< ((iI (k : Int)) &&& 31)))) = (orT (opT f1) (k + 1)) := by simp only [orT, opT]; first | (rw [if_pos ⟨by omega, by assumption⟩]; rfl) | (rw [if_neg (fun z => by first | exact absurd z.2 (by assumption) | (have := z.1; omega))])
            have hl : lv_has ls 3 [(2, .int (iI ((k : Int) + 1))), (1, .int (((orT (opT f1) k)) ||| (((iI 1) <<< ((iI (k : Int)) &&& 31))))), (0, .ref (a 0))] := lv_sub hl [0, 1, 2] rfl
            have hl := Eq.mp (congrArg (fun z9 => lv_has ls 3 [(2, .int (iI z9)), (1, .int (((orT (opT f1) k)) ||| (((iI 1) <<< ((iI (k : Int)) &&& 31))))), (0, .ref (a 0))]) hq6) hl
            have hl := Eq.mp (congrArg (fun z9 => lv_has ls 3 [(2, .int (iI ((k + 1) : Int))), (1, .int z9), (0, .ref (a 0))]) hq7) hl
            exact ih4 (k + 1) (by omega) (by omega) ls hl
          · refine xi_zt_eq (tgt := 37) hx hb ⟨by decide, by decide⟩ (by decide) dX5_openPasses_28 (by decide) ?_
            refine lv_iconst (v := iI (0)) hx hb dX5_openPasses_37 (by decide) ?_
            refine lv_ior hx hb dX5_openPasses_38 ?_
            refine lv_istore_n (lv' := [(1, .int (((orT (opT f1) k)) ||| (iI 0))), (2, .int (iI (k : Int))), (0, .ref (a 0))]) hx hb dX5_openPasses_39 rfl hl (by decide) rfl (fun ls hl => ?_)
            refine xi_inc (lv' := [(2, .int (iI ((k : Int) + 1))), (1, .int (((orT (opT f1) k)) ||| (iI 0))), (0, .ref (a 0))]) hx hb dX5_openPasses_40 hl (k := 1) rfl (by decide) rfl (fun ls hl => ?_)
            refine lv_goto (tgt := 4) hx hb dX5_openPasses_43 (by decide) ?_
            have hq8 : ((k : Int) + 1) = ((k + 1) : Int) := by omega
            have hq9 : (((orT (opT f1) k)) ||| (iI 0)) = (orT (opT f1) (k + 1)) := by simp only [orT, opT]; first | (rw [if_pos ⟨by omega, by assumption⟩]; rfl) | (rw [if_neg (fun z => by first | exact absurd z.2 (by assumption) | (have := z.1; omega))])
            have hl : lv_has ls 3 [(2, .int (iI ((k : Int) + 1))), (1, .int (((orT (opT f1) k)) ||| (iI 0))), (0, .ref (a 0))] := lv_sub hl [0, 1, 2] rfl
            have hl := Eq.mp (congrArg (fun z9 => lv_has ls 3 [(2, .int (iI z9)), (1, .int (((orT (opT f1) k)) ||| (iI 0))), (0, .ref (a 0))]) hq8) hl
            have hl := Eq.mp (congrArg (fun z9 => lv_has ls 3 [(2, .int (iI ((k + 1) : Int))), (1, .int z9), (0, .ref (a 0))]) hq9) hl
            exact ih4 (k + 1) (by omega) (by omega) ls hl
  have hq10 : 0 = (0 : Int) := rfl
  have hq11 : (iI 0) = (orT (opT f1) 0) := rfl
  have hl : lv_has ls 3 [(2, .int (iI 0)), (1, .int (iI 0)), (0, .ref (a 0))] := lv_sub hl [0, 1, 2] rfl
  have hl := Eq.mp (congrArg (fun z9 => lv_has ls 3 [(2, .int (iI z9)), (1, .int (iI 0)), (0, .ref (a 0))]) hq10) hl
  have hl := Eq.mp (congrArg (fun z9 => lv_has ls 3 [(2, .int (iI (0 : Int))), (1, .int z9), (0, .ref (a 0))]) hq11) hl
  exact lp4 (24 + 1) 0 (by omega) (by omega) ls hl
abbrev rm_X5_lits : Room := { frames := 4, cells := 0, slots := 0, locals := 88 }
set_option maxRecDepth 100000 in
set_option maxHeartbeats 4000000 in
theorem c_X5_lits (l : Launch) (g : Gd) (a : Nat → Nat) (f1 : Int → Int) (f2 : Int → Int) (f3 : Int → Int) (f4 : Int → Int) (f5 : Int → Int) (f6 : Int → Int) (f7 : Int → Int) (f8 : Int → Int) (f9 : Int → Int) (f10 : Int → Int) (f11 : Int → Int) (f12 : Int → Int) (f13 : Int → Int) (f20 : Int) (f21 : Int) (f22 : Int) (f23 : Int) (f24 : Int) (f25 : Int) (h1 : Inv f1) : Met l yX5_lits (wsOf yX5_lits cX5_lits 3 (some .int)) rm_X5_lits (PX g (va_P g.1 vwCl (wM g a f1 f2 f3 f4 f5 f6 f7 f8 f9 f10 f11 f12 f13 f20 f21 f22 f23 f24 f25)) [.ref (a 0)]) (vp_Si (fun r9 => r9 = orT (liT f1) (f1 2).toNat)) 0 0 (fun _ => False) := by
  refine me (g := g) (by decide) rfl ?_
  intro pq eq s mq below meth cq C hnm hB ls hl
  obtain ⟨hx, hb, hr, hml, hown, hts, hlocks, hK⟩ := C
  have hown : s.vm.findClass RX5 = some mq.cls := hown
  have hl : lv_has ls 3 [(0, .ref (a 0))] := hl
  have hP : va_P g.1 vwCl (wM g a f1 f2 f3 f4 f5 f6 f7 f8 f9 f10 f11 f12 f13 f20 f21 f22 f23 f24 f25) s.heap := hB
  have hI := h1
  have hn := hI.num
  have hs := hI.sea
  have hv := hI.vil
  refine lv_iconst (v := iI (0)) hx hb dX5_lits_0 (by decide) ?_
  refine lv_istore_n (lv' := [(1, .int (iI 0)), (0, .ref (a 0))]) hx hb dX5_lits_1 rfl hl (by decide) rfl (fun ls hl => ?_)
  refine lv_iconst (v := iI (0)) hx hb dX5_lits_2 (by decide) ?_
  refine lv_istore_n (lv' := [(2, .int (iI 0)), (1, .int (iI 0)), (0, .ref (a 0))]) hx hb dX5_lits_3 rfl hl (by decide) rfl (fun ls hl => ?_)
  have lp4 : ∀ (n4 : Nat) (k : Nat), ((k : Int) ≤ f1 2) → 8 - k < n4 → ∀ ls : Array Slot, lv_has ls 3 [(2, .int (iI (k : Int))), (1, .int (orT (liT f1) k)), (0, .ref (a 0))] → W pq l eq rm_X5_lits s mq [.ref (a 0)].toArray below meth cq s.heap [] 0 0 (MQ below (vp_Si (fun r9 => r9 = orT (liT f1) (f1 2).toNat)) [.ref (a 0)].toArray s 0 0 (fun _ => False)) (F0 mq 4 ls []) := by
    intro n4
    induction n4 with
    | zero => intro k i4_1 hm; exact absurd hm (Nat.not_lt_zero _)
    | succ n4 ih4 =>
      intro k i4_1 hm4 ls hl
      refine lv_iload_n hx hb dX5_lits_4 rfl (lv_at hl 0 rfl) ?_
      refine lv_aload_n hx hb dX5_lits_5 rfl (lv_at hl 2 rfl) ?_
      refine xg_X5 hx hb hts hown hK hP 0 rfl 0 (by decide) fk_X5_7 (v := .ref (a 1)) rfl dX5_lits_6 ?_
      refine lv_iconst (v := iI (2)) hx hb dX5_lits_9 (by decide) ?_
      refine xi_ald hx hb hK hP 1 (f := f1) rfl (i := 2) ⟨by omega, by omega⟩ rfl dX5_lits_10 ?_
      refine xi_c_ge (tgt := 38) hx hb ⟨by omega, by omega⟩ ⟨by omega, by omega⟩ dX5_lits_11 (by decide) (fun z1 => ?_) (fun z1 => ?_)
      · refine lv_iload_n hx hb dX5_lits_38 rfl (lv_at hl 1 rfl) ?_
        exact W.iret hx hb hr (fun t ht hW => ⟨_, rfl, congrArg (fun z => orT (liT f1) z) (show k = (f1 2).toNat by omega), ht⟩) (fun q h => by cases h) dX5_lits_39
      · refine lv_iload_n hx hb dX5_lits_14 rfl (lv_at hl 1 rfl) ?_
        refine lv_aload_n hx hb dX5_lits_15 rfl (lv_at hl 2 rfl) ?_
        refine lv_iload_n hx hb dX5_lits_16 rfl (lv_at hl 0 rfl) ?_
        refine xu_b (P := litP f1 (k : Int)) (rV (rest := [.int (orT (liT f1) k)]) hx hb hml hown hts hK hl (c_X5_isLit l g a f1 f2 f3 f4 f5 f6 f7 f8 f9 f10 f11 f12 f13 f20 f21 f22 f23 f24 f25 (k : Int) (show Inv f1 from h1) (show 0 ≤ (k : Int) ∧ (k : Int) < f1 2 from by omega)) lk_X5_97 hP (va_recv hK.1 hP (ci := 5) (q0 := 0) rfl rfl) rfl rfl rfl (Rm.of rfl) rfl rfl dX5_lits_17) (fun z2 => ?_) (fun z2 => ?_)
        · refine xi_zf_eq hx hb ⟨by decide, by decide⟩ (by decide) dX5_lits_20 ⟨29, by decide⟩ ?_
          refine lv_iconst (v := iI (1)) hx hb dX5_lits_23 (by decide) ?_
          refine lv_iload_n hx hb dX5_lits_24 rfl (lv_at hl 0 rfl) ?_
          refine lv_ishl hx hb dX5_lits_25 ?_
          refine lv_goto (tgt := 30) hx hb dX5_lits_26 (by decide) ?_
          refine lv_ior hx hb dX5_lits_30 ?_
          refine lv_istore_n (lv' := [(1, .int (((orT (liT f1) k)) ||| (((iI 1) <<< ((iI (k : Int)) &&& 31))))), (2, .int (iI (k : Int))), (0, .ref (a 0))]) hx hb dX5_lits_31 rfl hl (by decide) rfl (fun ls hl => ?_)
          refine xi_inc (lv' := [(2, .int (iI ((k : Int) + 1))), (1, .int (((orT (liT f1) k)) ||| (((iI 1) <<< ((iI (k : Int)) &&& 31))))), (0, .ref (a 0))]) hx hb dX5_lits_32 hl (k := 1) rfl (by decide) rfl (fun ls hl => ?_)
          refine lv_goto (tgt := 4) hx hb dX5_lits_35 (by decide) ?_
          have hq3 : ((k : Int) + 1) = ((k + 1) : Int) := by omega
          have hq4 : (((orT (liT f1) k)) ||| (((iI 1) <<< ((iI (k : Int)) &&& 31)))) = (orT (liT f1) (k + 1)) := by simp only [orT, liT]; first | (rw [if_pos (by assumption)]; rfl) | (rw [if_neg (by assumption)])
          have hl : lv_has ls 3 [(2, .int (iI ((k : Int) + 1))), (1, .int (((orT (liT f1) k)) ||| (((iI 1) <<< ((iI (k : Int)) &&& 31))))), (0, .ref (a 0))] := lv_sub hl [0, 1, 2] rfl
          have hl := Eq.mp (congrArg (fun z9 => lv_has ls 3 [(2, .int (iI z9)), (1, .int (((orT (liT f1) k)) ||| (((iI 1) <<< ((iI (k : Int)) &&& 31))))), (0, .ref (a 0))]) hq3) hl
          have hl := Eq.mp (congrArg (fun z9 => lv_has ls 3 [(2, .int (iI ((k + 1) : Int))), (1, .int z9), (0, .ref (a 0))]) hq4) hl
          exact ih4 (k + 1) (by omega) (by omega) ls hl
        · refine xi_zt_eq (tgt := 29) hx hb ⟨by decide, by decide⟩ (by decide) dX5_lits_20 (by decide) ?_
          refine lv_iconst (v := iI (0)) hx hb dX5_lits_29 (by decide) ?_
          refine lv_ior hx hb dX5_lits_30 ?_
          refine lv_istore_n (lv' := [(1, .int (((orT (liT f1) k)) ||| (iI 0))), (2, .int (iI (k : Int))), (0, .ref (a 0))]) hx hb dX5_lits_31 rfl hl (by decide) rfl (fun ls hl => ?_)
          refine xi_inc (lv' := [(2, .int (iI ((k : Int) + 1))), (1, .int (((orT (liT f1) k)) ||| (iI 0))), (0, .ref (a 0))]) hx hb dX5_lits_32 hl (k := 1) rfl (by decide) rfl (fun ls hl => ?_)
          refine lv_goto (tgt := 4) hx hb dX5_lits_35 (by decide) ?_
          have hq5 : ((k : Int) + 1) = ((k + 1) : Int) := by omega
          have hq6 : (((orT (liT f1) k)) ||| (iI 0)) = (orT (liT f1) (k + 1)) := by simp only [orT, liT]; first | (rw [if_pos (by assumption)]; rfl) | (rw [if_neg (by assumption)])
          have hl : lv_has ls 3 [(2, .int (iI ((k : Int) + 1))), (1, .int (((orT (liT f1) k)) ||| (iI 0))), (0, .ref (a 0))] := lv_sub hl [0, 1, 2] rfl
          have hl := Eq.mp (congrArg (fun z9 => lv_has ls 3 [(2, .int (iI z9)), (1, .int (((orT (liT f1) k)) ||| (iI 0))), (0, .ref (a 0))]) hq5) hl
          have hl := Eq.mp (congrArg (fun z9 => lv_has ls 3 [(2, .int (iI ((k + 1) : Int))), (1, .int z9), (0, .ref (a 0))]) hq6) hl
          exact ih4 (k + 1) (by omega) (by omega) ls hl
  have hq7 : 0 = (0 : Int) := rfl
  have hq8 : (iI 0) = (orT (liT f1) 0) := rfl
  have hl : lv_has ls 3 [(2, .int (iI 0)), (1, .int (iI 0)), (0, .ref (a 0))] := lv_sub hl [0, 1, 2] rfl
  have hl := Eq.mp (congrArg (fun z9 => lv_has ls 3 [(2, .int (iI z9)), (1, .int (iI 0)), (0, .ref (a 0))]) hq7) hl
  have hl := Eq.mp (congrArg (fun z9 => lv_has ls 3 [(2, .int (iI (0 : Int))), (1, .int z9), (0, .ref (a 0))]) hq8) hl
  exact lp4 (8 + 1) 0 (by omega) (by omega) ls hl
abbrev rm_X5_passes : Room := { frames := 0, cells := 0, slots := 0, locals := 0 }
set_option maxRecDepth 100000 in
set_option maxHeartbeats 4000000 in
theorem c_X5_passes (l : Launch) (g : Gd) (a : Nat → Nat) (f1 : Int → Int) (f2 : Int → Int) (f3 : Int → Int) (f4 : Int → Int) (f5 : Int → Int) (f6 : Int → Int) (f7 : Int → Int) (f8 : Int → Int) (f9 : Int → Int) (f10 : Int → Int) (f11 : Int → Int) (f12 : Int → Int) (f13 : Int → Int) (f20 : Int) (f21 : Int) (f22 : Int) (f23 : Int) (f24 : Int) (f25 : Int) (h1 : Inv f1) : Met l yX5_passes (wsOf yX5_passes cX5_passes 3 (some .int)) rm_X5_passes (PX g (va_P g.1 vwCl (wM g a f1 f2 f3 f4 f5 f6 f7 f8 f9 f10 f11 f12 f13 f20 f21 f22 f23 f24 f25)) [.ref (a 0)]) (vp_Si (fun r9 => r9 = iI (psT f1 24))) 0 0 (fun _ => False) := by
  refine me (g := g) (by decide) rfl ?_
  intro pq eq s mq below meth cq C hnm hB ls hl
  obtain ⟨hx, hb, hr, hml, hown, hts, hlocks, hK⟩ := C
  have hown : s.vm.findClass RX5 = some mq.cls := hown
  have hl : lv_has ls 3 [(0, .ref (a 0))] := hl
  have hP : va_P g.1 vwCl (wM g a f1 f2 f3 f4 f5 f6 f7 f8 f9 f10 f11 f12 f13 f20 f21 f22 f23 f24 f25) s.heap := hB
  have hI := h1
  have hn := hI.num
  have hs := hI.sea
  refine lv_iconst (v := iI (0)) hx hb dX5_passes_0 (by decide) ?_
  refine lv_istore_n (lv' := [(1, .int (iI 0)), (0, .ref (a 0))]) hx hb dX5_passes_1 rfl hl (by decide) rfl (fun ls hl => ?_)
  refine lv_iconst (v := iI (0)) hx hb dX5_passes_2 (by decide) ?_
  refine lv_istore_n (lv' := [(2, .int (iI 0)), (1, .int (iI 0)), (0, .ref (a 0))]) hx hb dX5_passes_3 rfl hl (by decide) rfl (fun ls hl => ?_)
  have lp4 : ∀ (n4 : Nat) (k : Nat), ((k : Int) ≤ 24) → 24 - k < n4 → ∀ ls : Array Slot, lv_has ls 3 [(2, .int (iI (k : Int))), (1, .int (iI (psT f1 k))), (0, .ref (a 0))] → W pq l eq rm_X5_passes s mq [.ref (a 0)].toArray below meth cq s.heap [] 0 0 (MQ below (vp_Si (fun r9 => r9 = iI (psT f1 24))) [.ref (a 0)].toArray s 0 0 (fun _ => False)) (F0 mq 4 ls []) := by
    intro n4
    induction n4 with
    | zero => intro k i4_1 hm; exact absurd hm (Nat.not_lt_zero _)
    | succ n4 ih4 =>
      intro k i4_1 hm4 ls hl
      refine lv_iload_n hx hb dX5_passes_4 rfl (lv_at hl 0 rfl) ?_
      refine lv_bipush (v := iI (24)) hx hb dX5_passes_5 (by decide) ?_
      refine xi_c_ge (tgt := 36) hx hb ⟨by omega, by omega⟩ ⟨by decide, by decide⟩ dX5_passes_7 (by decide) (fun z1 => ?_) (fun z1 => ?_)
      · refine lv_iload_n hx hb dX5_passes_36 rfl (lv_at hl 1 rfl) ?_
        exact W.iret hx hb hr (fun t ht hW => ⟨_, rfl, congrArg (fun z => iI (psT f1 z)) (show k = 24 by omega), ht⟩) (fun q h => by cases h) dX5_passes_37
      · have hp := hI.pas (k : Int) (by omega) (by omega)
        refine lv_iload_n hx hb dX5_passes_10 rfl (lv_at hl 1 rfl) ?_
        refine lv_aload_n hx hb dX5_passes_11 rfl (lv_at hl 2 rfl) ?_
        refine xg_X5 hx hb hts hown hK hP 0 rfl 0 (by decide) fk_X5_7 (v := .ref (a 1)) rfl dX5_passes_12 ?_
        refine lv_bipush (v := iI (7)) hx hb dX5_passes_15 (by decide) ?_
        refine lv_iload_n hx hb dX5_passes_17 rfl (lv_at hl 0 rfl) ?_
        refine xi_add hx hb dX5_passes_18 ?_
        refine xi_ald hx hb hK hP 1 (f := f1) rfl (i := 7 + (k : Int)) ⟨by omega, by omega⟩ rfl dX5_passes_19 ?_
        refine xi_z_le (tgt := 27) hx hb ⟨by omega, by omega⟩ dX5_passes_20 (by decide) (fun z2 => ?_) (fun z2 => ?_)
        · refine lv_iconst (v := iI (0)) hx hb dX5_passes_27 (by decide) ?_
          refine xi_add hx hb dX5_passes_28 ?_
          refine lv_istore_n (lv' := [(1, .int (iI (psT f1 k + 0))), (2, .int (iI (k : Int))), (0, .ref (a 0))]) hx hb dX5_passes_29 rfl hl (by decide) rfl (fun ls hl => ?_)
          refine xi_inc (lv' := [(2, .int (iI ((k : Int) + 1))), (1, .int (iI (psT f1 k + 0))), (0, .ref (a 0))]) hx hb dX5_passes_30 hl (k := 1) rfl (by decide) rfl (fun ls hl => ?_)
          refine lv_goto (tgt := 4) hx hb dX5_passes_33 (by decide) ?_
          have hq3 : ((k : Int) + 1) = ((k + 1) : Int) := by omega
          have hq4 : (psT f1 k + 0) = (psT f1 (k + 1)) := by first | (simp only [psT]; rw [if_pos (by omega)]) | (simp only [psT]; rw [if_neg (by omega)])
          have hl : lv_has ls 3 [(2, .int (iI ((k : Int) + 1))), (1, .int (iI (psT f1 k + 0))), (0, .ref (a 0))] := lv_sub hl [0, 1, 2] rfl
          have hl := Eq.mp (congrArg (fun z9 => lv_has ls 3 [(2, .int (iI z9)), (1, .int (iI (psT f1 k + 0))), (0, .ref (a 0))]) hq3) hl
          have hl := Eq.mp (congrArg (fun z9 => lv_has ls 3 [(2, .int (iI ((k + 1) : Int))), (1, .int (iI z9)), (0, .ref (a 0))]) hq4) hl
          exact ih4 (k + 1) (by omega) (by omega) ls hl
        · refine lv_iconst (v := iI (1)) hx hb dX5_passes_23 (by decide) ?_
          refine lv_goto (tgt := 28) hx hb dX5_passes_24 (by decide) ?_
          refine xi_add hx hb dX5_passes_28 ?_
          refine lv_istore_n (lv' := [(1, .int (iI (psT f1 k + 1))), (2, .int (iI (k : Int))), (0, .ref (a 0))]) hx hb dX5_passes_29 rfl hl (by decide) rfl (fun ls hl => ?_)
          refine xi_inc (lv' := [(2, .int (iI ((k : Int) + 1))), (1, .int (iI (psT f1 k + 1))), (0, .ref (a 0))]) hx hb dX5_passes_30 hl (k := 1) rfl (by decide) rfl (fun ls hl => ?_)
          refine lv_goto (tgt := 4) hx hb dX5_passes_33 (by decide) ?_
          have hq5 : ((k : Int) + 1) = ((k + 1) : Int) := by omega
          have hq6 : (psT f1 k + 1) = (psT f1 (k + 1)) := by first | (simp only [psT]; rw [if_pos (by omega)]) | (simp only [psT]; rw [if_neg (by omega)])
          have hl : lv_has ls 3 [(2, .int (iI ((k : Int) + 1))), (1, .int (iI (psT f1 k + 1))), (0, .ref (a 0))] := lv_sub hl [0, 1, 2] rfl
          have hl := Eq.mp (congrArg (fun z9 => lv_has ls 3 [(2, .int (iI z9)), (1, .int (iI (psT f1 k + 1))), (0, .ref (a 0))]) hq5) hl
          have hl := Eq.mp (congrArg (fun z9 => lv_has ls 3 [(2, .int (iI ((k + 1) : Int))), (1, .int (iI z9)), (0, .ref (a 0))]) hq6) hl
          exact ih4 (k + 1) (by omega) (by omega) ls hl
  have hq7 : 0 = (0 : Int) := rfl
  have hq8 : 0 = (psT f1 0) := rfl
  have hl : lv_has ls 3 [(2, .int (iI 0)), (1, .int (iI 0)), (0, .ref (a 0))] := lv_sub hl [0, 1, 2] rfl
  have hl := Eq.mp (congrArg (fun z9 => lv_has ls 3 [(2, .int (iI z9)), (1, .int (iI 0)), (0, .ref (a 0))]) hq7) hl
  have hl := Eq.mp (congrArg (fun z9 => lv_has ls 3 [(2, .int (iI (0 : Int))), (1, .int (iI z9)), (0, .ref (a 0))]) hq8) hl
  exact lp4 (24 + 1) 0 (by omega) (by omega) ls hl
abbrev rm_X5_aheadOf : Room := { frames := 3, cells := 0, slots := 0, locals := 66 }
set_option maxRecDepth 100000 in
set_option maxHeartbeats 4000000 in
theorem c_X5_aheadOf (l : Launch) (g : Gd) (a : Nat → Nat) (f1 : Int → Int) (f2 : Int → Int) (f3 : Int → Int) (f4 : Int → Int) (f5 : Int → Int) (f6 : Int → Int) (f7 : Int → Int) (f8 : Int → Int) (f9 : Int → Int) (f10 : Int → Int) (f11 : Int → Int) (f12 : Int → Int) (f13 : Int → Int) (f20 : Int) (f21 : Int) (f22 : Int) (f23 : Int) (f24 : Int) (f25 : Int) (r : Int) (h1 : Inv f1) (h2 : 0 ≤ r ∧ r < f1 1) : Met l yX5_aheadOf (wsOf yX5_aheadOf cX5_aheadOf 3 (some .int)) rm_X5_aheadOf (PX g (va_P g.1 vwCl (wM g a f1 f2 f3 f4 f5 f6 f7 f8 f9 f10 f11 f12 f13 f20 f21 f22 f23 f24 f25)) [.ref (a 0), .int (iI r)]) (vp_Si (fun r9 => r9 = iI (ahd f1 r))) 0 0 (fun _ => False) := by
  refine me (g := g) (by decide) rfl ?_
  intro pq eq s mq below meth cq C hnm hB ls hl
  obtain ⟨hx, hb, hr, hml, hown, hts, hlocks, hK⟩ := C
  have hown : s.vm.findClass RX5 = some mq.cls := hown
  have hl : lv_has ls 3 [(0, .ref (a 0)), (1, .int (iI r))] := hl
  have hP : va_P g.1 vwCl (wM g a f1 f2 f3 f4 f5 f6 f7 f8 f9 f10 f11 f12 f13 f20 f21 f22 f23 f24 f25) s.heap := hB
  have hI := h1
  have hn := hI.num
  have hs := hI.sea
  have hc := hI.ran r h2.1 h2.2
  have hbb := bh_b hc.2.1
  refine lv_aload_n hx hb dX5_aheadOf_0 rfl (lv_at hl 0 rfl) ?_
  refine lv_iload_n hx hb dX5_aheadOf_1 rfl (lv_at hl 1 rfl) ?_
  refine lv_iconst (v := iI (1)) hx hb dX5_aheadOf_2 (by decide) ?_
  refine xu_i (x := iI (f1 (61 + 5 * r + 1))) (rV (rest := []) hx hb hml hown hts hK hl (c_X5_its l g a f1 f2 f3 f4 f5 f6 f7 f8 f9 f10 f11 f12 f13 f20 f21 f22 f23 f24 f25 r 1 (show 0 ≤ 61 + 5 * r + 1 ∧ 61 + 5 * r + 1 < 101 from by omega)) lk_X5_63 hP (va_recv hK.1 hP (ci := 5) (q0 := 0) rfl rfl) rfl rfl rfl (Rm.of rfl) rfl rfl dX5_aheadOf_3) ?_
  refine xu_i (x := iI (bh (f1 (61 + 5 * r + 1)))) (rS (rest := []) hx hb hml hown hts hK hl (c_X5_behind l g (f1 (61 + 5 * r + 1)) (show IR (f1 (61 + 5 * r + 1)) from ⟨by omega, by omega⟩)) lk_X5_91 trivial rfl rfl rfl (Rm.of rfl) rfl rfl dX5_aheadOf_6) ?_
  refine lv_istore_n (lv' := [(2, .int (iI (bh (f1 (61 + 5 * r + 1))))), (0, .ref (a 0)), (1, .int (iI r))]) hx hb dX5_aheadOf_9 rfl hl (by decide) rfl (fun ls hl => ?_)
  refine lv_aload_n hx hb dX5_aheadOf_10 rfl (lv_at hl 1 rfl) ?_
  refine lv_iload_n hx hb dX5_aheadOf_11 rfl (lv_at hl 0 rfl) ?_
  refine xu_b (P := opn f1 (bh (f1 (61 + 5 * r + 1)))) (rV (rest := []) hx hb hml hown hts hK hl (c_X5_isOpen l g a f1 f2 f3 f4 f5 f6 f7 f8 f9 f10 f11 f12 f13 f20 f21 f22 f23 f24 f25 (bh (f1 (61 + 5 * r + 1))) (show Inv f1 from h1) (show 0 ≤ (bh (f1 (61 + 5 * r + 1))) ∧ (bh (f1 (61 + 5 * r + 1))) < 24 from by omega)) lk_X5_84 hP (va_recv hK.1 hP (ci := 5) (q0 := 0) rfl rfl) rfl rfl rfl (Rm.of rfl) rfl rfl dX5_aheadOf_12) (fun z3 => ?_) (fun z3 => ?_)
  · refine xi_zf_eq hx hb ⟨by decide, by decide⟩ (by decide) dX5_aheadOf_15 ⟨26, by decide⟩ ?_
    refine lv_aload_n hx hb dX5_aheadOf_18 rfl (lv_at hl 1 rfl) ?_
    refine lv_iload_n hx hb dX5_aheadOf_19 rfl (lv_at hl 0 rfl) ?_
    refine xu_i (x := iI (who f1 (bh (f1 (61 + 5 * r + 1))))) (rV (rest := []) hx hb hml hown hts hK hl (c_X5_isIn l g a f1 f2 f3 f4 f5 f6 f7 f8 f9 f10 f11 f12 f13 f20 f21 f22 f23 f24 f25 (bh (f1 (61 + 5 * r + 1))) (show Inv f1 from h1) (show IR (bh (f1 (61 + 5 * r + 1))) from ⟨by omega, by omega⟩)) lk_X5_87 hP (va_recv hK.1 hP (ci := 5) (q0 := 0) rfl rfl) rfl rfl rfl (Rm.of rfl) rfl rfl dX5_aheadOf_20) ?_
    refine lv_goto (tgt := 27) hx hb dX5_aheadOf_23 (by decide) ?_
    exact W.iret hx hb hr (fun t ht hW => ⟨_, rfl, congrArg iI (by unfold ahd; first | rw [if_pos (by assumption)] | rw [if_neg (by assumption)]), ht⟩) (fun q h => by cases h) dX5_aheadOf_27
  · refine xi_zt_eq (tgt := 26) hx hb ⟨by decide, by decide⟩ (by decide) dX5_aheadOf_15 (by decide) ?_
    refine lv_iconst (v := iI (-1)) hx hb dX5_aheadOf_26 (by decide) ?_
    exact W.iret hx hb hr (fun t ht hW => ⟨_, rfl, congrArg iI (by unfold ahd; first | rw [if_pos (by assumption)] | rw [if_neg (by assumption)]), ht⟩) (fun q h => by cases h) dX5_aheadOf_27
abbrev rm_X5_seasons : Room := { frames := 7, cells := 0, slots := 0, locals := 156 }
set_option maxRecDepth 100000 in
set_option maxHeartbeats 4000000 in
theorem c_X5_seasons (l : Launch) (g : Gd) (a : Nat → Nat) (f1 : Int → Int) (f2 : Int → Int) (f3 : Int → Int) (f4 : Int → Int) (f5 : Int → Int) (f6 : Int → Int) (f7 : Int → Int) (f8 : Int → Int) (f9 : Int → Int) (f10 : Int → Int) (f11 : Int → Int) (f12 : Int → Int) (f13 : Int → Int) (f20 : Int) (f21 : Int) (f22 : Int) (f23 : Int) (f24 : Int) (f25 : Int) (n : Int) (sz : Nat) (h1 : InvK 0 f1) (h2 : f1 0 ≤ 9999) (h3 : IR n) : Met l yX5_seasons (wsOf yX5_seasons cX5_seasons 2 (some .int)) rm_X5_seasons (PX g (wP g (wM g a f1 f2 f3 f4 f5 f6 f7 f8 f9 f10 f11 f12 f13 f20 f21 f22 f23 f24 f25) sz) [.ref (a 0), .int (iI n)]) (QMi g (fun u9 : Nat → Int → Int => wM g a (if fSea f1 n = 0 then seaN f1 (Int.toNat n) else f1) f2 f3 f4 f5 (fb (fSea f1 n) f6) (u9 7) f8 f9 f10 f11 f12 f13 f20 f21 f22 f23 f24 f25) (fun r9 _ => r9 = ab (fSea f1 n) (iI (sumA (seaN f1 (Int.toNat n)) 3))) (va_A (wM g a f1 f2 f3 f4 f5 f6 f7 f8 f9 f10 f11 f12 f13 f20 f21 f22 f23 f24 f25) sz)) 0 0 (va_A (wM g a f1 f2 f3 f4 f5 f6 f7 f8 f9 f10 f11 f12 f13 f20 f21 f22 f23 f24 f25) sz) := by
  refine me (g := g) (by decide) rfl ?_
  intro pq eq s mq below meth cq C hnm hB ls hl
  obtain ⟨hx, hb, hr, hml, hown, hts, hlocks, hK⟩ := C
  have hown : s.vm.findClass RX5 = some mq.cls := hown
  have hl : lv_has ls 2 [(0, .ref (a 0)), (1, .int (iI n))] := hl
  obtain ⟨hsz, hP, hD0⟩ := hB
  subst hsz
  have hD := hD0.self (sz := s.heap.size)
  have hA : ∀ q : Nat, s.heap.size ≤ q → va_A (wM g a f1 f2 f3 f4 f5 f6 f7 f8 f9 f10 f11 f12 f13 f20 f21 f22 f23 f24 f25) s.heap.size q := fun q h => Or.inr h
  have hS : va_S (va_A (wM g a f1 f2 f3 f4 f5 f6 f7 f8 f9 f10 f11 f12 f13 f20 f21 f22 f23 f24 f25) s.heap.size) s.heap s.heap [] := va_S.rf
  have hI := h1
  have hI8 : Inv f1 := h1.mono (by omega)
  have hn := hI.num
  have hs := hI.sea
  have hv := hI.vil
  have q1 := h3.1
  have q2 := h3.2
  have hsn := fun h => (seaN_inv hI n.toNat h)
  refine lv_iload_n hx hb dX5_seasons_0 rfl (lv_at hl 1 rfl) ?_
  refine xi_i2l hx hb ⟨by omega, by omega⟩ dX5_seasons_1 ?_
  refine lv_lconst (v := lI (1)) hx hb dX5_seasons_2 (by decide) ?_
  refine xl_ldc hx hb hown hts kk_X5_155 dX5_seasons_3 ?_
  refine xu_b (P := 1 ≤ n ∧ n ≤ 80) (rS (rest := []) hx hb hml hown hts hK hl (c_X5_in l g n 1 80 (show LR n from ⟨by omega, by omega⟩) (show LR 1 from ⟨by omega, by omega⟩) (show LR 80 from ⟨by omega, by omega⟩)) lk_X5_53 trivial rfl rfl rfl (Rm.of rfl) rfl rfl dX5_seasons_6) (fun z1 => ?_) (fun z1 => ?_)
  · refine xi_zt_ne (tgt := 19) hx hb ⟨by decide, by decide⟩ (by decide) dX5_seasons_9 (by decide) ?_
    refine lv_aload_n hx hb dX5_seasons_19 rfl (lv_at hl 0 rfl) ?_
    refine xg_X5 hx hb hts hown hK hP 0 rfl 0 (by decide) fk_X5_7 (v := .ref (a 1)) rfl dX5_seasons_20 ?_
    refine lv_iconst (v := iI (0)) hx hb dX5_seasons_23 (by decide) ?_
    refine xi_ald hx hb hK hP 1 (f := f1) rfl (i := 0) ⟨by omega, by omega⟩ rfl dX5_seasons_24 ?_
    refine lv_iload_n hx hb dX5_seasons_25 rfl (lv_at hl 1 rfl) ?_
    refine xi_add hx hb dX5_seasons_26 ?_
    refine lv_sipush (v := iI (9999)) hx hb dX5_seasons_27 (by decide) ?_
    refine xi_c_le (tgt := 40) hx hb ⟨by omega, by omega⟩ ⟨by decide, by decide⟩ dX5_seasons_30 (by decide) (fun z2 => ?_) (fun z2 => ?_)
    · refine lv_aload_n hx hb dX5_seasons_40 rfl (lv_at hl 0 rfl) ?_
      refine lv_iload_n hx hb dX5_seasons_41 rfl (lv_at hl 1 rfl) ?_
      refine xm_v (rV (rest := []) hx hb hml hown hts hK hl (c_X5_go l g a f1 f2 f3 f4 f5 f6 f7 f8 f9 f10 f11 f12 f13 f20 f21 f22 f23 f24 f25 n (s.heap).size (show InvK 0 f1 from h1) (show 0 ≤ n ∧ f1 0 + n ≤ 20000 from by omega)) lk_X5_157 ⟨rfl, hP, hD.weaken (fun _ _ _ _ => trivial)⟩ (va_recv hK.1 hP (ci := 5) (q0 := 0) rfl rfl) rfl rfl rfl (Rm.of rfl) rfl rfl dX5_seasons_42) hD hS hA (fun u3 H locs hw hP hD hS => ?_)
      have hP : va_P g.1 vwCl (wM g a (seaN f1 (Int.toNat n)) f2 f3 f4 f5 f6 (u3 7) f8 f9 f10 f11 f12 f13 f20 f21 f22 f23 f24 f25) H := hP
      have hD : va_D (va_A (wM g a f1 f2 f3 f4 f5 f6 f7 f8 f9 f10 f11 f12 f13 f20 f21 f22 f23 f24 f25) s.heap.size) (wM g a (seaN f1 (Int.toNat n)) f2 f3 f4 f5 f6 (u3 7) f8 f9 f10 f11 f12 f13 f20 f21 f22 f23 f24 f25) := hD
      refine lv_aload_n hx hb dX5_seasons_45 rfl (lv_at hl 0 rfl) ?_
      refine lv_iconst (v := iI (3)) hx hb dX5_seasons_46 (by decide) ?_
      refine xu_i (x := iI (sumT (seaN f1 (Int.toNat n)) 3 ((seaN f1 (Int.toNat n)) 1).toNat)) (rV (rest := []) hx hb hml hown hts hK hl (c_X5_sumOf l g a (seaN f1 (Int.toNat n)) f2 f3 f4 f5 f6 (u3 7) f8 f9 f10 f11 f12 f13 f20 f21 f22 f23 f24 f25 3 (show 0 ≤ 3 ∧ 3 ≤ 4 from by omega) (show 0 ≤ (seaN f1 (Int.toNat n)) 1 ∧ (seaN f1 (Int.toNat n)) 1 ≤ 8 from by rw [(hsn (by omega)).2.2 1 (by omega) (by omega)]; omega)) lk_X5_160 hP (va_recv hK.1 hP (ci := 5) (q0 := 0) rfl rfl) rfl rfl rfl (Rm.of rfl) rfl rfl dX5_seasons_47) ?_
      have hf : fSea f1 n = 0 := by unfold fSea; (repeat (first | rw [if_pos (by omega)] | rw [if_neg (by omega)])); first | done | (exfalso; omega)
      have he5 : (seaN f1 (Int.toNat n)) = (if fSea f1 n = 0 then seaN f1 (Int.toNat n) else f1) := by rw [hf]; rfl
      have hP := Eq.mp (congrArg (fun z9 => va_P g.1 vwCl (wM g a z9 f2 f3 f4 f5 f6 (u3 7) f8 f9 f10 f11 f12 f13 f20 f21 f22 f23 f24 f25) H) he5) hP
      have hD := Eq.mp (congrArg (fun z9 => va_D (va_A (wM g a f1 f2 f3 f4 f5 f6 f7 f8 f9 f10 f11 f12 f13 f20 f21 f22 f23 f24 f25) s.heap.size) (wM g a z9 f2 f3 f4 f5 f6 (u3 7) f8 f9 f10 f11 f12 f13 f20 f21 f22 f23 f24 f25)) he5) hD
      have he6 : f6 = (fb (fSea f1 n) f6) := by rw [hf]; rfl
      have hP := Eq.mp (congrArg (fun z9 => va_P g.1 vwCl (wM g a (if fSea f1 n = 0 then seaN f1 (Int.toNat n) else f1) f2 f3 f4 f5 z9 (u3 7) f8 f9 f10 f11 f12 f13 f20 f21 f22 f23 f24 f25) H) he6) hP
      have hD := Eq.mp (congrArg (fun z9 => va_D (va_A (wM g a f1 f2 f3 f4 f5 f6 f7 f8 f9 f10 f11 f12 f13 f20 f21 f22 f23 f24 f25) s.heap.size) (wM g a (if fSea f1 n = 0 then seaN f1 (Int.toNat n) else f1) f2 f3 f4 f5 z9 (u3 7) f8 f9 f10 f11 f12 f13 f20 f21 f22 f23 f24 f25)) he6) hD
      have hP : va_P g.1 vwCl (wM g a (if fSea f1 n = 0 then seaN f1 (Int.toNat n) else f1) f2 f3 f4 f5 (fb (fSea f1 n) f6) ((su (fun _ _ => 0) 7 (u3 7)) 7) f8 f9 f10 f11 f12 f13 f20 f21 f22 f23 f24 f25) H := hP
      have hD : va_D (va_A (wM g a f1 f2 f3 f4 f5 f6 f7 f8 f9 f10 f11 f12 f13 f20 f21 f22 f23 f24 f25) s.heap.size) (wM g a (if fSea f1 n = 0 then seaN f1 (Int.toNat n) else f1) f2 f3 f4 f5 (fb (fSea f1 n) f6) ((su (fun _ _ => 0) 7 (u3 7)) 7) f8 f9 f10 f11 f12 f13 f20 f21 f22 f23 f24 f25) := hD
      exact W.iret hx hb hr (fun t ht hW => ⟨⟨_, (su (fun _ _ => 0) 7 (u3 7)), rfl, by rw [hf, ab_0]; rfl, by rw [ht]; exact hP, hD⟩, hS.F ht⟩) hS.2.2 dX5_seasons_50
    · refine lv_aload_n hx hb dX5_seasons_33 rfl (lv_at hl 0 rfl) ?_
      refine xi_ldc hx hb hown hts kk_X5_123 dX5_seasons_34 ?_
      refine xm_i (rV (rest := []) hx hb hml hown hts hK hl (c_X5_finds l g a f1 f2 f3 f4 f5 f6 f7 f8 f9 f10 f11 f12 f13 f20 f21 f22 f23 f24 f25 (-1000000005) (s.heap).size (show 0 ≤ -1000000001 - (-1000000005) ∧ -1000000001 - (-1000000005) < 7 from by omega)) lk_X5_74 ⟨rfl, hP, hD.weaken (fun _ _ _ _ => trivial)⟩ (va_recv hK.1 hP (ci := 5) (q0 := 0) rfl rfl) rfl rfl rfl (Rm.of rfl) rfl rfl dX5_seasons_36) hD hS hA (fun x9 _ H locs hw hP hD hS => ?_)
      obtain rfl : x9 = iI (-1000000005) := hw
      have hP : va_P g.1 vwCl (wM g a f1 f2 f3 f4 f5 (fb (-1000000000 - (-1000000005)) f6) f7 f8 f9 f10 f11 f12 f13 f20 f21 f22 f23 f24 f25) H := hP
      have hD : va_D (va_A (wM g a f1 f2 f3 f4 f5 f6 f7 f8 f9 f10 f11 f12 f13 f20 f21 f22 f23 f24 f25) s.heap.size) (wM g a f1 f2 f3 f4 f5 (fb (-1000000000 - (-1000000005)) f6) f7 f8 f9 f10 f11 f12 f13 f20 f21 f22 f23 f24 f25) := hD
      have hf : fSea f1 n = 5 := by unfold fSea; (repeat (first | rw [if_pos (by omega)] | rw [if_neg (by omega)])); first | done | (exfalso; omega)
      have he8 : f1 = (if fSea f1 n = 0 then seaN f1 (Int.toNat n) else f1) := by rw [hf]; rfl
      have hP := Eq.mp (congrArg (fun z9 => va_P g.1 vwCl (wM g a z9 f2 f3 f4 f5 (fb (-1000000000 - (-1000000005)) f6) f7 f8 f9 f10 f11 f12 f13 f20 f21 f22 f23 f24 f25) H) he8) hP
      have hD := Eq.mp (congrArg (fun z9 => va_D (va_A (wM g a f1 f2 f3 f4 f5 f6 f7 f8 f9 f10 f11 f12 f13 f20 f21 f22 f23 f24 f25) s.heap.size) (wM g a z9 f2 f3 f4 f5 (fb (-1000000000 - (-1000000005)) f6) f7 f8 f9 f10 f11 f12 f13 f20 f21 f22 f23 f24 f25)) he8) hD
      have he9 : (fb (-1000000000 - (-1000000005)) f6) = (fb (fSea f1 n) f6) := by rw [hf]; rfl
      have hP := Eq.mp (congrArg (fun z9 => va_P g.1 vwCl (wM g a (if fSea f1 n = 0 then seaN f1 (Int.toNat n) else f1) f2 f3 f4 f5 z9 f7 f8 f9 f10 f11 f12 f13 f20 f21 f22 f23 f24 f25) H) he9) hP
      have hD := Eq.mp (congrArg (fun z9 => va_D (va_A (wM g a f1 f2 f3 f4 f5 f6 f7 f8 f9 f10 f11 f12 f13 f20 f21 f22 f23 f24 f25) s.heap.size) (wM g a (if fSea f1 n = 0 then seaN f1 (Int.toNat n) else f1) f2 f3 f4 f5 z9 f7 f8 f9 f10 f11 f12 f13 f20 f21 f22 f23 f24 f25)) he9) hD
      have hP : va_P g.1 vwCl (wM g a (if fSea f1 n = 0 then seaN f1 (Int.toNat n) else f1) f2 f3 f4 f5 (fb (fSea f1 n) f6) ((su (fun _ _ => 0) 7 f7) 7) f8 f9 f10 f11 f12 f13 f20 f21 f22 f23 f24 f25) H := hP
      have hD : va_D (va_A (wM g a f1 f2 f3 f4 f5 f6 f7 f8 f9 f10 f11 f12 f13 f20 f21 f22 f23 f24 f25) s.heap.size) (wM g a (if fSea f1 n = 0 then seaN f1 (Int.toNat n) else f1) f2 f3 f4 f5 (fb (fSea f1 n) f6) ((su (fun _ _ => 0) 7 f7) 7) f8 f9 f10 f11 f12 f13 f20 f21 f22 f23 f24 f25) := hD
      exact W.iret hx hb hr (fun t ht hW => ⟨⟨_, (su (fun _ _ => 0) 7 f7), rfl, by rw [hf]; rfl, by rw [ht]; exact hP, hD⟩, hS.F ht⟩) hS.2.2 dX5_seasons_39
  · refine xi_zf_ne hx hb ⟨by decide, by decide⟩ (by decide) dX5_seasons_9 ⟨19, by decide⟩ ?_
    refine lv_aload_n hx hb dX5_seasons_12 rfl (lv_at hl 0 rfl) ?_
    refine xi_ldc hx hb hown hts kk_X5_50 dX5_seasons_13 ?_
    refine xm_i (rV (rest := []) hx hb hml hown hts hK hl (c_X5_finds l g a f1 f2 f3 f4 f5 f6 f7 f8 f9 f10 f11 f12 f13 f20 f21 f22 f23 f24 f25 (-1000000001) (s.heap).size (show 0 ≤ -1000000001 - (-1000000001) ∧ -1000000001 - (-1000000001) < 7 from by omega)) lk_X5_74 ⟨rfl, hP, hD.weaken (fun _ _ _ _ => trivial)⟩ (va_recv hK.1 hP (ci := 5) (q0 := 0) rfl rfl) rfl rfl rfl (Rm.of rfl) rfl rfl dX5_seasons_15) hD hS hA (fun x9 _ H locs hw hP hD hS => ?_)
    obtain rfl : x9 = iI (-1000000001) := hw
    have hP : va_P g.1 vwCl (wM g a f1 f2 f3 f4 f5 (fb (-1000000000 - (-1000000001)) f6) f7 f8 f9 f10 f11 f12 f13 f20 f21 f22 f23 f24 f25) H := hP
    have hD : va_D (va_A (wM g a f1 f2 f3 f4 f5 f6 f7 f8 f9 f10 f11 f12 f13 f20 f21 f22 f23 f24 f25) s.heap.size) (wM g a f1 f2 f3 f4 f5 (fb (-1000000000 - (-1000000001)) f6) f7 f8 f9 f10 f11 f12 f13 f20 f21 f22 f23 f24 f25) := hD
    have hf : fSea f1 n = 1 := by unfold fSea; (repeat (first | rw [if_pos (by omega)] | rw [if_neg (by omega)])); first | done | (exfalso; omega)
    have he11 : f1 = (if fSea f1 n = 0 then seaN f1 (Int.toNat n) else f1) := by rw [hf]; rfl
    have hP := Eq.mp (congrArg (fun z9 => va_P g.1 vwCl (wM g a z9 f2 f3 f4 f5 (fb (-1000000000 - (-1000000001)) f6) f7 f8 f9 f10 f11 f12 f13 f20 f21 f22 f23 f24 f25) H) he11) hP
    have hD := Eq.mp (congrArg (fun z9 => va_D (va_A (wM g a f1 f2 f3 f4 f5 f6 f7 f8 f9 f10 f11 f12 f13 f20 f21 f22 f23 f24 f25) s.heap.size) (wM g a z9 f2 f3 f4 f5 (fb (-1000000000 - (-1000000001)) f6) f7 f8 f9 f10 f11 f12 f13 f20 f21 f22 f23 f24 f25)) he11) hD
    have he12 : (fb (-1000000000 - (-1000000001)) f6) = (fb (fSea f1 n) f6) := by rw [hf]; rfl
    have hP := Eq.mp (congrArg (fun z9 => va_P g.1 vwCl (wM g a (if fSea f1 n = 0 then seaN f1 (Int.toNat n) else f1) f2 f3 f4 f5 z9 f7 f8 f9 f10 f11 f12 f13 f20 f21 f22 f23 f24 f25) H) he12) hP
    have hD := Eq.mp (congrArg (fun z9 => va_D (va_A (wM g a f1 f2 f3 f4 f5 f6 f7 f8 f9 f10 f11 f12 f13 f20 f21 f22 f23 f24 f25) s.heap.size) (wM g a (if fSea f1 n = 0 then seaN f1 (Int.toNat n) else f1) f2 f3 f4 f5 z9 f7 f8 f9 f10 f11 f12 f13 f20 f21 f22 f23 f24 f25)) he12) hD
    have hP : va_P g.1 vwCl (wM g a (if fSea f1 n = 0 then seaN f1 (Int.toNat n) else f1) f2 f3 f4 f5 (fb (fSea f1 n) f6) ((su (fun _ _ => 0) 7 f7) 7) f8 f9 f10 f11 f12 f13 f20 f21 f22 f23 f24 f25) H := hP
    have hD : va_D (va_A (wM g a f1 f2 f3 f4 f5 f6 f7 f8 f9 f10 f11 f12 f13 f20 f21 f22 f23 f24 f25) s.heap.size) (wM g a (if fSea f1 n = 0 then seaN f1 (Int.toNat n) else f1) f2 f3 f4 f5 (fb (fSea f1 n) f6) ((su (fun _ _ => 0) 7 f7) 7) f8 f9 f10 f11 f12 f13 f20 f21 f22 f23 f24 f25) := hD
    exact W.iret hx hb hr (fun t ht hW => ⟨⟨_, (su (fun _ _ => 0) 7 f7), rfl, by rw [hf]; rfl, by rw [ht]; exact hP, hD⟩, hS.F ht⟩) hS.2.2 dX5_seasons_18
abbrev rm_X5_now : Room := { frames := 5, cells := 0, slots := 0, locals := 110 }
set_option maxRecDepth 100000 in
set_option maxHeartbeats 4000000 in
theorem c_X5_now (l : Launch) (g : Gd) (a : Nat → Nat) (f1 : Int → Int) (f2 : Int → Int) (f3 : Int → Int) (f4 : Int → Int) (f5 : Int → Int) (f6 : Int → Int) (f7 : Int → Int) (f8 : Int → Int) (f9 : Int → Int) (f10 : Int → Int) (f11 : Int → Int) (f12 : Int → Int) (f13 : Int → Int) (f20 : Int) (f21 : Int) (f22 : Int) (f23 : Int) (f24 : Int) (f25 : Int) (w : Int) (sz : Nat) (h1 : InvK 0 f1) (h2 : f1 0 ≤ 9999) (h3 : IR w) : Met l yX5_now (wsOf yX5_now cX5_now 2 (some .int)) rm_X5_now (PX g (wP g (wM g a f1 f2 f3 f4 f5 f6 f7 f8 f9 f10 f11 f12 f13 f20 f21 f22 f23 f24 f25) sz) [.ref (a 0), .int (iI w)]) (QMi g (fun _ : Unit => wM g a f1 f2 f3 f4 f5 (fb (fBtw w 0 6) f6) f7 f8 f9 f10 f11 f12 f13 f20 f21 f22 f23 f24 f25) (fun r9 _ => r9 = ab (fBtw w 0 6) (aNow f1 w)) (va_A (wM g a f1 f2 f3 f4 f5 f6 f7 f8 f9 f10 f11 f12 f13 f20 f21 f22 f23 f24 f25) sz)) 0 0 (va_A (wM g a f1 f2 f3 f4 f5 f6 f7 f8 f9 f10 f11 f12 f13 f20 f21 f22 f23 f24 f25) sz) := by
  refine me (g := g) (by decide) rfl ?_
  intro pq eq s mq below meth cq C hnm hB ls hl
  obtain ⟨hx, hb, hr, hml, hown, hts, hlocks, hK⟩ := C
  have hown : s.vm.findClass RX5 = some mq.cls := hown
  have hl : lv_has ls 2 [(0, .ref (a 0)), (1, .int (iI w))] := hl
  obtain ⟨hsz, hP, hD0⟩ := hB
  subst hsz
  have hD := hD0.self (sz := s.heap.size)
  have hA : ∀ q : Nat, s.heap.size ≤ q → va_A (wM g a f1 f2 f3 f4 f5 f6 f7 f8 f9 f10 f11 f12 f13 f20 f21 f22 f23 f24 f25) s.heap.size q := fun q h => Or.inr h
  have hS : va_S (va_A (wM g a f1 f2 f3 f4 f5 f6 f7 f8 f9 f10 f11 f12 f13 f20 f21 f22 f23 f24 f25) s.heap.size) s.heap s.heap [] := va_S.rf
  have hI := h1
  have hI8 : Inv f1 := h1.mono (by omega)
  have hn := hI.num
  have hs := hI.sea
  have hv := hI.vil
  have q1 := h3.1
  have q2 := h3.2
  refine lv_iload_n hx hb dX5_now_0 rfl (lv_at hl 1 rfl) ?_
  have hir1 : IR (w) := ⟨by omega, by omega⟩
  rcases (show (w) = 0 ∨ (w) = 1 ∨ (w) = 2 ∨ (w) = 3 ∨ (w) = 4 ∨ (w) = 5 ∨ (w) = 6 ∨ ((w) < 0 ∨ 6 < (w)) by omega) with z1 | z1 | z1 | z1 | z1 | z1 | z1 | z1
  · refine lv_tableIn (tgt := 44) (off := 43) hx hb dX5_now_1 (by rw [iI_toInt hir1, z1]; decide) (by rw [iI_toInt hir1, z1]; decide) (by rw [iI_toInt hir1, z1]; rfl) (by decide) ?_
    refine lv_aload_n hx hb dX5_now_44 rfl (lv_at hl 0 rfl) ?_
    refine xg_X5 hx hb hts hown hK hP 0 rfl 0 (by decide) fk_X5_7 (v := .ref (a 1)) rfl dX5_now_45 ?_
    refine lv_iconst (v := iI (0)) hx hb dX5_now_48 (by decide) ?_
    refine xi_ald hx hb hK hP 1 (f := f1) rfl (i := 0) ⟨by omega, by omega⟩ rfl dX5_now_49 ?_
    have hf : fBtw w 0 6 = 0 := by unfold fBtw; (repeat (first | rw [if_pos (by omega)] | rw [if_neg (by omega)])); first | done | (exfalso; omega)
    have he2 : f6 = (fb (fBtw w 0 6) f6) := by rw [hf]; rfl
    have hP := Eq.mp (congrArg (fun z9 => va_P g.1 vwCl (wM g a f1 f2 f3 f4 f5 z9 f7 f8 f9 f10 f11 f12 f13 f20 f21 f22 f23 f24 f25) s.heap) he2) hP
    have hD := Eq.mp (congrArg (fun z9 => va_D (va_A (wM g a f1 f2 f3 f4 f5 f6 f7 f8 f9 f10 f11 f12 f13 f20 f21 f22 f23 f24 f25) s.heap.size) (wM g a f1 f2 f3 f4 f5 z9 f7 f8 f9 f10 f11 f12 f13 f20 f21 f22 f23 f24 f25)) he2) hD
    have hP : va_P g.1 vwCl (wM g a f1 f2 f3 f4 f5 (fb (fBtw w 0 6) f6) f7 f8 f9 f10 f11 f12 f13 f20 f21 f22 f23 f24 f25) s.heap := hP
    have hD : va_D (va_A (wM g a f1 f2 f3 f4 f5 f6 f7 f8 f9 f10 f11 f12 f13 f20 f21 f22 f23 f24 f25) s.heap.size) (wM g a f1 f2 f3 f4 f5 (fb (fBtw w 0 6) f6) f7 f8 f9 f10 f11 f12 f13 f20 f21 f22 f23 f24 f25) := hD
    exact W.iret hx hb hr (fun t ht hW => ⟨⟨_, (), rfl, by rw [hf, ab_0]; unfold aNow; (repeat (first | rw [if_pos (by omega)] | rw [if_neg (by omega)])); first | done | rfl | (rw [bI_t (by assumption)]; done) | (rw [bI_f (by assumption)]; done), by rw [ht]; exact hP, hD⟩, hS.F ht⟩) hS.2.2 dX5_now_50
  · refine lv_tableIn (tgt := 51) (off := 50) hx hb dX5_now_1 (by rw [iI_toInt hir1, z1]; decide) (by rw [iI_toInt hir1, z1]; decide) (by rw [iI_toInt hir1, z1]; rfl) (by decide) ?_
    refine lv_aload_n hx hb dX5_now_51 rfl (lv_at hl 0 rfl) ?_
    refine lv_iconst (v := iI (3)) hx hb dX5_now_52 (by decide) ?_
    refine xu_i (x := iI (sumT f1 3 (f1 1).toNat)) (rV (rest := []) hx hb hml hown hts hK hl (c_X5_sumOf l g a f1 f2 f3 f4 f5 f6 f7 f8 f9 f10 f11 f12 f13 f20 f21 f22 f23 f24 f25 3 (show 0 ≤ 3 ∧ 3 ≤ 4 from by omega) (show 0 ≤ f1 1 ∧ f1 1 ≤ 8 from by omega)) lk_X5_160 hP (va_recv hK.1 hP (ci := 5) (q0 := 0) rfl rfl) rfl rfl rfl (Rm.of rfl) rfl rfl dX5_now_53) ?_
    have hf : fBtw w 0 6 = 0 := by unfold fBtw; (repeat (first | rw [if_pos (by omega)] | rw [if_neg (by omega)])); first | done | (exfalso; omega)
    have he4 : f6 = (fb (fBtw w 0 6) f6) := by rw [hf]; rfl
    have hP := Eq.mp (congrArg (fun z9 => va_P g.1 vwCl (wM g a f1 f2 f3 f4 f5 z9 f7 f8 f9 f10 f11 f12 f13 f20 f21 f22 f23 f24 f25) s.heap) he4) hP
    have hD := Eq.mp (congrArg (fun z9 => va_D (va_A (wM g a f1 f2 f3 f4 f5 f6 f7 f8 f9 f10 f11 f12 f13 f20 f21 f22 f23 f24 f25) s.heap.size) (wM g a f1 f2 f3 f4 f5 z9 f7 f8 f9 f10 f11 f12 f13 f20 f21 f22 f23 f24 f25)) he4) hD
    have hP : va_P g.1 vwCl (wM g a f1 f2 f3 f4 f5 (fb (fBtw w 0 6) f6) f7 f8 f9 f10 f11 f12 f13 f20 f21 f22 f23 f24 f25) s.heap := hP
    have hD : va_D (va_A (wM g a f1 f2 f3 f4 f5 f6 f7 f8 f9 f10 f11 f12 f13 f20 f21 f22 f23 f24 f25) s.heap.size) (wM g a f1 f2 f3 f4 f5 (fb (fBtw w 0 6) f6) f7 f8 f9 f10 f11 f12 f13 f20 f21 f22 f23 f24 f25) := hD
    exact W.iret hx hb hr (fun t ht hW => ⟨⟨_, (), rfl, by rw [hf, ab_0]; unfold aNow; (repeat (first | rw [if_pos (by omega)] | rw [if_neg (by omega)])); first | done | rfl | (rw [bI_t (by assumption)]; done) | (rw [bI_f (by assumption)]; done), by rw [ht]; exact hP, hD⟩, hS.F ht⟩) hS.2.2 dX5_now_56
  · refine lv_tableIn (tgt := 57) (off := 56) hx hb dX5_now_1 (by rw [iI_toInt hir1, z1]; decide) (by rw [iI_toInt hir1, z1]; decide) (by rw [iI_toInt hir1, z1]; rfl) (by decide) ?_
    refine lv_aload_n hx hb dX5_now_57 rfl (lv_at hl 0 rfl) ?_
    refine lv_iconst (v := iI (4)) hx hb dX5_now_58 (by decide) ?_
    refine xu_i (x := iI (sumT f1 4 (f1 1).toNat)) (rV (rest := []) hx hb hml hown hts hK hl (c_X5_sumOf l g a f1 f2 f3 f4 f5 f6 f7 f8 f9 f10 f11 f12 f13 f20 f21 f22 f23 f24 f25 4 (show 0 ≤ 4 ∧ 4 ≤ 4 from by omega) (show 0 ≤ f1 1 ∧ f1 1 ≤ 8 from by omega)) lk_X5_160 hP (va_recv hK.1 hP (ci := 5) (q0 := 0) rfl rfl) rfl rfl rfl (Rm.of rfl) rfl rfl dX5_now_59) ?_
    have hf : fBtw w 0 6 = 0 := by unfold fBtw; (repeat (first | rw [if_pos (by omega)] | rw [if_neg (by omega)])); first | done | (exfalso; omega)
    have he6 : f6 = (fb (fBtw w 0 6) f6) := by rw [hf]; rfl
    have hP := Eq.mp (congrArg (fun z9 => va_P g.1 vwCl (wM g a f1 f2 f3 f4 f5 z9 f7 f8 f9 f10 f11 f12 f13 f20 f21 f22 f23 f24 f25) s.heap) he6) hP
    have hD := Eq.mp (congrArg (fun z9 => va_D (va_A (wM g a f1 f2 f3 f4 f5 f6 f7 f8 f9 f10 f11 f12 f13 f20 f21 f22 f23 f24 f25) s.heap.size) (wM g a f1 f2 f3 f4 f5 z9 f7 f8 f9 f10 f11 f12 f13 f20 f21 f22 f23 f24 f25)) he6) hD
    have hP : va_P g.1 vwCl (wM g a f1 f2 f3 f4 f5 (fb (fBtw w 0 6) f6) f7 f8 f9 f10 f11 f12 f13 f20 f21 f22 f23 f24 f25) s.heap := hP
    have hD : va_D (va_A (wM g a f1 f2 f3 f4 f5 f6 f7 f8 f9 f10 f11 f12 f13 f20 f21 f22 f23 f24 f25) s.heap.size) (wM g a f1 f2 f3 f4 f5 (fb (fBtw w 0 6) f6) f7 f8 f9 f10 f11 f12 f13 f20 f21 f22 f23 f24 f25) := hD
    exact W.iret hx hb hr (fun t ht hW => ⟨⟨_, (), rfl, by rw [hf, ab_0]; unfold aNow; (repeat (first | rw [if_pos (by omega)] | rw [if_neg (by omega)])); first | done | rfl | (rw [bI_t (by assumption)]; done) | (rw [bI_f (by assumption)]; done), by rw [ht]; exact hP, hD⟩, hS.F ht⟩) hS.2.2 dX5_now_62
  · refine lv_tableIn (tgt := 63) (off := 62) hx hb dX5_now_1 (by rw [iI_toInt hir1, z1]; decide) (by rw [iI_toInt hir1, z1]; decide) (by rw [iI_toInt hir1, z1]; rfl) (by decide) ?_
    refine lv_aload_n hx hb dX5_now_63 rfl (lv_at hl 0 rfl) ?_
    refine xu_i (x := orT (plT f1) (f1 1).toNat) (rV (rest := []) hx hb hml hown hts hK hl (c_X5_places l g a f1 f2 f3 f4 f5 f6 f7 f8 f9 f10 f11 f12 f13 f20 f21 f22 f23 f24 f25 (show Inv f1 from hI8)) lk_X5_163 hP (va_recv hK.1 hP (ci := 5) (q0 := 0) rfl rfl) rfl rfl rfl (Rm.of rfl) rfl rfl dX5_now_64) ?_
    have hf : fBtw w 0 6 = 0 := by unfold fBtw; (repeat (first | rw [if_pos (by omega)] | rw [if_neg (by omega)])); first | done | (exfalso; omega)
    have he8 : f6 = (fb (fBtw w 0 6) f6) := by rw [hf]; rfl
    have hP := Eq.mp (congrArg (fun z9 => va_P g.1 vwCl (wM g a f1 f2 f3 f4 f5 z9 f7 f8 f9 f10 f11 f12 f13 f20 f21 f22 f23 f24 f25) s.heap) he8) hP
    have hD := Eq.mp (congrArg (fun z9 => va_D (va_A (wM g a f1 f2 f3 f4 f5 f6 f7 f8 f9 f10 f11 f12 f13 f20 f21 f22 f23 f24 f25) s.heap.size) (wM g a f1 f2 f3 f4 f5 z9 f7 f8 f9 f10 f11 f12 f13 f20 f21 f22 f23 f24 f25)) he8) hD
    have hP : va_P g.1 vwCl (wM g a f1 f2 f3 f4 f5 (fb (fBtw w 0 6) f6) f7 f8 f9 f10 f11 f12 f13 f20 f21 f22 f23 f24 f25) s.heap := hP
    have hD : va_D (va_A (wM g a f1 f2 f3 f4 f5 f6 f7 f8 f9 f10 f11 f12 f13 f20 f21 f22 f23 f24 f25) s.heap.size) (wM g a f1 f2 f3 f4 f5 (fb (fBtw w 0 6) f6) f7 f8 f9 f10 f11 f12 f13 f20 f21 f22 f23 f24 f25) := hD
    exact W.iret hx hb hr (fun t ht hW => ⟨⟨_, (), rfl, by rw [hf, ab_0]; unfold aNow; (repeat (first | rw [if_pos (by omega)] | rw [if_neg (by omega)])); first | done | rfl | (rw [bI_t (by assumption)]; done) | (rw [bI_f (by assumption)]; done), by rw [ht]; exact hP, hD⟩, hS.F ht⟩) hS.2.2 dX5_now_67
  · refine lv_tableIn (tgt := 68) (off := 67) hx hb dX5_now_1 (by rw [iI_toInt hir1, z1]; decide) (by rw [iI_toInt hir1, z1]; decide) (by rw [iI_toInt hir1, z1]; rfl) (by decide) ?_
    refine lv_aload_n hx hb dX5_now_68 rfl (lv_at hl 0 rfl) ?_
    refine xu_i (x := orT (opT f1) 24) (rV (rest := []) hx hb hml hown hts hK hl (c_X5_openPasses l g a f1 f2 f3 f4 f5 f6 f7 f8 f9 f10 f11 f12 f13 f20 f21 f22 f23 f24 f25 (show Inv f1 from hI8)) lk_X5_166 hP (va_recv hK.1 hP (ci := 5) (q0 := 0) rfl rfl) rfl rfl rfl (Rm.of rfl) rfl rfl dX5_now_69) ?_
    have hf : fBtw w 0 6 = 0 := by unfold fBtw; (repeat (first | rw [if_pos (by omega)] | rw [if_neg (by omega)])); first | done | (exfalso; omega)
    have he10 : f6 = (fb (fBtw w 0 6) f6) := by rw [hf]; rfl
    have hP := Eq.mp (congrArg (fun z9 => va_P g.1 vwCl (wM g a f1 f2 f3 f4 f5 z9 f7 f8 f9 f10 f11 f12 f13 f20 f21 f22 f23 f24 f25) s.heap) he10) hP
    have hD := Eq.mp (congrArg (fun z9 => va_D (va_A (wM g a f1 f2 f3 f4 f5 f6 f7 f8 f9 f10 f11 f12 f13 f20 f21 f22 f23 f24 f25) s.heap.size) (wM g a f1 f2 f3 f4 f5 z9 f7 f8 f9 f10 f11 f12 f13 f20 f21 f22 f23 f24 f25)) he10) hD
    have hP : va_P g.1 vwCl (wM g a f1 f2 f3 f4 f5 (fb (fBtw w 0 6) f6) f7 f8 f9 f10 f11 f12 f13 f20 f21 f22 f23 f24 f25) s.heap := hP
    have hD : va_D (va_A (wM g a f1 f2 f3 f4 f5 f6 f7 f8 f9 f10 f11 f12 f13 f20 f21 f22 f23 f24 f25) s.heap.size) (wM g a f1 f2 f3 f4 f5 (fb (fBtw w 0 6) f6) f7 f8 f9 f10 f11 f12 f13 f20 f21 f22 f23 f24 f25) := hD
    exact W.iret hx hb hr (fun t ht hW => ⟨⟨_, (), rfl, by rw [hf, ab_0]; unfold aNow; (repeat (first | rw [if_pos (by omega)] | rw [if_neg (by omega)])); first | done | rfl | (rw [bI_t (by assumption)]; done) | (rw [bI_f (by assumption)]; done), by rw [ht]; exact hP, hD⟩, hS.F ht⟩) hS.2.2 dX5_now_72
  · refine lv_tableIn (tgt := 73) (off := 72) hx hb dX5_now_1 (by rw [iI_toInt hir1, z1]; decide) (by rw [iI_toInt hir1, z1]; decide) (by rw [iI_toInt hir1, z1]; rfl) (by decide) ?_
    refine lv_aload_n hx hb dX5_now_73 rfl (lv_at hl 0 rfl) ?_
    refine xu_i (x := orT (liT f1) (f1 2).toNat) (rV (rest := []) hx hb hml hown hts hK hl (c_X5_lits l g a f1 f2 f3 f4 f5 f6 f7 f8 f9 f10 f11 f12 f13 f20 f21 f22 f23 f24 f25 (show Inv f1 from hI8)) lk_X5_169 hP (va_recv hK.1 hP (ci := 5) (q0 := 0) rfl rfl) rfl rfl rfl (Rm.of rfl) rfl rfl dX5_now_74) ?_
    have hf : fBtw w 0 6 = 0 := by unfold fBtw; (repeat (first | rw [if_pos (by omega)] | rw [if_neg (by omega)])); first | done | (exfalso; omega)
    have he12 : f6 = (fb (fBtw w 0 6) f6) := by rw [hf]; rfl
    have hP := Eq.mp (congrArg (fun z9 => va_P g.1 vwCl (wM g a f1 f2 f3 f4 f5 z9 f7 f8 f9 f10 f11 f12 f13 f20 f21 f22 f23 f24 f25) s.heap) he12) hP
    have hD := Eq.mp (congrArg (fun z9 => va_D (va_A (wM g a f1 f2 f3 f4 f5 f6 f7 f8 f9 f10 f11 f12 f13 f20 f21 f22 f23 f24 f25) s.heap.size) (wM g a f1 f2 f3 f4 f5 z9 f7 f8 f9 f10 f11 f12 f13 f20 f21 f22 f23 f24 f25)) he12) hD
    have hP : va_P g.1 vwCl (wM g a f1 f2 f3 f4 f5 (fb (fBtw w 0 6) f6) f7 f8 f9 f10 f11 f12 f13 f20 f21 f22 f23 f24 f25) s.heap := hP
    have hD : va_D (va_A (wM g a f1 f2 f3 f4 f5 f6 f7 f8 f9 f10 f11 f12 f13 f20 f21 f22 f23 f24 f25) s.heap.size) (wM g a f1 f2 f3 f4 f5 (fb (fBtw w 0 6) f6) f7 f8 f9 f10 f11 f12 f13 f20 f21 f22 f23 f24 f25) := hD
    exact W.iret hx hb hr (fun t ht hW => ⟨⟨_, (), rfl, by rw [hf, ab_0]; unfold aNow; (repeat (first | rw [if_pos (by omega)] | rw [if_neg (by omega)])); first | done | rfl | (rw [bI_t (by assumption)]; done) | (rw [bI_f (by assumption)]; done), by rw [ht]; exact hP, hD⟩, hS.F ht⟩) hS.2.2 dX5_now_77
  · refine lv_tableIn (tgt := 78) (off := 77) hx hb dX5_now_1 (by rw [iI_toInt hir1, z1]; decide) (by rw [iI_toInt hir1, z1]; decide) (by rw [iI_toInt hir1, z1]; rfl) (by decide) ?_
    refine lv_aload_n hx hb dX5_now_78 rfl (lv_at hl 0 rfl) ?_
    refine xu_b (P := f1 0 % 4 < 2) (rV (rest := []) hx hb hml hown hts hK hl (c_X5_isSummer l g a f1 f2 f3 f4 f5 f6 f7 f8 f9 f10 f11 f12 f13 f20 f21 f22 f23 f24 f25 (show Inv f1 from hI8)) lk_X5_105 hP (va_recv hK.1 hP (ci := 5) (q0 := 0) rfl rfl) rfl rfl rfl (Rm.of rfl) rfl rfl dX5_now_79) (fun z13 => ?_) (fun z13 => ?_)
    · refine xi_zf_eq hx hb ⟨by decide, by decide⟩ (by decide) dX5_now_82 ⟨89, by decide⟩ ?_
      refine lv_iconst (v := iI (1)) hx hb dX5_now_85 (by decide) ?_
      refine lv_goto (tgt := 90) hx hb dX5_now_86 (by decide) ?_
      have hf : fBtw w 0 6 = 0 := by unfold fBtw; (repeat (first | rw [if_pos (by omega)] | rw [if_neg (by omega)])); first | done | (exfalso; omega)
      have he14 : f6 = (fb (fBtw w 0 6) f6) := by rw [hf]; rfl
      have hP := Eq.mp (congrArg (fun z9 => va_P g.1 vwCl (wM g a f1 f2 f3 f4 f5 z9 f7 f8 f9 f10 f11 f12 f13 f20 f21 f22 f23 f24 f25) s.heap) he14) hP
      have hD := Eq.mp (congrArg (fun z9 => va_D (va_A (wM g a f1 f2 f3 f4 f5 f6 f7 f8 f9 f10 f11 f12 f13 f20 f21 f22 f23 f24 f25) s.heap.size) (wM g a f1 f2 f3 f4 f5 z9 f7 f8 f9 f10 f11 f12 f13 f20 f21 f22 f23 f24 f25)) he14) hD
      have hP : va_P g.1 vwCl (wM g a f1 f2 f3 f4 f5 (fb (fBtw w 0 6) f6) f7 f8 f9 f10 f11 f12 f13 f20 f21 f22 f23 f24 f25) s.heap := hP
      have hD : va_D (va_A (wM g a f1 f2 f3 f4 f5 f6 f7 f8 f9 f10 f11 f12 f13 f20 f21 f22 f23 f24 f25) s.heap.size) (wM g a f1 f2 f3 f4 f5 (fb (fBtw w 0 6) f6) f7 f8 f9 f10 f11 f12 f13 f20 f21 f22 f23 f24 f25) := hD
      exact W.iret hx hb hr (fun t ht hW => ⟨⟨_, (), rfl, by rw [hf, ab_0]; unfold aNow; (repeat (first | rw [if_pos (by omega)] | rw [if_neg (by omega)])); first | done | rfl | (rw [bI_t (by assumption)]; done) | (rw [bI_f (by assumption)]; done), by rw [ht]; exact hP, hD⟩, hS.F ht⟩) hS.2.2 dX5_now_90
    · refine xi_zt_eq (tgt := 89) hx hb ⟨by decide, by decide⟩ (by decide) dX5_now_82 (by decide) ?_
      refine lv_iconst (v := iI (0)) hx hb dX5_now_89 (by decide) ?_
      have hf : fBtw w 0 6 = 0 := by unfold fBtw; (repeat (first | rw [if_pos (by omega)] | rw [if_neg (by omega)])); first | done | (exfalso; omega)
      have he15 : f6 = (fb (fBtw w 0 6) f6) := by rw [hf]; rfl
      have hP := Eq.mp (congrArg (fun z9 => va_P g.1 vwCl (wM g a f1 f2 f3 f4 f5 z9 f7 f8 f9 f10 f11 f12 f13 f20 f21 f22 f23 f24 f25) s.heap) he15) hP
      have hD := Eq.mp (congrArg (fun z9 => va_D (va_A (wM g a f1 f2 f3 f4 f5 f6 f7 f8 f9 f10 f11 f12 f13 f20 f21 f22 f23 f24 f25) s.heap.size) (wM g a f1 f2 f3 f4 f5 z9 f7 f8 f9 f10 f11 f12 f13 f20 f21 f22 f23 f24 f25)) he15) hD
      have hP : va_P g.1 vwCl (wM g a f1 f2 f3 f4 f5 (fb (fBtw w 0 6) f6) f7 f8 f9 f10 f11 f12 f13 f20 f21 f22 f23 f24 f25) s.heap := hP
      have hD : va_D (va_A (wM g a f1 f2 f3 f4 f5 f6 f7 f8 f9 f10 f11 f12 f13 f20 f21 f22 f23 f24 f25) s.heap.size) (wM g a f1 f2 f3 f4 f5 (fb (fBtw w 0 6) f6) f7 f8 f9 f10 f11 f12 f13 f20 f21 f22 f23 f24 f25) := hD
      exact W.iret hx hb hr (fun t ht hW => ⟨⟨_, (), rfl, by rw [hf, ab_0]; unfold aNow; (repeat (first | rw [if_pos (by omega)] | rw [if_neg (by omega)])); first | done | rfl | (rw [bI_t (by assumption)]; done) | (rw [bI_f (by assumption)]; done), by rw [ht]; exact hP, hD⟩, hS.F ht⟩) hS.2.2 dX5_now_90
  · refine lv_tableOut (tgt := 91) hx hb dX5_now_1 (by rw [iI_toInt hir1]; exact z1) (by decide) ?_
    refine lv_aload_n hx hb dX5_now_91 rfl (lv_at hl 0 rfl) ?_
    refine xi_ldc hx hb hown hts kk_X5_50 dX5_now_92 ?_
    refine xm_i (rV (rest := []) hx hb hml hown hts hK hl (c_X5_finds l g a f1 f2 f3 f4 f5 f6 f7 f8 f9 f10 f11 f12 f13 f20 f21 f22 f23 f24 f25 (-1000000001) (s.heap).size (show 0 ≤ -1000000001 - (-1000000001) ∧ -1000000001 - (-1000000001) < 7 from by omega)) lk_X5_74 ⟨rfl, hP, hD.weaken (fun _ _ _ _ => trivial)⟩ (va_recv hK.1 hP (ci := 5) (q0 := 0) rfl rfl) rfl rfl rfl (Rm.of rfl) rfl rfl dX5_now_94) hD hS hA (fun x9 _ H locs hw hP hD hS => ?_)
    obtain rfl : x9 = iI (-1000000001) := hw
    have hP : va_P g.1 vwCl (wM g a f1 f2 f3 f4 f5 (fb (-1000000000 - (-1000000001)) f6) f7 f8 f9 f10 f11 f12 f13 f20 f21 f22 f23 f24 f25) H := hP
    have hD : va_D (va_A (wM g a f1 f2 f3 f4 f5 f6 f7 f8 f9 f10 f11 f12 f13 f20 f21 f22 f23 f24 f25) s.heap.size) (wM g a f1 f2 f3 f4 f5 (fb (-1000000000 - (-1000000001)) f6) f7 f8 f9 f10 f11 f12 f13 f20 f21 f22 f23 f24 f25) := hD
    have hf : fBtw w 0 6 = 1 := by unfold fBtw; (repeat (first | rw [if_pos (by omega)] | rw [if_neg (by omega)])); first | done | (exfalso; omega)
    have he17 : (fb (-1000000000 - (-1000000001)) f6) = (fb (fBtw w 0 6) f6) := by rw [hf]; rfl
    have hP := Eq.mp (congrArg (fun z9 => va_P g.1 vwCl (wM g a f1 f2 f3 f4 f5 z9 f7 f8 f9 f10 f11 f12 f13 f20 f21 f22 f23 f24 f25) H) he17) hP
    have hD := Eq.mp (congrArg (fun z9 => va_D (va_A (wM g a f1 f2 f3 f4 f5 f6 f7 f8 f9 f10 f11 f12 f13 f20 f21 f22 f23 f24 f25) s.heap.size) (wM g a f1 f2 f3 f4 f5 z9 f7 f8 f9 f10 f11 f12 f13 f20 f21 f22 f23 f24 f25)) he17) hD
    have hP : va_P g.1 vwCl (wM g a f1 f2 f3 f4 f5 (fb (fBtw w 0 6) f6) f7 f8 f9 f10 f11 f12 f13 f20 f21 f22 f23 f24 f25) H := hP
    have hD : va_D (va_A (wM g a f1 f2 f3 f4 f5 f6 f7 f8 f9 f10 f11 f12 f13 f20 f21 f22 f23 f24 f25) s.heap.size) (wM g a f1 f2 f3 f4 f5 (fb (fBtw w 0 6) f6) f7 f8 f9 f10 f11 f12 f13 f20 f21 f22 f23 f24 f25) := hD
    exact W.iret hx hb hr (fun t ht hW => ⟨⟨_, (), rfl, by rw [hf]; rfl, by rw [ht]; exact hP, hD⟩, hS.F ht⟩) hS.2.2 dX5_now_97
abbrev rm_X5_ahead : Room := { frames := 4, cells := 0, slots := 0, locals := 88 }
set_option maxRecDepth 100000 in
set_option maxHeartbeats 4000000 in
theorem c_X5_ahead (l : Launch) (g : Gd) (a : Nat → Nat) (f1 : Int → Int) (f2 : Int → Int) (f3 : Int → Int) (f4 : Int → Int) (f5 : Int → Int) (f6 : Int → Int) (f7 : Int → Int) (f8 : Int → Int) (f9 : Int → Int) (f10 : Int → Int) (f11 : Int → Int) (f12 : Int → Int) (f13 : Int → Int) (f20 : Int) (f21 : Int) (f22 : Int) (f23 : Int) (f24 : Int) (f25 : Int) (r : Int) (sz : Nat) (h1 : InvK 0 f1) (h2 : f1 0 ≤ 9999) (h3 : IR r) : Met l yX5_ahead (wsOf yX5_ahead cX5_ahead 2 (some .int)) rm_X5_ahead (PX g (wP g (wM g a f1 f2 f3 f4 f5 f6 f7 f8 f9 f10 f11 f12 f13 f20 f21 f22 f23 f24 f25) sz) [.ref (a 0), .int (iI r)]) (QMi g (fun _ : Unit => wM g a f1 f2 f3 f4 f5 (fb (fLev f1 r) f6) f7 f8 f9 f10 f11 f12 f13 f20 f21 f22 f23 f24 f25) (fun r9 _ => r9 = ab (fLev f1 r) (iI (ahd f1 r))) (va_A (wM g a f1 f2 f3 f4 f5 f6 f7 f8 f9 f10 f11 f12 f13 f20 f21 f22 f23 f24 f25) sz)) 0 0 (va_A (wM g a f1 f2 f3 f4 f5 f6 f7 f8 f9 f10 f11 f12 f13 f20 f21 f22 f23 f24 f25) sz) := by
  refine me (g := g) (by decide) rfl ?_
  intro pq eq s mq below meth cq C hnm hB ls hl
  obtain ⟨hx, hb, hr, hml, hown, hts, hlocks, hK⟩ := C
  have hown : s.vm.findClass RX5 = some mq.cls := hown
  have hl : lv_has ls 2 [(0, .ref (a 0)), (1, .int (iI r))] := hl
  obtain ⟨hsz, hP, hD0⟩ := hB
  subst hsz
  have hD := hD0.self (sz := s.heap.size)
  have hA : ∀ q : Nat, s.heap.size ≤ q → va_A (wM g a f1 f2 f3 f4 f5 f6 f7 f8 f9 f10 f11 f12 f13 f20 f21 f22 f23 f24 f25) s.heap.size q := fun q h => Or.inr h
  have hS : va_S (va_A (wM g a f1 f2 f3 f4 f5 f6 f7 f8 f9 f10 f11 f12 f13 f20 f21 f22 f23 f24 f25) s.heap.size) s.heap s.heap [] := va_S.rf
  have hI := h1
  have hI8 : Inv f1 := h1.mono (by omega)
  have hn := hI.num
  have hs := hI.sea
  have hv := hI.vil
  have q1 := h3.1
  have q2 := h3.2
  refine lv_aload_n hx hb dX5_ahead_0 rfl (lv_at hl 0 rfl) ?_
  refine lv_iload_n hx hb dX5_ahead_1 rfl (lv_at hl 1 rfl) ?_
  refine xu_b (P := 0 ≤ r ∧ r ≤ f1 1 - 1) (rV (rest := []) hx hb hml hown hts hK hl (c_X5_isRange l g a f1 f2 f3 f4 f5 f6 f7 f8 f9 f10 f11 f12 f13 f20 f21 f22 f23 f24 f25 r (show IR r from ⟨by omega, by omega⟩) (show 0 ≤ f1 1 ∧ f1 1 ≤ 8 from by omega)) lk_X5_127 hP (va_recv hK.1 hP (ci := 5) (q0 := 0) rfl rfl) rfl rfl rfl (Rm.of rfl) rfl rfl dX5_ahead_2) (fun z1 => ?_) (fun z1 => ?_)
  · refine xi_zf_eq hx hb ⟨by decide, by decide⟩ (by decide) dX5_ahead_5 ⟨16, by decide⟩ ?_
    refine lv_aload_n hx hb dX5_ahead_8 rfl (lv_at hl 0 rfl) ?_
    refine lv_iload_n hx hb dX5_ahead_9 rfl (lv_at hl 1 rfl) ?_
    refine xu_i (x := iI (ahd f1 r)) (rV (rest := []) hx hb hml hown hts hK hl (c_X5_aheadOf l g a f1 f2 f3 f4 f5 f6 f7 f8 f9 f10 f11 f12 f13 f20 f21 f22 f23 f24 f25 r (show Inv f1 from hI8) (show 0 ≤ r ∧ r < f1 1 from by omega)) lk_X5_182 hP (va_recv hK.1 hP (ci := 5) (q0 := 0) rfl rfl) rfl rfl rfl (Rm.of rfl) rfl rfl dX5_ahead_10) ?_
    refine lv_goto (tgt := 22) hx hb dX5_ahead_13 (by decide) ?_
    have hf : fLev f1 r = 0 := by unfold fLev; (repeat (first | rw [if_pos (by omega)] | rw [if_neg (by omega)])); first | done | (exfalso; omega)
    have he3 : f6 = (fb (fLev f1 r) f6) := by rw [hf]; rfl
    have hP := Eq.mp (congrArg (fun z9 => va_P g.1 vwCl (wM g a f1 f2 f3 f4 f5 z9 f7 f8 f9 f10 f11 f12 f13 f20 f21 f22 f23 f24 f25) s.heap) he3) hP
    have hD := Eq.mp (congrArg (fun z9 => va_D (va_A (wM g a f1 f2 f3 f4 f5 f6 f7 f8 f9 f10 f11 f12 f13 f20 f21 f22 f23 f24 f25) s.heap.size) (wM g a f1 f2 f3 f4 f5 z9 f7 f8 f9 f10 f11 f12 f13 f20 f21 f22 f23 f24 f25)) he3) hD
    have hP : va_P g.1 vwCl (wM g a f1 f2 f3 f4 f5 (fb (fLev f1 r) f6) f7 f8 f9 f10 f11 f12 f13 f20 f21 f22 f23 f24 f25) s.heap := hP
    have hD : va_D (va_A (wM g a f1 f2 f3 f4 f5 f6 f7 f8 f9 f10 f11 f12 f13 f20 f21 f22 f23 f24 f25) s.heap.size) (wM g a f1 f2 f3 f4 f5 (fb (fLev f1 r) f6) f7 f8 f9 f10 f11 f12 f13 f20 f21 f22 f23 f24 f25) := hD
    exact W.iret hx hb hr (fun t ht hW => ⟨⟨_, (), rfl, by rw [hf, ab_0], by rw [ht]; exact hP, hD⟩, hS.F ht⟩) hS.2.2 dX5_ahead_22
  · refine xi_zt_eq (tgt := 16) hx hb ⟨by decide, by decide⟩ (by decide) dX5_ahead_5 (by decide) ?_
    refine lv_aload_n hx hb dX5_ahead_16 rfl (lv_at hl 0 rfl) ?_
    refine xi_ldc hx hb hown hts kk_X5_50 dX5_ahead_17 ?_
    refine xm_i (rV (rest := []) hx hb hml hown hts hK hl (c_X5_finds l g a f1 f2 f3 f4 f5 f6 f7 f8 f9 f10 f11 f12 f13 f20 f21 f22 f23 f24 f25 (-1000000001) (s.heap).size (show 0 ≤ -1000000001 - (-1000000001) ∧ -1000000001 - (-1000000001) < 7 from by omega)) lk_X5_74 ⟨rfl, hP, hD.weaken (fun _ _ _ _ => trivial)⟩ (va_recv hK.1 hP (ci := 5) (q0 := 0) rfl rfl) rfl rfl rfl (Rm.of rfl) rfl rfl dX5_ahead_19) hD hS hA (fun x9 _ H locs hw hP hD hS => ?_)
    obtain rfl : x9 = iI (-1000000001) := hw
    have hP : va_P g.1 vwCl (wM g a f1 f2 f3 f4 f5 (fb (-1000000000 - (-1000000001)) f6) f7 f8 f9 f10 f11 f12 f13 f20 f21 f22 f23 f24 f25) H := hP
    have hD : va_D (va_A (wM g a f1 f2 f3 f4 f5 f6 f7 f8 f9 f10 f11 f12 f13 f20 f21 f22 f23 f24 f25) s.heap.size) (wM g a f1 f2 f3 f4 f5 (fb (-1000000000 - (-1000000001)) f6) f7 f8 f9 f10 f11 f12 f13 f20 f21 f22 f23 f24 f25) := hD
    have hf : fLev f1 r = 1 := by unfold fLev; (repeat (first | rw [if_pos (by omega)] | rw [if_neg (by omega)])); first | done | (exfalso; omega)
    have he5 : (fb (-1000000000 - (-1000000001)) f6) = (fb (fLev f1 r) f6) := by rw [hf]; rfl
    have hP := Eq.mp (congrArg (fun z9 => va_P g.1 vwCl (wM g a f1 f2 f3 f4 f5 z9 f7 f8 f9 f10 f11 f12 f13 f20 f21 f22 f23 f24 f25) H) he5) hP
    have hD := Eq.mp (congrArg (fun z9 => va_D (va_A (wM g a f1 f2 f3 f4 f5 f6 f7 f8 f9 f10 f11 f12 f13 f20 f21 f22 f23 f24 f25) s.heap.size) (wM g a f1 f2 f3 f4 f5 z9 f7 f8 f9 f10 f11 f12 f13 f20 f21 f22 f23 f24 f25)) he5) hD
    have hP : va_P g.1 vwCl (wM g a f1 f2 f3 f4 f5 (fb (fLev f1 r) f6) f7 f8 f9 f10 f11 f12 f13 f20 f21 f22 f23 f24 f25) H := hP
    have hD : va_D (va_A (wM g a f1 f2 f3 f4 f5 f6 f7 f8 f9 f10 f11 f12 f13 f20 f21 f22 f23 f24 f25) s.heap.size) (wM g a f1 f2 f3 f4 f5 (fb (fLev f1 r) f6) f7 f8 f9 f10 f11 f12 f13 f20 f21 f22 f23 f24 f25) := hD
    exact W.iret hx hb hr (fun t ht hW => ⟨⟨_, (), rfl, by rw [hf]; rfl, by rw [ht]; exact hP, hD⟩, hS.F ht⟩) hS.2.2 dX5_ahead_22
abbrev rm_X5_as : Room := { frames := 2, cells := 0, slots := 0, locals := 46 }
set_option maxRecDepth 100000 in
set_option maxHeartbeats 4000000 in
theorem c_X5_as (l : Launch) (g : Gd) (a : Nat → Nat) (f1 : Int → Int) (f2 : Int → Int) (f3 : Int → Int) (f4 : Int → Int) (f5 : Int → Int) (f6 : Int → Int) (f7 : Int → Int) (f8 : Int → Int) (f9 : Int → Int) (f10 : Int → Int) (f11 : Int → Int) (f12 : Int → Int) (f13 : Int → Int) (f20 : Int) (f21 : Int) (f22 : Int) (f23 : Int) (f24 : Int) (f25 : Int) (r : Int) (k : Int) (sz : Nat) (h1 : InvK 0 f1) (h2 : f1 0 ≤ 9999) (h3 : IR r) (h4 : IR k) : Met l yX5_as (wsOf yX5_as cX5_as 4 (some .int)) rm_X5_as (PX g (wP g (wM g a f1 f2 f3 f4 f5 f6 f7 f8 f9 f10 f11 f12 f13 f20 f21 f22 f23 f24 f25) sz) [.ref (a 0), .int (iI r), .int (iI k)]) (QMi g (fun _ : Unit => wM g a f1 f2 f3 f4 f5 (fb (fAs f1 r k) f6) f7 f8 f9 f10 f11 f12 f13 f20 f21 f22 f23 f24 f25) (fun r9 _ => r9 = ab (fAs f1 r k) (iI (f1 (61 + 5 * r + 2)))) (va_A (wM g a f1 f2 f3 f4 f5 f6 f7 f8 f9 f10 f11 f12 f13 f20 f21 f22 f23 f24 f25) sz)) 0 0 (va_A (wM g a f1 f2 f3 f4 f5 f6 f7 f8 f9 f10 f11 f12 f13 f20 f21 f22 f23 f24 f25) sz) := by
  refine me (g := g) (by decide) rfl ?_
  intro pq eq s mq below meth cq C hnm hB ls hl
  obtain ⟨hx, hb, hr, hml, hown, hts, hlocks, hK⟩ := C
  have hown : s.vm.findClass RX5 = some mq.cls := hown
  have hl : lv_has ls 4 [(0, .ref (a 0)), (1, .int (iI r)), (2, .int (iI k))] := hl
  obtain ⟨hsz, hP, hD0⟩ := hB
  subst hsz
  have hD := hD0.self (sz := s.heap.size)
  have hA : ∀ q : Nat, s.heap.size ≤ q → va_A (wM g a f1 f2 f3 f4 f5 f6 f7 f8 f9 f10 f11 f12 f13 f20 f21 f22 f23 f24 f25) s.heap.size q := fun q h => Or.inr h
  have hS : va_S (va_A (wM g a f1 f2 f3 f4 f5 f6 f7 f8 f9 f10 f11 f12 f13 f20 f21 f22 f23 f24 f25) s.heap.size) s.heap s.heap [] := va_S.rf
  have hI := h1
  have hI8 : Inv f1 := h1.mono (by omega)
  have hn := hI.num
  have hs := hI.sea
  have hv := hI.vil
  have q1 := h3.1
  have q3 := h4.1
  have q2 := h3.2
  have q4 := h4.2
  refine lv_aload_n hx hb dX5_as_0 rfl (lv_at hl 0 rfl) ?_
  refine lv_iload_n hx hb dX5_as_1 rfl (lv_at hl 1 rfl) ?_
  refine xu_b (P := 0 ≤ r ∧ r ≤ f1 1 - 1) (rV (rest := []) hx hb hml hown hts hK hl (c_X5_isRange l g a f1 f2 f3 f4 f5 f6 f7 f8 f9 f10 f11 f12 f13 f20 f21 f22 f23 f24 f25 r (show IR r from ⟨by omega, by omega⟩) (show 0 ≤ f1 1 ∧ f1 1 ≤ 8 from by omega)) lk_X5_127 hP (va_recv hK.1 hP (ci := 5) (q0 := 0) rfl rfl) rfl rfl rfl (Rm.of rfl) rfl rfl dX5_as_2) (fun z1 => ?_) (fun z1 => ?_)
  · refine xi_zf_eq hx hb ⟨by decide, by decide⟩ (by decide) dX5_as_5 ⟨15, by decide⟩ ?_
    refine lv_iload_n hx hb dX5_as_8 rfl (lv_at hl 2 rfl) ?_
    refine xu_b (P := 0 ≤ k ∧ k ≤ 5) (rS (rest := []) hx hb hml hown hts hK hl (c_X5_isKind l g k (show IR k from ⟨by omega, by omega⟩)) lk_X5_120 trivial rfl rfl rfl (Rm.of rfl) rfl rfl dX5_as_9) (fun z2 => ?_) (fun z2 => ?_)
    · refine xi_zt_ne (tgt := 22) hx hb ⟨by decide, by decide⟩ (by decide) dX5_as_12 (by decide) ?_
      refine lv_aload_n hx hb dX5_as_22 rfl (lv_at hl 0 rfl) ?_
      refine lv_iload_n hx hb dX5_as_23 rfl (lv_at hl 1 rfl) ?_
      refine lv_iconst (v := iI (0)) hx hb dX5_as_24 (by decide) ?_
      refine xu_i (x := iI (f1 (61 + 5 * r + 0))) (rV (rest := []) hx hb hml hown hts hK hl (c_X5_its l g a f1 f2 f3 f4 f5 f6 f7 f8 f9 f10 f11 f12 f13 f20 f21 f22 f23 f24 f25 r 0 (show 0 ≤ 61 + 5 * r + 0 ∧ 61 + 5 * r + 0 < 101 from by omega)) lk_X5_63 hP (va_recv hK.1 hP (ci := 5) (q0 := 0) rfl rfl) rfl rfl rfl (Rm.of rfl) rfl rfl dX5_as_25) ?_
      have hc := hI.ran r (by omega) (by omega)
      refine lv_istore_n (lv' := [(3, .int (iI (f1 (61 + 5 * r + 0)))), (0, .ref (a 0)), (1, .int (iI r)), (2, .int (iI k))]) hx hb dX5_as_28 rfl hl (by decide) rfl (fun ls hl => ?_)
      have lp29 : ∀ (n29 : Nat) (x : Int), (0 ≤ x ∧ x ≤ 5) → (((f1 (61 + 5 * r + 0)) = k ∨ k = 0 ∨ ((f1 (61 + 5 * r + 0)) = 4 ∧ k = 1) ∨ ((f1 (61 + 5 * r + 0)) = 5 ∧ k = 2)) ↔ (x = k ∨ k = 0 ∨ (x = 4 ∧ k = 1) ∨ (x = 5 ∧ k = 2))) → x.toNat < n29 → ∀ ls : Array Slot, lv_has ls 4 [(3, .int (iI x)), (0, .ref (a 0)), (1, .int (iI r)), (2, .int (iI k))] → ∀ (H : Heap) (locs : List Loc), va_P g.1 vwCl (wM g a f1 f2 f3 f4 f5 f6 f7 f8 f9 f10 f11 f12 f13 f20 f21 f22 f23 f24 f25) H → va_D (va_A (wM g a f1 f2 f3 f4 f5 f6 f7 f8 f9 f10 f11 f12 f13 f20 f21 f22 f23 f24 f25) s.heap.size) (wM g a f1 f2 f3 f4 f5 f6 f7 f8 f9 f10 f11 f12 f13 f20 f21 f22 f23 f24 f25) → va_S (va_A (wM g a f1 f2 f3 f4 f5 f6 f7 f8 f9 f10 f11 f12 f13 f20 f21 f22 f23 f24 f25) s.heap.size) s.heap H locs → W pq l eq rm_X5_as s mq [.ref (a 0), .int (iI r), .int (iI k)].toArray below meth cq H locs 0 0 (MQ below (QMi g (fun _ : Unit => wM g a f1 f2 f3 f4 f5 (fb (fAs f1 r k) f6) f7 f8 f9 f10 f11 f12 f13 f20 f21 f22 f23 f24 f25) (fun r9 _ => r9 = ab (fAs f1 r k) (iI (f1 (61 + 5 * r + 2)))) (va_A (wM g a f1 f2 f3 f4 f5 f6 f7 f8 f9 f10 f11 f12 f13 f20 f21 f22 f23 f24 f25) s.heap.size)) [.ref (a 0), .int (iI r), .int (iI k)].toArray s 0 0 (va_A (wM g a f1 f2 f3 f4 f5 f6 f7 f8 f9 f10 f11 f12 f13 f20 f21 f22 f23 f24 f25) s.heap.size)) (F0 mq 29 ls []) := by
        intro n29
        induction n29 with
        | zero => intro x i29_1 i29_2 hm; exact absurd hm (Nat.not_lt_zero _)
        | succ n29 ih29 =>
          intro x i29_1 i29_2 hm29 ls hl H locs hP hD hS
          refine lv_iload_n hx hb dX5_as_29 rfl (lv_at hl 0 rfl) ?_
          refine lv_iload_n hx hb dX5_as_30 rfl (lv_at hl 3 rfl) ?_
          refine xi_c_eq (tgt := 46) hx hb ⟨by omega, by omega⟩ ⟨by omega, by omega⟩ dX5_as_31 (by decide) (fun z4 => ?_) (fun z4 => ?_)
          · refine lv_iload_n hx hb dX5_as_46 rfl (lv_at hl 0 rfl) ?_
            refine lv_iload_n hx hb dX5_as_47 rfl (lv_at hl 3 rfl) ?_
            refine xi_c_ne (tgt := 60) hx hb ⟨by omega, by omega⟩ ⟨by omega, by omega⟩ dX5_as_48 (by decide) (fun z5 => ?_) (fun z5 => ?_)
            · refine lv_aload_n hx hb dX5_as_60 rfl (lv_at hl 1 rfl) ?_
              refine xi_ldc hx hb hown hts kk_X5_141 dX5_as_61 ?_
              refine xm_i (rV (rest := []) hx hb hml hown hts hK hl (c_X5_finds l g a f1 f2 f3 f4 f5 f6 f7 f8 f9 f10 f11 f12 f13 f20 f21 f22 f23 f24 f25 (-1000000003) H.size (show 0 ≤ -1000000001 - (-1000000003) ∧ -1000000001 - (-1000000003) < 7 from by omega)) lk_X5_74 ⟨rfl, hP, hD.weaken (fun _ _ _ _ => trivial)⟩ (va_recv hK.1 hP (ci := 5) (q0 := 0) rfl rfl) rfl rfl rfl (Rm.of rfl) rfl rfl dX5_as_63) hD hS hA (fun x9 _ H locs hw hP hD hS => ?_)
              obtain rfl : x9 = iI (-1000000003) := hw
              have hP : va_P g.1 vwCl (wM g a f1 f2 f3 f4 f5 (fb (-1000000000 - (-1000000003)) f6) f7 f8 f9 f10 f11 f12 f13 f20 f21 f22 f23 f24 f25) H := hP
              have hD : va_D (va_A (wM g a f1 f2 f3 f4 f5 f6 f7 f8 f9 f10 f11 f12 f13 f20 f21 f22 f23 f24 f25) s.heap.size) (wM g a f1 f2 f3 f4 f5 (fb (-1000000000 - (-1000000003)) f6) f7 f8 f9 f10 f11 f12 f13 f20 f21 f22 f23 f24 f25) := hD
              have hf : fAs f1 r k = 3 := by unfold fAs; (repeat (first | rw [if_pos (by omega)] | rw [if_neg (by omega)])); first | done | (exfalso; omega)
              have he7 : (fb (-1000000000 - (-1000000003)) f6) = (fb (fAs f1 r k) f6) := by rw [hf]; rfl
              have hP := Eq.mp (congrArg (fun z9 => va_P g.1 vwCl (wM g a f1 f2 f3 f4 f5 z9 f7 f8 f9 f10 f11 f12 f13 f20 f21 f22 f23 f24 f25) H) he7) hP
              have hD := Eq.mp (congrArg (fun z9 => va_D (va_A (wM g a f1 f2 f3 f4 f5 f6 f7 f8 f9 f10 f11 f12 f13 f20 f21 f22 f23 f24 f25) s.heap.size) (wM g a f1 f2 f3 f4 f5 z9 f7 f8 f9 f10 f11 f12 f13 f20 f21 f22 f23 f24 f25)) he7) hD
              have hP : va_P g.1 vwCl (wM g a f1 f2 f3 f4 f5 (fb (fAs f1 r k) f6) f7 f8 f9 f10 f11 f12 f13 f20 f21 f22 f23 f24 f25) H := hP
              have hD : va_D (va_A (wM g a f1 f2 f3 f4 f5 f6 f7 f8 f9 f10 f11 f12 f13 f20 f21 f22 f23 f24 f25) s.heap.size) (wM g a f1 f2 f3 f4 f5 (fb (fAs f1 r k) f6) f7 f8 f9 f10 f11 f12 f13 f20 f21 f22 f23 f24 f25) := hD
              exact W.iret hx hb hr (fun t ht hW => ⟨⟨_, (), rfl, by rw [hf]; rfl, by rw [ht]; exact hP, hD⟩, hS.F ht⟩) hS.2.2 dX5_as_66
            · refine lv_aload_n hx hb dX5_as_51 rfl (lv_at hl 1 rfl) ?_
              refine lv_iload_n hx hb dX5_as_52 rfl (lv_at hl 2 rfl) ?_
              refine lv_iconst (v := iI (2)) hx hb dX5_as_53 (by decide) ?_
              refine xu_i (x := iI (f1 (61 + 5 * r + 2))) (rV (rest := []) hx hb hml hown hts hK hl (c_X5_its l g a f1 f2 f3 f4 f5 f6 f7 f8 f9 f10 f11 f12 f13 f20 f21 f22 f23 f24 f25 r 2 (show 0 ≤ 61 + 5 * r + 2 ∧ 61 + 5 * r + 2 < 101 from by omega)) lk_X5_63 hP (va_recv hK.1 hP (ci := 5) (q0 := 0) rfl rfl) rfl rfl rfl (Rm.of rfl) rfl rfl dX5_as_54) ?_
              refine lv_goto (tgt := 66) hx hb dX5_as_57 (by decide) ?_
              have hf : fAs f1 r k = 0 := by unfold fAs; (repeat (first | rw [if_pos (by omega)] | rw [if_neg (by omega)])); first | done | (exfalso; omega)
              have he9 : f6 = (fb (fAs f1 r k) f6) := by rw [hf]; rfl
              have hP := Eq.mp (congrArg (fun z9 => va_P g.1 vwCl (wM g a f1 f2 f3 f4 f5 z9 f7 f8 f9 f10 f11 f12 f13 f20 f21 f22 f23 f24 f25) H) he9) hP
              have hD := Eq.mp (congrArg (fun z9 => va_D (va_A (wM g a f1 f2 f3 f4 f5 f6 f7 f8 f9 f10 f11 f12 f13 f20 f21 f22 f23 f24 f25) s.heap.size) (wM g a f1 f2 f3 f4 f5 z9 f7 f8 f9 f10 f11 f12 f13 f20 f21 f22 f23 f24 f25)) he9) hD
              have hP : va_P g.1 vwCl (wM g a f1 f2 f3 f4 f5 (fb (fAs f1 r k) f6) f7 f8 f9 f10 f11 f12 f13 f20 f21 f22 f23 f24 f25) H := hP
              have hD : va_D (va_A (wM g a f1 f2 f3 f4 f5 f6 f7 f8 f9 f10 f11 f12 f13 f20 f21 f22 f23 f24 f25) s.heap.size) (wM g a f1 f2 f3 f4 f5 (fb (fAs f1 r k) f6) f7 f8 f9 f10 f11 f12 f13 f20 f21 f22 f23 f24 f25) := hD
              exact W.iret hx hb hr (fun t ht hW => ⟨⟨_, (), rfl, by rw [hf, ab_0]; (try (repeat (first | rw [if_pos (by omega)] | rw [if_neg (by omega)]))); first | done | rfl | exact congrArg iI (by omega) | exact congrArg iI (by simp only [up]; (repeat (first | rw [if_pos (by omega)] | rw [if_neg (by omega)])); first | done | omega), by rw [ht]; exact hP, hD⟩, hS.F ht⟩) hS.2.2 dX5_as_66
          · refine lv_iload_n hx hb dX5_as_34 rfl (lv_at hl 0 rfl) ?_
            refine xi_z_eq (tgt := 46) hx hb ⟨by omega, by omega⟩ dX5_as_35 (by decide) (fun z10 => ?_) (fun z10 => ?_)
            · refine lv_iload_n hx hb dX5_as_46 rfl (lv_at hl 0 rfl) ?_
              refine lv_iload_n hx hb dX5_as_47 rfl (lv_at hl 3 rfl) ?_
              refine xi_c_ne (tgt := 60) hx hb ⟨by omega, by omega⟩ ⟨by omega, by omega⟩ dX5_as_48 (by decide) (fun z11 => ?_) (fun z11 => ?_)
              · refine lv_aload_n hx hb dX5_as_60 rfl (lv_at hl 1 rfl) ?_
                refine xi_ldc hx hb hown hts kk_X5_141 dX5_as_61 ?_
                refine xm_i (rV (rest := []) hx hb hml hown hts hK hl (c_X5_finds l g a f1 f2 f3 f4 f5 f6 f7 f8 f9 f10 f11 f12 f13 f20 f21 f22 f23 f24 f25 (-1000000003) H.size (show 0 ≤ -1000000001 - (-1000000003) ∧ -1000000001 - (-1000000003) < 7 from by omega)) lk_X5_74 ⟨rfl, hP, hD.weaken (fun _ _ _ _ => trivial)⟩ (va_recv hK.1 hP (ci := 5) (q0 := 0) rfl rfl) rfl rfl rfl (Rm.of rfl) rfl rfl dX5_as_63) hD hS hA (fun x9 _ H locs hw hP hD hS => ?_)
                obtain rfl : x9 = iI (-1000000003) := hw
                have hP : va_P g.1 vwCl (wM g a f1 f2 f3 f4 f5 (fb (-1000000000 - (-1000000003)) f6) f7 f8 f9 f10 f11 f12 f13 f20 f21 f22 f23 f24 f25) H := hP
                have hD : va_D (va_A (wM g a f1 f2 f3 f4 f5 f6 f7 f8 f9 f10 f11 f12 f13 f20 f21 f22 f23 f24 f25) s.heap.size) (wM g a f1 f2 f3 f4 f5 (fb (-1000000000 - (-1000000003)) f6) f7 f8 f9 f10 f11 f12 f13 f20 f21 f22 f23 f24 f25) := hD
                have hf : fAs f1 r k = 3 := by unfold fAs; (repeat (first | rw [if_pos (by omega)] | rw [if_neg (by omega)])); first | done | (exfalso; omega)
                have he13 : (fb (-1000000000 - (-1000000003)) f6) = (fb (fAs f1 r k) f6) := by rw [hf]; rfl
                have hP := Eq.mp (congrArg (fun z9 => va_P g.1 vwCl (wM g a f1 f2 f3 f4 f5 z9 f7 f8 f9 f10 f11 f12 f13 f20 f21 f22 f23 f24 f25) H) he13) hP
                have hD := Eq.mp (congrArg (fun z9 => va_D (va_A (wM g a f1 f2 f3 f4 f5 f6 f7 f8 f9 f10 f11 f12 f13 f20 f21 f22 f23 f24 f25) s.heap.size) (wM g a f1 f2 f3 f4 f5 z9 f7 f8 f9 f10 f11 f12 f13 f20 f21 f22 f23 f24 f25)) he13) hD
                have hP : va_P g.1 vwCl (wM g a f1 f2 f3 f4 f5 (fb (fAs f1 r k) f6) f7 f8 f9 f10 f11 f12 f13 f20 f21 f22 f23 f24 f25) H := hP
                have hD : va_D (va_A (wM g a f1 f2 f3 f4 f5 f6 f7 f8 f9 f10 f11 f12 f13 f20 f21 f22 f23 f24 f25) s.heap.size) (wM g a f1 f2 f3 f4 f5 (fb (fAs f1 r k) f6) f7 f8 f9 f10 f11 f12 f13 f20 f21 f22 f23 f24 f25) := hD
                exact W.iret hx hb hr (fun t ht hW => ⟨⟨_, (), rfl, by rw [hf]; rfl, by rw [ht]; exact hP, hD⟩, hS.F ht⟩) hS.2.2 dX5_as_66
              · refine lv_aload_n hx hb dX5_as_51 rfl (lv_at hl 1 rfl) ?_
                refine lv_iload_n hx hb dX5_as_52 rfl (lv_at hl 2 rfl) ?_
                refine lv_iconst (v := iI (2)) hx hb dX5_as_53 (by decide) ?_
                refine xu_i (x := iI (f1 (61 + 5 * r + 2))) (rV (rest := []) hx hb hml hown hts hK hl (c_X5_its l g a f1 f2 f3 f4 f5 f6 f7 f8 f9 f10 f11 f12 f13 f20 f21 f22 f23 f24 f25 r 2 (show 0 ≤ 61 + 5 * r + 2 ∧ 61 + 5 * r + 2 < 101 from by omega)) lk_X5_63 hP (va_recv hK.1 hP (ci := 5) (q0 := 0) rfl rfl) rfl rfl rfl (Rm.of rfl) rfl rfl dX5_as_54) ?_
                refine lv_goto (tgt := 66) hx hb dX5_as_57 (by decide) ?_
                have hf : fAs f1 r k = 0 := by unfold fAs; (repeat (first | rw [if_pos (by omega)] | rw [if_neg (by omega)])); first | done | (exfalso; omega)
                have he15 : f6 = (fb (fAs f1 r k) f6) := by rw [hf]; rfl
                have hP := Eq.mp (congrArg (fun z9 => va_P g.1 vwCl (wM g a f1 f2 f3 f4 f5 z9 f7 f8 f9 f10 f11 f12 f13 f20 f21 f22 f23 f24 f25) H) he15) hP
                have hD := Eq.mp (congrArg (fun z9 => va_D (va_A (wM g a f1 f2 f3 f4 f5 f6 f7 f8 f9 f10 f11 f12 f13 f20 f21 f22 f23 f24 f25) s.heap.size) (wM g a f1 f2 f3 f4 f5 z9 f7 f8 f9 f10 f11 f12 f13 f20 f21 f22 f23 f24 f25)) he15) hD
                have hP : va_P g.1 vwCl (wM g a f1 f2 f3 f4 f5 (fb (fAs f1 r k) f6) f7 f8 f9 f10 f11 f12 f13 f20 f21 f22 f23 f24 f25) H := hP
                have hD : va_D (va_A (wM g a f1 f2 f3 f4 f5 f6 f7 f8 f9 f10 f11 f12 f13 f20 f21 f22 f23 f24 f25) s.heap.size) (wM g a f1 f2 f3 f4 f5 (fb (fAs f1 r k) f6) f7 f8 f9 f10 f11 f12 f13 f20 f21 f22 f23 f24 f25) := hD
                exact W.iret hx hb hr (fun t ht hW => ⟨⟨_, (), rfl, by rw [hf, ab_0]; (try (repeat (first | rw [if_pos (by omega)] | rw [if_neg (by omega)]))); first | done | rfl | exact congrArg iI (by omega) | exact congrArg iI (by simp only [up]; (repeat (first | rw [if_pos (by omega)] | rw [if_neg (by omega)])); first | done | omega), by rw [ht]; exact hP, hD⟩, hS.F ht⟩) hS.2.2 dX5_as_66
            · refine lv_iload_n hx hb dX5_as_38 rfl (lv_at hl 0 rfl) ?_
              refine xu_i (x := iI (if x = 4 then 1 else if x = 5 then 2 else 0)) (rS (rest := []) hx hb hml hown hts hK hl (c_X5_above l g x (show IR x from ⟨by omega, by omega⟩)) lk_X5_138 trivial rfl rfl rfl (Rm.of rfl) rfl rfl dX5_as_39) ?_
              refine lv_istore_n (lv' := [(3, .int (iI (if x = 4 then 1 else if x = 5 then 2 else 0))), (0, .ref (a 0)), (1, .int (iI r)), (2, .int (iI k))]) hx hb dX5_as_42 rfl hl (by decide) rfl (fun ls hl => ?_)
              refine lv_goto (tgt := 29) hx hb dX5_as_43 (by decide) ?_
              exact ih29 (if x = 4 then 1 else if x = 5 then 2 else 0) (by split <;> (try split) <;> omega) (by rw [i29_2]; split <;> (try split) <;> omega) (by split <;> (try split) <;> omega) ls (lv_sub hl [0, 1, 2, 3] rfl) H locs hP hD hS
      have hq17 : (f1 (61 + 5 * r + 0)) = (f1 (61 + 5 * r + 0)) := by omega
      have hl : lv_has ls 4 [(3, .int (iI (f1 (61 + 5 * r + 0)))), (0, .ref (a 0)), (1, .int (iI r)), (2, .int (iI k))] := lv_sub hl [0, 1, 2, 3] rfl
      have hl := Eq.mp (congrArg (fun z9 => lv_has ls 4 [(3, .int (iI z9)), (0, .ref (a 0)), (1, .int (iI r)), (2, .int (iI k))]) hq17) hl
      exact lp29 (5 + 1) (f1 (61 + 5 * r + 0)) (by omega) (by omega) (by omega) ls hl s.heap [] hP hD hS
    · refine xi_zf_ne hx hb ⟨by decide, by decide⟩ (by decide) dX5_as_12 ⟨22, by decide⟩ ?_
      refine lv_aload_n hx hb dX5_as_15 rfl (lv_at hl 0 rfl) ?_
      refine xi_ldc hx hb hown hts kk_X5_50 dX5_as_16 ?_
      refine xm_i (rV (rest := []) hx hb hml hown hts hK hl (c_X5_finds l g a f1 f2 f3 f4 f5 f6 f7 f8 f9 f10 f11 f12 f13 f20 f21 f22 f23 f24 f25 (-1000000001) (s.heap).size (show 0 ≤ -1000000001 - (-1000000001) ∧ -1000000001 - (-1000000001) < 7 from by omega)) lk_X5_74 ⟨rfl, hP, hD.weaken (fun _ _ _ _ => trivial)⟩ (va_recv hK.1 hP (ci := 5) (q0 := 0) rfl rfl) rfl rfl rfl (Rm.of rfl) rfl rfl dX5_as_18) hD hS hA (fun x9 _ H locs hw hP hD hS => ?_)
      obtain rfl : x9 = iI (-1000000001) := hw
      have hP : va_P g.1 vwCl (wM g a f1 f2 f3 f4 f5 (fb (-1000000000 - (-1000000001)) f6) f7 f8 f9 f10 f11 f12 f13 f20 f21 f22 f23 f24 f25) H := hP
      have hD : va_D (va_A (wM g a f1 f2 f3 f4 f5 f6 f7 f8 f9 f10 f11 f12 f13 f20 f21 f22 f23 f24 f25) s.heap.size) (wM g a f1 f2 f3 f4 f5 (fb (-1000000000 - (-1000000001)) f6) f7 f8 f9 f10 f11 f12 f13 f20 f21 f22 f23 f24 f25) := hD
      have hf : fAs f1 r k = 1 := by unfold fAs; (repeat (first | rw [if_pos (by omega)] | rw [if_neg (by omega)])); first | done | (exfalso; omega)
      have he19 : (fb (-1000000000 - (-1000000001)) f6) = (fb (fAs f1 r k) f6) := by rw [hf]; rfl
      have hP := Eq.mp (congrArg (fun z9 => va_P g.1 vwCl (wM g a f1 f2 f3 f4 f5 z9 f7 f8 f9 f10 f11 f12 f13 f20 f21 f22 f23 f24 f25) H) he19) hP
      have hD := Eq.mp (congrArg (fun z9 => va_D (va_A (wM g a f1 f2 f3 f4 f5 f6 f7 f8 f9 f10 f11 f12 f13 f20 f21 f22 f23 f24 f25) s.heap.size) (wM g a f1 f2 f3 f4 f5 z9 f7 f8 f9 f10 f11 f12 f13 f20 f21 f22 f23 f24 f25)) he19) hD
      have hP : va_P g.1 vwCl (wM g a f1 f2 f3 f4 f5 (fb (fAs f1 r k) f6) f7 f8 f9 f10 f11 f12 f13 f20 f21 f22 f23 f24 f25) H := hP
      have hD : va_D (va_A (wM g a f1 f2 f3 f4 f5 f6 f7 f8 f9 f10 f11 f12 f13 f20 f21 f22 f23 f24 f25) s.heap.size) (wM g a f1 f2 f3 f4 f5 (fb (fAs f1 r k) f6) f7 f8 f9 f10 f11 f12 f13 f20 f21 f22 f23 f24 f25) := hD
      exact W.iret hx hb hr (fun t ht hW => ⟨⟨_, (), rfl, by rw [hf]; rfl, by rw [ht]; exact hP, hD⟩, hS.F ht⟩) hS.2.2 dX5_as_21
  · refine xi_zt_eq (tgt := 15) hx hb ⟨by decide, by decide⟩ (by decide) dX5_as_5 (by decide) ?_
    refine lv_aload_n hx hb dX5_as_15 rfl (lv_at hl 0 rfl) ?_
    refine xi_ldc hx hb hown hts kk_X5_50 dX5_as_16 ?_
    refine xm_i (rV (rest := []) hx hb hml hown hts hK hl (c_X5_finds l g a f1 f2 f3 f4 f5 f6 f7 f8 f9 f10 f11 f12 f13 f20 f21 f22 f23 f24 f25 (-1000000001) (s.heap).size (show 0 ≤ -1000000001 - (-1000000001) ∧ -1000000001 - (-1000000001) < 7 from by omega)) lk_X5_74 ⟨rfl, hP, hD.weaken (fun _ _ _ _ => trivial)⟩ (va_recv hK.1 hP (ci := 5) (q0 := 0) rfl rfl) rfl rfl rfl (Rm.of rfl) rfl rfl dX5_as_18) hD hS hA (fun x9 _ H locs hw hP hD hS => ?_)
    obtain rfl : x9 = iI (-1000000001) := hw
    have hP : va_P g.1 vwCl (wM g a f1 f2 f3 f4 f5 (fb (-1000000000 - (-1000000001)) f6) f7 f8 f9 f10 f11 f12 f13 f20 f21 f22 f23 f24 f25) H := hP
    have hD : va_D (va_A (wM g a f1 f2 f3 f4 f5 f6 f7 f8 f9 f10 f11 f12 f13 f20 f21 f22 f23 f24 f25) s.heap.size) (wM g a f1 f2 f3 f4 f5 (fb (-1000000000 - (-1000000001)) f6) f7 f8 f9 f10 f11 f12 f13 f20 f21 f22 f23 f24 f25) := hD
    have hf : fAs f1 r k = 1 := by unfold fAs; (repeat (first | rw [if_pos (by omega)] | rw [if_neg (by omega)])); first | done | (exfalso; omega)
    have he21 : (fb (-1000000000 - (-1000000001)) f6) = (fb (fAs f1 r k) f6) := by rw [hf]; rfl
    have hP := Eq.mp (congrArg (fun z9 => va_P g.1 vwCl (wM g a f1 f2 f3 f4 f5 z9 f7 f8 f9 f10 f11 f12 f13 f20 f21 f22 f23 f24 f25) H) he21) hP
    have hD := Eq.mp (congrArg (fun z9 => va_D (va_A (wM g a f1 f2 f3 f4 f5 f6 f7 f8 f9 f10 f11 f12 f13 f20 f21 f22 f23 f24 f25) s.heap.size) (wM g a f1 f2 f3 f4 f5 z9 f7 f8 f9 f10 f11 f12 f13 f20 f21 f22 f23 f24 f25)) he21) hD
    have hP : va_P g.1 vwCl (wM g a f1 f2 f3 f4 f5 (fb (fAs f1 r k) f6) f7 f8 f9 f10 f11 f12 f13 f20 f21 f22 f23 f24 f25) H := hP
    have hD : va_D (va_A (wM g a f1 f2 f3 f4 f5 f6 f7 f8 f9 f10 f11 f12 f13 f20 f21 f22 f23 f24 f25) s.heap.size) (wM g a f1 f2 f3 f4 f5 (fb (fAs f1 r k) f6) f7 f8 f9 f10 f11 f12 f13 f20 f21 f22 f23 f24 f25) := hD
    exact W.iret hx hb hr (fun t ht hW => ⟨⟨_, (), rfl, by rw [hf]; rfl, by rw [ht]; exact hP, hD⟩, hS.F ht⟩) hS.2.2 dX5_as_21
abbrev rm_X5_count : Room := { frames := 3, cells := 0, slots := 0, locals := 66 }
set_option maxRecDepth 100000 in
set_option maxHeartbeats 4000000 in
theorem c_X5_count (l : Launch) (g : Gd) (a : Nat → Nat) (f1 : Int → Int) (f2 : Int → Int) (f3 : Int → Int) (f4 : Int → Int) (f5 : Int → Int) (f6 : Int → Int) (f7 : Int → Int) (f8 : Int → Int) (f9 : Int → Int) (f10 : Int → Int) (f11 : Int → Int) (f12 : Int → Int) (f13 : Int → Int) (f20 : Int) (f21 : Int) (f22 : Int) (f23 : Int) (f24 : Int) (f25 : Int) (w : Int) (sz : Nat) (h1 : InvK 0 f1) (h2 : f1 0 ≤ 9999) (h3 : IR w) : Met l yX5_count (wsOf yX5_count cX5_count 2 (some .int)) rm_X5_count (PX g (wP g (wM g a f1 f2 f3 f4 f5 f6 f7 f8 f9 f10 f11 f12 f13 f20 f21 f22 f23 f24 f25) sz) [.ref (a 0), .int (iI w)]) (QMi g (fun _ : Unit => wM g a f1 f2 f3 f4 f5 (fb (fBtw w 0 4) f6) f7 f8 f9 f10 f11 f12 f13 f20 f21 f22 f23 f24 f25) (fun r9 _ => r9 = ab (fBtw w 0 4) (iI (aCnt f1 f21 w))) (va_A (wM g a f1 f2 f3 f4 f5 f6 f7 f8 f9 f10 f11 f12 f13 f20 f21 f22 f23 f24 f25) sz)) 0 0 (va_A (wM g a f1 f2 f3 f4 f5 f6 f7 f8 f9 f10 f11 f12 f13 f20 f21 f22 f23 f24 f25) sz) := by
  refine me (g := g) (by decide) rfl ?_
  intro pq eq s mq below meth cq C hnm hB ls hl
  obtain ⟨hx, hb, hr, hml, hown, hts, hlocks, hK⟩ := C
  have hown : s.vm.findClass RX5 = some mq.cls := hown
  have hl : lv_has ls 2 [(0, .ref (a 0)), (1, .int (iI w))] := hl
  obtain ⟨hsz, hP, hD0⟩ := hB
  subst hsz
  have hD := hD0.self (sz := s.heap.size)
  have hA : ∀ q : Nat, s.heap.size ≤ q → va_A (wM g a f1 f2 f3 f4 f5 f6 f7 f8 f9 f10 f11 f12 f13 f20 f21 f22 f23 f24 f25) s.heap.size q := fun q h => Or.inr h
  have hS : va_S (va_A (wM g a f1 f2 f3 f4 f5 f6 f7 f8 f9 f10 f11 f12 f13 f20 f21 f22 f23 f24 f25) s.heap.size) s.heap s.heap [] := va_S.rf
  have hI := h1
  have hI8 : Inv f1 := h1.mono (by omega)
  have hn := hI.num
  have hs := hI.sea
  have hv := hI.vil
  have q1 := h3.1
  have q2 := h3.2
  refine lv_iload_n hx hb dX5_count_0 rfl (lv_at hl 1 rfl) ?_
  have hir1 : IR (w) := ⟨by omega, by omega⟩
  rcases (show (w) = 0 ∨ (w) = 1 ∨ (w) = 2 ∨ (w) = 3 ∨ (w) = 4 ∨ ((w) < 0 ∨ 4 < (w)) by omega) with z1 | z1 | z1 | z1 | z1 | z1
  · refine lv_tableIn (tgt := 36) (off := 35) hx hb dX5_count_1 (by rw [iI_toInt hir1, z1]; decide) (by rw [iI_toInt hir1, z1]; decide) (by rw [iI_toInt hir1, z1]; rfl) (by decide) ?_
    refine lv_aload_n hx hb dX5_count_36 rfl (lv_at hl 0 rfl) ?_
    refine xg_X5 hx hb hts hown hK hP 0 rfl 0 (by decide) fk_X5_7 (v := .ref (a 1)) rfl dX5_count_37 ?_
    refine lv_iconst (v := iI (1)) hx hb dX5_count_40 (by decide) ?_
    refine xi_ald hx hb hK hP 1 (f := f1) rfl (i := 1) ⟨by omega, by omega⟩ rfl dX5_count_41 ?_
    have hf : fBtw w 0 4 = 0 := by unfold fBtw; (repeat (first | rw [if_pos (by omega)] | rw [if_neg (by omega)])); first | done | (exfalso; omega)
    have he2 : f6 = (fb (fBtw w 0 4) f6) := by rw [hf]; rfl
    have hP := Eq.mp (congrArg (fun z9 => va_P g.1 vwCl (wM g a f1 f2 f3 f4 f5 z9 f7 f8 f9 f10 f11 f12 f13 f20 f21 f22 f23 f24 f25) s.heap) he2) hP
    have hD := Eq.mp (congrArg (fun z9 => va_D (va_A (wM g a f1 f2 f3 f4 f5 f6 f7 f8 f9 f10 f11 f12 f13 f20 f21 f22 f23 f24 f25) s.heap.size) (wM g a f1 f2 f3 f4 f5 z9 f7 f8 f9 f10 f11 f12 f13 f20 f21 f22 f23 f24 f25)) he2) hD
    have hP : va_P g.1 vwCl (wM g a f1 f2 f3 f4 f5 (fb (fBtw w 0 4) f6) f7 f8 f9 f10 f11 f12 f13 f20 f21 f22 f23 f24 f25) s.heap := hP
    have hD : va_D (va_A (wM g a f1 f2 f3 f4 f5 f6 f7 f8 f9 f10 f11 f12 f13 f20 f21 f22 f23 f24 f25) s.heap.size) (wM g a f1 f2 f3 f4 f5 (fb (fBtw w 0 4) f6) f7 f8 f9 f10 f11 f12 f13 f20 f21 f22 f23 f24 f25) := hD
    exact W.iret hx hb hr (fun t ht hW => ⟨⟨_, (), rfl, by rw [hf, ab_0]; exact congrArg iI (by unfold aCnt; (repeat (first | rw [if_pos (by omega)] | rw [if_neg (by omega)])); first | done | rfl), by rw [ht]; exact hP, hD⟩, hS.F ht⟩) hS.2.2 dX5_count_42
  · refine lv_tableIn (tgt := 43) (off := 42) hx hb dX5_count_1 (by rw [iI_toInt hir1, z1]; decide) (by rw [iI_toInt hir1, z1]; decide) (by rw [iI_toInt hir1, z1]; rfl) (by decide) ?_
    refine lv_aload_n hx hb dX5_count_43 rfl (lv_at hl 0 rfl) ?_
    refine xg_X5 hx hb hts hown hK hP 0 rfl 0 (by decide) fk_X5_7 (v := .ref (a 1)) rfl dX5_count_44 ?_
    refine lv_iconst (v := iI (2)) hx hb dX5_count_47 (by decide) ?_
    refine xi_ald hx hb hK hP 1 (f := f1) rfl (i := 2) ⟨by omega, by omega⟩ rfl dX5_count_48 ?_
    have hf : fBtw w 0 4 = 0 := by unfold fBtw; (repeat (first | rw [if_pos (by omega)] | rw [if_neg (by omega)])); first | done | (exfalso; omega)
    have he3 : f6 = (fb (fBtw w 0 4) f6) := by rw [hf]; rfl
    have hP := Eq.mp (congrArg (fun z9 => va_P g.1 vwCl (wM g a f1 f2 f3 f4 f5 z9 f7 f8 f9 f10 f11 f12 f13 f20 f21 f22 f23 f24 f25) s.heap) he3) hP
    have hD := Eq.mp (congrArg (fun z9 => va_D (va_A (wM g a f1 f2 f3 f4 f5 f6 f7 f8 f9 f10 f11 f12 f13 f20 f21 f22 f23 f24 f25) s.heap.size) (wM g a f1 f2 f3 f4 f5 z9 f7 f8 f9 f10 f11 f12 f13 f20 f21 f22 f23 f24 f25)) he3) hD
    have hP : va_P g.1 vwCl (wM g a f1 f2 f3 f4 f5 (fb (fBtw w 0 4) f6) f7 f8 f9 f10 f11 f12 f13 f20 f21 f22 f23 f24 f25) s.heap := hP
    have hD : va_D (va_A (wM g a f1 f2 f3 f4 f5 f6 f7 f8 f9 f10 f11 f12 f13 f20 f21 f22 f23 f24 f25) s.heap.size) (wM g a f1 f2 f3 f4 f5 (fb (fBtw w 0 4) f6) f7 f8 f9 f10 f11 f12 f13 f20 f21 f22 f23 f24 f25) := hD
    exact W.iret hx hb hr (fun t ht hW => ⟨⟨_, (), rfl, by rw [hf, ab_0]; exact congrArg iI (by unfold aCnt; (repeat (first | rw [if_pos (by omega)] | rw [if_neg (by omega)])); first | done | rfl), by rw [ht]; exact hP, hD⟩, hS.F ht⟩) hS.2.2 dX5_count_49
  · refine lv_tableIn (tgt := 50) (off := 49) hx hb dX5_count_1 (by rw [iI_toInt hir1, z1]; decide) (by rw [iI_toInt hir1, z1]; decide) (by rw [iI_toInt hir1, z1]; rfl) (by decide) ?_
    refine lv_aload_n hx hb dX5_count_50 rfl (lv_at hl 0 rfl) ?_
    refine xg_X5 hx hb hts hown hK hP 0 rfl 10 (by decide) fk_X5_206 (v := .int (iI f21)) rfl dX5_count_51 ?_
    have hf : fBtw w 0 4 = 0 := by unfold fBtw; (repeat (first | rw [if_pos (by omega)] | rw [if_neg (by omega)])); first | done | (exfalso; omega)
    have he4 : f6 = (fb (fBtw w 0 4) f6) := by rw [hf]; rfl
    have hP := Eq.mp (congrArg (fun z9 => va_P g.1 vwCl (wM g a f1 f2 f3 f4 f5 z9 f7 f8 f9 f10 f11 f12 f13 f20 f21 f22 f23 f24 f25) s.heap) he4) hP
    have hD := Eq.mp (congrArg (fun z9 => va_D (va_A (wM g a f1 f2 f3 f4 f5 f6 f7 f8 f9 f10 f11 f12 f13 f20 f21 f22 f23 f24 f25) s.heap.size) (wM g a f1 f2 f3 f4 f5 z9 f7 f8 f9 f10 f11 f12 f13 f20 f21 f22 f23 f24 f25)) he4) hD
    have hP : va_P g.1 vwCl (wM g a f1 f2 f3 f4 f5 (fb (fBtw w 0 4) f6) f7 f8 f9 f10 f11 f12 f13 f20 f21 f22 f23 f24 f25) s.heap := hP
    have hD : va_D (va_A (wM g a f1 f2 f3 f4 f5 f6 f7 f8 f9 f10 f11 f12 f13 f20 f21 f22 f23 f24 f25) s.heap.size) (wM g a f1 f2 f3 f4 f5 (fb (fBtw w 0 4) f6) f7 f8 f9 f10 f11 f12 f13 f20 f21 f22 f23 f24 f25) := hD
    exact W.iret hx hb hr (fun t ht hW => ⟨⟨_, (), rfl, by rw [hf, ab_0]; exact congrArg iI (by unfold aCnt; (repeat (first | rw [if_pos (by omega)] | rw [if_neg (by omega)])); first | done | rfl), by rw [ht]; exact hP, hD⟩, hS.F ht⟩) hS.2.2 dX5_count_54
  · refine lv_tableIn (tgt := 55) (off := 54) hx hb dX5_count_1 (by rw [iI_toInt hir1, z1]; decide) (by rw [iI_toInt hir1, z1]; decide) (by rw [iI_toInt hir1, z1]; rfl) (by decide) ?_
    refine lv_aload_n hx hb dX5_count_55 rfl (lv_at hl 0 rfl) ?_
    refine xu_i (x := iI (psT f1 24)) (rV (rest := []) hx hb hml hown hts hK hl (c_X5_passes l g a f1 f2 f3 f4 f5 f6 f7 f8 f9 f10 f11 f12 f13 f20 f21 f22 f23 f24 f25 (show Inv f1 from hI8)) lk_X5_333 hP (va_recv hK.1 hP (ci := 5) (q0 := 0) rfl rfl) rfl rfl rfl (Rm.of rfl) rfl rfl dX5_count_56) ?_
    have hf : fBtw w 0 4 = 0 := by unfold fBtw; (repeat (first | rw [if_pos (by omega)] | rw [if_neg (by omega)])); first | done | (exfalso; omega)
    have he6 : f6 = (fb (fBtw w 0 4) f6) := by rw [hf]; rfl
    have hP := Eq.mp (congrArg (fun z9 => va_P g.1 vwCl (wM g a f1 f2 f3 f4 f5 z9 f7 f8 f9 f10 f11 f12 f13 f20 f21 f22 f23 f24 f25) s.heap) he6) hP
    have hD := Eq.mp (congrArg (fun z9 => va_D (va_A (wM g a f1 f2 f3 f4 f5 f6 f7 f8 f9 f10 f11 f12 f13 f20 f21 f22 f23 f24 f25) s.heap.size) (wM g a f1 f2 f3 f4 f5 z9 f7 f8 f9 f10 f11 f12 f13 f20 f21 f22 f23 f24 f25)) he6) hD
    have hP : va_P g.1 vwCl (wM g a f1 f2 f3 f4 f5 (fb (fBtw w 0 4) f6) f7 f8 f9 f10 f11 f12 f13 f20 f21 f22 f23 f24 f25) s.heap := hP
    have hD : va_D (va_A (wM g a f1 f2 f3 f4 f5 f6 f7 f8 f9 f10 f11 f12 f13 f20 f21 f22 f23 f24 f25) s.heap.size) (wM g a f1 f2 f3 f4 f5 (fb (fBtw w 0 4) f6) f7 f8 f9 f10 f11 f12 f13 f20 f21 f22 f23 f24 f25) := hD
    exact W.iret hx hb hr (fun t ht hW => ⟨⟨_, (), rfl, by rw [hf, ab_0]; exact congrArg iI (by unfold aCnt; (repeat (first | rw [if_pos (by omega)] | rw [if_neg (by omega)])); first | done | rfl), by rw [ht]; exact hP, hD⟩, hS.F ht⟩) hS.2.2 dX5_count_59
  · refine lv_tableIn (tgt := 60) (off := 59) hx hb dX5_count_1 (by rw [iI_toInt hir1, z1]; decide) (by rw [iI_toInt hir1, z1]; decide) (by rw [iI_toInt hir1, z1]; rfl) (by decide) ?_
    refine lv_aload_n hx hb dX5_count_60 rfl (lv_at hl 0 rfl) ?_
    refine lv_iconst (v := iI (2)) hx hb dX5_count_61 (by decide) ?_
    refine xu_i (x := iI (sumT f1 2 (f1 1).toNat)) (rV (rest := []) hx hb hml hown hts hK hl (c_X5_sumOf l g a f1 f2 f3 f4 f5 f6 f7 f8 f9 f10 f11 f12 f13 f20 f21 f22 f23 f24 f25 2 (show 0 ≤ 2 ∧ 2 ≤ 4 from by omega) (show 0 ≤ f1 1 ∧ f1 1 ≤ 8 from by omega)) lk_X5_160 hP (va_recv hK.1 hP (ci := 5) (q0 := 0) rfl rfl) rfl rfl rfl (Rm.of rfl) rfl rfl dX5_count_62) ?_
    have hf : fBtw w 0 4 = 0 := by unfold fBtw; (repeat (first | rw [if_pos (by omega)] | rw [if_neg (by omega)])); first | done | (exfalso; omega)
    have he8 : f6 = (fb (fBtw w 0 4) f6) := by rw [hf]; rfl
    have hP := Eq.mp (congrArg (fun z9 => va_P g.1 vwCl (wM g a f1 f2 f3 f4 f5 z9 f7 f8 f9 f10 f11 f12 f13 f20 f21 f22 f23 f24 f25) s.heap) he8) hP
    have hD := Eq.mp (congrArg (fun z9 => va_D (va_A (wM g a f1 f2 f3 f4 f5 f6 f7 f8 f9 f10 f11 f12 f13 f20 f21 f22 f23 f24 f25) s.heap.size) (wM g a f1 f2 f3 f4 f5 z9 f7 f8 f9 f10 f11 f12 f13 f20 f21 f22 f23 f24 f25)) he8) hD
    have hP : va_P g.1 vwCl (wM g a f1 f2 f3 f4 f5 (fb (fBtw w 0 4) f6) f7 f8 f9 f10 f11 f12 f13 f20 f21 f22 f23 f24 f25) s.heap := hP
    have hD : va_D (va_A (wM g a f1 f2 f3 f4 f5 f6 f7 f8 f9 f10 f11 f12 f13 f20 f21 f22 f23 f24 f25) s.heap.size) (wM g a f1 f2 f3 f4 f5 (fb (fBtw w 0 4) f6) f7 f8 f9 f10 f11 f12 f13 f20 f21 f22 f23 f24 f25) := hD
    exact W.iret hx hb hr (fun t ht hW => ⟨⟨_, (), rfl, by rw [hf, ab_0]; exact congrArg iI (by unfold aCnt; (repeat (first | rw [if_pos (by omega)] | rw [if_neg (by omega)])); first | done | rfl), by rw [ht]; exact hP, hD⟩, hS.F ht⟩) hS.2.2 dX5_count_65
  · refine lv_tableOut (tgt := 66) hx hb dX5_count_1 (by rw [iI_toInt hir1]; exact z1) (by decide) ?_
    refine lv_aload_n hx hb dX5_count_66 rfl (lv_at hl 0 rfl) ?_
    refine xi_ldc hx hb hown hts kk_X5_50 dX5_count_67 ?_
    refine xm_i (rV (rest := []) hx hb hml hown hts hK hl (c_X5_finds l g a f1 f2 f3 f4 f5 f6 f7 f8 f9 f10 f11 f12 f13 f20 f21 f22 f23 f24 f25 (-1000000001) (s.heap).size (show 0 ≤ -1000000001 - (-1000000001) ∧ -1000000001 - (-1000000001) < 7 from by omega)) lk_X5_74 ⟨rfl, hP, hD.weaken (fun _ _ _ _ => trivial)⟩ (va_recv hK.1 hP (ci := 5) (q0 := 0) rfl rfl) rfl rfl rfl (Rm.of rfl) rfl rfl dX5_count_69) hD hS hA (fun x9 _ H locs hw hP hD hS => ?_)
    obtain rfl : x9 = iI (-1000000001) := hw
    have hP : va_P g.1 vwCl (wM g a f1 f2 f3 f4 f5 (fb (-1000000000 - (-1000000001)) f6) f7 f8 f9 f10 f11 f12 f13 f20 f21 f22 f23 f24 f25) H := hP
    have hD : va_D (va_A (wM g a f1 f2 f3 f4 f5 f6 f7 f8 f9 f10 f11 f12 f13 f20 f21 f22 f23 f24 f25) s.heap.size) (wM g a f1 f2 f3 f4 f5 (fb (-1000000000 - (-1000000001)) f6) f7 f8 f9 f10 f11 f12 f13 f20 f21 f22 f23 f24 f25) := hD
    have hf : fBtw w 0 4 = 1 := by unfold fBtw; (repeat (first | rw [if_pos (by omega)] | rw [if_neg (by omega)])); first | done | (exfalso; omega)
    have he10 : (fb (-1000000000 - (-1000000001)) f6) = (fb (fBtw w 0 4) f6) := by rw [hf]; rfl
    have hP := Eq.mp (congrArg (fun z9 => va_P g.1 vwCl (wM g a f1 f2 f3 f4 f5 z9 f7 f8 f9 f10 f11 f12 f13 f20 f21 f22 f23 f24 f25) H) he10) hP
    have hD := Eq.mp (congrArg (fun z9 => va_D (va_A (wM g a f1 f2 f3 f4 f5 f6 f7 f8 f9 f10 f11 f12 f13 f20 f21 f22 f23 f24 f25) s.heap.size) (wM g a f1 f2 f3 f4 f5 z9 f7 f8 f9 f10 f11 f12 f13 f20 f21 f22 f23 f24 f25)) he10) hD
    have hP : va_P g.1 vwCl (wM g a f1 f2 f3 f4 f5 (fb (fBtw w 0 4) f6) f7 f8 f9 f10 f11 f12 f13 f20 f21 f22 f23 f24 f25) H := hP
    have hD : va_D (va_A (wM g a f1 f2 f3 f4 f5 f6 f7 f8 f9 f10 f11 f12 f13 f20 f21 f22 f23 f24 f25) s.heap.size) (wM g a f1 f2 f3 f4 f5 (fb (fBtw w 0 4) f6) f7 f8 f9 f10 f11 f12 f13 f20 f21 f22 f23 f24 f25) := hD
    exact W.iret hx hb hr (fun t ht hW => ⟨⟨_, (), rfl, by rw [hf]; rfl, by rw [ht]; exact hP, hD⟩, hS.F ht⟩) hS.2.2 dX5_count_72
abbrev rm_X5_status : Room := { frames := 1, cells := 0, slots := 0, locals := 25 }
set_option maxRecDepth 100000 in
set_option maxHeartbeats 4000000 in
theorem c_X5_status (l : Launch) (g : Gd) (a : Nat → Nat) (f1 : Int → Int) (f2 : Int → Int) (f3 : Int → Int) (f4 : Int → Int) (f5 : Int → Int) (f6 : Int → Int) (f7 : Int → Int) (f8 : Int → Int) (f9 : Int → Int) (f10 : Int → Int) (f11 : Int → Int) (f12 : Int → Int) (f13 : Int → Int) (f20 : Int) (f21 : Int) (f22 : Int) (f23 : Int) (f24 : Int) (f25 : Int) (w : Int) (sz : Nat) (h1 : InvK 0 f1) (h2 : f1 0 ≤ 9999) (h3 : IR w) : Met l yX5_status (wsOf yX5_status cX5_status 4 (some .int)) rm_X5_status (PX g (wP g (wM g a f1 f2 f3 f4 f5 f6 f7 f8 f9 f10 f11 f12 f13 f20 f21 f22 f23 f24 f25) sz) [.ref (a 0), .int (iI w)]) (QMi g (fun _ : Unit => wM g a f1 f2 f3 f4 f5 (fb (fBtw w (-1) 6) f6) f7 f8 f9 f10 f11 f12 f13 f20 f21 f22 f23 f24 f25) (fun r9 _ => r9 = ab (fBtw w (-1) 6) (iI (stT f6 w 7))) (va_A (wM g a f1 f2 f3 f4 f5 f6 f7 f8 f9 f10 f11 f12 f13 f20 f21 f22 f23 f24 f25) sz)) 0 0 (va_A (wM g a f1 f2 f3 f4 f5 f6 f7 f8 f9 f10 f11 f12 f13 f20 f21 f22 f23 f24 f25) sz) := by
  refine me (g := g) (by decide) rfl ?_
  intro pq eq s mq below meth cq C hnm hB ls hl
  obtain ⟨hx, hb, hr, hml, hown, hts, hlocks, hK⟩ := C
  have hown : s.vm.findClass RX5 = some mq.cls := hown
  have hl : lv_has ls 4 [(0, .ref (a 0)), (1, .int (iI w))] := hl
  obtain ⟨hsz, hP, hD0⟩ := hB
  subst hsz
  have hD := hD0.self (sz := s.heap.size)
  have hA : ∀ q : Nat, s.heap.size ≤ q → va_A (wM g a f1 f2 f3 f4 f5 f6 f7 f8 f9 f10 f11 f12 f13 f20 f21 f22 f23 f24 f25) s.heap.size q := fun q h => Or.inr h
  have hS : va_S (va_A (wM g a f1 f2 f3 f4 f5 f6 f7 f8 f9 f10 f11 f12 f13 f20 f21 f22 f23 f24 f25) s.heap.size) s.heap s.heap [] := va_S.rf
  have hI := h1
  have hI8 : Inv f1 := h1.mono (by omega)
  have hn := hI.num
  have hs := hI.sea
  have hv := hI.vil
  have q1 := h3.1
  have q2 := h3.2
  refine lv_iload_n hx hb dX5_status_0 rfl (lv_at hl 1 rfl) ?_
  refine xi_i2l hx hb ⟨by omega, by omega⟩ dX5_status_1 ?_
  refine xl_ldc hx hb hown hts kk_X5_336 dX5_status_2 ?_
  refine xl_ldc hx hb hown hts kk_X5_338 dX5_status_5 ?_
  refine xu_b (P := (-1) ≤ w ∧ w ≤ 6) (rS (rest := []) hx hb hml hown hts hK hl (c_X5_in l g w (-1) 6 (show LR w from ⟨by omega, by omega⟩) (show LR (-1) from ⟨by omega, by omega⟩) (show LR 6 from ⟨by omega, by omega⟩)) lk_X5_53 trivial rfl rfl rfl (Rm.of rfl) rfl rfl dX5_status_8) (fun z1 => ?_) (fun z1 => ?_)
  · refine xi_zt_ne (tgt := 21) hx hb ⟨by decide, by decide⟩ (by decide) dX5_status_11 (by decide) ?_
    refine lv_iconst (v := iI (0)) hx hb dX5_status_21 (by decide) ?_
    refine lv_istore_n (lv' := [(2, .int (iI 0)), (0, .ref (a 0)), (1, .int (iI w))]) hx hb dX5_status_22 rfl hl (by decide) rfl (fun ls hl => ?_)
    refine lv_iconst (v := iI (0)) hx hb dX5_status_23 (by decide) ?_
    refine lv_istore_n (lv' := [(3, .int (iI 0)), (2, .int (iI 0)), (0, .ref (a 0)), (1, .int (iI w))]) hx hb dX5_status_24 rfl hl (by decide) rfl (fun ls hl => ?_)
    have lp25 : ∀ (n25 : Nat) (k : Nat), ((k : Int) ≤ 7) → 7 - k < n25 → ∀ ls : Array Slot, lv_has ls 4 [(3, .int (iI (k : Int))), (2, .int (iI (stT f6 w k))), (0, .ref (a 0)), (1, .int (iI w))] → ∀ (H : Heap) (locs : List Loc), va_P g.1 vwCl (wM g a f1 f2 f3 f4 f5 f6 f7 f8 f9 f10 f11 f12 f13 f20 f21 f22 f23 f24 f25) H → va_D (va_A (wM g a f1 f2 f3 f4 f5 f6 f7 f8 f9 f10 f11 f12 f13 f20 f21 f22 f23 f24 f25) s.heap.size) (wM g a f1 f2 f3 f4 f5 f6 f7 f8 f9 f10 f11 f12 f13 f20 f21 f22 f23 f24 f25) → va_S (va_A (wM g a f1 f2 f3 f4 f5 f6 f7 f8 f9 f10 f11 f12 f13 f20 f21 f22 f23 f24 f25) s.heap.size) s.heap H locs → W pq l eq rm_X5_status s mq [.ref (a 0), .int (iI w)].toArray below meth cq H locs 0 0 (MQ below (QMi g (fun _ : Unit => wM g a f1 f2 f3 f4 f5 (fb (fBtw w (-1) 6) f6) f7 f8 f9 f10 f11 f12 f13 f20 f21 f22 f23 f24 f25) (fun r9 _ => r9 = ab (fBtw w (-1) 6) (iI (stT f6 w 7))) (va_A (wM g a f1 f2 f3 f4 f5 f6 f7 f8 f9 f10 f11 f12 f13 f20 f21 f22 f23 f24 f25) s.heap.size)) [.ref (a 0), .int (iI w)].toArray s 0 0 (va_A (wM g a f1 f2 f3 f4 f5 f6 f7 f8 f9 f10 f11 f12 f13 f20 f21 f22 f23 f24 f25) s.heap.size)) (F0 mq 25 ls []) := by
      intro n25
      induction n25 with
      | zero => intro k i25_1 hm; exact absurd hm (Nat.not_lt_zero _)
      | succ n25 ih25 =>
        intro k i25_1 hm25 ls hl H locs hP hD hS
        refine lv_iload_n hx hb dX5_status_25 rfl (lv_at hl 0 rfl) ?_
        refine lv_bipush (v := iI (7)) hx hb dX5_status_26 (by decide) ?_
        refine xi_c_ge (tgt := 59) hx hb ⟨by omega, by omega⟩ ⟨by decide, by decide⟩ dX5_status_28 (by decide) (fun z2 => ?_) (fun z2 => ?_)
        · refine lv_iload_n hx hb dX5_status_59 rfl (lv_at hl 1 rfl) ?_
          have hf : fBtw w (-1) 6 = 0 := by unfold fBtw; (repeat (first | rw [if_pos (by omega)] | rw [if_neg (by omega)])); first | done | (exfalso; omega)
          have he3 : f6 = (fb (fBtw w (-1) 6) f6) := by rw [hf]; rfl
          have hP := Eq.mp (congrArg (fun z9 => va_P g.1 vwCl (wM g a f1 f2 f3 f4 f5 z9 f7 f8 f9 f10 f11 f12 f13 f20 f21 f22 f23 f24 f25) H) he3) hP
          have hD := Eq.mp (congrArg (fun z9 => va_D (va_A (wM g a f1 f2 f3 f4 f5 f6 f7 f8 f9 f10 f11 f12 f13 f20 f21 f22 f23 f24 f25) s.heap.size) (wM g a f1 f2 f3 f4 f5 z9 f7 f8 f9 f10 f11 f12 f13 f20 f21 f22 f23 f24 f25)) he3) hD
          have hP : va_P g.1 vwCl (wM g a f1 f2 f3 f4 f5 (fb (fBtw w (-1) 6) f6) f7 f8 f9 f10 f11 f12 f13 f20 f21 f22 f23 f24 f25) H := hP
          have hD : va_D (va_A (wM g a f1 f2 f3 f4 f5 f6 f7 f8 f9 f10 f11 f12 f13 f20 f21 f22 f23 f24 f25) s.heap.size) (wM g a f1 f2 f3 f4 f5 (fb (fBtw w (-1) 6) f6) f7 f8 f9 f10 f11 f12 f13 f20 f21 f22 f23 f24 f25) := hD
          exact W.iret hx hb hr (fun t ht hW => ⟨⟨_, (), rfl, by rw [hf, ab_0]; exact congrArg (fun z => iI (stT f6 w z)) (show k = 7 by omega), by rw [ht]; exact hP, hD⟩, hS.F ht⟩) hS.2.2 dX5_status_60
        · refine lv_iload_n hx hb dX5_status_31 rfl (lv_at hl 1 rfl) ?_
          refine lv_iload_n hx hb dX5_status_32 rfl (lv_at hl 3 rfl) ?_
          refine xi_z_lt (tgt := 41) hx hb ⟨by omega, by omega⟩ dX5_status_33 (by decide) (fun z4 => ?_) (fun z4 => ?_)
          · refine lv_aload_n hx hb dX5_status_41 rfl (lv_at hl 2 rfl) ?_
            refine xg_X5 hx hb hts hown hK hP 0 rfl 5 (by decide) fk_X5_25 (v := .ref (a 6)) rfl dX5_status_42 ?_
            refine lv_iload_n hx hb dX5_status_45 rfl (lv_at hl 0 rfl) ?_
            refine xi_ald hx hb hK hP 6 (f := f6) rfl (i := (k : Int)) ⟨by omega, by omega⟩ rfl dX5_status_46 ?_
            refine lv_goto (tgt := 51) hx hb dX5_status_47 (by decide) ?_
            refine xi_add hx hb dX5_status_51 ?_
            refine lv_istore_n (lv' := [(2, .int (iI (stT f6 w k + (f6 (k : Int))))), (3, .int (iI (k : Int))), (0, .ref (a 0)), (1, .int (iI w))]) hx hb dX5_status_52 rfl hl (by decide) rfl (fun ls hl => ?_)
            refine xi_inc (lv' := [(3, .int (iI ((k : Int) + 1))), (2, .int (iI (stT f6 w k + (f6 (k : Int))))), (0, .ref (a 0)), (1, .int (iI w))]) hx hb dX5_status_53 hl (k := 1) rfl (by decide) rfl (fun ls hl => ?_)
            refine lv_goto (tgt := 25) hx hb dX5_status_56 (by decide) ?_
            have hq5 : ((k : Int) + 1) = ((k + 1) : Int) := by omega
            have hq6 : (stT f6 w k + (f6 (k : Int))) = (stT f6 w (k + 1)) := by first | (simp only [stT]; rw [if_pos (by omega)]) | (simp only [stT]; rw [if_neg (by omega)])
            have hl : lv_has ls 4 [(3, .int (iI ((k : Int) + 1))), (2, .int (iI (stT f6 w k + (f6 (k : Int))))), (0, .ref (a 0)), (1, .int (iI w))] := lv_sub hl [0, 1, 2, 3] rfl
            have hl := Eq.mp (congrArg (fun z9 => lv_has ls 4 [(3, .int (iI z9)), (2, .int (iI (stT f6 w k + (f6 (k : Int))))), (0, .ref (a 0)), (1, .int (iI w))]) hq5) hl
            have hl := Eq.mp (congrArg (fun z9 => lv_has ls 4 [(3, .int (iI ((k + 1) : Int))), (2, .int (iI z9)), (0, .ref (a 0)), (1, .int (iI w))]) hq6) hl
            exact ih25 (k + 1) (by omega) (by omega) ls hl H locs hP hD hS
          · refine lv_iload_n hx hb dX5_status_36 rfl (lv_at hl 0 rfl) ?_
            refine lv_iload_n hx hb dX5_status_37 rfl (lv_at hl 3 rfl) ?_
            refine xi_c_ne (tgt := 50) hx hb ⟨by omega, by omega⟩ ⟨by omega, by omega⟩ dX5_status_38 (by decide) (fun z7 => ?_) (fun z7 => ?_)
            · refine lv_iconst (v := iI (0)) hx hb dX5_status_50 (by decide) ?_
              refine xi_add hx hb dX5_status_51 ?_
              refine lv_istore_n (lv' := [(2, .int (iI (stT f6 w k + 0))), (3, .int (iI (k : Int))), (0, .ref (a 0)), (1, .int (iI w))]) hx hb dX5_status_52 rfl hl (by decide) rfl (fun ls hl => ?_)
              refine xi_inc (lv' := [(3, .int (iI ((k : Int) + 1))), (2, .int (iI (stT f6 w k + 0))), (0, .ref (a 0)), (1, .int (iI w))]) hx hb dX5_status_53 hl (k := 1) rfl (by decide) rfl (fun ls hl => ?_)
              refine lv_goto (tgt := 25) hx hb dX5_status_56 (by decide) ?_
              have hq8 : ((k : Int) + 1) = ((k + 1) : Int) := by omega
              have hq9 : (stT f6 w k + 0) = (stT f6 w (k + 1)) := by first | (simp only [stT]; rw [if_pos (by omega)]) | (simp only [stT]; rw [if_neg (by omega)])
              have hl : lv_has ls 4 [(3, .int (iI ((k : Int) + 1))), (2, .int (iI (stT f6 w k + 0))), (0, .ref (a 0)), (1, .int (iI w))] := lv_sub hl [0, 1, 2, 3] rfl
              have hl := Eq.mp (congrArg (fun z9 => lv_has ls 4 [(3, .int (iI z9)), (2, .int (iI (stT f6 w k + 0))), (0, .ref (a 0)), (1, .int (iI w))]) hq8) hl
              have hl := Eq.mp (congrArg (fun z9 => lv_has ls 4 [(3, .int (iI ((k + 1) : Int))), (2, .int (iI z9)), (0, .ref (a 0)), (1, .int (iI w))]) hq9) hl
              exact ih25 (k + 1) (by omega) (by omega) ls hl H locs hP hD hS
            · refine lv_aload_n hx hb dX5_status_41 rfl (lv_at hl 2 rfl) ?_
              refine xg_X5 hx hb hts hown hK hP 0 rfl 5 (by decide) fk_X5_25 (v := .ref (a 6)) rfl dX5_status_42 ?_
              refine lv_iload_n hx hb dX5_status_45 rfl (lv_at hl 0 rfl) ?_
              refine xi_ald hx hb hK hP 6 (f := f6) rfl (i := (k : Int)) ⟨by omega, by omega⟩ rfl dX5_status_46 ?_
              refine lv_goto (tgt := 51) hx hb dX5_status_47 (by decide) ?_
              refine xi_add hx hb dX5_status_51 ?_
              refine lv_istore_n (lv' := [(2, .int (iI (stT f6 w k + (f6 (k : Int))))), (3, .int (iI (k : Int))), (0, .ref (a 0)), (1, .int (iI w))]) hx hb dX5_status_52 rfl hl (by decide) rfl (fun ls hl => ?_)
              refine xi_inc (lv' := [(3, .int (iI ((k : Int) + 1))), (2, .int (iI (stT f6 w k + (f6 (k : Int))))), (0, .ref (a 0)), (1, .int (iI w))]) hx hb dX5_status_53 hl (k := 1) rfl (by decide) rfl (fun ls hl => ?_)
              refine lv_goto (tgt := 25) hx hb dX5_status_56 (by decide) ?_
              have hq10 : ((k : Int) + 1) = ((k + 1) : Int) := by omega
              have hq11 : (stT f6 w k + (f6 (k : Int))) = (stT f6 w (k + 1)) := by first | (simp only [stT]; rw [if_pos (by omega)]) | (simp only [stT]; rw [if_neg (by omega)])
              have hl : lv_has ls 4 [(3, .int (iI ((k : Int) + 1))), (2, .int (iI (stT f6 w k + (f6 (k : Int))))), (0, .ref (a 0)), (1, .int (iI w))] := lv_sub hl [0, 1, 2, 3] rfl
              have hl := Eq.mp (congrArg (fun z9 => lv_has ls 4 [(3, .int (iI z9)), (2, .int (iI (stT f6 w k + (f6 (k : Int))))), (0, .ref (a 0)), (1, .int (iI w))]) hq10) hl
              have hl := Eq.mp (congrArg (fun z9 => lv_has ls 4 [(3, .int (iI ((k + 1) : Int))), (2, .int (iI z9)), (0, .ref (a 0)), (1, .int (iI w))]) hq11) hl
              exact ih25 (k + 1) (by omega) (by omega) ls hl H locs hP hD hS
    have hq12 : 0 = (0 : Int) := rfl
    have hq13 : 0 = (stT f6 w 0) := rfl
    have hl : lv_has ls 4 [(3, .int (iI 0)), (2, .int (iI 0)), (0, .ref (a 0)), (1, .int (iI w))] := lv_sub hl [0, 1, 2, 3] rfl
    have hl := Eq.mp (congrArg (fun z9 => lv_has ls 4 [(3, .int (iI z9)), (2, .int (iI 0)), (0, .ref (a 0)), (1, .int (iI w))]) hq12) hl
    have hl := Eq.mp (congrArg (fun z9 => lv_has ls 4 [(3, .int (iI (0 : Int))), (2, .int (iI z9)), (0, .ref (a 0)), (1, .int (iI w))]) hq13) hl
    exact lp25 (7 + 1) 0 (by omega) (by omega) ls hl s.heap [] hP hD hS
  · refine xi_zf_ne hx hb ⟨by decide, by decide⟩ (by decide) dX5_status_11 ⟨21, by decide⟩ ?_
    refine lv_aload_n hx hb dX5_status_14 rfl (lv_at hl 0 rfl) ?_
    refine xi_ldc hx hb hown hts kk_X5_50 dX5_status_15 ?_
    refine xm_i (rV (rest := []) hx hb hml hown hts hK hl (c_X5_finds l g a f1 f2 f3 f4 f5 f6 f7 f8 f9 f10 f11 f12 f13 f20 f21 f22 f23 f24 f25 (-1000000001) (s.heap).size (show 0 ≤ -1000000001 - (-1000000001) ∧ -1000000001 - (-1000000001) < 7 from by omega)) lk_X5_74 ⟨rfl, hP, hD.weaken (fun _ _ _ _ => trivial)⟩ (va_recv hK.1 hP (ci := 5) (q0 := 0) rfl rfl) rfl rfl rfl (Rm.of rfl) rfl rfl dX5_status_17) hD hS hA (fun x9 _ H locs hw hP hD hS => ?_)
    obtain rfl : x9 = iI (-1000000001) := hw
    have hP : va_P g.1 vwCl (wM g a f1 f2 f3 f4 f5 (fb (-1000000000 - (-1000000001)) f6) f7 f8 f9 f10 f11 f12 f13 f20 f21 f22 f23 f24 f25) H := hP
    have hD : va_D (va_A (wM g a f1 f2 f3 f4 f5 f6 f7 f8 f9 f10 f11 f12 f13 f20 f21 f22 f23 f24 f25) s.heap.size) (wM g a f1 f2 f3 f4 f5 (fb (-1000000000 - (-1000000001)) f6) f7 f8 f9 f10 f11 f12 f13 f20 f21 f22 f23 f24 f25) := hD
    have hf : fBtw w (-1) 6 = 1 := by unfold fBtw; (repeat (first | rw [if_pos (by omega)] | rw [if_neg (by omega)])); first | done | (exfalso; omega)
    have he15 : (fb (-1000000000 - (-1000000001)) f6) = (fb (fBtw w (-1) 6) f6) := by rw [hf]; rfl
    have hP := Eq.mp (congrArg (fun z9 => va_P g.1 vwCl (wM g a f1 f2 f3 f4 f5 z9 f7 f8 f9 f10 f11 f12 f13 f20 f21 f22 f23 f24 f25) H) he15) hP
    have hD := Eq.mp (congrArg (fun z9 => va_D (va_A (wM g a f1 f2 f3 f4 f5 f6 f7 f8 f9 f10 f11 f12 f13 f20 f21 f22 f23 f24 f25) s.heap.size) (wM g a f1 f2 f3 f4 f5 z9 f7 f8 f9 f10 f11 f12 f13 f20 f21 f22 f23 f24 f25)) he15) hD
    have hP : va_P g.1 vwCl (wM g a f1 f2 f3 f4 f5 (fb (fBtw w (-1) 6) f6) f7 f8 f9 f10 f11 f12 f13 f20 f21 f22 f23 f24 f25) H := hP
    have hD : va_D (va_A (wM g a f1 f2 f3 f4 f5 f6 f7 f8 f9 f10 f11 f12 f13 f20 f21 f22 f23 f24 f25) s.heap.size) (wM g a f1 f2 f3 f4 f5 (fb (fBtw w (-1) 6) f6) f7 f8 f9 f10 f11 f12 f13 f20 f21 f22 f23 f24 f25) := hD
    exact W.iret hx hb hr (fun t ht hW => ⟨⟨_, (), rfl, by rw [hf]; rfl, by rw [ht]; exact hP, hD⟩, hS.F ht⟩) hS.2.2 dX5_status_20

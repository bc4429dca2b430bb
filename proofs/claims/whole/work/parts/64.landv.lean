set_option maxRecDepth 100000 in
set_option maxHeartbeats 4000000 in
theorem c_X5_landV (l : Launch) (g : Gd) (a : Nat → Nat) (f1 : Int → Int) (f2 : Int → Int) (f3 : Int → Int) (f4 : Int → Int) (f5 : Int → Int) (f6 : Int → Int) (f7 : Int → Int) (f8 : Int → Int) (f9 : Int → Int) (f10 : Int → Int) (f11 : Int → Int) (f12 : Int → Int) (f13 : Int → Int) (f20 : Int) (f21 : Int) (f22 : Int) (f23 : Int) (f24 : Int) (f25 : Int) (sz : Nat) (h1 : ∀ j, 0 ≤ f9 j ∧ f9 j ≤ 255) (h2 : 0 ≤ f21 ∧ f21 ≤ 120) (h3 : InvK 0 f1) (h4 : 0 ≤ f24 ∧ f24 ≤ 10000) : Met l yX5_land (wsOf yX5_land cX5_land 2 (some .int)) rm_X5_land (PX g (wP g (wM g a f1 f2 f3 f4 f5 f6 f7 f8 f9 f10 f11 f12 f13 f20 f21 f22 f23 f24 f25) sz) [.ref (a 0)]) (QMi g (fun u9 : Nat → Int → Int => wM g a (nLand f9 f21 f1 f24) f2 (u9 3) f4 f5 f6 f7 f8 f9 f10 f11 f12 f13 f20 0 (u9 22 0) (u9 23 0) (u9 24 0) (u9 25 0)) (fun r9 u9 => r9 = iI (aLand f9 f21 f1 f24) ∧ 0 ≤ u9 24 0 ∧ u9 24 0 ≤ 10000) (va_A (wM g a f1 f2 f3 f4 f5 f6 f7 f8 f9 f10 f11 f12 f13 f20 f21 f22 f23 f24 f25) sz)) 0 0 (va_A (wM g a f1 f2 f3 f4 f5 f6 f7 f8 f9 f10 f11 f12 f13 f20 f21 f22 f23 f24 f25) sz) := by
  refine me (g := g) (by decide) rfl ?_
  intro pq eq s mq below meth cq C hnm hB ls hl
  obtain ⟨hx, hb, hr, hml, hown, hts, hlocks, hK⟩ := C
  have hown : s.vm.findClass RX5 = some mq.cls := hown
  have hl : lv_has ls 2 [(0, .ref (a 0))] := hl
  obtain ⟨hsz, hP, hD0⟩ := hB
  subst hsz
  have hD := hD0.self (sz := s.heap.size)
  have hA : ∀ q : Nat, s.heap.size ≤ q → va_A (wM g a f1 f2 f3 f4 f5 f6 f7 f8 f9 f10 f11 f12 f13 f20 f21 f22 f23 f24 f25) s.heap.size q := fun q h => Or.inr h
  have hS : va_S (va_A (wM g a f1 f2 f3 f4 f5 f6 f7 f8 f9 f10 f11 f12 f13 f20 f21 f22 f23 f24 f25) s.heap.size) s.heap s.heap [] := va_S.rf
  have hI := h3
  have hQ := QI_0 (b := f9) (t := f21) (v := f24) h2.1 h4
  have hIs := h3
  refine lv_aload_n hx hb dX5_land_0 rfl (lv_at hl 0 rfl) ?_
  refine xm_v (rV (rest := []) hx hb hml hown hts hK hl (c_X5_saves l g a f1 f2 f3 f4 f5 f6 f7 f8 f9 f10 f11 f12 f13 f20 f21 f22 f23 f24 f25 (s.heap).size ) lk_X5_303 ⟨rfl, hP, hD.weaken (fun _ _ _ _ => trivial)⟩ (va_recv hK.1 hP (ci := 5) (q0 := 0) rfl rfl) rfl rfl rfl (Rm.of rfl) rfl rfl dX5_land_1) hD hS hA (fun _ H locs hw hP hD hS => ?_)
  have hP : va_P g.1 vwCl (wM g a f1 f2 f1 f4 f5 f6 f7 f8 f9 f10 f11 f12 f13 f20 f21 f22 f23 f24 f25) H := hP
  have hD : va_D (va_A (wM g a f1 f2 f3 f4 f5 f6 f7 f8 f9 f10 f11 f12 f13 f20 f21 f22 f23 f24 f25) s.heap.size) (wM g a f1 f2 f1 f4 f5 f6 f7 f8 f9 f10 f11 f12 f13 f20 f21 f22 f23 f24 f25) := hD
  refine lv_aload_n hx hb dX5_land_4 rfl (lv_at hl 0 rfl) ?_
  refine lv_iconst (v := iI (0)) hx hb dX5_land_5 (by decide) ?_
  refine xp_X5 hx hb hts hown hK hP hD hS 0 rfl 14 (by decide) fk_X5_233 rfl (v := .int (iI 0)) rfl rfl (Nat.le_of_ble_eq_true rfl) dX5_land_6 (fun H locs hP hD hS => ?_)
  have hP : va_P g.1 vwCl (wM g a f1 f2 f1 f4 f5 f6 f7 f8 f9 f10 f11 f12 f13 f20 f21 f22 f23 f24 0) H := hP
  have hD : va_D (va_A (wM g a f1 f2 f3 f4 f5 f6 f7 f8 f9 f10 f11 f12 f13 f20 f21 f22 f23 f24 f25) s.heap.size) (wM g a f1 f2 f1 f4 f5 f6 f7 f8 f9 f10 f11 f12 f13 f20 f21 f22 f23 f24 0) := hD
  refine lv_aload_n hx hb dX5_land_9 rfl (lv_at hl 0 rfl) ?_
  refine lv_iconst (v := iI (0)) hx hb dX5_land_10 (by decide) ?_
  refine xp_X5 hx hb hts hown hK hP hD hS 0 rfl 12 (by decide) fk_X5_218 rfl (v := .int (iI 0)) rfl rfl (Nat.le_of_ble_eq_true rfl) dX5_land_11 (fun H locs hP hD hS => ?_)
  have hP : va_P g.1 vwCl (wM g a f1 f2 f1 f4 f5 f6 f7 f8 f9 f10 f11 f12 f13 f20 f21 f22 0 f24 0) H := hP
  have hD : va_D (va_A (wM g a f1 f2 f3 f4 f5 f6 f7 f8 f9 f10 f11 f12 f13 f20 f21 f22 f23 f24 f25) s.heap.size) (wM g a f1 f2 f1 f4 f5 f6 f7 f8 f9 f10 f11 f12 f13 f20 f21 f22 0 f24 0) := hD
  refine lv_aload_n hx hb dX5_land_14 rfl (lv_at hl 0 rfl) ?_
  refine xm_v (rV (rest := []) hx hb hml hown hts hK hl (c_X5_token l g a f1 f2 f1 f4 f5 f6 f7 f8 f9 f10 f11 f12 f13 f20 f21 f22 0 f24 0 H.size (show ∀ j, 0 ≤ f9 j ∧ f9 j ≤ 255 from h1) (show 0 ≤ f21 ∧ f21 ≤ 120 from by omega) (show 0 ≤ 0 ∧ 0 ≤ f21 from by omega)) lk_X5_237 ⟨rfl, hP, hD.weaken (fun _ _ _ _ => trivial)⟩ (va_recv hK.1 hP (ci := 5) (q0 := 0) rfl rfl) rfl rfl rfl (Rm.of rfl) rfl rfl dX5_land_15) hD hS hA (fun _ H locs hw hP hD hS => ?_)
  have hP : va_P g.1 vwCl (wM g a f1 f2 f1 f4 f5 f6 f7 f8 f9 f10 f11 f12 f13 f20 f21 (tkF f9 f21 0) (tkE f9 f21 (tkF f9 f21 0)) f24 0) H := hP
  have hD : va_D (va_A (wM g a f1 f2 f3 f4 f5 f6 f7 f8 f9 f10 f11 f12 f13 f20 f21 f22 f23 f24 f25) s.heap.size) (wM g a f1 f2 f1 f4 f5 f6 f7 f8 f9 f10 f11 f12 f13 f20 f21 (tkF f9 f21 0) (tkE f9 f21 (tkF f9 f21 0)) f24 0) := hD
  refine lv_iconst (v := iI (1)) hx hb dX5_land_18 (by decide) ?_
  refine lv_istore_n (lv' := [(1, .int (iI 1)), (0, .ref (a 0))]) hx hb dX5_land_19 rfl hl (by decide) rfl (fun ls hl => ?_)
  refine lv_aload_n hx hb dX5_land_20 rfl (lv_at hl 1 rfl) ?_
  refine xm_v (rV (rest := []) hx hb hml hown hts hK hl (c_X5_item l g a f1 f2 f1 f4 f5 f6 f7 f8 f9 f10 f11 f12 f13 f20 f21 (tkF f9 f21 0) (tkE f9 f21 (tkF f9 f21 0)) f24 0 H.size (show ∀ j, 0 ≤ f9 j ∧ f9 j ≤ 255 from h1) (show 0 ≤ f21 ∧ f21 ≤ 120 from h2) (show QI f9 f21 (0, (tkF f9 f21 0), (tkE f9 f21 (tkF f9 f21 0)), f24) from hQ) (show InvK 0 f1 from hIs)) lk_X5_306 ⟨rfl, hP, hD.weaken (fun _ _ _ _ => trivial)⟩ (va_recv hK.1 hP (ci := 5) (q0 := 0) rfl rfl) rfl rfl rfl (Rm.of rfl) rfl rfl dX5_land_21) hD hS hA (fun u3 H locs hw hP hD hS => ?_)
  have hw3 : ((((u3 25 0, u3 22 0, u3 23 0, u3 24 0) : Q4), u3 1) : Q4 × (Int → Int)) = itemQ f9 f21 f1 (0, (tkF f9 f21 0), (tkE f9 f21 (tkF f9 f21 0)), f24) := hw
  have hiq := item_iq hQ hIs
  rw [← hw3] at hiq
  have hQ : QI f9 f21 (u3 25 0, u3 22 0, u3 23 0, u3 24 0) := hiq.1
  have hIs : InvK 0 (u3 1) := hiq.2.1
  have hgi := hiq.2.2
  dsimp only at hgi
  have hQa := hQ.1
  have hQb := hQ.2.1
  have hQc := hQ.2.2.2
  dsimp only at hQa hQb hQc
  have hP : va_P g.1 vwCl (wM g a (u3 1) f2 f1 f4 f5 f6 f7 f8 f9 f10 f11 f12 f13 f20 f21 (u3 22 0) (u3 23 0) (u3 24 0) (u3 25 0)) H := hP
  have hD : va_D (va_A (wM g a f1 f2 f3 f4 f5 f6 f7 f8 f9 f10 f11 f12 f13 f20 f21 f22 f23 f24 f25) s.heap.size) (wM g a (u3 1) f2 f1 f4 f5 f6 f7 f8 f9 f10 f11 f12 f13 f20 f21 (u3 22 0) (u3 23 0) (u3 24 0) (u3 25 0)) := hD
  have lp24 : ∀ (n24 : Nat) (w9 : Int) (r9 : Int) (t9 : Int) (v9 : Int) (s9 : Int → Int) (n9 : Int) (m : Nat), (QI f9 f21 (w9, r9, t9, v9)) → (InvK 0 s9) → (lnT f9 f21 m ((w9, r9, t9, v9), s9) n9 = (landR f9 f21 f1 f24)) → (f21 - r9 < m) → (f21 - r9).toNat < n24 → ∀ ls : Array Slot, lv_has ls 2 [(1, .int (iI n9)), (0, .ref (a 0))] → ∀ (H : Heap) (locs : List Loc), va_P g.1 vwCl (wM g a s9 f2 f1 f4 f5 f6 f7 f8 f9 f10 f11 f12 f13 f20 f21 r9 t9 v9 w9) H → va_D (va_A (wM g a f1 f2 f3 f4 f5 f6 f7 f8 f9 f10 f11 f12 f13 f20 f21 f22 f23 f24 f25) s.heap.size) (wM g a s9 f2 f1 f4 f5 f6 f7 f8 f9 f10 f11 f12 f13 f20 f21 r9 t9 v9 w9) → va_S (va_A (wM g a f1 f2 f3 f4 f5 f6 f7 f8 f9 f10 f11 f12 f13 f20 f21 f22 f23 f24 f25) s.heap.size) s.heap H locs → W pq l eq rm_X5_land s mq [.ref (a 0)].toArray below meth cq H locs 0 0 (MQ below (QMi g (fun u9 : Nat → Int → Int => wM g a (nLand f9 f21 f1 f24) f2 (u9 3) f4 f5 f6 f7 f8 f9 f10 f11 f12 f13 f20 0 (u9 22 0) (u9 23 0) (u9 24 0) (u9 25 0)) (fun r9 u9 => r9 = iI (aLand f9 f21 f1 f24) ∧ 0 ≤ u9 24 0 ∧ u9 24 0 ≤ 10000) (va_A (wM g a f1 f2 f3 f4 f5 f6 f7 f8 f9 f10 f11 f12 f13 f20 f21 f22 f23 f24 f25) s.heap.size)) [.ref (a 0)].toArray s 0 0 (va_A (wM g a f1 f2 f3 f4 f5 f6 f7 f8 f9 f10 f11 f12 f13 f20 f21 f22 f23 f24 f25) s.heap.size)) (F0 mq 24 ls []) := by
    intro n24
    induction n24 with
    | zero => intro w9 r9 t9 v9 s9 n9 m i24_1 i24_2 i24_3 i24_4 hm; exact absurd hm (Nat.not_lt_zero _)
    | succ n24 ih24 =>
      intro w9 r9 t9 v9 s9 n9 m i24_1 i24_2 i24_3 i24_4 hm24 ls hl H locs hP hD hS
      have hQ := i24_1
      have hIs := i24_2
      have hQa := hQ.1
      have hQb := hQ.2.1
      have hQc := hQ.2.2.2
      dsimp only at hQa hQb hQc
      have hbb := bAt_b (t := f21) (k := r9) h1
      have hbd := bAt_d f9 f21 r9
      refine lv_aload_n hx hb dX5_land_24 rfl (lv_at hl 1 rfl) ?_
      refine xg_X5 hx hb hts hown hK hP 0 rfl 14 (by decide) fk_X5_233 (v := .int (iI w9)) rfl dX5_land_25 ?_
      refine xi_z_ne (tgt := 59) hx hb ⟨by omega, by omega⟩ dX5_land_28 (by decide) (fun z4 => ?_) (fun z4 => ?_)
      · have hln : (landR f9 f21 f1 f24) = (((w9, r9, t9, v9), s9), n9) := by rw [← i24_3]; exact lnT_end (fun z => by have := z.1; dsimp only at this; omega) m
        refine lv_aload_n hx hb dX5_land_59 rfl (lv_at hl 1 rfl) ?_
        refine lv_aload_n hx hb dX5_land_60 rfl (lv_at hl 1 rfl) ?_
        refine xg_X5 hx hb hts hown hK hP 0 rfl 14 (by decide) fk_X5_233 (v := .int (iI w9)) rfl dX5_land_61 ?_
        refine xi_z_ne (tgt := 78) hx hb ⟨by omega, by omega⟩ dX5_land_64 (by decide) (fun z5 => ?_) (fun z5 => ?_)
        · refine lv_iconst (v := iI (1)) hx hb dX5_land_78 (by decide) ?_
          refine lv_goto (tgt := 83) hx hb dX5_land_79 (by decide) ?_
          refine xp_X5 hx hb hts hown hK hP hD hS 0 rfl 14 (by decide) fk_X5_233 rfl (v := .int (iI 1)) rfl rfl (Nat.le_of_ble_eq_true rfl) dX5_land_83 (fun H locs hP hD hS => ?_)
          have hP : va_P g.1 vwCl (wM g a s9 f2 f1 f4 f5 f6 f7 f8 f9 f10 f11 f12 f13 f20 f21 r9 t9 v9 1) H := hP
          have hD : va_D (va_A (wM g a f1 f2 f3 f4 f5 f6 f7 f8 f9 f10 f11 f12 f13 f20 f21 f22 f23 f24 f25) s.heap.size) (wM g a s9 f2 f1 f4 f5 f6 f7 f8 f9 f10 f11 f12 f13 f20 f21 r9 t9 v9 1) := hD
          refine lv_aload_n hx hb dX5_land_86 rfl (lv_at hl 1 rfl) ?_
          refine xg_X5 hx hb hts hown hK hP 0 rfl 14 (by decide) fk_X5_233 (v := .int (iI 1)) rfl dX5_land_87 ?_
          refine xi_zf_eq hx hb ⟨by decide, by decide⟩ (by decide) dX5_land_90 ⟨97, by decide⟩ ?_
          refine lv_aload_n hx hb dX5_land_93 rfl (lv_at hl 1 rfl) ?_
          refine xm_v (rV (rest := []) hx hb hml hown hts hK hl (c_X5_putsBack l g a s9 f2 f1 f4 f5 f6 f7 f8 f9 f10 f11 f12 f13 f20 f21 r9 t9 v9 1 H.size ) lk_X5_309 ⟨rfl, hP, hD.weaken (fun _ _ _ _ => trivial)⟩ (va_recv hK.1 hP (ci := 5) (q0 := 0) rfl rfl) rfl rfl rfl (Rm.of rfl) rfl rfl dX5_land_94) hD hS hA (fun _ H locs hw hP hD hS => ?_)
          have hP : va_P g.1 vwCl (wM g a f1 f2 f1 f4 f5 f6 f7 f8 f9 f10 f11 f12 f13 f20 f21 r9 t9 v9 1) H := hP
          have hD : va_D (va_A (wM g a f1 f2 f3 f4 f5 f6 f7 f8 f9 f10 f11 f12 f13 f20 f21 f22 f23 f24 f25) s.heap.size) (wM g a f1 f2 f1 f4 f5 f6 f7 f8 f9 f10 f11 f12 f13 f20 f21 r9 t9 v9 1) := hD
          refine lv_aload_n hx hb dX5_land_97 rfl (lv_at hl 1 rfl) ?_
          refine lv_iconst (v := iI (0)) hx hb dX5_land_98 (by decide) ?_
          refine xp_X5 hx hb hts hown hK hP hD hS 0 rfl 10 (by decide) fk_X5_206 rfl (v := .int (iI 0)) rfl rfl (Nat.le_of_ble_eq_true rfl) dX5_land_99 (fun H locs hP hD hS => ?_)
          have hP : va_P g.1 vwCl (wM g a f1 f2 f1 f4 f5 f6 f7 f8 f9 f10 f11 f12 f13 f20 0 r9 t9 v9 1) H := hP
          have hD : va_D (va_A (wM g a f1 f2 f3 f4 f5 f6 f7 f8 f9 f10 f11 f12 f13 f20 f21 f22 f23 f24 f25) s.heap.size) (wM g a f1 f2 f1 f4 f5 f6 f7 f8 f9 f10 f11 f12 f13 f20 0 r9 t9 v9 1) := hD
          refine lv_aload_n hx hb dX5_land_102 rfl (lv_at hl 1 rfl) ?_
          refine xg_X5 hx hb hts hown hK hP 0 rfl 14 (by decide) fk_X5_233 (v := .int (iI 1)) rfl dX5_land_103 ?_
          refine xi_zf_eq hx hb ⟨by decide, by decide⟩ (by decide) dX5_land_106 ⟨118, by decide⟩ ?_
          refine lv_iconst (v := iI (-1)) hx hb dX5_land_109 (by decide) ?_
          refine lv_aload_n hx hb dX5_land_110 rfl (lv_at hl 1 rfl) ?_
          refine xg_X5 hx hb hts hown hK hP 0 rfl 11 (by decide) fk_X5_221 (v := .int (iI r9)) rfl dX5_land_111 ?_
          refine xi_sub hx hb dX5_land_114 ?_
          refine lv_goto (tgt := 119) hx hb dX5_land_115 (by decide) ?_
          have hj : 0 ≤ v9 ∧ v9 ≤ 10000 := ⟨by omega, by omega⟩
          have he7 : f1 = (nLand f9 f21 f1 f24) := by unfold nLand landW; rw [hln]; dsimp only; first | (rw [if_pos (by omega)]; done) | (rw [if_neg (by omega)]; done) | (exfalso; omega)
          have hP := Eq.mp (congrArg (fun z9 => va_P g.1 vwCl (wM g a z9 f2 f1 f4 f5 f6 f7 f8 f9 f10 f11 f12 f13 f20 0 r9 t9 v9 1) H) he7) hP
          have hD := Eq.mp (congrArg (fun z9 => va_D (va_A (wM g a f1 f2 f3 f4 f5 f6 f7 f8 f9 f10 f11 f12 f13 f20 f21 f22 f23 f24 f25) s.heap.size) (wM g a z9 f2 f1 f4 f5 f6 f7 f8 f9 f10 f11 f12 f13 f20 0 r9 t9 v9 1)) he7) hD
          have hP : va_P g.1 vwCl (wM g a (nLand f9 f21 f1 f24) f2 ((su (su (su (su (su (fun _ _ => 0) 3 f1) 22 (fun _ => r9)) 23 (fun _ => t9)) 24 (fun _ => v9)) 25 (fun _ => 1)) 3) f4 f5 f6 f7 f8 f9 f10 f11 f12 f13 f20 0 ((su (su (su (su (su (fun _ _ => 0) 3 f1) 22 (fun _ => r9)) 23 (fun _ => t9)) 24 (fun _ => v9)) 25 (fun _ => 1)) 22 0) ((su (su (su (su (su (fun _ _ => 0) 3 f1) 22 (fun _ => r9)) 23 (fun _ => t9)) 24 (fun _ => v9)) 25 (fun _ => 1)) 23 0) ((su (su (su (su (su (fun _ _ => 0) 3 f1) 22 (fun _ => r9)) 23 (fun _ => t9)) 24 (fun _ => v9)) 25 (fun _ => 1)) 24 0) ((su (su (su (su (su (fun _ _ => 0) 3 f1) 22 (fun _ => r9)) 23 (fun _ => t9)) 24 (fun _ => v9)) 25 (fun _ => 1)) 25 0)) H := hP
          have hD : va_D (va_A (wM g a f1 f2 f3 f4 f5 f6 f7 f8 f9 f10 f11 f12 f13 f20 f21 f22 f23 f24 f25) s.heap.size) (wM g a (nLand f9 f21 f1 f24) f2 ((su (su (su (su (su (fun _ _ => 0) 3 f1) 22 (fun _ => r9)) 23 (fun _ => t9)) 24 (fun _ => v9)) 25 (fun _ => 1)) 3) f4 f5 f6 f7 f8 f9 f10 f11 f12 f13 f20 0 ((su (su (su (su (su (fun _ _ => 0) 3 f1) 22 (fun _ => r9)) 23 (fun _ => t9)) 24 (fun _ => v9)) 25 (fun _ => 1)) 22 0) ((su (su (su (su (su (fun _ _ => 0) 3 f1) 22 (fun _ => r9)) 23 (fun _ => t9)) 24 (fun _ => v9)) 25 (fun _ => 1)) 23 0) ((su (su (su (su (su (fun _ _ => 0) 3 f1) 22 (fun _ => r9)) 23 (fun _ => t9)) 24 (fun _ => v9)) 25 (fun _ => 1)) 24 0) ((su (su (su (su (su (fun _ _ => 0) 3 f1) 22 (fun _ => r9)) 23 (fun _ => t9)) 24 (fun _ => v9)) 25 (fun _ => 1)) 25 0)) := hD
          exact W.iret hx hb hr (fun t ht hW => ⟨⟨_, (su (su (su (su (su (fun _ _ => 0) 3 f1) 22 (fun _ => r9)) 23 (fun _ => t9)) 24 (fun _ => v9)) 25 (fun _ => 1)), rfl, ⟨congrArg iI (by unfold aLand landW; rw [hln]; dsimp only; first | (rw [if_pos (by omega)]; done) | (rw [if_neg (by omega)]; done) | (exfalso; omega)), hj⟩, by rw [ht]; exact hP, hD⟩, hS.F ht⟩) hS.2.2 dX5_land_119
        · refine lv_aload_n hx hb dX5_land_67 rfl (lv_at hl 1 rfl) ?_
          refine xg_X5 hx hb hts hown hK hP 0 rfl 11 (by decide) fk_X5_221 (v := .int (iI r9)) rfl dX5_land_68 ?_
          refine lv_aload_n hx hb dX5_land_71 rfl (lv_at hl 1 rfl) ?_
          refine xg_X5 hx hb hts hown hK hP 0 rfl 10 (by decide) fk_X5_206 (v := .int (iI f21)) rfl dX5_land_72 ?_
          refine xi_c_ge (tgt := 82) hx hb ⟨by omega, by omega⟩ ⟨by omega, by omega⟩ dX5_land_75 (by decide) (fun z8 => ?_) (fun z8 => ?_)
          · refine lv_iconst (v := iI (0)) hx hb dX5_land_82 (by decide) ?_
            refine xp_X5 hx hb hts hown hK hP hD hS 0 rfl 14 (by decide) fk_X5_233 rfl (v := .int (iI 0)) rfl rfl (Nat.le_of_ble_eq_true rfl) dX5_land_83 (fun H locs hP hD hS => ?_)
            have hP : va_P g.1 vwCl (wM g a s9 f2 f1 f4 f5 f6 f7 f8 f9 f10 f11 f12 f13 f20 f21 r9 t9 v9 0) H := hP
            have hD : va_D (va_A (wM g a f1 f2 f3 f4 f5 f6 f7 f8 f9 f10 f11 f12 f13 f20 f21 f22 f23 f24 f25) s.heap.size) (wM g a s9 f2 f1 f4 f5 f6 f7 f8 f9 f10 f11 f12 f13 f20 f21 r9 t9 v9 0) := hD
            refine lv_aload_n hx hb dX5_land_86 rfl (lv_at hl 1 rfl) ?_
            refine xg_X5 hx hb hts hown hK hP 0 rfl 14 (by decide) fk_X5_233 (v := .int (iI 0)) rfl dX5_land_87 ?_
            refine xi_zt_eq (tgt := 97) hx hb ⟨by decide, by decide⟩ (by decide) dX5_land_90 (by decide) ?_
            refine lv_aload_n hx hb dX5_land_97 rfl (lv_at hl 1 rfl) ?_
            refine lv_iconst (v := iI (0)) hx hb dX5_land_98 (by decide) ?_
            refine xp_X5 hx hb hts hown hK hP hD hS 0 rfl 10 (by decide) fk_X5_206 rfl (v := .int (iI 0)) rfl rfl (Nat.le_of_ble_eq_true rfl) dX5_land_99 (fun H locs hP hD hS => ?_)
            have hP : va_P g.1 vwCl (wM g a s9 f2 f1 f4 f5 f6 f7 f8 f9 f10 f11 f12 f13 f20 0 r9 t9 v9 0) H := hP
            have hD : va_D (va_A (wM g a f1 f2 f3 f4 f5 f6 f7 f8 f9 f10 f11 f12 f13 f20 f21 f22 f23 f24 f25) s.heap.size) (wM g a s9 f2 f1 f4 f5 f6 f7 f8 f9 f10 f11 f12 f13 f20 0 r9 t9 v9 0) := hD
            refine lv_aload_n hx hb dX5_land_102 rfl (lv_at hl 1 rfl) ?_
            refine xg_X5 hx hb hts hown hK hP 0 rfl 14 (by decide) fk_X5_233 (v := .int (iI 0)) rfl dX5_land_103 ?_
            refine xi_zt_eq (tgt := 118) hx hb ⟨by decide, by decide⟩ (by decide) dX5_land_106 (by decide) ?_
            refine lv_iload_n hx hb dX5_land_118 rfl (lv_at hl 0 rfl) ?_
            have hj : 0 ≤ v9 ∧ v9 ≤ 10000 := ⟨by omega, by omega⟩
            have he9 : s9 = (nLand f9 f21 f1 f24) := by unfold nLand landW; rw [hln]; dsimp only; first | (rw [if_pos (by omega)]; done) | (rw [if_neg (by omega)]; done) | (exfalso; omega)
            have hP := Eq.mp (congrArg (fun z9 => va_P g.1 vwCl (wM g a z9 f2 f1 f4 f5 f6 f7 f8 f9 f10 f11 f12 f13 f20 0 r9 t9 v9 0) H) he9) hP
            have hD := Eq.mp (congrArg (fun z9 => va_D (va_A (wM g a f1 f2 f3 f4 f5 f6 f7 f8 f9 f10 f11 f12 f13 f20 f21 f22 f23 f24 f25) s.heap.size) (wM g a z9 f2 f1 f4 f5 f6 f7 f8 f9 f10 f11 f12 f13 f20 0 r9 t9 v9 0)) he9) hD
            have hP : va_P g.1 vwCl (wM g a (nLand f9 f21 f1 f24) f2 ((su (su (su (su (su (fun _ _ => 0) 3 f1) 22 (fun _ => r9)) 23 (fun _ => t9)) 24 (fun _ => v9)) 25 (fun _ => 0)) 3) f4 f5 f6 f7 f8 f9 f10 f11 f12 f13 f20 0 ((su (su (su (su (su (fun _ _ => 0) 3 f1) 22 (fun _ => r9)) 23 (fun _ => t9)) 24 (fun _ => v9)) 25 (fun _ => 0)) 22 0) ((su (su (su (su (su (fun _ _ => 0) 3 f1) 22 (fun _ => r9)) 23 (fun _ => t9)) 24 (fun _ => v9)) 25 (fun _ => 0)) 23 0) ((su (su (su (su (su (fun _ _ => 0) 3 f1) 22 (fun _ => r9)) 23 (fun _ => t9)) 24 (fun _ => v9)) 25 (fun _ => 0)) 24 0) ((su (su (su (su (su (fun _ _ => 0) 3 f1) 22 (fun _ => r9)) 23 (fun _ => t9)) 24 (fun _ => v9)) 25 (fun _ => 0)) 25 0)) H := hP
            have hD : va_D (va_A (wM g a f1 f2 f3 f4 f5 f6 f7 f8 f9 f10 f11 f12 f13 f20 f21 f22 f23 f24 f25) s.heap.size) (wM g a (nLand f9 f21 f1 f24) f2 ((su (su (su (su (su (fun _ _ => 0) 3 f1) 22 (fun _ => r9)) 23 (fun _ => t9)) 24 (fun _ => v9)) 25 (fun _ => 0)) 3) f4 f5 f6 f7 f8 f9 f10 f11 f12 f13 f20 0 ((su (su (su (su (su (fun _ _ => 0) 3 f1) 22 (fun _ => r9)) 23 (fun _ => t9)) 24 (fun _ => v9)) 25 (fun _ => 0)) 22 0) ((su (su (su (su (su (fun _ _ => 0) 3 f1) 22 (fun _ => r9)) 23 (fun _ => t9)) 24 (fun _ => v9)) 25 (fun _ => 0)) 23 0) ((su (su (su (su (su (fun _ _ => 0) 3 f1) 22 (fun _ => r9)) 23 (fun _ => t9)) 24 (fun _ => v9)) 25 (fun _ => 0)) 24 0) ((su (su (su (su (su (fun _ _ => 0) 3 f1) 22 (fun _ => r9)) 23 (fun _ => t9)) 24 (fun _ => v9)) 25 (fun _ => 0)) 25 0)) := hD
            exact W.iret hx hb hr (fun t ht hW => ⟨⟨_, (su (su (su (su (su (fun _ _ => 0) 3 f1) 22 (fun _ => r9)) 23 (fun _ => t9)) 24 (fun _ => v9)) 25 (fun _ => 0)), rfl, ⟨congrArg iI (by unfold aLand landW; rw [hln]; dsimp only; first | (rw [if_pos (by omega)]; done) | (rw [if_neg (by omega)]; done) | (exfalso; omega)), hj⟩, by rw [ht]; exact hP, hD⟩, hS.F ht⟩) hS.2.2 dX5_land_119
          · refine lv_iconst (v := iI (1)) hx hb dX5_land_78 (by decide) ?_
            refine lv_goto (tgt := 83) hx hb dX5_land_79 (by decide) ?_
            refine xp_X5 hx hb hts hown hK hP hD hS 0 rfl 14 (by decide) fk_X5_233 rfl (v := .int (iI 1)) rfl rfl (Nat.le_of_ble_eq_true rfl) dX5_land_83 (fun H locs hP hD hS => ?_)
            have hP : va_P g.1 vwCl (wM g a s9 f2 f1 f4 f5 f6 f7 f8 f9 f10 f11 f12 f13 f20 f21 r9 t9 v9 1) H := hP
            have hD : va_D (va_A (wM g a f1 f2 f3 f4 f5 f6 f7 f8 f9 f10 f11 f12 f13 f20 f21 f22 f23 f24 f25) s.heap.size) (wM g a s9 f2 f1 f4 f5 f6 f7 f8 f9 f10 f11 f12 f13 f20 f21 r9 t9 v9 1) := hD
            refine lv_aload_n hx hb dX5_land_86 rfl (lv_at hl 1 rfl) ?_
            refine xg_X5 hx hb hts hown hK hP 0 rfl 14 (by decide) fk_X5_233 (v := .int (iI 1)) rfl dX5_land_87 ?_
            refine xi_zf_eq hx hb ⟨by decide, by decide⟩ (by decide) dX5_land_90 ⟨97, by decide⟩ ?_
            refine lv_aload_n hx hb dX5_land_93 rfl (lv_at hl 1 rfl) ?_
            refine xm_v (rV (rest := []) hx hb hml hown hts hK hl (c_X5_putsBack l g a s9 f2 f1 f4 f5 f6 f7 f8 f9 f10 f11 f12 f13 f20 f21 r9 t9 v9 1 H.size ) lk_X5_309 ⟨rfl, hP, hD.weaken (fun _ _ _ _ => trivial)⟩ (va_recv hK.1 hP (ci := 5) (q0 := 0) rfl rfl) rfl rfl rfl (Rm.of rfl) rfl rfl dX5_land_94) hD hS hA (fun _ H locs hw hP hD hS => ?_)
            have hP : va_P g.1 vwCl (wM g a f1 f2 f1 f4 f5 f6 f7 f8 f9 f10 f11 f12 f13 f20 f21 r9 t9 v9 1) H := hP
            have hD : va_D (va_A (wM g a f1 f2 f3 f4 f5 f6 f7 f8 f9 f10 f11 f12 f13 f20 f21 f22 f23 f24 f25) s.heap.size) (wM g a f1 f2 f1 f4 f5 f6 f7 f8 f9 f10 f11 f12 f13 f20 f21 r9 t9 v9 1) := hD
            refine lv_aload_n hx hb dX5_land_97 rfl (lv_at hl 1 rfl) ?_
            refine lv_iconst (v := iI (0)) hx hb dX5_land_98 (by decide) ?_
            refine xp_X5 hx hb hts hown hK hP hD hS 0 rfl 10 (by decide) fk_X5_206 rfl (v := .int (iI 0)) rfl rfl (Nat.le_of_ble_eq_true rfl) dX5_land_99 (fun H locs hP hD hS => ?_)
            have hP : va_P g.1 vwCl (wM g a f1 f2 f1 f4 f5 f6 f7 f8 f9 f10 f11 f12 f13 f20 0 r9 t9 v9 1) H := hP
            have hD : va_D (va_A (wM g a f1 f2 f3 f4 f5 f6 f7 f8 f9 f10 f11 f12 f13 f20 f21 f22 f23 f24 f25) s.heap.size) (wM g a f1 f2 f1 f4 f5 f6 f7 f8 f9 f10 f11 f12 f13 f20 0 r9 t9 v9 1) := hD
            refine lv_aload_n hx hb dX5_land_102 rfl (lv_at hl 1 rfl) ?_
            refine xg_X5 hx hb hts hown hK hP 0 rfl 14 (by decide) fk_X5_233 (v := .int (iI 1)) rfl dX5_land_103 ?_
            refine xi_zf_eq hx hb ⟨by decide, by decide⟩ (by decide) dX5_land_106 ⟨118, by decide⟩ ?_
            refine lv_iconst (v := iI (-1)) hx hb dX5_land_109 (by decide) ?_
            refine lv_aload_n hx hb dX5_land_110 rfl (lv_at hl 1 rfl) ?_
            refine xg_X5 hx hb hts hown hK hP 0 rfl 11 (by decide) fk_X5_221 (v := .int (iI r9)) rfl dX5_land_111 ?_
            refine xi_sub hx hb dX5_land_114 ?_
            refine lv_goto (tgt := 119) hx hb dX5_land_115 (by decide) ?_
            have hj : 0 ≤ v9 ∧ v9 ≤ 10000 := ⟨by omega, by omega⟩
            have he11 : f1 = (nLand f9 f21 f1 f24) := by unfold nLand landW; rw [hln]; dsimp only; first | (rw [if_pos (by omega)]; done) | (rw [if_neg (by omega)]; done) | (exfalso; omega)
            have hP := Eq.mp (congrArg (fun z9 => va_P g.1 vwCl (wM g a z9 f2 f1 f4 f5 f6 f7 f8 f9 f10 f11 f12 f13 f20 0 r9 t9 v9 1) H) he11) hP
            have hD := Eq.mp (congrArg (fun z9 => va_D (va_A (wM g a f1 f2 f3 f4 f5 f6 f7 f8 f9 f10 f11 f12 f13 f20 f21 f22 f23 f24 f25) s.heap.size) (wM g a z9 f2 f1 f4 f5 f6 f7 f8 f9 f10 f11 f12 f13 f20 0 r9 t9 v9 1)) he11) hD
            have hP : va_P g.1 vwCl (wM g a (nLand f9 f21 f1 f24) f2 ((su (su (su (su (su (fun _ _ => 0) 3 f1) 22 (fun _ => r9)) 23 (fun _ => t9)) 24 (fun _ => v9)) 25 (fun _ => 1)) 3) f4 f5 f6 f7 f8 f9 f10 f11 f12 f13 f20 0 ((su (su (su (su (su (fun _ _ => 0) 3 f1) 22 (fun _ => r9)) 23 (fun _ => t9)) 24 (fun _ => v9)) 25 (fun _ => 1)) 22 0) ((su (su (su (su (su (fun _ _ => 0) 3 f1) 22 (fun _ => r9)) 23 (fun _ => t9)) 24 (fun _ => v9)) 25 (fun _ => 1)) 23 0) ((su (su (su (su (su (fun _ _ => 0) 3 f1) 22 (fun _ => r9)) 23 (fun _ => t9)) 24 (fun _ => v9)) 25 (fun _ => 1)) 24 0) ((su (su (su (su (su (fun _ _ => 0) 3 f1) 22 (fun _ => r9)) 23 (fun _ => t9)) 24 (fun _ => v9)) 25 (fun _ => 1)) 25 0)) H := hP
            have hD : va_D (va_A (wM g a f1 f2 f3 f4 f5 f6 f7 f8 f9 f10 f11 f12 f13 f20 f21 f22 f23 f24 f25) s.heap.size) (wM g a (nLand f9 f21 f1 f24) f2 ((su (su (su (su (su (fun _ _ => 0) 3 f1) 22 (fun _ => r9)) 23 (fun _ => t9)) 24 (fun _ => v9)) 25 (fun _ => 1)) 3) f4 f5 f6 f7 f8 f9 f10 f11 f12 f13 f20 0 ((su (su (su (su (su (fun _ _ => 0) 3 f1) 22 (fun _ => r9)) 23 (fun _ => t9)) 24 (fun _ => v9)) 25 (fun _ => 1)) 22 0) ((su (su (su (su (su (fun _ _ => 0) 3 f1) 22 (fun _ => r9)) 23 (fun _ => t9)) 24 (fun _ => v9)) 25 (fun _ => 1)) 23 0) ((su (su (su (su (su (fun _ _ => 0) 3 f1) 22 (fun _ => r9)) 23 (fun _ => t9)) 24 (fun _ => v9)) 25 (fun _ => 1)) 24 0) ((su (su (su (su (su (fun _ _ => 0) 3 f1) 22 (fun _ => r9)) 23 (fun _ => t9)) 24 (fun _ => v9)) 25 (fun _ => 1)) 25 0)) := hD
            exact W.iret hx hb hr (fun t ht hW => ⟨⟨_, (su (su (su (su (su (fun _ _ => 0) 3 f1) 22 (fun _ => r9)) 23 (fun _ => t9)) 24 (fun _ => v9)) 25 (fun _ => 1)), rfl, ⟨congrArg iI (by unfold aLand landW; rw [hln]; dsimp only; first | (rw [if_pos (by omega)]; done) | (rw [if_neg (by omega)]; done) | (exfalso; omega)), hj⟩, by rw [ht]; exact hP, hD⟩, hS.F ht⟩) hS.2.2 dX5_land_119
      · refine lv_aload_n hx hb dX5_land_31 rfl (lv_at hl 1 rfl) ?_
        refine lv_aload_n hx hb dX5_land_32 rfl (lv_at hl 1 rfl) ?_
        refine xg_X5 hx hb hts hown hK hP 0 rfl 11 (by decide) fk_X5_221 (v := .int (iI r9)) rfl dX5_land_33 ?_
        refine xu_i (x := iI (bAt f9 f21 r9)) (rV (rest := []) hx hb hml hown hts hK hl (c_X5_byteAt l g a s9 f2 f1 f4 f5 f6 f7 f8 f9 f10 f11 f12 f13 f20 f21 r9 t9 v9 w9 r9 (show 0 ≤ r9 ∧ r9 ≤ 121 from by omega) (show 0 ≤ f21 ∧ f21 ≤ 120 from by omega)) lk_X5_224 hP (va_recv hK.1 hP (ci := 5) (q0 := 0) rfl rfl) rfl rfl rfl (Rm.of rfl) rfl rfl dX5_land_36) ?_
        refine lv_bipush (v := iI (59)) hx hb dX5_land_39 (by decide) ?_
        refine xi_c_ne (tgt := 59) hx hb ⟨by omega, by omega⟩ ⟨by decide, by decide⟩ dX5_land_41 (by decide) (fun z13 => ?_) (fun z13 => ?_)
        · have hln : (landR f9 f21 f1 f24) = (((w9, r9, t9, v9), s9), n9) := by rw [← i24_3]; exact lnT_end (fun z => by have := z.2; dsimp only at this; omega) m
          refine lv_aload_n hx hb dX5_land_59 rfl (lv_at hl 1 rfl) ?_
          refine lv_aload_n hx hb dX5_land_60 rfl (lv_at hl 1 rfl) ?_
          refine xg_X5 hx hb hts hown hK hP 0 rfl 14 (by decide) fk_X5_233 (v := .int (iI w9)) rfl dX5_land_61 ?_
          refine xi_z_ne (tgt := 78) hx hb ⟨by omega, by omega⟩ dX5_land_64 (by decide) (fun z14 => ?_) (fun z14 => ?_)
          · refine lv_iconst (v := iI (1)) hx hb dX5_land_78 (by decide) ?_
            refine lv_goto (tgt := 83) hx hb dX5_land_79 (by decide) ?_
            refine xp_X5 hx hb hts hown hK hP hD hS 0 rfl 14 (by decide) fk_X5_233 rfl (v := .int (iI 1)) rfl rfl (Nat.le_of_ble_eq_true rfl) dX5_land_83 (fun H locs hP hD hS => ?_)
            have hP : va_P g.1 vwCl (wM g a s9 f2 f1 f4 f5 f6 f7 f8 f9 f10 f11 f12 f13 f20 f21 r9 t9 v9 1) H := hP
            have hD : va_D (va_A (wM g a f1 f2 f3 f4 f5 f6 f7 f8 f9 f10 f11 f12 f13 f20 f21 f22 f23 f24 f25) s.heap.size) (wM g a s9 f2 f1 f4 f5 f6 f7 f8 f9 f10 f11 f12 f13 f20 f21 r9 t9 v9 1) := hD
            refine lv_aload_n hx hb dX5_land_86 rfl (lv_at hl 1 rfl) ?_
            refine xg_X5 hx hb hts hown hK hP 0 rfl 14 (by decide) fk_X5_233 (v := .int (iI 1)) rfl dX5_land_87 ?_
            refine xi_zf_eq hx hb ⟨by decide, by decide⟩ (by decide) dX5_land_90 ⟨97, by decide⟩ ?_
            refine lv_aload_n hx hb dX5_land_93 rfl (lv_at hl 1 rfl) ?_
            refine xm_v (rV (rest := []) hx hb hml hown hts hK hl (c_X5_putsBack l g a s9 f2 f1 f4 f5 f6 f7 f8 f9 f10 f11 f12 f13 f20 f21 r9 t9 v9 1 H.size ) lk_X5_309 ⟨rfl, hP, hD.weaken (fun _ _ _ _ => trivial)⟩ (va_recv hK.1 hP (ci := 5) (q0 := 0) rfl rfl) rfl rfl rfl (Rm.of rfl) rfl rfl dX5_land_94) hD hS hA (fun _ H locs hw hP hD hS => ?_)
            have hP : va_P g.1 vwCl (wM g a f1 f2 f1 f4 f5 f6 f7 f8 f9 f10 f11 f12 f13 f20 f21 r9 t9 v9 1) H := hP
            have hD : va_D (va_A (wM g a f1 f2 f3 f4 f5 f6 f7 f8 f9 f10 f11 f12 f13 f20 f21 f22 f23 f24 f25) s.heap.size) (wM g a f1 f2 f1 f4 f5 f6 f7 f8 f9 f10 f11 f12 f13 f20 f21 r9 t9 v9 1) := hD
            refine lv_aload_n hx hb dX5_land_97 rfl (lv_at hl 1 rfl) ?_
            refine lv_iconst (v := iI (0)) hx hb dX5_land_98 (by decide) ?_
            refine xp_X5 hx hb hts hown hK hP hD hS 0 rfl 10 (by decide) fk_X5_206 rfl (v := .int (iI 0)) rfl rfl (Nat.le_of_ble_eq_true rfl) dX5_land_99 (fun H locs hP hD hS => ?_)
            have hP : va_P g.1 vwCl (wM g a f1 f2 f1 f4 f5 f6 f7 f8 f9 f10 f11 f12 f13 f20 0 r9 t9 v9 1) H := hP
            have hD : va_D (va_A (wM g a f1 f2 f3 f4 f5 f6 f7 f8 f9 f10 f11 f12 f13 f20 f21 f22 f23 f24 f25) s.heap.size) (wM g a f1 f2 f1 f4 f5 f6 f7 f8 f9 f10 f11 f12 f13 f20 0 r9 t9 v9 1) := hD
            refine lv_aload_n hx hb dX5_land_102 rfl (lv_at hl 1 rfl) ?_
            refine xg_X5 hx hb hts hown hK hP 0 rfl 14 (by decide) fk_X5_233 (v := .int (iI 1)) rfl dX5_land_103 ?_
            refine xi_zf_eq hx hb ⟨by decide, by decide⟩ (by decide) dX5_land_106 ⟨118, by decide⟩ ?_
            refine lv_iconst (v := iI (-1)) hx hb dX5_land_109 (by decide) ?_
            refine lv_aload_n hx hb dX5_land_110 rfl (lv_at hl 1 rfl) ?_
            refine xg_X5 hx hb hts hown hK hP 0 rfl 11 (by decide) fk_X5_221 (v := .int (iI r9)) rfl dX5_land_111 ?_
            refine xi_sub hx hb dX5_land_114 ?_
            refine lv_goto (tgt := 119) hx hb dX5_land_115 (by decide) ?_
            have hj : 0 ≤ v9 ∧ v9 ≤ 10000 := ⟨by omega, by omega⟩
            have he16 : f1 = (nLand f9 f21 f1 f24) := by unfold nLand landW; rw [hln]; dsimp only; first | (rw [if_pos (by omega)]; done) | (rw [if_neg (by omega)]; done) | (exfalso; omega)
            have hP := Eq.mp (congrArg (fun z9 => va_P g.1 vwCl (wM g a z9 f2 f1 f4 f5 f6 f7 f8 f9 f10 f11 f12 f13 f20 0 r9 t9 v9 1) H) he16) hP
            have hD := Eq.mp (congrArg (fun z9 => va_D (va_A (wM g a f1 f2 f3 f4 f5 f6 f7 f8 f9 f10 f11 f12 f13 f20 f21 f22 f23 f24 f25) s.heap.size) (wM g a z9 f2 f1 f4 f5 f6 f7 f8 f9 f10 f11 f12 f13 f20 0 r9 t9 v9 1)) he16) hD
            have hP : va_P g.1 vwCl (wM g a (nLand f9 f21 f1 f24) f2 ((su (su (su (su (su (fun _ _ => 0) 3 f1) 22 (fun _ => r9)) 23 (fun _ => t9)) 24 (fun _ => v9)) 25 (fun _ => 1)) 3) f4 f5 f6 f7 f8 f9 f10 f11 f12 f13 f20 0 ((su (su (su (su (su (fun _ _ => 0) 3 f1) 22 (fun _ => r9)) 23 (fun _ => t9)) 24 (fun _ => v9)) 25 (fun _ => 1)) 22 0) ((su (su (su (su (su (fun _ _ => 0) 3 f1) 22 (fun _ => r9)) 23 (fun _ => t9)) 24 (fun _ => v9)) 25 (fun _ => 1)) 23 0) ((su (su (su (su (su (fun _ _ => 0) 3 f1) 22 (fun _ => r9)) 23 (fun _ => t9)) 24 (fun _ => v9)) 25 (fun _ => 1)) 24 0) ((su (su (su (su (su (fun _ _ => 0) 3 f1) 22 (fun _ => r9)) 23 (fun _ => t9)) 24 (fun _ => v9)) 25 (fun _ => 1)) 25 0)) H := hP
            have hD : va_D (va_A (wM g a f1 f2 f3 f4 f5 f6 f7 f8 f9 f10 f11 f12 f13 f20 f21 f22 f23 f24 f25) s.heap.size) (wM g a (nLand f9 f21 f1 f24) f2 ((su (su (su (su (su (fun _ _ => 0) 3 f1) 22 (fun _ => r9)) 23 (fun _ => t9)) 24 (fun _ => v9)) 25 (fun _ => 1)) 3) f4 f5 f6 f7 f8 f9 f10 f11 f12 f13 f20 0 ((su (su (su (su (su (fun _ _ => 0) 3 f1) 22 (fun _ => r9)) 23 (fun _ => t9)) 24 (fun _ => v9)) 25 (fun _ => 1)) 22 0) ((su (su (su (su (su (fun _ _ => 0) 3 f1) 22 (fun _ => r9)) 23 (fun _ => t9)) 24 (fun _ => v9)) 25 (fun _ => 1)) 23 0) ((su (su (su (su (su (fun _ _ => 0) 3 f1) 22 (fun _ => r9)) 23 (fun _ => t9)) 24 (fun _ => v9)) 25 (fun _ => 1)) 24 0) ((su (su (su (su (su (fun _ _ => 0) 3 f1) 22 (fun _ => r9)) 23 (fun _ => t9)) 24 (fun _ => v9)) 25 (fun _ => 1)) 25 0)) := hD
            exact W.iret hx hb hr (fun t ht hW => ⟨⟨_, (su (su (su (su (su (fun _ _ => 0) 3 f1) 22 (fun _ => r9)) 23 (fun _ => t9)) 24 (fun _ => v9)) 25 (fun _ => 1)), rfl, ⟨congrArg iI (by unfold aLand landW; rw [hln]; dsimp only; first | (rw [if_pos (by omega)]; done) | (rw [if_neg (by omega)]; done) | (exfalso; omega)), hj⟩, by rw [ht]; exact hP, hD⟩, hS.F ht⟩) hS.2.2 dX5_land_119
          · refine lv_aload_n hx hb dX5_land_67 rfl (lv_at hl 1 rfl) ?_
            refine xg_X5 hx hb hts hown hK hP 0 rfl 11 (by decide) fk_X5_221 (v := .int (iI r9)) rfl dX5_land_68 ?_
            refine lv_aload_n hx hb dX5_land_71 rfl (lv_at hl 1 rfl) ?_
            refine xg_X5 hx hb hts hown hK hP 0 rfl 10 (by decide) fk_X5_206 (v := .int (iI f21)) rfl dX5_land_72 ?_
            refine xi_c_ge (tgt := 82) hx hb ⟨by omega, by omega⟩ ⟨by omega, by omega⟩ dX5_land_75 (by decide) (fun z17 => ?_) (fun z17 => ?_)
            · refine lv_iconst (v := iI (0)) hx hb dX5_land_82 (by decide) ?_
              refine xp_X5 hx hb hts hown hK hP hD hS 0 rfl 14 (by decide) fk_X5_233 rfl (v := .int (iI 0)) rfl rfl (Nat.le_of_ble_eq_true rfl) dX5_land_83 (fun H locs hP hD hS => ?_)
              have hP : va_P g.1 vwCl (wM g a s9 f2 f1 f4 f5 f6 f7 f8 f9 f10 f11 f12 f13 f20 f21 r9 t9 v9 0) H := hP
              have hD : va_D (va_A (wM g a f1 f2 f3 f4 f5 f6 f7 f8 f9 f10 f11 f12 f13 f20 f21 f22 f23 f24 f25) s.heap.size) (wM g a s9 f2 f1 f4 f5 f6 f7 f8 f9 f10 f11 f12 f13 f20 f21 r9 t9 v9 0) := hD
              refine lv_aload_n hx hb dX5_land_86 rfl (lv_at hl 1 rfl) ?_
              refine xg_X5 hx hb hts hown hK hP 0 rfl 14 (by decide) fk_X5_233 (v := .int (iI 0)) rfl dX5_land_87 ?_
              refine xi_zt_eq (tgt := 97) hx hb ⟨by decide, by decide⟩ (by decide) dX5_land_90 (by decide) ?_
              refine lv_aload_n hx hb dX5_land_97 rfl (lv_at hl 1 rfl) ?_
              refine lv_iconst (v := iI (0)) hx hb dX5_land_98 (by decide) ?_
              refine xp_X5 hx hb hts hown hK hP hD hS 0 rfl 10 (by decide) fk_X5_206 rfl (v := .int (iI 0)) rfl rfl (Nat.le_of_ble_eq_true rfl) dX5_land_99 (fun H locs hP hD hS => ?_)
              have hP : va_P g.1 vwCl (wM g a s9 f2 f1 f4 f5 f6 f7 f8 f9 f10 f11 f12 f13 f20 0 r9 t9 v9 0) H := hP
              have hD : va_D (va_A (wM g a f1 f2 f3 f4 f5 f6 f7 f8 f9 f10 f11 f12 f13 f20 f21 f22 f23 f24 f25) s.heap.size) (wM g a s9 f2 f1 f4 f5 f6 f7 f8 f9 f10 f11 f12 f13 f20 0 r9 t9 v9 0) := hD
              refine lv_aload_n hx hb dX5_land_102 rfl (lv_at hl 1 rfl) ?_
              refine xg_X5 hx hb hts hown hK hP 0 rfl 14 (by decide) fk_X5_233 (v := .int (iI 0)) rfl dX5_land_103 ?_
              refine xi_zt_eq (tgt := 118) hx hb ⟨by decide, by decide⟩ (by decide) dX5_land_106 (by decide) ?_
              refine lv_iload_n hx hb dX5_land_118 rfl (lv_at hl 0 rfl) ?_
              have hj : 0 ≤ v9 ∧ v9 ≤ 10000 := ⟨by omega, by omega⟩
              have he18 : s9 = (nLand f9 f21 f1 f24) := by unfold nLand landW; rw [hln]; dsimp only; first | (rw [if_pos (by omega)]; done) | (rw [if_neg (by omega)]; done) | (exfalso; omega)
              have hP := Eq.mp (congrArg (fun z9 => va_P g.1 vwCl (wM g a z9 f2 f1 f4 f5 f6 f7 f8 f9 f10 f11 f12 f13 f20 0 r9 t9 v9 0) H) he18) hP
              have hD := Eq.mp (congrArg (fun z9 => va_D (va_A (wM g a f1 f2 f3 f4 f5 f6 f7 f8 f9 f10 f11 f12 f13 f20 f21 f22 f23 f24 f25) s.heap.size) (wM g a z9 f2 f1 f4 f5 f6 f7 f8 f9 f10 f11 f12 f13 f20 0 r9 t9 v9 0)) he18) hD
              have hP : va_P g.1 vwCl (wM g a (nLand f9 f21 f1 f24) f2 ((su (su (su (su (su (fun _ _ => 0) 3 f1) 22 (fun _ => r9)) 23 (fun _ => t9)) 24 (fun _ => v9)) 25 (fun _ => 0)) 3) f4 f5 f6 f7 f8 f9 f10 f11 f12 f13 f20 0 ((su (su (su (su (su (fun _ _ => 0) 3 f1) 22 (fun _ => r9)) 23 (fun _ => t9)) 24 (fun _ => v9)) 25 (fun _ => 0)) 22 0) ((su (su (su (su (su (fun _ _ => 0) 3 f1) 22 (fun _ => r9)) 23 (fun _ => t9)) 24 (fun _ => v9)) 25 (fun _ => 0)) 23 0) ((su (su (su (su (su (fun _ _ => 0) 3 f1) 22 (fun _ => r9)) 23 (fun _ => t9)) 24 (fun _ => v9)) 25 (fun _ => 0)) 24 0) ((su (su (su (su (su (fun _ _ => 0) 3 f1) 22 (fun _ => r9)) 23 (fun _ => t9)) 24 (fun _ => v9)) 25 (fun _ => 0)) 25 0)) H := hP
              have hD : va_D (va_A (wM g a f1 f2 f3 f4 f5 f6 f7 f8 f9 f10 f11 f12 f13 f20 f21 f22 f23 f24 f25) s.heap.size) (wM g a (nLand f9 f21 f1 f24) f2 ((su (su (su (su (su (fun _ _ => 0) 3 f1) 22 (fun _ => r9)) 23 (fun _ => t9)) 24 (fun _ => v9)) 25 (fun _ => 0)) 3) f4 f5 f6 f7 f8 f9 f10 f11 f12 f13 f20 0 ((su (su (su (su (su (fun _ _ => 0) 3 f1) 22 (fun _ => r9)) 23 (fun _ => t9)) 24 (fun _ => v9)) 25 (fun _ => 0)) 22 0) ((su (su (su (su (su (fun _ _ => 0) 3 f1) 22 (fun _ => r9)) 23 (fun _ => t9)) 24 (fun _ => v9)) 25 (fun _ => 0)) 23 0) ((su (su (su (su (su (fun _ _ => 0) 3 f1) 22 (fun _ => r9)) 23 (fun _ => t9)) 24 (fun _ => v9)) 25 (fun _ => 0)) 24 0) ((su (su (su (su (su (fun _ _ => 0) 3 f1) 22 (fun _ => r9)) 23 (fun _ => t9)) 24 (fun _ => v9)) 25 (fun _ => 0)) 25 0)) := hD
              exact W.iret hx hb hr (fun t ht hW => ⟨⟨_, (su (su (su (su (su (fun _ _ => 0) 3 f1) 22 (fun _ => r9)) 23 (fun _ => t9)) 24 (fun _ => v9)) 25 (fun _ => 0)), rfl, ⟨congrArg iI (by unfold aLand landW; rw [hln]; dsimp only; first | (rw [if_pos (by omega)]; done) | (rw [if_neg (by omega)]; done) | (exfalso; omega)), hj⟩, by rw [ht]; exact hP, hD⟩, hS.F ht⟩) hS.2.2 dX5_land_119
            · refine lv_iconst (v := iI (1)) hx hb dX5_land_78 (by decide) ?_
              refine lv_goto (tgt := 83) hx hb dX5_land_79 (by decide) ?_
              refine xp_X5 hx hb hts hown hK hP hD hS 0 rfl 14 (by decide) fk_X5_233 rfl (v := .int (iI 1)) rfl rfl (Nat.le_of_ble_eq_true rfl) dX5_land_83 (fun H locs hP hD hS => ?_)
              have hP : va_P g.1 vwCl (wM g a s9 f2 f1 f4 f5 f6 f7 f8 f9 f10 f11 f12 f13 f20 f21 r9 t9 v9 1) H := hP
              have hD : va_D (va_A (wM g a f1 f2 f3 f4 f5 f6 f7 f8 f9 f10 f11 f12 f13 f20 f21 f22 f23 f24 f25) s.heap.size) (wM g a s9 f2 f1 f4 f5 f6 f7 f8 f9 f10 f11 f12 f13 f20 f21 r9 t9 v9 1) := hD
              refine lv_aload_n hx hb dX5_land_86 rfl (lv_at hl 1 rfl) ?_
              refine xg_X5 hx hb hts hown hK hP 0 rfl 14 (by decide) fk_X5_233 (v := .int (iI 1)) rfl dX5_land_87 ?_
              refine xi_zf_eq hx hb ⟨by decide, by decide⟩ (by decide) dX5_land_90 ⟨97, by decide⟩ ?_
              refine lv_aload_n hx hb dX5_land_93 rfl (lv_at hl 1 rfl) ?_
              refine xm_v (rV (rest := []) hx hb hml hown hts hK hl (c_X5_putsBack l g a s9 f2 f1 f4 f5 f6 f7 f8 f9 f10 f11 f12 f13 f20 f21 r9 t9 v9 1 H.size ) lk_X5_309 ⟨rfl, hP, hD.weaken (fun _ _ _ _ => trivial)⟩ (va_recv hK.1 hP (ci := 5) (q0 := 0) rfl rfl) rfl rfl rfl (Rm.of rfl) rfl rfl dX5_land_94) hD hS hA (fun _ H locs hw hP hD hS => ?_)
              have hP : va_P g.1 vwCl (wM g a f1 f2 f1 f4 f5 f6 f7 f8 f9 f10 f11 f12 f13 f20 f21 r9 t9 v9 1) H := hP
              have hD : va_D (va_A (wM g a f1 f2 f3 f4 f5 f6 f7 f8 f9 f10 f11 f12 f13 f20 f21 f22 f23 f24 f25) s.heap.size) (wM g a f1 f2 f1 f4 f5 f6 f7 f8 f9 f10 f11 f12 f13 f20 f21 r9 t9 v9 1) := hD
              refine lv_aload_n hx hb dX5_land_97 rfl (lv_at hl 1 rfl) ?_
              refine lv_iconst (v := iI (0)) hx hb dX5_land_98 (by decide) ?_
              refine xp_X5 hx hb hts hown hK hP hD hS 0 rfl 10 (by decide) fk_X5_206 rfl (v := .int (iI 0)) rfl rfl (Nat.le_of_ble_eq_true rfl) dX5_land_99 (fun H locs hP hD hS => ?_)
              have hP : va_P g.1 vwCl (wM g a f1 f2 f1 f4 f5 f6 f7 f8 f9 f10 f11 f12 f13 f20 0 r9 t9 v9 1) H := hP
              have hD : va_D (va_A (wM g a f1 f2 f3 f4 f5 f6 f7 f8 f9 f10 f11 f12 f13 f20 f21 f22 f23 f24 f25) s.heap.size) (wM g a f1 f2 f1 f4 f5 f6 f7 f8 f9 f10 f11 f12 f13 f20 0 r9 t9 v9 1) := hD
              refine lv_aload_n hx hb dX5_land_102 rfl (lv_at hl 1 rfl) ?_
              refine xg_X5 hx hb hts hown hK hP 0 rfl 14 (by decide) fk_X5_233 (v := .int (iI 1)) rfl dX5_land_103 ?_
              refine xi_zf_eq hx hb ⟨by decide, by decide⟩ (by decide) dX5_land_106 ⟨118, by decide⟩ ?_
              refine lv_iconst (v := iI (-1)) hx hb dX5_land_109 (by decide) ?_
              refine lv_aload_n hx hb dX5_land_110 rfl (lv_at hl 1 rfl) ?_
              refine xg_X5 hx hb hts hown hK hP 0 rfl 11 (by decide) fk_X5_221 (v := .int (iI r9)) rfl dX5_land_111 ?_
              refine xi_sub hx hb dX5_land_114 ?_
              refine lv_goto (tgt := 119) hx hb dX5_land_115 (by decide) ?_
              have hj : 0 ≤ v9 ∧ v9 ≤ 10000 := ⟨by omega, by omega⟩
              have he20 : f1 = (nLand f9 f21 f1 f24) := by unfold nLand landW; rw [hln]; dsimp only; first | (rw [if_pos (by omega)]; done) | (rw [if_neg (by omega)]; done) | (exfalso; omega)
              have hP := Eq.mp (congrArg (fun z9 => va_P g.1 vwCl (wM g a z9 f2 f1 f4 f5 f6 f7 f8 f9 f10 f11 f12 f13 f20 0 r9 t9 v9 1) H) he20) hP
              have hD := Eq.mp (congrArg (fun z9 => va_D (va_A (wM g a f1 f2 f3 f4 f5 f6 f7 f8 f9 f10 f11 f12 f13 f20 f21 f22 f23 f24 f25) s.heap.size) (wM g a z9 f2 f1 f4 f5 f6 f7 f8 f9 f10 f11 f12 f13 f20 0 r9 t9 v9 1)) he20) hD
              have hP : va_P g.1 vwCl (wM g a (nLand f9 f21 f1 f24) f2 ((su (su (su (su (su (fun _ _ => 0) 3 f1) 22 (fun _ => r9)) 23 (fun _ => t9)) 24 (fun _ => v9)) 25 (fun _ => 1)) 3) f4 f5 f6 f7 f8 f9 f10 f11 f12 f13 f20 0 ((su (su (su (su (su (fun _ _ => 0) 3 f1) 22 (fun _ => r9)) 23 (fun _ => t9)) 24 (fun _ => v9)) 25 (fun _ => 1)) 22 0) ((su (su (su (su (su (fun _ _ => 0) 3 f1) 22 (fun _ => r9)) 23 (fun _ => t9)) 24 (fun _ => v9)) 25 (fun _ => 1)) 23 0) ((su (su (su (su (su (fun _ _ => 0) 3 f1) 22 (fun _ => r9)) 23 (fun _ => t9)) 24 (fun _ => v9)) 25 (fun _ => 1)) 24 0) ((su (su (su (su (su (fun _ _ => 0) 3 f1) 22 (fun _ => r9)) 23 (fun _ => t9)) 24 (fun _ => v9)) 25 (fun _ => 1)) 25 0)) H := hP
              have hD : va_D (va_A (wM g a f1 f2 f3 f4 f5 f6 f7 f8 f9 f10 f11 f12 f13 f20 f21 f22 f23 f24 f25) s.heap.size) (wM g a (nLand f9 f21 f1 f24) f2 ((su (su (su (su (su (fun _ _ => 0) 3 f1) 22 (fun _ => r9)) 23 (fun _ => t9)) 24 (fun _ => v9)) 25 (fun _ => 1)) 3) f4 f5 f6 f7 f8 f9 f10 f11 f12 f13 f20 0 ((su (su (su (su (su (fun _ _ => 0) 3 f1) 22 (fun _ => r9)) 23 (fun _ => t9)) 24 (fun _ => v9)) 25 (fun _ => 1)) 22 0) ((su (su (su (su (su (fun _ _ => 0) 3 f1) 22 (fun _ => r9)) 23 (fun _ => t9)) 24 (fun _ => v9)) 25 (fun _ => 1)) 23 0) ((su (su (su (su (su (fun _ _ => 0) 3 f1) 22 (fun _ => r9)) 23 (fun _ => t9)) 24 (fun _ => v9)) 25 (fun _ => 1)) 24 0) ((su (su (su (su (su (fun _ _ => 0) 3 f1) 22 (fun _ => r9)) 23 (fun _ => t9)) 24 (fun _ => v9)) 25 (fun _ => 1)) 25 0)) := hD
              exact W.iret hx hb hr (fun t ht hW => ⟨⟨_, (su (su (su (su (su (fun _ _ => 0) 3 f1) 22 (fun _ => r9)) 23 (fun _ => t9)) 24 (fun _ => v9)) 25 (fun _ => 1)), rfl, ⟨congrArg iI (by unfold aLand landW; rw [hln]; dsimp only; first | (rw [if_pos (by omega)]; done) | (rw [if_neg (by omega)]; done) | (exfalso; omega)), hj⟩, by rw [ht]; exact hP, hD⟩, hS.F ht⟩) hS.2.2 dX5_land_119
        · refine lv_aload_n hx hb dX5_land_44 rfl (lv_at hl 1 rfl) ?_
          refine lv_iconst (v := iI (1)) hx hb dX5_land_45 (by decide) ?_
          refine xm_v (rV (rest := []) hx hb hml hown hts hK hl (c_X5_wants l g a s9 f2 f1 f4 f5 f6 f7 f8 f9 f10 f11 f12 f13 f20 f21 r9 t9 v9 w9 1 H.size (show ∀ j, 0 ≤ f9 j ∧ f9 j ≤ 255 from h1) (show 0 ≤ f21 ∧ f21 ≤ 120 from h2) (show 0 ≤ t9 ∧ t9 ≤ f21 from ⟨Int.le_trans hQ.2.1.1 hQ.2.1.2.1, hQ.2.1.2.2⟩) (show w9 = 0 ∨ w9 = 1 from hQ.1) (show 1 = 0 ∨ 1 = 1 from by omega)) lk_X5_247 ⟨rfl, hP, hD.weaken (fun _ _ _ _ => trivial)⟩ (va_recv hK.1 hP (ci := 5) (q0 := 0) rfl rfl) rfl rfl rfl (Rm.of rfl) rfl rfl dX5_land_46) hD hS hA (fun u21 H locs hw hP hD hS => ?_)
          have hw21 : ((u21 25 0, u21 22 0, u21 23 0, v9) : Q4) = wantQ f9 f21 (w9, r9, t9, v9) 1 := hw
          have hd21 := wantQ_d hQ hw21
          dsimp only at hd21
          have hQ : QI f9 f21 (u21 25 0, u21 22 0, u21 23 0, v9) := by rw [hw21]; exact wantQ_inv hQ 1
          have hQ21a := hQ.1
          have hQ21b := hQ.2.1
          have hQ21c := hQ.2.2.2
          dsimp only at hQ21a hQ21b hQ21c
          have hP : va_P g.1 vwCl (wM g a s9 f2 f1 f4 f5 f6 f7 f8 f9 f10 f11 f12 f13 f20 f21 (u21 22 0) (u21 23 0) v9 (u21 25 0)) H := hP
          have hD : va_D (va_A (wM g a f1 f2 f3 f4 f5 f6 f7 f8 f9 f10 f11 f12 f13 f20 f21 f22 f23 f24 f25) s.heap.size) (wM g a s9 f2 f1 f4 f5 f6 f7 f8 f9 f10 f11 f12 f13 f20 f21 (u21 22 0) (u21 23 0) v9 (u21 25 0)) := hD
          have hadv := want_adv i24_1 (by dsimp only; omega) (by dsimp only; omega) hw21
          dsimp only at hadv
          have hwA := hw21
          refine lv_aload_n hx hb dX5_land_49 rfl (lv_at hl 1 rfl) ?_
          refine xm_v (rV (rest := []) hx hb hml hown hts hK hl (c_X5_item l g a s9 f2 f1 f4 f5 f6 f7 f8 f9 f10 f11 f12 f13 f20 f21 (u21 22 0) (u21 23 0) v9 (u21 25 0) H.size (show ∀ j, 0 ≤ f9 j ∧ f9 j ≤ 255 from h1) (show 0 ≤ f21 ∧ f21 ≤ 120 from h2) (show QI f9 f21 ((u21 25 0), (u21 22 0), (u21 23 0), v9) from hQ) (show InvK 0 s9 from hIs)) lk_X5_306 ⟨rfl, hP, hD.weaken (fun _ _ _ _ => trivial)⟩ (va_recv hK.1 hP (ci := 5) (q0 := 0) rfl rfl) rfl rfl rfl (Rm.of rfl) rfl rfl dX5_land_50) hD hS hA (fun u22 H locs hw hP hD hS => ?_)
          have hw22 : ((((u22 25 0, u22 22 0, u22 23 0, u22 24 0) : Q4), u22 1) : Q4 × (Int → Int)) = itemQ f9 f21 s9 ((u21 25 0), (u21 22 0), (u21 23 0), v9) := hw
          have hiq := item_iq hQ hIs
          rw [← hw22] at hiq
          have hQ : QI f9 f21 (u22 25 0, u22 22 0, u22 23 0, u22 24 0) := hiq.1
          have hIs : InvK 0 (u22 1) := hiq.2.1
          have hgi := hiq.2.2
          dsimp only at hgi
          have hQa := hQ.1
          have hQb := hQ.2.1
          have hQc := hQ.2.2.2
          dsimp only at hQa hQb hQc
          have hP : va_P g.1 vwCl (wM g a (u22 1) f2 f1 f4 f5 f6 f7 f8 f9 f10 f11 f12 f13 f20 f21 (u22 22 0) (u22 23 0) (u22 24 0) (u22 25 0)) H := hP
          have hD : va_D (va_A (wM g a f1 f2 f3 f4 f5 f6 f7 f8 f9 f10 f11 f12 f13 f20 f21 f22 f23 f24 f25) s.heap.size) (wM g a (u22 1) f2 f1 f4 f5 f6 f7 f8 f9 f10 f11 f12 f13 f20 f21 (u22 22 0) (u22 23 0) (u22 24 0) (u22 25 0)) := hD
          have hwB := hw22
          refine xi_inc (lv' := [(1, .int (iI (n9 + 1))), (0, .ref (a 0))]) hx hb dX5_land_53 hl (k := 0) rfl (by decide) rfl (fun ls hl => ?_)
          refine lv_goto (tgt := 24) hx hb dX5_land_56 (by decide) ?_
          exact ih24 (u22 25 0) (u22 22 0) (u22 23 0) (u22 24 0) (u22 1) (n9 + 1) (m - 1) hQ hIs (by rw [lnT_go (m := m) (by omega) (by omega) (by assumption) hwA hwB]; exact i24_3) (by omega) (by omega) ls (lv_sub hl [0, 1] rfl) H locs hP hD hS
  exact lp24 (120 + 1) (u3 25 0) (u3 22 0) (u3 23 0) (u3 24 0) (u3 1) 1 121 hQ hIs (by unfold landR; rw [← hw3]) (by omega) (by omega) ls (lv_sub hl [0, 1] rfl) H locs hP hD hS
section XY
variable {p : Program} {l : Launch} {e : Env} {R : Room} {s : State} {m : MethodId} {args : Array Value} {below : List Frame} {meth : Method} {c : Code} {H : Heap} {locs : List Loc} {cells slots : Nat} {Q : State → Prop} {cc : ByteArray} {pc : Nat} {ls : Array Slot} {rest st : List Value}
theorem xs_ld (hx : p.tables.exec = Jvm.exec) (hb : c.code = cc) {bs L : Nat} {xs : Nat → Int32} {A : Nat → Prop} (hX : va_X bs L xs s s.heap) (hbl : bs < s.heap.size) (hbA : ¬ A bs) (hS : va_S A s.heap H locs) {i : Int} {j : Nat} (hi : i = (j : Int)) (hj : j < L) (hL : L ≤ 3072) (d : decode cc pc = .ok (.iaload, 1)) (k : W p l e R s m args below meth c H locs cells slots Q (F0 m (pc + 1) ls (.int (iI (xs j).toInt) :: rest))) : W p l e R s m args below meth c H locs cells slots Q (F0 m pc ls (.int (iI i) :: .ref bs :: rest)) := by
  subst hi
  refine va_sld hx hb hX hbl hbA hS (iI_in (by omega) (by omega) (Nat.ble_eq_true_of_le (by omega))) d ?_
  rw [iI_cl' (by omega) (by omega), show ((j : Int)).toNat = j by omega]
  rw [iI_of] at k
  exact k
end XY
def LCx (g : Gd) (σ : Sg) (p : Program) (s : State) (m : MethodId) (c : Code) (bs L : Nat) (xs : Nat → Int32) : Prop := p.tables.exec = Jvm.exec ∧ c.code = cL_law ∧ c.maxLocals = 4 ∧ s.vm.findClass RL = some m.cls ∧ (∀ w ∈ T0, w.before #[Value.ref bs] s = true) ∧ KX g s ∧ va_X bs L xs s s.heap ∧ bs < s.heap.size ∧ SB σ (fun q : Nat => s.heap.size ≤ q) s s.heap

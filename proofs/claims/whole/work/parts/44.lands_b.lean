abbrev rm_X1_becomes : Room := { frames := 1, cells := 0, slots := 0, locals := 80 }
set_option maxRecDepth 100000 in
set_option maxHeartbeats 4000000 in
theorem c_X1_becomes (l : Launch) (g : Gd) (a : Nat → Nat) (f1 : Int → Int) (f10 : Int → Int) (f11 : Int → Int) (b : Nat → Nat) (h1 : Int → Int) (h10 : Int → Int) (h11 : Int → Int) (sz : Nat)  : Met l yX1_becomes (wsOf yX1_becomes cX1_becomes 2 none) rm_X1_becomes (PX g (wP g (wLs g a f1 f10 f11 ++ (wLs g b h1 h10 h11)) sz) [.ref (a 0), .ref (b 0)]) (QMv g (fun _ : Unit => wLs g a h1 f10 f11 ++ (wLs g b h1 h10 h11)) (fun _ => True) (va_A (wLs g a f1 f10 f11 ++ (wLs g b h1 h10 h11)) sz)) 0 0 (va_A (wLs g a f1 f10 f11 ++ (wLs g b h1 h10 h11)) sz) := by
  refine me (g := g) (by decide) rfl ?_
  intro pq eq s mq below meth cq C hnm hB ls hl
  obtain ⟨hx, hb, hr, hml, hown, hts, hlocks, hK⟩ := C
  have hown : s.vm.findClass RX1 = some mq.cls := hown
  have hl : lv_has ls 2 [(0, .ref (a 0)), (1, .ref (b 0))] := hl
  obtain ⟨hsz, hP, hD0⟩ := hB
  subst hsz
  have hD := hD0.self (sz := s.heap.size)
  have hA : ∀ q : Nat, s.heap.size ≤ q → va_A (wLs g a f1 f10 f11 ++ (wLs g b h1 h10 h11)) s.heap.size q := fun q h => Or.inr h
  have hS : va_S (va_A (wLs g a f1 f10 f11 ++ (wLs g b h1 h10 h11)) s.heap.size) s.heap s.heap [] := va_S.rf
  obtain ⟨hP0, hP1⟩ := va_P_app.mp hP
  have hP : va_P g.1 vwCl (wL g a (pj 7 24 f1) (pj 31 24 f1) (pj 55 6 f1) (pj 3 4 f1) (pz 0 f1) (pz 1 f1) (pz 2 f1) (pz 3 f1) (pz 4 f1) f10 f11 (f1 0) (f1 1) (f1 2) ++ (wL g b (pj 7 24 h1) (pj 31 24 h1) (pj 55 6 h1) (pj 3 4 h1) (pz 0 h1) (pz 1 h1) (pz 2 h1) (pz 3 h1) (pz 4 h1) h10 h11 (h1 0) (h1 1) (h1 2))) s.heap := hP
  have hD : va_D (va_A (wLs g a f1 f10 f11 ++ (wLs g b h1 h10 h11)) s.heap.size) (wL g a (pj 7 24 f1) (pj 31 24 f1) (pj 55 6 f1) (pj 3 4 f1) (pz 0 f1) (pz 1 f1) (pz 2 f1) (pz 3 f1) (pz 4 f1) f10 f11 (f1 0) (f1 1) (f1 2) ++ (wL g b (pj 7 24 h1) (pj 31 24 h1) (pj 55 6 h1) (pj 3 4 h1) (pz 0 h1) (pz 1 h1) (pz 2 h1) (pz 3 h1) (pz 4 h1) h10 h11 (h1 0) (h1 1) (h1 2))) := hD
  obtain ⟨hP0, hP1⟩ := va_P_app.mp hP
  refine lv_aload_n hx hb dX1_becomes_0 rfl (lv_at hl 0 rfl) ?_
  refine lv_aload_n hx hb dX1_becomes_1 rfl (lv_at hl 1 rfl) ?_
  refine xg_X1 hx hb hts hown hK hP1 0 rfl 0 (by decide) fk_X1_45 (v := .int (iI (h1 0))) rfl dX1_becomes_2 ?_
  refine xp_X1 hx hb hts hown hK hP hD hS 0 rfl 0 (by decide) fk_X1_45 rfl (v := .int (iI (h1 0))) rfl rfl (Nat.le_of_ble_eq_true rfl) dX1_becomes_5 (fun H locs hP hD hS => ?_)
  have hP : va_P g.1 vwCl (wL g a (pj 7 24 f1) (pj 31 24 f1) (pj 55 6 f1) (pj 3 4 f1) (pz 0 f1) (pz 1 f1) (pz 2 f1) (pz 3 f1) (pz 4 f1) f10 f11 (h1 0) (f1 1) (f1 2) ++ (wL g b (pj 7 24 h1) (pj 31 24 h1) (pj 55 6 h1) (pj 3 4 h1) (pz 0 h1) (pz 1 h1) (pz 2 h1) (pz 3 h1) (pz 4 h1) h10 h11 (h1 0) (h1 1) (h1 2))) H := hP
  have hD : va_D (va_A (wLs g a f1 f10 f11 ++ (wLs g b h1 h10 h11)) s.heap.size) (wL g a (pj 7 24 f1) (pj 31 24 f1) (pj 55 6 f1) (pj 3 4 f1) (pz 0 f1) (pz 1 f1) (pz 2 f1) (pz 3 f1) (pz 4 f1) f10 f11 (h1 0) (f1 1) (f1 2) ++ (wL g b (pj 7 24 h1) (pj 31 24 h1) (pj 55 6 h1) (pj 3 4 h1) (pz 0 h1) (pz 1 h1) (pz 2 h1) (pz 3 h1) (pz 4 h1) h10 h11 (h1 0) (h1 1) (h1 2))) := hD
  obtain ⟨hP0, hP1⟩ := va_P_app.mp hP
  refine lv_aload_n hx hb dX1_becomes_8 rfl (lv_at hl 0 rfl) ?_
  refine lv_aload_n hx hb dX1_becomes_9 rfl (lv_at hl 1 rfl) ?_
  refine xg_X1 hx hb hts hown hK hP1 0 rfl 1 (by decide) fk_X1_49 (v := .int (iI (h1 1))) rfl dX1_becomes_10 ?_
  refine xp_X1 hx hb hts hown hK hP hD hS 0 rfl 1 (by decide) fk_X1_49 rfl (v := .int (iI (h1 1))) rfl rfl (Nat.le_of_ble_eq_true rfl) dX1_becomes_13 (fun H locs hP hD hS => ?_)
  have hP : va_P g.1 vwCl (wL g a (pj 7 24 f1) (pj 31 24 f1) (pj 55 6 f1) (pj 3 4 f1) (pz 0 f1) (pz 1 f1) (pz 2 f1) (pz 3 f1) (pz 4 f1) f10 f11 (h1 0) (h1 1) (f1 2) ++ (wL g b (pj 7 24 h1) (pj 31 24 h1) (pj 55 6 h1) (pj 3 4 h1) (pz 0 h1) (pz 1 h1) (pz 2 h1) (pz 3 h1) (pz 4 h1) h10 h11 (h1 0) (h1 1) (h1 2))) H := hP
  have hD : va_D (va_A (wLs g a f1 f10 f11 ++ (wLs g b h1 h10 h11)) s.heap.size) (wL g a (pj 7 24 f1) (pj 31 24 f1) (pj 55 6 f1) (pj 3 4 f1) (pz 0 f1) (pz 1 f1) (pz 2 f1) (pz 3 f1) (pz 4 f1) f10 f11 (h1 0) (h1 1) (f1 2) ++ (wL g b (pj 7 24 h1) (pj 31 24 h1) (pj 55 6 h1) (pj 3 4 h1) (pz 0 h1) (pz 1 h1) (pz 2 h1) (pz 3 h1) (pz 4 h1) h10 h11 (h1 0) (h1 1) (h1 2))) := hD
  obtain ⟨hP0, hP1⟩ := va_P_app.mp hP
  refine lv_aload_n hx hb dX1_becomes_16 rfl (lv_at hl 0 rfl) ?_
  refine lv_aload_n hx hb dX1_becomes_17 rfl (lv_at hl 1 rfl) ?_
  refine xg_X1 hx hb hts hown hK hP1 0 rfl 2 (by decide) fk_X1_52 (v := .int (iI (h1 2))) rfl dX1_becomes_18 ?_
  refine xp_X1 hx hb hts hown hK hP hD hS 0 rfl 2 (by decide) fk_X1_52 rfl (v := .int (iI (h1 2))) rfl rfl (Nat.le_of_ble_eq_true rfl) dX1_becomes_21 (fun H locs hP hD hS => ?_)
  have hP : va_P g.1 vwCl (wL g a (pj 7 24 f1) (pj 31 24 f1) (pj 55 6 f1) (pj 3 4 f1) (pz 0 f1) (pz 1 f1) (pz 2 f1) (pz 3 f1) (pz 4 f1) f10 f11 (h1 0) (h1 1) (h1 2) ++ (wL g b (pj 7 24 h1) (pj 31 24 h1) (pj 55 6 h1) (pj 3 4 h1) (pz 0 h1) (pz 1 h1) (pz 2 h1) (pz 3 h1) (pz 4 h1) h10 h11 (h1 0) (h1 1) (h1 2))) H := hP
  have hD : va_D (va_A (wLs g a f1 f10 f11 ++ (wLs g b h1 h10 h11)) s.heap.size) (wL g a (pj 7 24 f1) (pj 31 24 f1) (pj 55 6 f1) (pj 3 4 f1) (pz 0 f1) (pz 1 f1) (pz 2 f1) (pz 3 f1) (pz 4 f1) f10 f11 (h1 0) (h1 1) (h1 2) ++ (wL g b (pj 7 24 h1) (pj 31 24 h1) (pj 55 6 h1) (pj 3 4 h1) (pz 0 h1) (pz 1 h1) (pz 2 h1) (pz 3 h1) (pz 4 h1) h10 h11 (h1 0) (h1 1) (h1 2))) := hD
  obtain ⟨hP0, hP1⟩ := va_P_app.mp hP
  refine lv_aload_n hx hb dX1_becomes_24 rfl (lv_at hl 1 rfl) ?_
  refine xg_X1 hx hb hts hown hK hP1 0 rfl 3 (by decide) fk_X1_9 (v := .ref (b 1)) rfl dX1_becomes_25 ?_
  refine lv_iconst (v := iI (0)) hx hb dX1_becomes_28 (by decide) ?_
  refine lv_aload_n hx hb dX1_becomes_29 rfl (lv_at hl 0 rfl) ?_
  refine xg_X1 hx hb hts hown hK hP0 0 rfl 3 (by decide) fk_X1_9 (v := .ref (a 1)) rfl dX1_becomes_30 ?_
  refine lv_iconst (v := iI (0)) hx hb dX1_becomes_33 (by decide) ?_
  refine lv_bipush (v := iI (24)) hx hb dX1_becomes_34 (by decide) ?_
  refine xj_cpi hx hb hml hown hts hK hl mk_X1_55 hP hD hS 13 1 (f := pj 7 24 h1) (h := pj 7 24 f1) rfl rfl (sp := 0) (dp := 0) (k := 24) ⟨by omega, by omega, by omega, by omega, by omega⟩ (Nat.le_of_ble_eq_true rfl) rfl dX1_becomes_36 (F := pj 7 24 h1) (cy_q 7 24 h1 f1) (fun H locs hP hD hS => ?_)
  have hP : va_P g.1 vwCl (wL g a (pj 7 24 h1) (pj 31 24 f1) (pj 55 6 f1) (pj 3 4 f1) (pz 0 f1) (pz 1 f1) (pz 2 f1) (pz 3 f1) (pz 4 f1) f10 f11 (h1 0) (h1 1) (h1 2) ++ (wL g b (pj 7 24 h1) (pj 31 24 h1) (pj 55 6 h1) (pj 3 4 h1) (pz 0 h1) (pz 1 h1) (pz 2 h1) (pz 3 h1) (pz 4 h1) h10 h11 (h1 0) (h1 1) (h1 2))) H := hP
  have hD : va_D (va_A (wLs g a f1 f10 f11 ++ (wLs g b h1 h10 h11)) s.heap.size) (wL g a (pj 7 24 h1) (pj 31 24 f1) (pj 55 6 f1) (pj 3 4 f1) (pz 0 f1) (pz 1 f1) (pz 2 f1) (pz 3 f1) (pz 4 f1) f10 f11 (h1 0) (h1 1) (h1 2) ++ (wL g b (pj 7 24 h1) (pj 31 24 h1) (pj 55 6 h1) (pj 3 4 h1) (pz 0 h1) (pz 1 h1) (pz 2 h1) (pz 3 h1) (pz 4 h1) h10 h11 (h1 0) (h1 1) (h1 2))) := hD
  obtain ⟨hP0, hP1⟩ := va_P_app.mp hP
  refine lv_aload_n hx hb dX1_becomes_39 rfl (lv_at hl 1 rfl) ?_
  refine xg_X1 hx hb hts hown hK hP1 0 rfl 4 (by decide) fk_X1_15 (v := .ref (b 2)) rfl dX1_becomes_40 ?_
  refine lv_iconst (v := iI (0)) hx hb dX1_becomes_43 (by decide) ?_
  refine lv_aload_n hx hb dX1_becomes_44 rfl (lv_at hl 0 rfl) ?_
  refine xg_X1 hx hb hts hown hK hP0 0 rfl 4 (by decide) fk_X1_15 (v := .ref (a 2)) rfl dX1_becomes_45 ?_
  refine lv_iconst (v := iI (0)) hx hb dX1_becomes_48 (by decide) ?_
  refine lv_bipush (v := iI (24)) hx hb dX1_becomes_49 (by decide) ?_
  refine xj_cpi hx hb hml hown hts hK hl mk_X1_55 hP hD hS 14 2 (f := pj 31 24 h1) (h := pj 31 24 f1) rfl rfl (sp := 0) (dp := 0) (k := 24) ⟨by omega, by omega, by omega, by omega, by omega⟩ (Nat.le_of_ble_eq_true rfl) rfl dX1_becomes_51 (F := pj 31 24 h1) (cy_q 31 24 h1 f1) (fun H locs hP hD hS => ?_)
  have hP : va_P g.1 vwCl (wL g a (pj 7 24 h1) (pj 31 24 h1) (pj 55 6 f1) (pj 3 4 f1) (pz 0 f1) (pz 1 f1) (pz 2 f1) (pz 3 f1) (pz 4 f1) f10 f11 (h1 0) (h1 1) (h1 2) ++ (wL g b (pj 7 24 h1) (pj 31 24 h1) (pj 55 6 h1) (pj 3 4 h1) (pz 0 h1) (pz 1 h1) (pz 2 h1) (pz 3 h1) (pz 4 h1) h10 h11 (h1 0) (h1 1) (h1 2))) H := hP
  have hD : va_D (va_A (wLs g a f1 f10 f11 ++ (wLs g b h1 h10 h11)) s.heap.size) (wL g a (pj 7 24 h1) (pj 31 24 h1) (pj 55 6 f1) (pj 3 4 f1) (pz 0 f1) (pz 1 f1) (pz 2 f1) (pz 3 f1) (pz 4 f1) f10 f11 (h1 0) (h1 1) (h1 2) ++ (wL g b (pj 7 24 h1) (pj 31 24 h1) (pj 55 6 h1) (pj 3 4 h1) (pz 0 h1) (pz 1 h1) (pz 2 h1) (pz 3 h1) (pz 4 h1) h10 h11 (h1 0) (h1 1) (h1 2))) := hD
  obtain ⟨hP0, hP1⟩ := va_P_app.mp hP
  refine lv_aload_n hx hb dX1_becomes_54 rfl (lv_at hl 1 rfl) ?_
  refine xg_X1 hx hb hts hown hK hP1 0 rfl 5 (by decide) fk_X1_18 (v := .ref (b 3)) rfl dX1_becomes_55 ?_
  refine lv_iconst (v := iI (0)) hx hb dX1_becomes_58 (by decide) ?_
  refine lv_aload_n hx hb dX1_becomes_59 rfl (lv_at hl 0 rfl) ?_
  refine xg_X1 hx hb hts hown hK hP0 0 rfl 5 (by decide) fk_X1_18 (v := .ref (a 3)) rfl dX1_becomes_60 ?_
  refine lv_iconst (v := iI (0)) hx hb dX1_becomes_63 (by decide) ?_
  refine lv_bipush (v := iI (6)) hx hb dX1_becomes_64 (by decide) ?_
  refine xj_cpi hx hb hml hown hts hK hl mk_X1_55 hP hD hS 15 3 (f := pj 55 6 h1) (h := pj 55 6 f1) rfl rfl (sp := 0) (dp := 0) (k := 6) ⟨by omega, by omega, by omega, by omega, by omega⟩ (Nat.le_of_ble_eq_true rfl) rfl dX1_becomes_66 (F := pj 55 6 h1) (cy_q 55 6 h1 f1) (fun H locs hP hD hS => ?_)
  have hP : va_P g.1 vwCl (wL g a (pj 7 24 h1) (pj 31 24 h1) (pj 55 6 h1) (pj 3 4 f1) (pz 0 f1) (pz 1 f1) (pz 2 f1) (pz 3 f1) (pz 4 f1) f10 f11 (h1 0) (h1 1) (h1 2) ++ (wL g b (pj 7 24 h1) (pj 31 24 h1) (pj 55 6 h1) (pj 3 4 h1) (pz 0 h1) (pz 1 h1) (pz 2 h1) (pz 3 h1) (pz 4 h1) h10 h11 (h1 0) (h1 1) (h1 2))) H := hP
  have hD : va_D (va_A (wLs g a f1 f10 f11 ++ (wLs g b h1 h10 h11)) s.heap.size) (wL g a (pj 7 24 h1) (pj 31 24 h1) (pj 55 6 h1) (pj 3 4 f1) (pz 0 f1) (pz 1 f1) (pz 2 f1) (pz 3 f1) (pz 4 f1) f10 f11 (h1 0) (h1 1) (h1 2) ++ (wL g b (pj 7 24 h1) (pj 31 24 h1) (pj 55 6 h1) (pj 3 4 h1) (pz 0 h1) (pz 1 h1) (pz 2 h1) (pz 3 h1) (pz 4 h1) h10 h11 (h1 0) (h1 1) (h1 2))) := hD
  obtain ⟨hP0, hP1⟩ := va_P_app.mp hP
  refine lv_aload_n hx hb dX1_becomes_69 rfl (lv_at hl 1 rfl) ?_
  refine xg_X1 hx hb hts hown hK hP1 0 rfl 6 (by decide) fk_X1_21 (v := .ref (b 4)) rfl dX1_becomes_70 ?_
  refine lv_iconst (v := iI (0)) hx hb dX1_becomes_73 (by decide) ?_
  refine lv_aload_n hx hb dX1_becomes_74 rfl (lv_at hl 0 rfl) ?_
  refine xg_X1 hx hb hts hown hK hP0 0 rfl 6 (by decide) fk_X1_21 (v := .ref (a 4)) rfl dX1_becomes_75 ?_
  refine lv_iconst (v := iI (0)) hx hb dX1_becomes_78 (by decide) ?_
  refine lv_iconst (v := iI (4)) hx hb dX1_becomes_79 (by decide) ?_
  refine xj_cpi hx hb hml hown hts hK hl mk_X1_55 hP hD hS 16 4 (f := pj 3 4 h1) (h := pj 3 4 f1) rfl rfl (sp := 0) (dp := 0) (k := 4) ⟨by omega, by omega, by omega, by omega, by omega⟩ (Nat.le_of_ble_eq_true rfl) rfl dX1_becomes_80 (F := pj 3 4 h1) (cy_q 3 4 h1 f1) (fun H locs hP hD hS => ?_)
  have hP : va_P g.1 vwCl (wL g a (pj 7 24 h1) (pj 31 24 h1) (pj 55 6 h1) (pj 3 4 h1) (pz 0 f1) (pz 1 f1) (pz 2 f1) (pz 3 f1) (pz 4 f1) f10 f11 (h1 0) (h1 1) (h1 2) ++ (wL g b (pj 7 24 h1) (pj 31 24 h1) (pj 55 6 h1) (pj 3 4 h1) (pz 0 h1) (pz 1 h1) (pz 2 h1) (pz 3 h1) (pz 4 h1) h10 h11 (h1 0) (h1 1) (h1 2))) H := hP
  have hD : va_D (va_A (wLs g a f1 f10 f11 ++ (wLs g b h1 h10 h11)) s.heap.size) (wL g a (pj 7 24 h1) (pj 31 24 h1) (pj 55 6 h1) (pj 3 4 h1) (pz 0 f1) (pz 1 f1) (pz 2 f1) (pz 3 f1) (pz 4 f1) f10 f11 (h1 0) (h1 1) (h1 2) ++ (wL g b (pj 7 24 h1) (pj 31 24 h1) (pj 55 6 h1) (pj 3 4 h1) (pz 0 h1) (pz 1 h1) (pz 2 h1) (pz 3 h1) (pz 4 h1) h10 h11 (h1 0) (h1 1) (h1 2))) := hD
  obtain ⟨hP0, hP1⟩ := va_P_app.mp hP
  refine lv_aload_n hx hb dX1_becomes_83 rfl (lv_at hl 1 rfl) ?_
  refine xg_X1 hx hb hts hown hK hP1 0 rfl 7 (by decide) fk_X1_24 (v := .ref (b 5)) rfl dX1_becomes_84 ?_
  refine lv_iconst (v := iI (0)) hx hb dX1_becomes_87 (by decide) ?_
  refine lv_aload_n hx hb dX1_becomes_88 rfl (lv_at hl 0 rfl) ?_
  refine xg_X1 hx hb hts hown hK hP0 0 rfl 7 (by decide) fk_X1_24 (v := .ref (a 5)) rfl dX1_becomes_89 ?_
  refine lv_iconst (v := iI (0)) hx hb dX1_becomes_92 (by decide) ?_
  refine lv_bipush (v := iI (8)) hx hb dX1_becomes_93 (by decide) ?_
  refine xj_cpi hx hb hml hown hts hK hl mk_X1_55 hP hD hS 17 5 (f := pz 0 h1) (h := pz 0 f1) rfl rfl (sp := 0) (dp := 0) (k := 8) ⟨by omega, by omega, by omega, by omega, by omega⟩ (Nat.le_of_ble_eq_true rfl) rfl dX1_becomes_95 (F := pz 0 h1) (cy_z 0 h1 f1) (fun H locs hP hD hS => ?_)
  have hP : va_P g.1 vwCl (wL g a (pj 7 24 h1) (pj 31 24 h1) (pj 55 6 h1) (pj 3 4 h1) (pz 0 h1) (pz 1 f1) (pz 2 f1) (pz 3 f1) (pz 4 f1) f10 f11 (h1 0) (h1 1) (h1 2) ++ (wL g b (pj 7 24 h1) (pj 31 24 h1) (pj 55 6 h1) (pj 3 4 h1) (pz 0 h1) (pz 1 h1) (pz 2 h1) (pz 3 h1) (pz 4 h1) h10 h11 (h1 0) (h1 1) (h1 2))) H := hP
  have hD : va_D (va_A (wLs g a f1 f10 f11 ++ (wLs g b h1 h10 h11)) s.heap.size) (wL g a (pj 7 24 h1) (pj 31 24 h1) (pj 55 6 h1) (pj 3 4 h1) (pz 0 h1) (pz 1 f1) (pz 2 f1) (pz 3 f1) (pz 4 f1) f10 f11 (h1 0) (h1 1) (h1 2) ++ (wL g b (pj 7 24 h1) (pj 31 24 h1) (pj 55 6 h1) (pj 3 4 h1) (pz 0 h1) (pz 1 h1) (pz 2 h1) (pz 3 h1) (pz 4 h1) h10 h11 (h1 0) (h1 1) (h1 2))) := hD
  obtain ⟨hP0, hP1⟩ := va_P_app.mp hP
  refine lv_aload_n hx hb dX1_becomes_98 rfl (lv_at hl 1 rfl) ?_
  refine xg_X1 hx hb hts hown hK hP1 0 rfl 8 (by decide) fk_X1_27 (v := .ref (b 6)) rfl dX1_becomes_99 ?_
  refine lv_iconst (v := iI (0)) hx hb dX1_becomes_102 (by decide) ?_
  refine lv_aload_n hx hb dX1_becomes_103 rfl (lv_at hl 0 rfl) ?_
  refine xg_X1 hx hb hts hown hK hP0 0 rfl 8 (by decide) fk_X1_27 (v := .ref (a 6)) rfl dX1_becomes_104 ?_
  refine lv_iconst (v := iI (0)) hx hb dX1_becomes_107 (by decide) ?_
  refine lv_bipush (v := iI (8)) hx hb dX1_becomes_108 (by decide) ?_
  refine xj_cpi hx hb hml hown hts hK hl mk_X1_55 hP hD hS 18 6 (f := pz 1 h1) (h := pz 1 f1) rfl rfl (sp := 0) (dp := 0) (k := 8) ⟨by omega, by omega, by omega, by omega, by omega⟩ (Nat.le_of_ble_eq_true rfl) rfl dX1_becomes_110 (F := pz 1 h1) (cy_z 1 h1 f1) (fun H locs hP hD hS => ?_)
  have hP : va_P g.1 vwCl (wL g a (pj 7 24 h1) (pj 31 24 h1) (pj 55 6 h1) (pj 3 4 h1) (pz 0 h1) (pz 1 h1) (pz 2 f1) (pz 3 f1) (pz 4 f1) f10 f11 (h1 0) (h1 1) (h1 2) ++ (wL g b (pj 7 24 h1) (pj 31 24 h1) (pj 55 6 h1) (pj 3 4 h1) (pz 0 h1) (pz 1 h1) (pz 2 h1) (pz 3 h1) (pz 4 h1) h10 h11 (h1 0) (h1 1) (h1 2))) H := hP
  have hD : va_D (va_A (wLs g a f1 f10 f11 ++ (wLs g b h1 h10 h11)) s.heap.size) (wL g a (pj 7 24 h1) (pj 31 24 h1) (pj 55 6 h1) (pj 3 4 h1) (pz 0 h1) (pz 1 h1) (pz 2 f1) (pz 3 f1) (pz 4 f1) f10 f11 (h1 0) (h1 1) (h1 2) ++ (wL g b (pj 7 24 h1) (pj 31 24 h1) (pj 55 6 h1) (pj 3 4 h1) (pz 0 h1) (pz 1 h1) (pz 2 h1) (pz 3 h1) (pz 4 h1) h10 h11 (h1 0) (h1 1) (h1 2))) := hD
  obtain ⟨hP0, hP1⟩ := va_P_app.mp hP
  refine lv_aload_n hx hb dX1_becomes_113 rfl (lv_at hl 1 rfl) ?_
  refine xg_X1 hx hb hts hown hK hP1 0 rfl 9 (by decide) fk_X1_30 (v := .ref (b 7)) rfl dX1_becomes_114 ?_
  refine lv_iconst (v := iI (0)) hx hb dX1_becomes_117 (by decide) ?_
  refine lv_aload_n hx hb dX1_becomes_118 rfl (lv_at hl 0 rfl) ?_
  refine xg_X1 hx hb hts hown hK hP0 0 rfl 9 (by decide) fk_X1_30 (v := .ref (a 7)) rfl dX1_becomes_119 ?_
  refine lv_iconst (v := iI (0)) hx hb dX1_becomes_122 (by decide) ?_
  refine lv_bipush (v := iI (8)) hx hb dX1_becomes_123 (by decide) ?_
  refine xj_cpi hx hb hml hown hts hK hl mk_X1_55 hP hD hS 19 7 (f := pz 2 h1) (h := pz 2 f1) rfl rfl (sp := 0) (dp := 0) (k := 8) ⟨by omega, by omega, by omega, by omega, by omega⟩ (Nat.le_of_ble_eq_true rfl) rfl dX1_becomes_125 (F := pz 2 h1) (cy_z 2 h1 f1) (fun H locs hP hD hS => ?_)
  have hP : va_P g.1 vwCl (wL g a (pj 7 24 h1) (pj 31 24 h1) (pj 55 6 h1) (pj 3 4 h1) (pz 0 h1) (pz 1 h1) (pz 2 h1) (pz 3 f1) (pz 4 f1) f10 f11 (h1 0) (h1 1) (h1 2) ++ (wL g b (pj 7 24 h1) (pj 31 24 h1) (pj 55 6 h1) (pj 3 4 h1) (pz 0 h1) (pz 1 h1) (pz 2 h1) (pz 3 h1) (pz 4 h1) h10 h11 (h1 0) (h1 1) (h1 2))) H := hP
  have hD : va_D (va_A (wLs g a f1 f10 f11 ++ (wLs g b h1 h10 h11)) s.heap.size) (wL g a (pj 7 24 h1) (pj 31 24 h1) (pj 55 6 h1) (pj 3 4 h1) (pz 0 h1) (pz 1 h1) (pz 2 h1) (pz 3 f1) (pz 4 f1) f10 f11 (h1 0) (h1 1) (h1 2) ++ (wL g b (pj 7 24 h1) (pj 31 24 h1) (pj 55 6 h1) (pj 3 4 h1) (pz 0 h1) (pz 1 h1) (pz 2 h1) (pz 3 h1) (pz 4 h1) h10 h11 (h1 0) (h1 1) (h1 2))) := hD
  obtain ⟨hP0, hP1⟩ := va_P_app.mp hP
  refine lv_aload_n hx hb dX1_becomes_128 rfl (lv_at hl 1 rfl) ?_
  refine xg_X1 hx hb hts hown hK hP1 0 rfl 10 (by decide) fk_X1_33 (v := .ref (b 8)) rfl dX1_becomes_129 ?_
  refine lv_iconst (v := iI (0)) hx hb dX1_becomes_132 (by decide) ?_
  refine lv_aload_n hx hb dX1_becomes_133 rfl (lv_at hl 0 rfl) ?_
  refine xg_X1 hx hb hts hown hK hP0 0 rfl 10 (by decide) fk_X1_33 (v := .ref (a 8)) rfl dX1_becomes_134 ?_
  refine lv_iconst (v := iI (0)) hx hb dX1_becomes_137 (by decide) ?_
  refine lv_bipush (v := iI (8)) hx hb dX1_becomes_138 (by decide) ?_
  refine xj_cpi hx hb hml hown hts hK hl mk_X1_55 hP hD hS 20 8 (f := pz 3 h1) (h := pz 3 f1) rfl rfl (sp := 0) (dp := 0) (k := 8) ⟨by omega, by omega, by omega, by omega, by omega⟩ (Nat.le_of_ble_eq_true rfl) rfl dX1_becomes_140 (F := pz 3 h1) (cy_z 3 h1 f1) (fun H locs hP hD hS => ?_)
  have hP : va_P g.1 vwCl (wL g a (pj 7 24 h1) (pj 31 24 h1) (pj 55 6 h1) (pj 3 4 h1) (pz 0 h1) (pz 1 h1) (pz 2 h1) (pz 3 h1) (pz 4 f1) f10 f11 (h1 0) (h1 1) (h1 2) ++ (wL g b (pj 7 24 h1) (pj 31 24 h1) (pj 55 6 h1) (pj 3 4 h1) (pz 0 h1) (pz 1 h1) (pz 2 h1) (pz 3 h1) (pz 4 h1) h10 h11 (h1 0) (h1 1) (h1 2))) H := hP
  have hD : va_D (va_A (wLs g a f1 f10 f11 ++ (wLs g b h1 h10 h11)) s.heap.size) (wL g a (pj 7 24 h1) (pj 31 24 h1) (pj 55 6 h1) (pj 3 4 h1) (pz 0 h1) (pz 1 h1) (pz 2 h1) (pz 3 h1) (pz 4 f1) f10 f11 (h1 0) (h1 1) (h1 2) ++ (wL g b (pj 7 24 h1) (pj 31 24 h1) (pj 55 6 h1) (pj 3 4 h1) (pz 0 h1) (pz 1 h1) (pz 2 h1) (pz 3 h1) (pz 4 h1) h10 h11 (h1 0) (h1 1) (h1 2))) := hD
  obtain ⟨hP0, hP1⟩ := va_P_app.mp hP
  refine lv_aload_n hx hb dX1_becomes_143 rfl (lv_at hl 1 rfl) ?_
  refine xg_X1 hx hb hts hown hK hP1 0 rfl 11 (by decide) fk_X1_36 (v := .ref (b 9)) rfl dX1_becomes_144 ?_
  refine lv_iconst (v := iI (0)) hx hb dX1_becomes_147 (by decide) ?_
  refine lv_aload_n hx hb dX1_becomes_148 rfl (lv_at hl 0 rfl) ?_
  refine xg_X1 hx hb hts hown hK hP0 0 rfl 11 (by decide) fk_X1_36 (v := .ref (a 9)) rfl dX1_becomes_149 ?_
  refine lv_iconst (v := iI (0)) hx hb dX1_becomes_152 (by decide) ?_
  refine lv_bipush (v := iI (8)) hx hb dX1_becomes_153 (by decide) ?_
  refine xj_cpi hx hb hml hown hts hK hl mk_X1_55 hP hD hS 21 9 (f := pz 4 h1) (h := pz 4 f1) rfl rfl (sp := 0) (dp := 0) (k := 8) ⟨by omega, by omega, by omega, by omega, by omega⟩ (Nat.le_of_ble_eq_true rfl) rfl dX1_becomes_155 (F := pz 4 h1) (cy_z 4 h1 f1) (fun H locs hP hD hS => ?_)
  have hP : va_P g.1 vwCl (wL g a (pj 7 24 h1) (pj 31 24 h1) (pj 55 6 h1) (pj 3 4 h1) (pz 0 h1) (pz 1 h1) (pz 2 h1) (pz 3 h1) (pz 4 h1) f10 f11 (h1 0) (h1 1) (h1 2) ++ (wL g b (pj 7 24 h1) (pj 31 24 h1) (pj 55 6 h1) (pj 3 4 h1) (pz 0 h1) (pz 1 h1) (pz 2 h1) (pz 3 h1) (pz 4 h1) h10 h11 (h1 0) (h1 1) (h1 2))) H := hP
  have hD : va_D (va_A (wLs g a f1 f10 f11 ++ (wLs g b h1 h10 h11)) s.heap.size) (wL g a (pj 7 24 h1) (pj 31 24 h1) (pj 55 6 h1) (pj 3 4 h1) (pz 0 h1) (pz 1 h1) (pz 2 h1) (pz 3 h1) (pz 4 h1) f10 f11 (h1 0) (h1 1) (h1 2) ++ (wL g b (pj 7 24 h1) (pj 31 24 h1) (pj 55 6 h1) (pj 3 4 h1) (pz 0 h1) (pz 1 h1) (pz 2 h1) (pz 3 h1) (pz 4 h1) h10 h11 (h1 0) (h1 1) (h1 2))) := hD
  obtain ⟨hP0, hP1⟩ := va_P_app.mp hP
  have hP : va_P g.1 vwCl (wLs g a h1 f10 f11 ++ (wLs g b h1 h10 h11)) H := hP
  have hD : va_D (va_A (wLs g a f1 f10 f11 ++ (wLs g b h1 h10 h11)) s.heap.size) (wLs g a h1 f10 f11 ++ (wLs g b h1 h10 h11)) := hD
  obtain ⟨hP0, hP1⟩ := va_P_app.mp hP
  have hP : va_P g.1 vwCl (wLs g a h1 f10 f11 ++ (wLs g b h1 h10 h11)) H := hP
  have hD : va_D (va_A (wLs g a f1 f10 f11 ++ (wLs g b h1 h10 h11)) s.heap.size) (wLs g a h1 f10 f11 ++ (wLs g b h1 h10 h11)) := hD
  exact W.vret hx hb hr (fun t ht hW => ⟨⟨(), rfl, trivial, by rw [ht]; exact hP, hD⟩, hS.F ht⟩) hS.2.2 dX1_becomes_158
abbrev rm_X1_putInOrder : Room := { frames := 1, cells := 0, slots := 0, locals := 21 }
set_option maxRecDepth 100000 in
set_option maxHeartbeats 4000000 in
theorem c_X1_putInOrder (l : Launch) (g : Gd) (a : Nat → Nat) (f1 : Int → Int) (f10 : Int → Int) (f11 : Int → Int) (sz : Nat) (h1 : Inv f1) : Met l yX1_putInOrder (wsOf yX1_putInOrder cX1_putInOrder 4 none) rm_X1_putInOrder (PX g (wP g (wLs g a f1 f10 f11) sz) [.ref (a 0)]) (QMv g (fun u9 : Nat → Int → Int => wLs g a f1 (u9 10) (u9 11)) (fun u9 => ∀ i : Int, 0 ≤ i → i < f1 1 → u9 11 i = ord f1 i) (va_A (wLs g a f1 f10 f11) sz)) 0 0 (va_A (wLs g a f1 f10 f11) sz) := by
  refine me (g := g) (by decide) rfl ?_
  intro pq eq s mq below meth cq C hnm hB ls hl
  obtain ⟨hx, hb, hr, hml, hown, hts, hlocks, hK⟩ := C
  have hown : s.vm.findClass RX1 = some mq.cls := hown
  have hl : lv_has ls 4 [(0, .ref (a 0))] := hl
  obtain ⟨hsz, hP, hD0⟩ := hB
  subst hsz
  have hD := hD0.self (sz := s.heap.size)
  have hA : ∀ q : Nat, s.heap.size ≤ q → va_A (wLs g a f1 f10 f11) s.heap.size q := fun q h => Or.inr h
  have hS : va_S (va_A (wLs g a f1 f10 f11) s.heap.size) s.heap s.heap [] := va_S.rf
  have hI := h1
  have hn := hI.num
  have hs := hI.sea
  refine lv_iconst (v := iI (0)) hx hb dX1_putInOrder_0 (by decide) ?_
  refine lv_istore_n (lv' := [(1, .int (iI 0)), (0, .ref (a 0))]) hx hb dX1_putInOrder_1 rfl hl (by decide) rfl (fun ls hl => ?_)
  have lp2 : ∀ (n2 : Nat) (k : Nat) (w9 : Int → Int) (t9 : Int → Int), ((k : Int) ≤ f1 1) → (∀ q : Int, 0 ≤ q → q < k → w9 q = val f1 q) → (RKs f1 t9 k) → 8 - k < n2 → ∀ ls : Array Slot, lv_has ls 4 [(1, .int (iI (k : Int))), (0, .ref (a 0))] → ∀ (H : Heap) (locs : List Loc), va_P g.1 vwCl (wLs g a f1 w9 t9) H → va_D (va_A (wLs g a f1 f10 f11) s.heap.size) (wLs g a f1 w9 t9) → va_S (va_A (wLs g a f1 f10 f11) s.heap.size) s.heap H locs → W pq l eq rm_X1_putInOrder s mq [.ref (a 0)].toArray below meth cq H locs 0 0 (MQ below (QMv g (fun u9 : Nat → Int → Int => wLs g a f1 (u9 10) (u9 11)) (fun u9 => ∀ i : Int, 0 ≤ i → i < f1 1 → u9 11 i = ord f1 i) (va_A (wLs g a f1 f10 f11) s.heap.size)) [.ref (a 0)].toArray s 0 0 (va_A (wLs g a f1 f10 f11) s.heap.size)) (F0 mq 2 ls []) := by
    intro n2
    induction n2 with
    | zero => intro k w9 t9 i2_1 i2_2 i2_3 hm; exact absurd hm (Nat.not_lt_zero _)
    | succ n2 ih2 =>
      intro k w9 t9 i2_1 i2_2 i2_3 hm2 ls hl H locs hP hD hS
      refine lv_iload_n hx hb dX1_putInOrder_2 rfl (lv_at hl 0 rfl) ?_
      refine lv_aload_n hx hb dX1_putInOrder_3 rfl (lv_at hl 1 rfl) ?_
      refine xg_X1 hx hb hts hown hK hP 0 rfl 1 (by decide) fk_X1_49 (v := .int (iI (f1 1))) rfl dX1_putInOrder_4 ?_
      refine xi_c_ge (tgt := 79) hx hb ⟨by omega, by omega⟩ ⟨by omega, by omega⟩ dX1_putInOrder_7 (by decide) (fun z1 => ?_) (fun z1 => ?_)
      · have hj : ∀ i : Int, 0 ≤ i → i < f1 1 → t9 i = ord f1 i := fun i i0 i1 => RKs_ord i2_3 (by omega) i0 i1
        have hP : va_P g.1 vwCl (wLs g a f1 ((su (su (fun _ _ => 0) 10 w9) 11 t9) 10) ((su (su (fun _ _ => 0) 10 w9) 11 t9) 11)) H := hP
        have hD : va_D (va_A (wLs g a f1 f10 f11) s.heap.size) (wLs g a f1 ((su (su (fun _ _ => 0) 10 w9) 11 t9) 10) ((su (su (fun _ _ => 0) 10 w9) 11 t9) 11)) := hD
        exact W.vret hx hb hr (fun t ht hW => ⟨⟨(su (su (fun _ _ => 0) 10 w9) 11 t9), rfl, hj, by rw [ht]; exact hP, hD⟩, hS.F ht⟩) hS.2.2 dX1_putInOrder_79
      · have hvk := val_b hI (r := (k : Int)) (by omega) (by omega)
        refine lv_aload_n hx hb dX1_putInOrder_10 rfl (lv_at hl 1 rfl) ?_
        refine lv_iload_n hx hb dX1_putInOrder_11 rfl (lv_at hl 0 rfl) ?_
        refine xu_i (x := iI (val f1 (k : Int))) (rV (rest := []) hx hb hml hown hts hK hl (c_X1_worth l g a f1 w9 t9 (k : Int) (show 0 ≤ (k : Int) ∧ (k : Int) < 8 from by omega)) lk_X1_85 hP (va_recv hK.1 hP (ci := 1) (q0 := 0) rfl rfl) rfl rfl rfl (Rm.of rfl) rfl rfl dX1_putInOrder_12) ?_
        refine lv_istore_n (lv' := [(2, .int (iI (val f1 (k : Int)))), (1, .int (iI (k : Int))), (0, .ref (a 0))]) hx hb dX1_putInOrder_15 rfl hl (by decide) rfl (fun ls hl => ?_)
        refine lv_aload_n hx hb dX1_putInOrder_16 rfl (lv_at hl 2 rfl) ?_
        refine xg_X1 hx hb hts hown hK hP 0 rfl 12 (by decide) fk_X1_39 (v := .ref (a 10)) rfl dX1_putInOrder_17 ?_
        refine lv_iload_n hx hb dX1_putInOrder_20 rfl (lv_at hl 1 rfl) ?_
        refine lv_iload_n hx hb dX1_putInOrder_21 rfl (lv_at hl 0 rfl) ?_
        refine xi_ast hx hb hK hP hD hS 10 (f := w9) rfl (i := (k : Int)) (v := val f1 (k : Int)) ⟨by omega, by omega⟩ rfl dX1_putInOrder_22 (fun H locs hP hD hS => ?_)
        have hP : va_P g.1 vwCl (wLs g a f1 (up w9 (k : Int) (val f1 (k : Int))) t9) H := hP
        have hD : va_D (va_A (wLs g a f1 f10 f11) s.heap.size) (wLs g a f1 (up w9 (k : Int) (val f1 (k : Int))) t9) := hD
        refine lv_iload_n hx hb dX1_putInOrder_23 rfl (lv_at hl 1 rfl) ?_
        refine lv_istore_n (lv' := [(3, .int (iI (k : Int))), (2, .int (iI (val f1 (k : Int)))), (1, .int (iI (k : Int))), (0, .ref (a 0))]) hx hb dX1_putInOrder_24 rfl hl (by decide) rfl (fun ls hl => ?_)
        have lp25 : ∀ (n25 : Nat) (p : Int), (0 ≤ p ∧ p ≤ k) → (∀ i : Int, p ≤ i → i < k → gf f1 k (t9 i)) → p.toNat < n25 → ∀ ls : Array Slot, lv_has ls 4 [(3, .int (iI p)), (2, .int (iI (val f1 (k : Int)))), (1, .int (iI (k : Int))), (0, .ref (a 0))] → ∀ (H : Heap) (locs : List Loc), va_P g.1 vwCl (wLs g a f1 (up w9 (k : Int) (val f1 (k : Int))) (sfT t9 p k)) H → va_D (va_A (wLs g a f1 f10 f11) s.heap.size) (wLs g a f1 (up w9 (k : Int) (val f1 (k : Int))) (sfT t9 p k)) → va_S (va_A (wLs g a f1 f10 f11) s.heap.size) s.heap H locs → W pq l eq rm_X1_putInOrder s mq [.ref (a 0)].toArray below meth cq H locs 0 0 (MQ below (QMv g (fun u9 : Nat → Int → Int => wLs g a f1 (u9 10) (u9 11)) (fun u9 => ∀ i : Int, 0 ≤ i → i < f1 1 → u9 11 i = ord f1 i) (va_A (wLs g a f1 f10 f11) s.heap.size)) [.ref (a 0)].toArray s 0 0 (va_A (wLs g a f1 f10 f11) s.heap.size)) (F0 mq 25 ls []) := by
          intro n25
          induction n25 with
          | zero => intro p i25_1 i25_2 hm; exact absurd hm (Nat.not_lt_zero _)
          | succ n25 ih25 =>
            intro p i25_1 i25_2 hm25 ls hl H locs hP hD hS
            refine lv_iload_n hx hb dX1_putInOrder_25 rfl (lv_at hl 0 rfl) ?_
            refine xi_z_le (tgt := 66) hx hb ⟨by omega, by omega⟩ dX1_putInOrder_26 (by decide) (fun z3 => ?_) (fun z3 => ?_)
            · have hstop : 0 < p → ¬ gf f1 k (t9 (p - 1)) := fun z => by omega
              refine lv_aload_n hx hb dX1_putInOrder_66 rfl (lv_at hl 3 rfl) ?_
              refine xg_X1 hx hb hts hown hK hP 0 rfl 13 (by decide) fk_X1_42 (v := .ref (a 11)) rfl dX1_putInOrder_67 ?_
              refine lv_iload_n hx hb dX1_putInOrder_70 rfl (lv_at hl 0 rfl) ?_
              refine lv_iload_n hx hb dX1_putInOrder_71 rfl (lv_at hl 2 rfl) ?_
              refine xi_ast hx hb hK hP hD hS 11 (f := sfT t9 p k) rfl (i := p) (v := (k : Int)) ⟨by omega, by omega⟩ rfl dX1_putInOrder_72 (fun H locs hP hD hS => ?_)
              have hP : va_P g.1 vwCl (wLs g a f1 (up w9 (k : Int) (val f1 (k : Int))) (up (sfT t9 p k) p (k : Int))) H := hP
              have hD : va_D (va_A (wLs g a f1 f10 f11) s.heap.size) (wLs g a f1 (up w9 (k : Int) (val f1 (k : Int))) (up (sfT t9 p k) p (k : Int))) := hD
              refine xi_inc (lv' := [(1, .int (iI ((k : Int) + 1))), (3, .int (iI p)), (2, .int (iI (val f1 (k : Int)))), (0, .ref (a 0))]) hx hb dX1_putInOrder_73 hl (k := 2) rfl (by decide) rfl (fun ls hl => ?_)
              refine lv_goto (tgt := 2) hx hb dX1_putInOrder_76 (by decide) ?_
              have hq4 : ((k : Int) + 1) = ((k + 1) : Int) := by omega
              have hl : lv_has ls 4 [(1, .int (iI ((k : Int) + 1))), (0, .ref (a 0))] := lv_sub hl [0, 3] rfl
              have hl := Eq.mp (congrArg (fun z9 => lv_has ls 4 [(1, .int (iI z9)), (0, .ref (a 0))]) hq4) hl
              exact ih2 (k + 1) (up w9 (k : Int) (val f1 (k : Int))) (up (sfT t9 p k) p (k : Int)) (by omega) (fun q h0 h1 => if h : q = (k : Int) then (by rw [h, up_s]) else (by rw [up_n h]; exact i2_2 q h0 (by omega))) (RKs_ins i2_3 i25_1.1 i25_1.2 i25_2 hstop) (by omega) ls hl H locs hP hD hS
            · have htp := (i2_3 (p - 1) (by omega) (by omega)).1
              have hsf : sfT t9 p k (p - 1) = t9 (p - 1) := sfT_lo (by omega)
              have hvt := val_b hI (r := t9 (p - 1)) (by omega) (by omega)
              have hvv : up w9 (k : Int) (val f1 (k : Int)) (sfT t9 p k (p - 1)) = val f1 (t9 (p - 1)) := by rw [hsf, up_n (by omega)]; exact i2_2 _ (by omega) (by omega)
              refine lv_aload_n hx hb dX1_putInOrder_29 rfl (lv_at hl 3 rfl) ?_
              refine xg_X1 hx hb hts hown hK hP 0 rfl 12 (by decide) fk_X1_39 (v := .ref (a 10)) rfl dX1_putInOrder_30 ?_
              refine lv_aload_n hx hb dX1_putInOrder_33 rfl (lv_at hl 3 rfl) ?_
              refine xg_X1 hx hb hts hown hK hP 0 rfl 13 (by decide) fk_X1_42 (v := .ref (a 11)) rfl dX1_putInOrder_34 ?_
              refine lv_iload_n hx hb dX1_putInOrder_37 rfl (lv_at hl 0 rfl) ?_
              refine lv_iconst (v := iI (1)) hx hb dX1_putInOrder_38 (by decide) ?_
              refine xi_sub hx hb dX1_putInOrder_39 ?_
              refine xi_ald hx hb hK hP 11 (f := sfT t9 p k) rfl (i := p - 1) ⟨by omega, by omega⟩ rfl dX1_putInOrder_40 ?_
              refine xi_ald hx hb hK hP 10 (f := up w9 (k : Int) (val f1 (k : Int))) rfl (i := (sfT t9 p k) (p - 1)) ⟨by omega, by omega⟩ rfl dX1_putInOrder_41 ?_
              refine lv_iload_n hx hb dX1_putInOrder_42 rfl (lv_at hl 1 rfl) ?_
              refine xi_c_le (tgt := 66) hx hb ⟨by omega, by omega⟩ ⟨by omega, by omega⟩ dX1_putInOrder_43 (by decide) (fun z5 => ?_) (fun z5 => ?_)
              · have hstop : 0 < p → ¬ gf f1 k (t9 (p - 1)) := fun _ z => by rcases z with z | z <;> omega
                refine lv_aload_n hx hb dX1_putInOrder_66 rfl (lv_at hl 3 rfl) ?_
                refine xg_X1 hx hb hts hown hK hP 0 rfl 13 (by decide) fk_X1_42 (v := .ref (a 11)) rfl dX1_putInOrder_67 ?_
                refine lv_iload_n hx hb dX1_putInOrder_70 rfl (lv_at hl 0 rfl) ?_
                refine lv_iload_n hx hb dX1_putInOrder_71 rfl (lv_at hl 2 rfl) ?_
                refine xi_ast hx hb hK hP hD hS 11 (f := sfT t9 p k) rfl (i := p) (v := (k : Int)) ⟨by omega, by omega⟩ rfl dX1_putInOrder_72 (fun H locs hP hD hS => ?_)
                have hP : va_P g.1 vwCl (wLs g a f1 (up w9 (k : Int) (val f1 (k : Int))) (up (sfT t9 p k) p (k : Int))) H := hP
                have hD : va_D (va_A (wLs g a f1 f10 f11) s.heap.size) (wLs g a f1 (up w9 (k : Int) (val f1 (k : Int))) (up (sfT t9 p k) p (k : Int))) := hD
                refine xi_inc (lv' := [(1, .int (iI ((k : Int) + 1))), (3, .int (iI p)), (2, .int (iI (val f1 (k : Int)))), (0, .ref (a 0))]) hx hb dX1_putInOrder_73 hl (k := 2) rfl (by decide) rfl (fun ls hl => ?_)
                refine lv_goto (tgt := 2) hx hb dX1_putInOrder_76 (by decide) ?_
                have hq6 : ((k : Int) + 1) = ((k + 1) : Int) := by omega
                have hl : lv_has ls 4 [(1, .int (iI ((k : Int) + 1))), (0, .ref (a 0))] := lv_sub hl [0, 3] rfl
                have hl := Eq.mp (congrArg (fun z9 => lv_has ls 4 [(1, .int (iI z9)), (0, .ref (a 0))]) hq6) hl
                exact ih2 (k + 1) (up w9 (k : Int) (val f1 (k : Int))) (up (sfT t9 p k) p (k : Int)) (by omega) (fun q h0 h1 => if h : q = (k : Int) then (by rw [h, up_s]) else (by rw [up_n h]; exact i2_2 q h0 (by omega))) (RKs_ins i2_3 i25_1.1 i25_1.2 i25_2 hstop) (by omega) ls hl H locs hP hD hS
              · refine lv_aload_n hx hb dX1_putInOrder_46 rfl (lv_at hl 3 rfl) ?_
                refine xg_X1 hx hb hts hown hK hP 0 rfl 13 (by decide) fk_X1_42 (v := .ref (a 11)) rfl dX1_putInOrder_47 ?_
                refine lv_iload_n hx hb dX1_putInOrder_50 rfl (lv_at hl 0 rfl) ?_
                refine lv_aload_n hx hb dX1_putInOrder_51 rfl (lv_at hl 3 rfl) ?_
                refine xg_X1 hx hb hts hown hK hP 0 rfl 13 (by decide) fk_X1_42 (v := .ref (a 11)) rfl dX1_putInOrder_52 ?_
                refine lv_iload_n hx hb dX1_putInOrder_55 rfl (lv_at hl 0 rfl) ?_
                refine lv_iconst (v := iI (1)) hx hb dX1_putInOrder_56 (by decide) ?_
                refine xi_sub hx hb dX1_putInOrder_57 ?_
                refine xi_ald hx hb hK hP 11 (f := sfT t9 p k) rfl (i := p - 1) ⟨by omega, by omega⟩ rfl dX1_putInOrder_58 ?_
                refine xi_ast hx hb hK hP hD hS 11 (f := sfT t9 p k) rfl (i := p) (v := (sfT t9 p k) (p - 1)) ⟨by omega, by omega⟩ rfl dX1_putInOrder_59 (fun H locs hP hD hS => ?_)
                have hP : va_P g.1 vwCl (wLs g a f1 (up w9 (k : Int) (val f1 (k : Int))) (up (sfT t9 p k) p ((sfT t9 p k) (p - 1)))) H := hP
                have hD : va_D (va_A (wLs g a f1 f10 f11) s.heap.size) (wLs g a f1 (up w9 (k : Int) (val f1 (k : Int))) (up (sfT t9 p k) p ((sfT t9 p k) (p - 1)))) := hD
                refine xi_inc (lv' := [(3, .int (iI (p + (-1)))), (2, .int (iI (val f1 (k : Int)))), (1, .int (iI (k : Int))), (0, .ref (a 0))]) hx hb dX1_putInOrder_60 hl (k := 0) rfl (by decide) rfl (fun ls hl => ?_)
                refine lv_goto (tgt := 25) hx hb dX1_putInOrder_63 (by decide) ?_
                have hq7 : (p + (-1)) = (p - 1) := by omega
                have hl : lv_has ls 4 [(3, .int (iI (p + (-1)))), (2, .int (iI (val f1 (k : Int)))), (1, .int (iI (k : Int))), (0, .ref (a 0))] := lv_sub hl [0, 1, 2, 3] rfl
                have hl := Eq.mp (congrArg (fun z9 => lv_has ls 4 [(3, .int (iI z9)), (2, .int (iI (val f1 (k : Int)))), (1, .int (iI (k : Int))), (0, .ref (a 0))]) hq7) hl
                have hq8 : (up (sfT t9 p k) p ((sfT t9 p k) (p - 1))) = (sfT t9 (p - 1) k) := sfT_S t9 i25_1.2 rfl
                have hP := Eq.mp (congrArg (fun z9 => va_P g.1 vwCl (wLs g a f1 (up w9 (k : Int) (val f1 (k : Int))) z9) H) hq8) hP
                have hD := Eq.mp (congrArg (fun z9 => va_D (va_A (wLs g a f1 f10 f11) s.heap.size) (wLs g a f1 (up w9 (k : Int) (val f1 (k : Int))) z9)) hq8) hD
                exact ih25 (p - 1) (by omega) (fun i h0 h1 => if h : i = p - 1 then (by rw [h]; left; omega) else i25_2 i (by omega) h1) (by omega) ls hl H locs hP hD hS
        have hq9 : t9 = (sfT t9 (k : Int) k) := sfT_0 t9 k
        have hP := Eq.mp (congrArg (fun z9 => va_P g.1 vwCl (wLs g a f1 (up w9 (k : Int) (val f1 (k : Int))) z9) H) hq9) hP
        have hD := Eq.mp (congrArg (fun z9 => va_D (va_A (wLs g a f1 f10 f11) s.heap.size) (wLs g a f1 (up w9 (k : Int) (val f1 (k : Int))) z9)) hq9) hD
        exact lp25 (8 + 1) (k : Int) (by omega) (fun i h0 h1 => by omega) (by omega) ls (lv_sub hl [0, 1, 2, 3] rfl) H locs hP hD hS
  have hq10 : 0 = (0 : Int) := rfl
  have hl : lv_has ls 4 [(1, .int (iI 0)), (0, .ref (a 0))] := lv_sub hl [0, 1] rfl
  have hl := Eq.mp (congrArg (fun z9 => lv_has ls 4 [(1, .int (iI z9)), (0, .ref (a 0))]) hq10) hl
  exact lp2 (8 + 1) 0 f10 f11 (by omega) (fun q h0 h1 => by omega) (fun i h0 h1 => by omega) (by omega) ls hl s.heap [] hP hD hS
abbrev rm_X1_whoGoesBefore : Room := { frames := 2, cells := 0, slots := 0, locals := 44 }
set_option maxRecDepth 100000 in
set_option maxHeartbeats 4000000 in
theorem c_X1_whoGoesBefore (l : Launch) (g : Gd) (a : Nat → Nat) (f1 : Int → Int) (f10 : Int → Int) (f11 : Int → Int) (q : Int) (sz : Nat) (h1 : Inv f1) (h2 : 0 ≤ q ∧ q < f1 1) : Met l yX1_whoGoesBefore (wsOf yX1_whoGoesBefore cX1_whoGoesBefore 4 (some .int)) rm_X1_whoGoesBefore (PX g (wP g (wLs g a f1 f10 f11) sz) [.ref (a 0), .int (iI q)]) (QMi g (fun u9 : Nat → Int → Int => wLs g a f1 (u9 10) (u9 11)) (fun r9 _ => r9 = iI (raT f1 q (f1 1).toNat)) (va_A (wLs g a f1 f10 f11) sz)) 0 0 (va_A (wLs g a f1 f10 f11) sz) := by
  refine me (g := g) (by decide) rfl ?_
  intro pq eq s mq below meth cq C hnm hB ls hl
  obtain ⟨hx, hb, hr, hml, hown, hts, hlocks, hK⟩ := C
  have hown : s.vm.findClass RX1 = some mq.cls := hown
  have hl : lv_has ls 4 [(0, .ref (a 0)), (1, .int (iI q))] := hl
  obtain ⟨hsz, hP, hD0⟩ := hB
  subst hsz
  have hD := hD0.self (sz := s.heap.size)
  have hA : ∀ q : Nat, s.heap.size ≤ q → va_A (wLs g a f1 f10 f11) s.heap.size q := fun q h => Or.inr h
  have hS : va_S (va_A (wLs g a f1 f10 f11) s.heap.size) s.heap s.heap [] := va_S.rf
  have hI := h1
  have hn := hI.num
  have hs := hI.sea
  have hrk := rank_b hn.1 h2.1 h2.2
  have hoq := ord_of h2.1 h2.2
  refine lv_aload_n hx hb dX1_whoGoesBefore_0 rfl (lv_at hl 0 rfl) ?_
  refine xm_v (rV (rest := []) hx hb hml hown hts hK hl (c_X1_putInOrder l g a f1 f10 f11 (s.heap).size (show Inv f1 from h1)) lk_X1_88 ⟨rfl, hP, hD.weaken (fun _ _ _ _ => trivial)⟩ (va_recv hK.1 hP (ci := 1) (q0 := 0) rfl rfl) rfl rfl rfl (Rm.of rfl) rfl rfl dX1_whoGoesBefore_1) hD hS hA (fun u1 H locs hw hP hD hS => ?_)
  have hw1 : ∀ i : Int, 0 ≤ i → i < f1 1 → u1 11 i = ord f1 i := hw
  have hP : va_P g.1 vwCl (wLs g a f1 (u1 10) (u1 11)) H := hP
  have hD : va_D (va_A (wLs g a f1 f10 f11) s.heap.size) (wLs g a f1 (u1 10) (u1 11)) := hD
  refine lv_iconst (v := iI (-1)) hx hb dX1_whoGoesBefore_4 (by decide) ?_
  refine lv_istore_n (lv' := [(2, .int (iI (-1))), (0, .ref (a 0)), (1, .int (iI q))]) hx hb dX1_whoGoesBefore_5 rfl hl (by decide) rfl (fun ls hl => ?_)
  refine lv_iconst (v := iI (0)) hx hb dX1_whoGoesBefore_6 (by decide) ?_
  refine lv_istore_n (lv' := [(3, .int (iI 0)), (2, .int (iI (-1))), (0, .ref (a 0)), (1, .int (iI q))]) hx hb dX1_whoGoesBefore_7 rfl hl (by decide) rfl (fun ls hl => ?_)
  have lp8 : ∀ (n8 : Nat) (j : Nat) (b9 : Int), ((j : Int) ≤ rank f1 q) → (b9 = if (j : Int) = 0 then -1 else ord f1 ((j : Int) - 1)) → 8 - j < n8 → ∀ ls : Array Slot, lv_has ls 4 [(3, .int (iI (j : Int))), (2, .int (iI b9)), (0, .ref (a 0)), (1, .int (iI q))] → ∀ (H : Heap) (locs : List Loc), va_P g.1 vwCl (wLs g a f1 (u1 10) (u1 11)) H → va_D (va_A (wLs g a f1 f10 f11) s.heap.size) (wLs g a f1 (u1 10) (u1 11)) → va_S (va_A (wLs g a f1 f10 f11) s.heap.size) s.heap H locs → W pq l eq rm_X1_whoGoesBefore s mq [.ref (a 0), .int (iI q)].toArray below meth cq H locs 0 0 (MQ below (QMi g (fun u9 : Nat → Int → Int => wLs g a f1 (u9 10) (u9 11)) (fun r9 _ => r9 = iI (raT f1 q (f1 1).toNat)) (va_A (wLs g a f1 f10 f11) s.heap.size)) [.ref (a 0), .int (iI q)].toArray s 0 0 (va_A (wLs g a f1 f10 f11) s.heap.size)) (F0 mq 8 ls []) := by
    intro n8
    induction n8 with
    | zero => intro j b9 i8_1 i8_2 hm; exact absurd hm (Nat.not_lt_zero _)
    | succ n8 ih8 =>
      intro j b9 i8_1 i8_2 hm8 ls hl H locs hP hD hS
      refine lv_iload_n hx hb dX1_whoGoesBefore_8 rfl (lv_at hl 0 rfl) ?_
      refine lv_aload_n hx hb dX1_whoGoesBefore_9 rfl (lv_at hl 2 rfl) ?_
      refine xg_X1 hx hb hts hown hK hP 0 rfl 1 (by decide) fk_X1_49 (v := .int (iI (f1 1))) rfl dX1_whoGoesBefore_10 ?_
      refine xi_c_ge (tgt := 39) hx hb ⟨by omega, by omega⟩ ⟨by omega, by omega⟩ dX1_whoGoesBefore_13 (by decide) (fun z2 => ?_) (fun z2 => ?_)
      · refine lv_iload_n hx hb dX1_whoGoesBefore_39 rfl (lv_at hl 1 rfl) ?_
        have hP : va_P g.1 vwCl (wLs g a f1 ((su (su (fun _ _ => 0) 10 (u1 10)) 11 (u1 11)) 10) ((su (su (fun _ _ => 0) 10 (u1 10)) 11 (u1 11)) 11)) H := hP
        have hD : va_D (va_A (wLs g a f1 f10 f11) s.heap.size) (wLs g a f1 ((su (su (fun _ _ => 0) 10 (u1 10)) 11 (u1 11)) 10) ((su (su (fun _ _ => 0) 10 (u1 10)) 11 (u1 11)) 11)) := hD
        exact W.iret hx hb hr (fun t ht hW => ⟨⟨_, (su (su (fun _ _ => 0) 10 (u1 10)) 11 (u1 11)), rfl, congrArg iI (by rw [raT_ord hn.1 h2.1 h2.2, i8_2]; first | (exfalso; omega) | (have hj : rank f1 q = (j : Int) := (by rw [← hob.2.2, ← hoj]; congr 1; omega); rw [hj])), by rw [ht]; exact hP, hD⟩, hS.F ht⟩) hS.2.2 dX1_whoGoesBefore_40
      · have hoj := hw1 (j : Int) (by omega) (by omega)
        have hob := ord_spec (s := f1) (i := (j : Int)) (by omega) (by omega)
        refine lv_aload_n hx hb dX1_whoGoesBefore_16 rfl (lv_at hl 2 rfl) ?_
        refine xg_X1 hx hb hts hown hK hP 0 rfl 13 (by decide) fk_X1_42 (v := .ref (a 11)) rfl dX1_whoGoesBefore_17 ?_
        refine lv_iload_n hx hb dX1_whoGoesBefore_20 rfl (lv_at hl 0 rfl) ?_
        refine xi_ald hx hb hK hP 11 (f := u1 11) rfl (i := (j : Int)) ⟨by omega, by omega⟩ rfl dX1_whoGoesBefore_21 ?_
        refine lv_iload_n hx hb dX1_whoGoesBefore_22 rfl (lv_at hl 3 rfl) ?_
        refine xi_c_eq (tgt := 39) hx hb ⟨by omega, by omega⟩ ⟨by omega, by omega⟩ dX1_whoGoesBefore_23 (by decide) (fun z3 => ?_) (fun z3 => ?_)
        · refine lv_iload_n hx hb dX1_whoGoesBefore_39 rfl (lv_at hl 1 rfl) ?_
          have hP : va_P g.1 vwCl (wLs g a f1 ((su (su (fun _ _ => 0) 10 (u1 10)) 11 (u1 11)) 10) ((su (su (fun _ _ => 0) 10 (u1 10)) 11 (u1 11)) 11)) H := hP
          have hD : va_D (va_A (wLs g a f1 f10 f11) s.heap.size) (wLs g a f1 ((su (su (fun _ _ => 0) 10 (u1 10)) 11 (u1 11)) 10) ((su (su (fun _ _ => 0) 10 (u1 10)) 11 (u1 11)) 11)) := hD
          exact W.iret hx hb hr (fun t ht hW => ⟨⟨_, (su (su (fun _ _ => 0) 10 (u1 10)) 11 (u1 11)), rfl, congrArg iI (by rw [raT_ord hn.1 h2.1 h2.2, i8_2]; first | (exfalso; omega) | (have hj : rank f1 q = (j : Int) := (by rw [← hob.2.2, ← hoj]; congr 1; omega); rw [hj])), by rw [ht]; exact hP, hD⟩, hS.F ht⟩) hS.2.2 dX1_whoGoesBefore_40
        · refine lv_aload_n hx hb dX1_whoGoesBefore_26 rfl (lv_at hl 2 rfl) ?_
          refine xg_X1 hx hb hts hown hK hP 0 rfl 13 (by decide) fk_X1_42 (v := .ref (a 11)) rfl dX1_whoGoesBefore_27 ?_
          refine lv_iload_n hx hb dX1_whoGoesBefore_30 rfl (lv_at hl 0 rfl) ?_
          refine xi_ald hx hb hK hP 11 (f := u1 11) rfl (i := (j : Int)) ⟨by omega, by omega⟩ rfl dX1_whoGoesBefore_31 ?_
          refine lv_istore_n (lv' := [(2, .int (iI ((u1 11) (j : Int)))), (3, .int (iI (j : Int))), (0, .ref (a 0)), (1, .int (iI q))]) hx hb dX1_whoGoesBefore_32 rfl hl (by decide) rfl (fun ls hl => ?_)
          refine xi_inc (lv' := [(3, .int (iI ((j : Int) + 1))), (2, .int (iI ((u1 11) (j : Int)))), (0, .ref (a 0)), (1, .int (iI q))]) hx hb dX1_whoGoesBefore_33 hl (k := 1) rfl (by decide) rfl (fun ls hl => ?_)
          refine lv_goto (tgt := 8) hx hb dX1_whoGoesBefore_36 (by decide) ?_
          have hq4 : ((j : Int) + 1) = ((j + 1) : Int) := by omega
          have hl : lv_has ls 4 [(3, .int (iI ((j : Int) + 1))), (2, .int (iI ((u1 11) (j : Int)))), (0, .ref (a 0)), (1, .int (iI q))] := lv_sub hl [0, 1, 2, 3] rfl
          have hl := Eq.mp (congrArg (fun z9 => lv_has ls 4 [(3, .int (iI z9)), (2, .int (iI ((u1 11) (j : Int)))), (0, .ref (a 0)), (1, .int (iI q))]) hq4) hl
          exact ih8 (j + 1) ((u1 11) (j : Int)) (by have : (j : Int) ≠ rank f1 q := fun z => by { rw [← z] at hoq; omega }; omega) (by rw [if_neg (by omega), show ((j + 1 : Nat) : Int) - 1 = (j : Int) by omega]; exact hoj) (by omega) ls hl H locs hP hD hS
  have hq5 : 0 = (0 : Int) := rfl
  have hl : lv_has ls 4 [(3, .int (iI 0)), (2, .int (iI (-1))), (0, .ref (a 0)), (1, .int (iI q))] := lv_sub hl [0, 1, 2, 3] rfl
  have hl := Eq.mp (congrArg (fun z9 => lv_has ls 4 [(3, .int (iI z9)), (2, .int (iI (-1))), (0, .ref (a 0)), (1, .int (iI q))]) hq5) hl
  exact lp8 (8 + 1) 0 (-1) (by omega) (if_pos (by omega)).symm (by omega) ls hl H locs hP hD hS
abbrev rm_X1_goStride : Room := { frames := 1, cells := 0, slots := 0, locals := 21 }
set_option maxRecDepth 100000 in
set_option maxHeartbeats 4000000 in
theorem c_X1_goStride (l : Launch) (g : Gd) (a : Nat → Nat) (f1 : Int → Int) (f10 : Int → Int) (f11 : Int → Int) (r : Int) (st : Int) (x : Int32) (y : Int32) (sz : Nat) (h1 : InvK 7 f1) (h2 : 0 ≤ r ∧ r < f1 1) (h3 : st = stride f1 r) (h4 : x = orT (shT f1) 24) (h5 : y = orT (plT f1) (f1 1).toNat) : Met l yX1_goStride (wsOf yX1_goStride cX1_goStride 9 (some .int)) rm_X1_goStride (PX g (wP g (wLs g a f1 f10 f11) sz) [.ref (a 0), .int (iI r), .int (iI st), .int x, .int y]) (QMi g (fun _ : Unit => wLs g a (goOne f1 r) f10 f11) (fun r9 _ => r9 = orT (plT (goOne f1 r)) (f1 1).toNat) (va_A (wLs g a f1 f10 f11) sz)) 0 0 (va_A (wLs g a f1 f10 f11) sz) := by
  refine me (g := g) (by decide) rfl ?_
  intro pq eq s mq below meth cq C hnm hB ls hl
  obtain ⟨hx, hb, hr, hml, hown, hts, hlocks, hK⟩ := C
  have hown : s.vm.findClass RX1 = some mq.cls := hown
  have hl : lv_has ls 9 [(0, .ref (a 0)), (1, .int (iI r)), (2, .int (iI st)), (3, .int x), (4, .int y)] := hl
  obtain ⟨hsz, hP, hD0⟩ := hB
  subst hsz
  have hD := hD0.self (sz := s.heap.size)
  have hA : ∀ q : Nat, s.heap.size ≤ q → va_A (wLs g a f1 f10 f11) s.heap.size q := fun q h => Or.inr h
  have hS : va_S (va_A (wLs g a f1 f10 f11) s.heap.size) s.heap s.heap [] := va_S.rf
  have hI := h1
  have hn := hI.num
  have hs := hI.sea
  have hst := stride_b (hI.mono (show (7 : Int) ≤ 8 by omega)) h2.1 h2.2
  have hcr := hI.ran r h2.1 h2.2
  have hblk : ∀ a9 c9 : Int, 0 ≤ c9 ∧ c9 ≤ 23 → c9 ≠ a9 → (bt (x ||| (y &&& (bit (f1 (61 + 5 * r + 1)) ^^^ iI (-1)))) c9.toNat = true ↔ ¬ (opn (up f1 (61 + 5 * r + 1) a9) c9 ∧ who (up f1 (61 + 5 * r + 1) a9) c9 < 0)) := fun a9 c9 hc hne => by rw [h4, h5]; exact blk_iff hI h2.1 h2.2 hc hne
  refine lv_aload_n hx hb dX1_goStride_0 rfl (lv_at hl 0 rfl) ?_
  refine xg_X1 hx hb hts hown hK hP 0 rfl 8 (by decide) fk_X1_27 (v := .ref (a 6)) rfl dX1_goStride_1 ?_
  refine lv_iload_n hx hb dX1_goStride_4 rfl (lv_at hl 1 rfl) ?_
  refine xi_alz hx hb hK hP 6 (s0 := f1) rfl (i := r) ⟨by omega, by omega⟩ rfl dX1_goStride_5 ?_
  refine lv_istore (lv' := [(5, .int (iI (f1 (61 + 5 * r + 1)))), (0, .ref (a 0)), (1, .int (iI r)), (2, .int (iI st)), (3, .int x), (4, .int y)]) hx hb dX1_goStride_6 hl (by decide) rfl (fun ls hl => ?_)
  refine lv_iload hx hb dX1_goStride_8 (lv_at hl 5 rfl) ?_
  refine lv_iconst (v := iI (1)) hx hb dX1_goStride_10 (by decide) ?_
  refine lv_iload hx hb dX1_goStride_11 (lv_at hl 0 rfl) ?_
  refine lv_ishl hx hb dX1_goStride_13 ?_
  refine lv_iconst (v := iI (-1)) hx hb dX1_goStride_14 (by decide) ?_
  refine lv_ixor hx hb dX1_goStride_15 ?_
  refine lv_iand hx hb dX1_goStride_16 ?_
  refine lv_istore (lv' := [(6, .int ((y) &&& (((((iI 1) <<< ((iI (f1 (61 + 5 * r + 1))) &&& 31))) ^^^ (iI (-1)))))), (5, .int (iI (f1 (61 + 5 * r + 1)))), (0, .ref (a 0)), (1, .int (iI r)), (2, .int (iI st)), (3, .int x), (4, .int y)]) hx hb dX1_goStride_17 hl (by decide) rfl (fun ls hl => ?_)
  refine lv_iload_n hx hb dX1_goStride_19 rfl (lv_at hl 5 rfl) ?_
  refine lv_iload hx hb dX1_goStride_20 (lv_at hl 0 rfl) ?_
  refine lv_ior hx hb dX1_goStride_22 ?_
  refine lv_istore (lv' := [(7, .int ((x) ||| (((y) &&& (((((iI 1) <<< ((iI (f1 (61 + 5 * r + 1))) &&& 31))) ^^^ (iI (-1)))))))), (6, .int ((y) &&& (((((iI 1) <<< ((iI (f1 (61 + 5 * r + 1))) &&& 31))) ^^^ (iI (-1)))))), (5, .int (iI (f1 (61 + 5 * r + 1)))), (0, .ref (a 0)), (1, .int (iI r)), (2, .int (iI st)), (3, .int x), (4, .int y)]) hx hb dX1_goStride_23 hl (by decide) rfl (fun ls hl => ?_)
  refine lv_iconst (v := iI (0)) hx hb dX1_goStride_25 (by decide) ?_
  refine lv_istore (lv' := [(8, .int (iI 0)), (7, .int ((x) ||| (((y) &&& (((((iI 1) <<< ((iI (f1 (61 + 5 * r + 1))) &&& 31))) ^^^ (iI (-1)))))))), (6, .int ((y) &&& (((((iI 1) <<< ((iI (f1 (61 + 5 * r + 1))) &&& 31))) ^^^ (iI (-1)))))), (5, .int (iI (f1 (61 + 5 * r + 1)))), (0, .ref (a 0)), (1, .int (iI r)), (2, .int (iI st)), (3, .int x), (4, .int y)]) hx hb dX1_goStride_26 hl (by decide) rfl (fun ls hl => ?_)
  have lp28 : ∀ (n28 : Nat) (a9 : Int) (g9 : Int), (0 ≤ a9 ∧ a9 ≤ 23) → (0 ≤ g9 ∧ g9 ≤ st) → (gOne r st (st - g9).toNat (up f1 (61 + 5 * r + 1) a9) g9 = gOne r st st.toNat f1 0) → (st - g9).toNat < n28 → ∀ ls : Array Slot, lv_has ls 9 [(8, .int (iI g9)), (7, .int ((x) ||| (((y) &&& (((((iI 1) <<< ((iI (f1 (61 + 5 * r + 1))) &&& 31))) ^^^ (iI (-1)))))))), (6, .int ((y) &&& (((((iI 1) <<< ((iI (f1 (61 + 5 * r + 1))) &&& 31))) ^^^ (iI (-1)))))), (5, .int (iI a9)), (0, .ref (a 0)), (1, .int (iI r)), (2, .int (iI st)), (3, .int x), (4, .int y)] → ∀ (H : Heap) (locs : List Loc), va_P g.1 vwCl (wLs g a f1 f10 f11) H → va_D (va_A (wLs g a f1 f10 f11) s.heap.size) (wLs g a f1 f10 f11) → va_S (va_A (wLs g a f1 f10 f11) s.heap.size) s.heap H locs → W pq l eq rm_X1_goStride s mq [.ref (a 0), .int (iI r), .int (iI st), .int x, .int y].toArray below meth cq H locs 0 0 (MQ below (QMi g (fun _ : Unit => wLs g a (goOne f1 r) f10 f11) (fun r9 _ => r9 = orT (plT (goOne f1 r)) (f1 1).toNat) (va_A (wLs g a f1 f10 f11) s.heap.size)) [.ref (a 0), .int (iI r), .int (iI st), .int x, .int y].toArray s 0 0 (va_A (wLs g a f1 f10 f11) s.heap.size)) (F0 mq 28 ls []) := by
    intro n28
    induction n28 with
    | zero => intro a9 g9 i28_1 i28_2 i28_3 hm; exact absurd hm (Nat.not_lt_zero _)
    | succ n28 ih28 =>
      intro a9 g9 i28_1 i28_2 i28_3 hm28 ls hl H locs hP hD hS
      have hba := bh_b i28_1
      have hbn := bh_ne i28_1
      refine lv_iload hx hb dX1_goStride_28 (lv_at hl 0 rfl) ?_
      refine lv_iload_n hx hb dX1_goStride_30 rfl (lv_at hl 6 rfl) ?_
      refine xi_c_ge (tgt := 60) hx hb ⟨by omega, by omega⟩ ⟨by omega, by omega⟩ dX1_goStride_31 (by decide) (fun z1 => ?_) (fun z1 => ?_)
      · have hF := gst_end i28_3 (by omega)
        refine lv_aload_n hx hb dX1_goStride_60 rfl (lv_at hl 4 rfl) ?_
        refine xg_X1 hx hb hts hown hK hP 0 rfl 8 (by decide) fk_X1_27 (v := .ref (a 6)) rfl dX1_goStride_61 ?_
        refine lv_iload_n hx hb dX1_goStride_64 rfl (lv_at hl 5 rfl) ?_
        refine lv_iload hx hb dX1_goStride_65 (lv_at hl 3 rfl) ?_
        refine xi_ast hx hb hK hP hD hS 6 (f := pz 1 f1) rfl (i := r) (v := a9) ⟨by omega, by omega⟩ rfl dX1_goStride_67 (fun H locs hP hD hS => ?_)
        have hP := Eq.mp (congrArg (fun z9 : va_W => va_P g.1 vwCl (z9) H) (Ls_cells (g := g) (a := a) (s := f1) (x10 := f10) (x11 := f11) (i := r) (v := a9) ⟨by omega, by omega⟩)) hP
        have hD := Eq.mp (congrArg (fun z9 : va_W => va_D (va_A (wLs g a f1 f10 f11) s.heap.size) (z9)) (Ls_cells (g := g) (a := a) (s := f1) (x10 := f10) (x11 := f11) (i := r) (v := a9) ⟨by omega, by omega⟩)) hD
        have hP : va_P g.1 vwCl (wLs g a (up f1 (61 + 5 * r + 1) a9) f10 f11) H := hP
        have hD : va_D (va_A (wLs g a f1 f10 f11) s.heap.size) (wLs g a (up f1 (61 + 5 * r + 1) a9) f10 f11) := hD
        refine lv_aload_n hx hb dX1_goStride_68 rfl (lv_at hl 4 rfl) ?_
        refine xg_X1 hx hb hts hown hK hP 0 rfl 10 (by decide) fk_X1_33 (v := .ref (a 8)) rfl dX1_goStride_69 ?_
        refine lv_iload_n hx hb dX1_goStride_72 rfl (lv_at hl 5 rfl) ?_
        refine lv_dup2_11 hx hb dX1_goStride_73 rfl rfl ?_
        refine xi_alz hx hb hK hP 8 (s0 := up f1 (61 + 5 * r + 1) a9) rfl (i := r) ⟨by omega, by omega⟩ rfl dX1_goStride_74 ?_
        refine lv_iload hx hb dX1_goStride_75 (lv_at hl 0 rfl) ?_
        refine xi_add hx hb dX1_goStride_77 ?_
        refine xi_ast hx hb hK hP hD hS 8 (f := pz 3 (up f1 (61 + 5 * r + 1) a9)) rfl (i := r) (v := (up f1 (61 + 5 * r + 1) a9) (61 + 5 * r + 3) + g9) ⟨by omega, by omega⟩ rfl dX1_goStride_78 (fun H locs hP hD hS => ?_)
        have hP := Eq.mp (congrArg (fun z9 : va_W => va_P g.1 vwCl (z9) H) (Ls_steps (g := g) (a := a) (s := up f1 (61 + 5 * r + 1) a9) (x10 := f10) (x11 := f11) (i := r) (v := (up f1 (61 + 5 * r + 1) a9) (61 + 5 * r + 3) + g9) ⟨by omega, by omega⟩)) hP
        have hD := Eq.mp (congrArg (fun z9 : va_W => va_D (va_A (wLs g a f1 f10 f11) s.heap.size) (z9)) (Ls_steps (g := g) (a := a) (s := up f1 (61 + 5 * r + 1) a9) (x10 := f10) (x11 := f11) (i := r) (v := (up f1 (61 + 5 * r + 1) a9) (61 + 5 * r + 3) + g9) ⟨by omega, by omega⟩)) hD
        have hP : va_P g.1 vwCl (wLs g a (up (up f1 (61 + 5 * r + 1) a9) (61 + 5 * r + 3) ((up f1 (61 + 5 * r + 1) a9) (61 + 5 * r + 3) + g9)) f10 f11) H := hP
        have hD : va_D (va_A (wLs g a f1 f10 f11) s.heap.size) (wLs g a (up (up f1 (61 + 5 * r + 1) a9) (61 + 5 * r + 3) ((up f1 (61 + 5 * r + 1) a9) (61 + 5 * r + 3) + g9)) f10 f11) := hD
        refine lv_iload hx hb dX1_goStride_79 (lv_at hl 0 rfl) ?_
        refine lv_iload_n hx hb dX1_goStride_81 rfl (lv_at hl 6 rfl) ?_
        refine xi_c_ge (tgt := 95) hx hb ⟨by omega, by omega⟩ ⟨by omega, by omega⟩ dX1_goStride_82 (by decide) (fun z2 => ?_) (fun z2 => ?_)
        · refine lv_iload hx hb dX1_goStride_95 (lv_at hl 2 rfl) ?_
          refine lv_iconst (v := iI (1)) hx hb dX1_goStride_97 (by decide) ?_
          refine lv_iload hx hb dX1_goStride_98 (lv_at hl 3 rfl) ?_
          refine lv_ishl hx hb dX1_goStride_100 ?_
          refine lv_ior hx hb dX1_goStride_101 ?_
          have he3 : (up (up f1 (61 + 5 * r + 1) a9) (61 + 5 * r + 3) ((up f1 (61 + 5 * r + 1) a9) (61 + 5 * r + 3) + g9)) = (goOne f1 r) := by rw [goOne_of h3 hF]; first | (rw [if_pos (by omega)]; done) | (rw [if_neg (by omega), Int.add_zero, up_self]; done)
          have hP := Eq.mp (congrArg (fun z9 => va_P g.1 vwCl (wLs g a z9 f10 f11) H) he3) hP
          have hD := Eq.mp (congrArg (fun z9 => va_D (va_A (wLs g a f1 f10 f11) s.heap.size) (wLs g a z9 f10 f11)) he3) hD
          have hP : va_P g.1 vwCl (wLs g a (goOne f1 r) f10 f11) H := hP
          have hD : va_D (va_A (wLs g a f1 f10 f11) s.heap.size) (wLs g a (goOne f1 r) f10 f11) := hD
          exact W.iret hx hb hr (fun t ht hW => ⟨⟨_, (), rfl, by rw [h5]; exact gone_bt hI h2.1 h2.2 i28_1 (fun q _ _ => goOne_c h3 hF q), by rw [ht]; exact hP, hD⟩, hS.F ht⟩) hS.2.2 dX1_goStride_102
        · refine lv_aload_n hx hb dX1_goStride_85 rfl (lv_at hl 4 rfl) ?_
          refine xg_X1 hx hb hts hown hK hP 0 rfl 11 (by decide) fk_X1_36 (v := .ref (a 9)) rfl dX1_goStride_86 ?_
          refine lv_iload_n hx hb dX1_goStride_89 rfl (lv_at hl 5 rfl) ?_
          refine lv_dup2_11 hx hb dX1_goStride_90 rfl rfl ?_
          refine xi_alz hx hb hK hP 9 (s0 := up (up f1 (61 + 5 * r + 1) a9) (61 + 5 * r + 3) ((up f1 (61 + 5 * r + 1) a9) (61 + 5 * r + 3) + g9)) rfl (i := r) ⟨by omega, by omega⟩ rfl dX1_goStride_91 ?_
          refine lv_iconst (v := iI (1)) hx hb dX1_goStride_92 (by decide) ?_
          refine xi_add hx hb dX1_goStride_93 ?_
          refine xi_ast hx hb hK hP hD hS 9 (f := pz 4 (up (up f1 (61 + 5 * r + 1) a9) (61 + 5 * r + 3) ((up f1 (61 + 5 * r + 1) a9) (61 + 5 * r + 3) + g9))) rfl (i := r) (v := (up (up f1 (61 + 5 * r + 1) a9) (61 + 5 * r + 3) ((up f1 (61 + 5 * r + 1) a9) (61 + 5 * r + 3) + g9)) (61 + 5 * r + 4) + 1) ⟨by omega, by omega⟩ rfl dX1_goStride_94 (fun H locs hP hD hS => ?_)
          have hP := Eq.mp (congrArg (fun z9 : va_W => va_P g.1 vwCl (z9) H) (Ls_waits (g := g) (a := a) (s := up (up f1 (61 + 5 * r + 1) a9) (61 + 5 * r + 3) ((up f1 (61 + 5 * r + 1) a9) (61 + 5 * r + 3) + g9)) (x10 := f10) (x11 := f11) (i := r) (v := (up (up f1 (61 + 5 * r + 1) a9) (61 + 5 * r + 3) ((up f1 (61 + 5 * r + 1) a9) (61 + 5 * r + 3) + g9)) (61 + 5 * r + 4) + 1) ⟨by omega, by omega⟩)) hP
          have hD := Eq.mp (congrArg (fun z9 : va_W => va_D (va_A (wLs g a f1 f10 f11) s.heap.size) (z9)) (Ls_waits (g := g) (a := a) (s := up (up f1 (61 + 5 * r + 1) a9) (61 + 5 * r + 3) ((up f1 (61 + 5 * r + 1) a9) (61 + 5 * r + 3) + g9)) (x10 := f10) (x11 := f11) (i := r) (v := (up (up f1 (61 + 5 * r + 1) a9) (61 + 5 * r + 3) ((up f1 (61 + 5 * r + 1) a9) (61 + 5 * r + 3) + g9)) (61 + 5 * r + 4) + 1) ⟨by omega, by omega⟩)) hD
          have hP : va_P g.1 vwCl (wLs g a (up (up (up f1 (61 + 5 * r + 1) a9) (61 + 5 * r + 3) ((up f1 (61 + 5 * r + 1) a9) (61 + 5 * r + 3) + g9)) (61 + 5 * r + 4) ((up (up f1 (61 + 5 * r + 1) a9) (61 + 5 * r + 3) ((up f1 (61 + 5 * r + 1) a9) (61 + 5 * r + 3) + g9)) (61 + 5 * r + 4) + 1)) f10 f11) H := hP
          have hD : va_D (va_A (wLs g a f1 f10 f11) s.heap.size) (wLs g a (up (up (up f1 (61 + 5 * r + 1) a9) (61 + 5 * r + 3) ((up f1 (61 + 5 * r + 1) a9) (61 + 5 * r + 3) + g9)) (61 + 5 * r + 4) ((up (up f1 (61 + 5 * r + 1) a9) (61 + 5 * r + 3) ((up f1 (61 + 5 * r + 1) a9) (61 + 5 * r + 3) + g9)) (61 + 5 * r + 4) + 1)) f10 f11) := hD
          refine lv_iload hx hb dX1_goStride_95 (lv_at hl 2 rfl) ?_
          refine lv_iconst (v := iI (1)) hx hb dX1_goStride_97 (by decide) ?_
          refine lv_iload hx hb dX1_goStride_98 (lv_at hl 3 rfl) ?_
          refine lv_ishl hx hb dX1_goStride_100 ?_
          refine lv_ior hx hb dX1_goStride_101 ?_
          have he4 : (up (up (up f1 (61 + 5 * r + 1) a9) (61 + 5 * r + 3) ((up f1 (61 + 5 * r + 1) a9) (61 + 5 * r + 3) + g9)) (61 + 5 * r + 4) ((up (up f1 (61 + 5 * r + 1) a9) (61 + 5 * r + 3) ((up f1 (61 + 5 * r + 1) a9) (61 + 5 * r + 3) + g9)) (61 + 5 * r + 4) + 1)) = (goOne f1 r) := by rw [goOne_of h3 hF]; first | (rw [if_pos (by omega)]; done) | (rw [if_neg (by omega), Int.add_zero, up_self]; done)
          have hP := Eq.mp (congrArg (fun z9 => va_P g.1 vwCl (wLs g a z9 f10 f11) H) he4) hP
          have hD := Eq.mp (congrArg (fun z9 => va_D (va_A (wLs g a f1 f10 f11) s.heap.size) (wLs g a z9 f10 f11)) he4) hD
          have hP : va_P g.1 vwCl (wLs g a (goOne f1 r) f10 f11) H := hP
          have hD : va_D (va_A (wLs g a f1 f10 f11) s.heap.size) (wLs g a (goOne f1 r) f10 f11) := hD
          exact W.iret hx hb hr (fun t ht hW => ⟨⟨_, (), rfl, by rw [h5]; exact gone_bt hI h2.1 h2.2 i28_1 (fun q _ _ => goOne_c h3 hF q), by rw [ht]; exact hP, hD⟩, hS.F ht⟩) hS.2.2 dX1_goStride_102
      · refine lv_iload hx hb dX1_goStride_34 (lv_at hl 1 rfl) ?_
        refine lv_iload hx hb dX1_goStride_36 (lv_at hl 3 rfl) ?_
        refine xu_i (x := iI (bh a9)) (rSN (rest := [.int ((x) ||| (((y) &&& (((((iI 1) <<< ((iI (f1 (61 + 5 * r + 1))) &&& 31))) ^^^ (iI (-1)))))))]) hx hb hml hown hts hK hl (c_X4_nextCell l g a9 (show 0 ≤ a9 ∧ a9 ≤ 23 from by omega)) lk_X1_65 trivial rfl rfl rfl (Rm.of rfl) rfl rfl dX1_goStride_38) ?_
        refine xu_b (P := bt ((x) ||| (((y) &&& (((((iI 1) <<< ((iI (f1 (61 + 5 * r + 1))) &&& 31))) ^^^ (iI (-1))))))) (Int.toNat (bh a9)) = true) (rSN (rest := []) hx hb hml hown hts hK hl (c_X4_isIn l g ((x) ||| (((y) &&& (((((iI 1) <<< ((iI (f1 (61 + 5 * r + 1))) &&& 31))) ^^^ (iI (-1))))))) (bh a9) (show 0 ≤ (bh a9) ∧ (bh a9) < 32 from by omega)) lk_X1_108 trivial rfl rfl rfl (Rm.of rfl) rfl rfl dX1_goStride_41) (fun z6 => ?_) (fun z6 => ?_)
        · have hgo := (hblk a9 (bh a9) hba hbn).mp (by assumption)
          have hF := gst_stop i28_3 (by omega) hgo
          refine xi_zt_ne (tgt := 60) hx hb ⟨by decide, by decide⟩ (by decide) dX1_goStride_44 (by decide) ?_
          refine lv_aload_n hx hb dX1_goStride_60 rfl (lv_at hl 4 rfl) ?_
          refine xg_X1 hx hb hts hown hK hP 0 rfl 8 (by decide) fk_X1_27 (v := .ref (a 6)) rfl dX1_goStride_61 ?_
          refine lv_iload_n hx hb dX1_goStride_64 rfl (lv_at hl 5 rfl) ?_
          refine lv_iload hx hb dX1_goStride_65 (lv_at hl 3 rfl) ?_
          refine xi_ast hx hb hK hP hD hS 6 (f := pz 1 f1) rfl (i := r) (v := a9) ⟨by omega, by omega⟩ rfl dX1_goStride_67 (fun H locs hP hD hS => ?_)
          have hP := Eq.mp (congrArg (fun z9 : va_W => va_P g.1 vwCl (z9) H) (Ls_cells (g := g) (a := a) (s := f1) (x10 := f10) (x11 := f11) (i := r) (v := a9) ⟨by omega, by omega⟩)) hP
          have hD := Eq.mp (congrArg (fun z9 : va_W => va_D (va_A (wLs g a f1 f10 f11) s.heap.size) (z9)) (Ls_cells (g := g) (a := a) (s := f1) (x10 := f10) (x11 := f11) (i := r) (v := a9) ⟨by omega, by omega⟩)) hD
          have hP : va_P g.1 vwCl (wLs g a (up f1 (61 + 5 * r + 1) a9) f10 f11) H := hP
          have hD : va_D (va_A (wLs g a f1 f10 f11) s.heap.size) (wLs g a (up f1 (61 + 5 * r + 1) a9) f10 f11) := hD
          refine lv_aload_n hx hb dX1_goStride_68 rfl (lv_at hl 4 rfl) ?_
          refine xg_X1 hx hb hts hown hK hP 0 rfl 10 (by decide) fk_X1_33 (v := .ref (a 8)) rfl dX1_goStride_69 ?_
          refine lv_iload_n hx hb dX1_goStride_72 rfl (lv_at hl 5 rfl) ?_
          refine lv_dup2_11 hx hb dX1_goStride_73 rfl rfl ?_
          refine xi_alz hx hb hK hP 8 (s0 := up f1 (61 + 5 * r + 1) a9) rfl (i := r) ⟨by omega, by omega⟩ rfl dX1_goStride_74 ?_
          refine lv_iload hx hb dX1_goStride_75 (lv_at hl 0 rfl) ?_
          refine xi_add hx hb dX1_goStride_77 ?_
          refine xi_ast hx hb hK hP hD hS 8 (f := pz 3 (up f1 (61 + 5 * r + 1) a9)) rfl (i := r) (v := (up f1 (61 + 5 * r + 1) a9) (61 + 5 * r + 3) + g9) ⟨by omega, by omega⟩ rfl dX1_goStride_78 (fun H locs hP hD hS => ?_)
          have hP := Eq.mp (congrArg (fun z9 : va_W => va_P g.1 vwCl (z9) H) (Ls_steps (g := g) (a := a) (s := up f1 (61 + 5 * r + 1) a9) (x10 := f10) (x11 := f11) (i := r) (v := (up f1 (61 + 5 * r + 1) a9) (61 + 5 * r + 3) + g9) ⟨by omega, by omega⟩)) hP
          have hD := Eq.mp (congrArg (fun z9 : va_W => va_D (va_A (wLs g a f1 f10 f11) s.heap.size) (z9)) (Ls_steps (g := g) (a := a) (s := up f1 (61 + 5 * r + 1) a9) (x10 := f10) (x11 := f11) (i := r) (v := (up f1 (61 + 5 * r + 1) a9) (61 + 5 * r + 3) + g9) ⟨by omega, by omega⟩)) hD
          have hP : va_P g.1 vwCl (wLs g a (up (up f1 (61 + 5 * r + 1) a9) (61 + 5 * r + 3) ((up f1 (61 + 5 * r + 1) a9) (61 + 5 * r + 3) + g9)) f10 f11) H := hP
          have hD : va_D (va_A (wLs g a f1 f10 f11) s.heap.size) (wLs g a (up (up f1 (61 + 5 * r + 1) a9) (61 + 5 * r + 3) ((up f1 (61 + 5 * r + 1) a9) (61 + 5 * r + 3) + g9)) f10 f11) := hD
          refine lv_iload hx hb dX1_goStride_79 (lv_at hl 0 rfl) ?_
          refine lv_iload_n hx hb dX1_goStride_81 rfl (lv_at hl 6 rfl) ?_
          refine xi_c_ge (tgt := 95) hx hb ⟨by omega, by omega⟩ ⟨by omega, by omega⟩ dX1_goStride_82 (by decide) (fun z7 => ?_) (fun z7 => ?_)
          · refine lv_iload hx hb dX1_goStride_95 (lv_at hl 2 rfl) ?_
            refine lv_iconst (v := iI (1)) hx hb dX1_goStride_97 (by decide) ?_
            refine lv_iload hx hb dX1_goStride_98 (lv_at hl 3 rfl) ?_
            refine lv_ishl hx hb dX1_goStride_100 ?_
            refine lv_ior hx hb dX1_goStride_101 ?_
            have he8 : (up (up f1 (61 + 5 * r + 1) a9) (61 + 5 * r + 3) ((up f1 (61 + 5 * r + 1) a9) (61 + 5 * r + 3) + g9)) = (goOne f1 r) := by rw [goOne_of h3 hF]; first | (rw [if_pos (by omega)]; done) | (rw [if_neg (by omega), Int.add_zero, up_self]; done)
            have hP := Eq.mp (congrArg (fun z9 => va_P g.1 vwCl (wLs g a z9 f10 f11) H) he8) hP
            have hD := Eq.mp (congrArg (fun z9 => va_D (va_A (wLs g a f1 f10 f11) s.heap.size) (wLs g a z9 f10 f11)) he8) hD
            have hP : va_P g.1 vwCl (wLs g a (goOne f1 r) f10 f11) H := hP
            have hD : va_D (va_A (wLs g a f1 f10 f11) s.heap.size) (wLs g a (goOne f1 r) f10 f11) := hD
            exact W.iret hx hb hr (fun t ht hW => ⟨⟨_, (), rfl, by rw [h5]; exact gone_bt hI h2.1 h2.2 i28_1 (fun q _ _ => goOne_c h3 hF q), by rw [ht]; exact hP, hD⟩, hS.F ht⟩) hS.2.2 dX1_goStride_102
          · refine lv_aload_n hx hb dX1_goStride_85 rfl (lv_at hl 4 rfl) ?_
            refine xg_X1 hx hb hts hown hK hP 0 rfl 11 (by decide) fk_X1_36 (v := .ref (a 9)) rfl dX1_goStride_86 ?_
            refine lv_iload_n hx hb dX1_goStride_89 rfl (lv_at hl 5 rfl) ?_
            refine lv_dup2_11 hx hb dX1_goStride_90 rfl rfl ?_
            refine xi_alz hx hb hK hP 9 (s0 := up (up f1 (61 + 5 * r + 1) a9) (61 + 5 * r + 3) ((up f1 (61 + 5 * r + 1) a9) (61 + 5 * r + 3) + g9)) rfl (i := r) ⟨by omega, by omega⟩ rfl dX1_goStride_91 ?_
            refine lv_iconst (v := iI (1)) hx hb dX1_goStride_92 (by decide) ?_
            refine xi_add hx hb dX1_goStride_93 ?_
            refine xi_ast hx hb hK hP hD hS 9 (f := pz 4 (up (up f1 (61 + 5 * r + 1) a9) (61 + 5 * r + 3) ((up f1 (61 + 5 * r + 1) a9) (61 + 5 * r + 3) + g9))) rfl (i := r) (v := (up (up f1 (61 + 5 * r + 1) a9) (61 + 5 * r + 3) ((up f1 (61 + 5 * r + 1) a9) (61 + 5 * r + 3) + g9)) (61 + 5 * r + 4) + 1) ⟨by omega, by omega⟩ rfl dX1_goStride_94 (fun H locs hP hD hS => ?_)
            have hP := Eq.mp (congrArg (fun z9 : va_W => va_P g.1 vwCl (z9) H) (Ls_waits (g := g) (a := a) (s := up (up f1 (61 + 5 * r + 1) a9) (61 + 5 * r + 3) ((up f1 (61 + 5 * r + 1) a9) (61 + 5 * r + 3) + g9)) (x10 := f10) (x11 := f11) (i := r) (v := (up (up f1 (61 + 5 * r + 1) a9) (61 + 5 * r + 3) ((up f1 (61 + 5 * r + 1) a9) (61 + 5 * r + 3) + g9)) (61 + 5 * r + 4) + 1) ⟨by omega, by omega⟩)) hP
            have hD := Eq.mp (congrArg (fun z9 : va_W => va_D (va_A (wLs g a f1 f10 f11) s.heap.size) (z9)) (Ls_waits (g := g) (a := a) (s := up (up f1 (61 + 5 * r + 1) a9) (61 + 5 * r + 3) ((up f1 (61 + 5 * r + 1) a9) (61 + 5 * r + 3) + g9)) (x10 := f10) (x11 := f11) (i := r) (v := (up (up f1 (61 + 5 * r + 1) a9) (61 + 5 * r + 3) ((up f1 (61 + 5 * r + 1) a9) (61 + 5 * r + 3) + g9)) (61 + 5 * r + 4) + 1) ⟨by omega, by omega⟩)) hD
            have hP : va_P g.1 vwCl (wLs g a (up (up (up f1 (61 + 5 * r + 1) a9) (61 + 5 * r + 3) ((up f1 (61 + 5 * r + 1) a9) (61 + 5 * r + 3) + g9)) (61 + 5 * r + 4) ((up (up f1 (61 + 5 * r + 1) a9) (61 + 5 * r + 3) ((up f1 (61 + 5 * r + 1) a9) (61 + 5 * r + 3) + g9)) (61 + 5 * r + 4) + 1)) f10 f11) H := hP
            have hD : va_D (va_A (wLs g a f1 f10 f11) s.heap.size) (wLs g a (up (up (up f1 (61 + 5 * r + 1) a9) (61 + 5 * r + 3) ((up f1 (61 + 5 * r + 1) a9) (61 + 5 * r + 3) + g9)) (61 + 5 * r + 4) ((up (up f1 (61 + 5 * r + 1) a9) (61 + 5 * r + 3) ((up f1 (61 + 5 * r + 1) a9) (61 + 5 * r + 3) + g9)) (61 + 5 * r + 4) + 1)) f10 f11) := hD
            refine lv_iload hx hb dX1_goStride_95 (lv_at hl 2 rfl) ?_
            refine lv_iconst (v := iI (1)) hx hb dX1_goStride_97 (by decide) ?_
            refine lv_iload hx hb dX1_goStride_98 (lv_at hl 3 rfl) ?_
            refine lv_ishl hx hb dX1_goStride_100 ?_
            refine lv_ior hx hb dX1_goStride_101 ?_
            have he9 : (up (up (up f1 (61 + 5 * r + 1) a9) (61 + 5 * r + 3) ((up f1 (61 + 5 * r + 1) a9) (61 + 5 * r + 3) + g9)) (61 + 5 * r + 4) ((up (up f1 (61 + 5 * r + 1) a9) (61 + 5 * r + 3) ((up f1 (61 + 5 * r + 1) a9) (61 + 5 * r + 3) + g9)) (61 + 5 * r + 4) + 1)) = (goOne f1 r) := by rw [goOne_of h3 hF]; first | (rw [if_pos (by omega)]; done) | (rw [if_neg (by omega), Int.add_zero, up_self]; done)
            have hP := Eq.mp (congrArg (fun z9 => va_P g.1 vwCl (wLs g a z9 f10 f11) H) he9) hP
            have hD := Eq.mp (congrArg (fun z9 => va_D (va_A (wLs g a f1 f10 f11) s.heap.size) (wLs g a z9 f10 f11)) he9) hD
            have hP : va_P g.1 vwCl (wLs g a (goOne f1 r) f10 f11) H := hP
            have hD : va_D (va_A (wLs g a f1 f10 f11) s.heap.size) (wLs g a (goOne f1 r) f10 f11) := hD
            exact W.iret hx hb hr (fun t ht hW => ⟨⟨_, (), rfl, by rw [h5]; exact gone_bt hI h2.1 h2.2 i28_1 (fun q _ _ => goOne_c h3 hF q), by rw [ht]; exact hP, hD⟩, hS.F ht⟩) hS.2.2 dX1_goStride_102
        · have hgo := Classical.not_not.mp (fun z => absurd ((hblk a9 (bh a9) hba hbn).mpr z) (by assumption))
          refine xi_zf_ne hx hb ⟨by decide, by decide⟩ (by decide) dX1_goStride_44 ⟨60, by decide⟩ ?_
          refine lv_iload hx hb dX1_goStride_47 (lv_at hl 3 rfl) ?_
          refine xu_i (x := iI (bh a9)) (rSN (rest := []) hx hb hml hown hts hK hl (c_X4_nextCell l g a9 (show 0 ≤ a9 ∧ a9 ≤ 23 from by omega)) lk_X1_65 trivial rfl rfl rfl (Rm.of rfl) rfl rfl dX1_goStride_49) ?_
          refine lv_istore (lv' := [(5, .int (iI (bh a9))), (8, .int (iI g9)), (7, .int ((x) ||| (((y) &&& (((((iI 1) <<< ((iI (f1 (61 + 5 * r + 1))) &&& 31))) ^^^ (iI (-1)))))))), (6, .int ((y) &&& (((((iI 1) <<< ((iI (f1 (61 + 5 * r + 1))) &&& 31))) ^^^ (iI (-1)))))), (0, .ref (a 0)), (1, .int (iI r)), (2, .int (iI st)), (3, .int x), (4, .int y)]) hx hb dX1_goStride_52 hl (by decide) rfl (fun ls hl => ?_)
          refine xi_inc (lv' := [(8, .int (iI (g9 + 1))), (5, .int (iI (bh a9))), (7, .int ((x) ||| (((y) &&& (((((iI 1) <<< ((iI (f1 (61 + 5 * r + 1))) &&& 31))) ^^^ (iI (-1)))))))), (6, .int ((y) &&& (((((iI 1) <<< ((iI (f1 (61 + 5 * r + 1))) &&& 31))) ^^^ (iI (-1)))))), (0, .ref (a 0)), (1, .int (iI r)), (2, .int (iI st)), (3, .int x), (4, .int y)]) hx hb dX1_goStride_54 hl (k := 1) rfl (by decide) rfl (fun ls hl => ?_)
          refine lv_goto (tgt := 28) hx hb dX1_goStride_57 (by decide) ?_
          exact ih28 (bh a9) (g9 + 1) (by omega) (by omega) (gst_step i28_3 (by omega) hgo) (by omega) ls (lv_sub hl [0, 2, 3, 1, 4, 5, 6, 7, 8] rfl) H locs hP hD hS
  exact lp28 (12 + 1) (f1 (61 + 5 * r + 1)) 0 (by omega) (by omega) gst_0 (by omega) ls (lv_sub hl [0, 1, 2, 3, 4, 5, 6, 7, 8] rfl) s.heap [] hP hD hS
abbrev rm_X1_goSeason : Room := { frames := 2, cells := 0, slots := 0, locals := 49 }
set_option maxRecDepth 100000 in
set_option maxHeartbeats 4000000 in
theorem c_X1_goSeason (l : Launch) (g : Gd) (a : Nat → Nat) (f1 : Int → Int) (f10 : Int → Int) (f11 : Int → Int) (sz : Nat) (h1 : InvK 0 f1) (h2 : f1 0 < 20000) : Met l yX1_goSeason (wsOf yX1_goSeason cX1_goSeason 4 none) rm_X1_goSeason (PX g (wP g (wLs g a f1 f10 f11) sz) [.ref (a 0)]) (QMv g (fun u9 : Nat → Int → Int => wLs g a (sea f1) (u9 10) (u9 11)) (fun _ => True) (va_A (wLs g a f1 f10 f11) sz)) 0 0 (va_A (wLs g a f1 f10 f11) sz) := by
  refine me (g := g) (by decide) rfl ?_
  intro pq eq s mq below meth cq C hnm hB ls hl
  obtain ⟨hx, hb, hr, hml, hown, hts, hlocks, hK⟩ := C
  have hown : s.vm.findClass RX1 = some mq.cls := hown
  have hl : lv_has ls 4 [(0, .ref (a 0))] := hl
  obtain ⟨hsz, hP, hD0⟩ := hB
  subst hsz
  have hD := hD0.self (sz := s.heap.size)
  have hA : ∀ q : Nat, s.heap.size ≤ q → va_A (wLs g a f1 f10 f11) s.heap.size q := fun q h => Or.inr h
  have hS : va_S (va_A (wLs g a f1 f10 f11) s.heap.size) s.heap s.heap [] := va_S.rf
  have hI := h1
  have hI8 : Inv f1 := h1.mono (by omega)
  have hn := hI.num
  have hs := hI.sea
  refine lv_aload_n hx hb dX1_goSeason_0 rfl (lv_at hl 0 rfl) ?_
  refine xm_v (rV (rest := []) hx hb hml hown hts hK hl (c_X1_putInOrder l g a f1 f10 f11 (s.heap).size (show Inv f1 from hI8)) lk_X1_88 ⟨rfl, hP, hD.weaken (fun _ _ _ _ => trivial)⟩ (va_recv hK.1 hP (ci := 1) (q0 := 0) rfl rfl) rfl rfl rfl (Rm.of rfl) rfl rfl dX1_goSeason_1) hD hS hA (fun u1 H locs hw hP hD hS => ?_)
  have hw1 : ∀ i : Int, 0 ≤ i → i < f1 1 → u1 11 i = ord f1 i := hw
  have hP : va_P g.1 vwCl (wLs g a f1 (u1 10) (u1 11)) H := hP
  have hD : va_D (va_A (wLs g a f1 f10 f11) s.heap.size) (wLs g a f1 (u1 10) (u1 11)) := hD
  refine lv_aload_n hx hb dX1_goSeason_4 rfl (lv_at hl 0 rfl) ?_
  refine xu_i (x := orT (shT f1) 24) (rV (rest := []) hx hb hml hown hts hK hl (c_X1_shutCells l g a f1 (u1 10) (u1 11) (show Inv f1 from hI8)) lk_X1_94 hP (va_recv hK.1 hP (ci := 1) (q0 := 0) rfl rfl) rfl rfl rfl (Rm.of rfl) rfl rfl dX1_goSeason_5) ?_
  refine lv_istore_n (lv' := [(1, .int (orT (shT f1) 24)), (0, .ref (a 0))]) hx hb dX1_goSeason_8 rfl hl (by decide) rfl (fun ls hl => ?_)
  refine lv_aload_n hx hb dX1_goSeason_9 rfl (lv_at hl 1 rfl) ?_
  refine xu_i (x := orT (plT f1) (f1 1).toNat) (rV (rest := []) hx hb hml hown hts hK hl (c_X1_takenCells l g a f1 (u1 10) (u1 11) (show Inv f1 from hI8)) lk_X1_98 hP (va_recv hK.1 hP (ci := 1) (q0 := 0) rfl rfl) rfl rfl rfl (Rm.of rfl) rfl rfl dX1_goSeason_10) ?_
  refine lv_istore_n (lv' := [(2, .int (orT (plT f1) (f1 1).toNat)), (1, .int (orT (shT f1) 24)), (0, .ref (a 0))]) hx hb dX1_goSeason_13 rfl hl (by decide) rfl (fun ls hl => ?_)
  refine lv_iconst (v := iI (0)) hx hb dX1_goSeason_14 (by decide) ?_
  refine lv_istore_n (lv' := [(3, .int (iI 0)), (2, .int (orT (plT f1) (f1 1).toNat)), (1, .int (orT (shT f1) 24)), (0, .ref (a 0))]) hx hb dX1_goSeason_15 rfl hl (by decide) rfl (fun ls hl => ?_)
  have lp16 : ∀ (n16 : Nat) (k : Nat), ((k : Int) ≤ f1 1) → 8 - k < n16 → ∀ ls : Array Slot, lv_has ls 4 [(3, .int (iI (k : Int))), (2, .int (orT (plT (seaT f1 (ord f1) k)) (f1 1).toNat)), (1, .int (orT (shT f1) 24)), (0, .ref (a 0))] → ∀ (H : Heap) (locs : List Loc), va_P g.1 vwCl (wLs g a (seaT f1 (ord f1) k) (u1 10) (u1 11)) H → va_D (va_A (wLs g a f1 f10 f11) s.heap.size) (wLs g a (seaT f1 (ord f1) k) (u1 10) (u1 11)) → va_S (va_A (wLs g a f1 f10 f11) s.heap.size) s.heap H locs → W pq l eq rm_X1_goSeason s mq [.ref (a 0)].toArray below meth cq H locs 0 0 (MQ below (QMv g (fun u9 : Nat → Int → Int => wLs g a (sea f1) (u9 10) (u9 11)) (fun _ => True) (va_A (wLs g a f1 f10 f11) s.heap.size)) [.ref (a 0)].toArray s 0 0 (va_A (wLs g a f1 f10 f11) s.heap.size)) (F0 mq 16 ls []) := by
    intro n16
    induction n16 with
    | zero => intro k i16_1 hm; exact absurd hm (Nat.not_lt_zero _)
    | succ n16 ih16 =>
      intro k i16_1 hm16 ls hl H locs hP hD hS
      have hsk := seaT_inv hI (fun i i0 i1 => ⟨(ord_spec (s := f1) i0 i1).1, (ord_spec i0 i1).2.1⟩) k i16_1
      have hs1 := hsk.2.1 1 (by omega)
      have hs0 := hsk.2.1 0 (by omega)
      refine lv_iload_n hx hb dX1_goSeason_16 rfl (lv_at hl 0 rfl) ?_
      refine lv_aload_n hx hb dX1_goSeason_17 rfl (lv_at hl 3 rfl) ?_
      refine xg_X1 hx hb hts hown hK hP 0 rfl 1 (by decide) fk_X1_49 (v := .int (iI ((seaT f1 (ord f1) k) 1))) rfl dX1_goSeason_18 ?_
      refine xi_c_ge (tgt := 53) hx hb ⟨by omega, by omega⟩ ⟨by omega, by omega⟩ dX1_goSeason_21 (by decide) (fun z4 => ?_) (fun z4 => ?_)
      · refine lv_aload_n hx hb dX1_goSeason_53 rfl (lv_at hl 3 rfl) ?_
        refine lv_dup hx hb dX1_goSeason_54 rfl ?_
        refine xg_X1 hx hb hts hown hK hP 0 rfl 0 (by decide) fk_X1_45 (v := .int (iI ((seaT f1 (ord f1) k) 0))) rfl dX1_goSeason_55 ?_
        refine lv_iconst (v := iI (1)) hx hb dX1_goSeason_58 (by decide) ?_
        refine xi_add hx hb dX1_goSeason_59 ?_
        refine xp_X1 hx hb hts hown hK hP hD hS 0 rfl 0 (by decide) fk_X1_45 rfl (v := .int (iI ((seaT f1 (ord f1) k) 0 + 1))) rfl rfl (Nat.le_of_ble_eq_true rfl) dX1_goSeason_60 (fun H locs hP hD hS => ?_)
        have hP := Eq.mp (congrArg (fun z9 : va_W => va_P g.1 vwCl (z9) H) (Ls_season (g := g) (a := a) (s := seaT f1 (ord f1) k) (x10 := u1 10) (x11 := u1 11) (v := (seaT f1 (ord f1) k) 0 + 1))) hP
        have hD := Eq.mp (congrArg (fun z9 : va_W => va_D (va_A (wLs g a f1 f10 f11) s.heap.size) (z9)) (Ls_season (g := g) (a := a) (s := seaT f1 (ord f1) k) (x10 := u1 10) (x11 := u1 11) (v := (seaT f1 (ord f1) k) 0 + 1))) hD
        have hP : va_P g.1 vwCl (wLs g a (up (seaT f1 (ord f1) k) 0 ((seaT f1 (ord f1) k) 0 + 1)) (u1 10) (u1 11)) H := hP
        have hD : va_D (va_A (wLs g a f1 f10 f11) s.heap.size) (wLs g a (up (seaT f1 (ord f1) k) 0 ((seaT f1 (ord f1) k) 0 + 1)) (u1 10) (u1 11)) := hD
        have he5 : (up (seaT f1 (ord f1) k) 0 ((seaT f1 (ord f1) k) 0 + 1)) = (sea f1) := by rw [hs0, show k = (f1 1).toNat by omega]; rfl
        have hP := Eq.mp (congrArg (fun z9 => va_P g.1 vwCl (wLs g a z9 (u1 10) (u1 11)) H) he5) hP
        have hD := Eq.mp (congrArg (fun z9 => va_D (va_A (wLs g a f1 f10 f11) s.heap.size) (wLs g a z9 (u1 10) (u1 11))) he5) hD
        have hP : va_P g.1 vwCl (wLs g a (sea f1) ((su (su (fun _ _ => 0) 10 (u1 10)) 11 (u1 11)) 10) ((su (su (fun _ _ => 0) 10 (u1 10)) 11 (u1 11)) 11)) H := hP
        have hD : va_D (va_A (wLs g a f1 f10 f11) s.heap.size) (wLs g a (sea f1) ((su (su (fun _ _ => 0) 10 (u1 10)) 11 (u1 11)) 10) ((su (su (fun _ _ => 0) 10 (u1 10)) 11 (u1 11)) 11)) := hD
        exact W.vret hx hb hr (fun t ht hW => ⟨⟨(su (su (fun _ _ => 0) 10 (u1 10)) 11 (u1 11)), rfl, trivial, by rw [ht]; exact hP, hD⟩, hS.F ht⟩) hS.2.2 dX1_goSeason_63
      · have hoj := hw1 (k : Int) (by omega) (by omega)
        have hok := ord_spec (s := f1) (i := (k : Int)) (by omega) (by omega)
        refine lv_aload_n hx hb dX1_goSeason_24 rfl (lv_at hl 3 rfl) ?_
        refine lv_aload_n hx hb dX1_goSeason_25 rfl (lv_at hl 3 rfl) ?_
        refine xg_X1 hx hb hts hown hK hP 0 rfl 13 (by decide) fk_X1_42 (v := .ref (a 11)) rfl dX1_goSeason_26 ?_
        refine lv_iload_n hx hb dX1_goSeason_29 rfl (lv_at hl 0 rfl) ?_
        refine xi_ald hx hb hK hP 11 (f := u1 11) rfl (i := (k : Int)) ⟨by omega, by omega⟩ rfl dX1_goSeason_30 ?_
        refine lv_aload_n hx hb dX1_goSeason_31 rfl (lv_at hl 3 rfl) ?_
        refine lv_aload_n hx hb dX1_goSeason_32 rfl (lv_at hl 3 rfl) ?_
        refine xg_X1 hx hb hts hown hK hP 0 rfl 13 (by decide) fk_X1_42 (v := .ref (a 11)) rfl dX1_goSeason_33 ?_
        refine lv_iload_n hx hb dX1_goSeason_36 rfl (lv_at hl 0 rfl) ?_
        refine xi_ald hx hb hK hP 11 (f := u1 11) rfl (i := (k : Int)) ⟨by omega, by omega⟩ rfl dX1_goSeason_37 ?_
        refine xu_i (x := iI (stride (seaT f1 (ord f1) k) ((u1 11) (k : Int)))) (rV (rest := [.int (iI ((u1 11) (k : Int))), .ref (a 0)]) hx hb hml hown hts hK hl (c_X1_strideOf l g a (seaT f1 (ord f1) k) (u1 10) (u1 11) ((u1 11) (k : Int)) (show Inv (seaT f1 (ord f1) k) from (hsk.1.mono (by omega))) (show 0 ≤ ((u1 11) (k : Int)) ∧ ((u1 11) (k : Int)) < (seaT f1 (ord f1) k) 1 from by omega)) lk_X1_101 hP (va_recv hK.1 hP (ci := 1) (q0 := 0) rfl rfl) rfl rfl rfl (Rm.of rfl) rfl rfl dX1_goSeason_38) ?_
        refine lv_iload_n hx hb dX1_goSeason_41 rfl (lv_at hl 2 rfl) ?_
        refine lv_iload_n hx hb dX1_goSeason_42 rfl (lv_at hl 1 rfl) ?_
        refine xm_i (rV (rest := []) hx hb hml hown hts hK hl (c_X1_goStride l g a (seaT f1 (ord f1) k) (u1 10) (u1 11) ((u1 11) (k : Int)) (stride (seaT f1 (ord f1) k) ((u1 11) (k : Int))) (orT (shT f1) 24) (orT (plT (seaT f1 (ord f1) k)) (f1 1).toNat) H.size (show InvK 7 (seaT f1 (ord f1) k) from (hsk.1.mono (by omega))) (show 0 ≤ ((u1 11) (k : Int)) ∧ ((u1 11) (k : Int)) < (seaT f1 (ord f1) k) 1 from by omega) (show (stride (seaT f1 (ord f1) k) ((u1 11) (k : Int))) = stride (seaT f1 (ord f1) k) ((u1 11) (k : Int)) from rfl) (show (orT (shT f1) 24) = orT (shT (seaT f1 (ord f1) k)) 24 from (shT_sea hsk.2.1).symm) (show (orT (plT (seaT f1 (ord f1) k)) (f1 1).toNat) = orT (plT (seaT f1 (ord f1) k)) ((seaT f1 (ord f1) k) 1).toNat from by rw [hs1])) lk_X1_104 ⟨rfl, hP, hD.weaken (fun _ _ _ _ => trivial)⟩ (va_recv hK.1 hP (ci := 1) (q0 := 0) rfl rfl) rfl rfl rfl (Rm.of rfl) rfl rfl dX1_goSeason_43) hD hS hA (fun x9 _ H locs hw hP hD hS => ?_)
        obtain rfl : x9 = orT (plT (goOne (seaT f1 (ord f1) k) ((u1 11) (k : Int)))) ((seaT f1 (ord f1) k) 1).toNat := hw
        have hP : va_P g.1 vwCl (wLs g a (goOne (seaT f1 (ord f1) k) ((u1 11) (k : Int))) (u1 10) (u1 11)) H := hP
        have hD : va_D (va_A (wLs g a f1 f10 f11) s.heap.size) (wLs g a (goOne (seaT f1 (ord f1) k) ((u1 11) (k : Int))) (u1 10) (u1 11)) := hD
        refine lv_istore_n (lv' := [(2, .int (orT (plT (goOne (seaT f1 (ord f1) k) ((u1 11) (k : Int)))) ((seaT f1 (ord f1) k) 1).toNat)), (3, .int (iI (k : Int))), (1, .int (orT (shT f1) 24)), (0, .ref (a 0))]) hx hb dX1_goSeason_46 rfl hl (by decide) rfl (fun ls hl => ?_)
        refine xi_inc (lv' := [(3, .int (iI ((k : Int) + 1))), (2, .int (orT (plT (goOne (seaT f1 (ord f1) k) ((u1 11) (k : Int)))) ((seaT f1 (ord f1) k) 1).toNat)), (1, .int (orT (shT f1) 24)), (0, .ref (a 0))]) hx hb dX1_goSeason_47 hl (k := 1) rfl (by decide) rfl (fun ls hl => ?_)
        refine lv_goto (tgt := 16) hx hb dX1_goSeason_50 (by decide) ?_
        have hq8 : ((k : Int) + 1) = ((k + 1) : Int) := by omega
        have hq9 : (orT (plT (goOne (seaT f1 (ord f1) k) ((u1 11) (k : Int)))) ((seaT f1 (ord f1) k) 1).toNat) = (orT (plT (seaT f1 (ord f1) (k + 1))) (f1 1).toNat) := by rw [hoj, hs1]; rfl
        have hl : lv_has ls 4 [(3, .int (iI ((k : Int) + 1))), (2, .int (orT (plT (goOne (seaT f1 (ord f1) k) ((u1 11) (k : Int)))) ((seaT f1 (ord f1) k) 1).toNat)), (1, .int (orT (shT f1) 24)), (0, .ref (a 0))] := lv_sub hl [0, 1, 2, 3] rfl
        have hl := Eq.mp (congrArg (fun z9 => lv_has ls 4 [(3, .int (iI z9)), (2, .int (orT (plT (goOne (seaT f1 (ord f1) k) ((u1 11) (k : Int)))) ((seaT f1 (ord f1) k) 1).toNat)), (1, .int (orT (shT f1) 24)), (0, .ref (a 0))]) hq8) hl
        have hl := Eq.mp (congrArg (fun z9 => lv_has ls 4 [(3, .int (iI ((k + 1) : Int))), (2, .int z9), (1, .int (orT (shT f1) 24)), (0, .ref (a 0))]) hq9) hl
        have hq10 : (goOne (seaT f1 (ord f1) k) ((u1 11) (k : Int))) = (seaT f1 (ord f1) (k + 1)) := by rw [hoj]; rfl
        have hP := Eq.mp (congrArg (fun z9 => va_P g.1 vwCl (wLs g a z9 (u1 10) (u1 11)) H) hq10) hP
        have hD := Eq.mp (congrArg (fun z9 => va_D (va_A (wLs g a f1 f10 f11) s.heap.size) (wLs g a z9 (u1 10) (u1 11))) hq10) hD
        exact ih16 (k + 1) (by omega) (by omega) ls hl H locs hP hD hS
  have hq11 : 0 = (0 : Int) := rfl
  have hq12 : (orT (plT f1) (f1 1).toNat) = (orT (plT (seaT f1 (ord f1) 0)) (f1 1).toNat) := rfl
  have hl : lv_has ls 4 [(3, .int (iI 0)), (2, .int (orT (plT f1) (f1 1).toNat)), (1, .int (orT (shT f1) 24)), (0, .ref (a 0))] := lv_sub hl [0, 1, 2, 3] rfl
  have hl := Eq.mp (congrArg (fun z9 => lv_has ls 4 [(3, .int (iI z9)), (2, .int (orT (plT f1) (f1 1).toNat)), (1, .int (orT (shT f1) 24)), (0, .ref (a 0))]) hq11) hl
  have hl := Eq.mp (congrArg (fun z9 => lv_has ls 4 [(3, .int (iI (0 : Int))), (2, .int z9), (1, .int (orT (shT f1) 24)), (0, .ref (a 0))]) hq12) hl
  have hq13 : f1 = (seaT f1 (ord f1) 0) := rfl
  have hP := Eq.mp (congrArg (fun z9 => va_P g.1 vwCl (wLs g a z9 (u1 10) (u1 11)) H) hq13) hP
  have hD := Eq.mp (congrArg (fun z9 => va_D (va_A (wLs g a f1 f10 f11) s.heap.size) (wLs g a z9 (u1 10) (u1 11))) hq13) hD
  exact lp16 (8 + 1) 0 (by omega) (by omega) ls hl H locs hP hD hS
abbrev rm_X1_goSeasons : Room := { frames := 3, cells := 0, slots := 0, locals := 72 }
set_option maxRecDepth 100000 in
set_option maxHeartbeats 4000000 in
theorem c_X1_goSeasons (l : Launch) (g : Gd) (a : Nat → Nat) (f1 : Int → Int) (f10 : Int → Int) (f11 : Int → Int) (n : Int) (sz : Nat) (h1 : InvK 0 f1) (h2 : 0 ≤ n ∧ f1 0 + n ≤ 20000) : Met l yX1_goSeasons (wsOf yX1_goSeasons cX1_goSeasons 3 none) rm_X1_goSeasons (PX g (wP g (wLs g a f1 f10 f11) sz) [.ref (a 0), .int (iI n)]) (QMv g (fun u9 : Nat → Int → Int => wLs g a (seaN f1 (Int.toNat n)) (u9 10) (u9 11)) (fun _ => True) (va_A (wLs g a f1 f10 f11) sz)) 0 0 (va_A (wLs g a f1 f10 f11) sz) := by
  refine me (g := g) (by decide) rfl ?_
  intro pq eq s mq below meth cq C hnm hB ls hl
  obtain ⟨hx, hb, hr, hml, hown, hts, hlocks, hK⟩ := C
  have hown : s.vm.findClass RX1 = some mq.cls := hown
  have hl : lv_has ls 3 [(0, .ref (a 0)), (1, .int (iI n))] := hl
  obtain ⟨hsz, hP, hD0⟩ := hB
  subst hsz
  have hD := hD0.self (sz := s.heap.size)
  have hA : ∀ q : Nat, s.heap.size ≤ q → va_A (wLs g a f1 f10 f11) s.heap.size q := fun q h => Or.inr h
  have hS : va_S (va_A (wLs g a f1 f10 f11) s.heap.size) s.heap s.heap [] := va_S.rf
  have hI := h1
  have hn := hI.num
  have hs := hI.sea
  refine lv_iconst (v := iI (0)) hx hb dX1_goSeasons_0 (by decide) ?_
  refine lv_istore_n (lv' := [(2, .int (iI 0)), (0, .ref (a 0)), (1, .int (iI n))]) hx hb dX1_goSeasons_1 rfl hl (by decide) rfl (fun ls hl => ?_)
  have lp2 : ∀ (n2 : Nat) (k : Nat) (w9 : Int → Int) (t9 : Int → Int), ((k : Int) ≤ n) → n.toNat - k < n2 → ∀ ls : Array Slot, lv_has ls 3 [(2, .int (iI (k : Int))), (0, .ref (a 0)), (1, .int (iI n))] → ∀ (H : Heap) (locs : List Loc), va_P g.1 vwCl (wLs g a (seaN f1 k) w9 t9) H → va_D (va_A (wLs g a f1 f10 f11) s.heap.size) (wLs g a (seaN f1 k) w9 t9) → va_S (va_A (wLs g a f1 f10 f11) s.heap.size) s.heap H locs → W pq l eq rm_X1_goSeasons s mq [.ref (a 0), .int (iI n)].toArray below meth cq H locs 0 0 (MQ below (QMv g (fun u9 : Nat → Int → Int => wLs g a (seaN f1 (Int.toNat n)) (u9 10) (u9 11)) (fun _ => True) (va_A (wLs g a f1 f10 f11) s.heap.size)) [.ref (a 0), .int (iI n)].toArray s 0 0 (va_A (wLs g a f1 f10 f11) s.heap.size)) (F0 mq 2 ls []) := by
    intro n2
    induction n2 with
    | zero => intro k w9 t9 i2_1 hm; exact absurd hm (Nat.not_lt_zero _)
    | succ n2 ih2 =>
      intro k w9 t9 i2_1 hm2 ls hl H locs hP hD hS
      have hsn := seaN_inv hI k (by omega)
      have hs0 := hsn.2.1
      refine lv_iload_n hx hb dX1_goSeasons_2 rfl (lv_at hl 0 rfl) ?_
      refine lv_iload_n hx hb dX1_goSeasons_3 rfl (lv_at hl 2 rfl) ?_
      refine xi_c_ge (tgt := 17) hx hb ⟨by omega, by omega⟩ ⟨by omega, by omega⟩ dX1_goSeasons_4 (by decide) (fun z1 => ?_) (fun z1 => ?_)
      · have he2 : (seaN f1 k) = (seaN f1 (Int.toNat n)) := by rw [show k = n.toNat by omega]
        have hP := Eq.mp (congrArg (fun z9 => va_P g.1 vwCl (wLs g a z9 w9 t9) H) he2) hP
        have hD := Eq.mp (congrArg (fun z9 => va_D (va_A (wLs g a f1 f10 f11) s.heap.size) (wLs g a z9 w9 t9)) he2) hD
        have hP : va_P g.1 vwCl (wLs g a (seaN f1 (Int.toNat n)) ((su (su (fun _ _ => 0) 10 w9) 11 t9) 10) ((su (su (fun _ _ => 0) 10 w9) 11 t9) 11)) H := hP
        have hD : va_D (va_A (wLs g a f1 f10 f11) s.heap.size) (wLs g a (seaN f1 (Int.toNat n)) ((su (su (fun _ _ => 0) 10 w9) 11 t9) 10) ((su (su (fun _ _ => 0) 10 w9) 11 t9) 11)) := hD
        exact W.vret hx hb hr (fun t ht hW => ⟨⟨(su (su (fun _ _ => 0) 10 w9) 11 t9), rfl, trivial, by rw [ht]; exact hP, hD⟩, hS.F ht⟩) hS.2.2 dX1_goSeasons_17
      · refine lv_aload_n hx hb dX1_goSeasons_7 rfl (lv_at hl 1 rfl) ?_
        refine xm_v (rV (rest := []) hx hb hml hown hts hK hl (c_X1_goSeason l g a (seaN f1 k) w9 t9 H.size (show InvK 0 (seaN f1 k) from hsn.1) (show (seaN f1 k) 0 < 20000 from by omega)) lk_X1_91 ⟨rfl, hP, hD.weaken (fun _ _ _ _ => trivial)⟩ (va_recv hK.1 hP (ci := 1) (q0 := 0) rfl rfl) rfl rfl rfl (Rm.of rfl) rfl rfl dX1_goSeasons_8) hD hS hA (fun u3 H locs hw hP hD hS => ?_)
        have hP : va_P g.1 vwCl (wLs g a (sea (seaN f1 k)) (u3 10) (u3 11)) H := hP
        have hD : va_D (va_A (wLs g a f1 f10 f11) s.heap.size) (wLs g a (sea (seaN f1 k)) (u3 10) (u3 11)) := hD
        refine xi_inc (lv' := [(2, .int (iI ((k : Int) + 1))), (0, .ref (a 0)), (1, .int (iI n))]) hx hb dX1_goSeasons_11 hl (k := 0) rfl (by decide) rfl (fun ls hl => ?_)
        refine lv_goto (tgt := 2) hx hb dX1_goSeasons_14 (by decide) ?_
        have hq4 : ((k : Int) + 1) = ((k + 1) : Int) := by omega
        have hl : lv_has ls 3 [(2, .int (iI ((k : Int) + 1))), (0, .ref (a 0)), (1, .int (iI n))] := lv_sub hl [0, 1, 2] rfl
        have hl := Eq.mp (congrArg (fun z9 => lv_has ls 3 [(2, .int (iI z9)), (0, .ref (a 0)), (1, .int (iI n))]) hq4) hl
        have hq5 : (sea (seaN f1 k)) = (seaN f1 (k + 1)) := rfl
        have hP := Eq.mp (congrArg (fun z9 => va_P g.1 vwCl (wLs g a z9 (u3 10) (u3 11)) H) hq5) hP
        have hD := Eq.mp (congrArg (fun z9 => va_D (va_A (wLs g a f1 f10 f11) s.heap.size) (wLs g a z9 (u3 10) (u3 11))) hq5) hD
        exact ih2 (k + 1) (u3 10) (u3 11) (by omega) (by omega) ls hl H locs hP hD hS
  have hq6 : 0 = (0 : Int) := rfl
  have hl : lv_has ls 3 [(2, .int (iI 0)), (0, .ref (a 0)), (1, .int (iI n))] := lv_sub hl [0, 1, 2] rfl
  have hl := Eq.mp (congrArg (fun z9 => lv_has ls 3 [(2, .int (iI z9)), (0, .ref (a 0)), (1, .int (iI n))]) hq6) hl
  have hq7 : f1 = (seaN f1 0) := rfl
  have hP := Eq.mp (congrArg (fun z9 => va_P g.1 vwCl (wLs g a z9 f10 f11) s.heap) hq7) hP
  have hD := Eq.mp (congrArg (fun z9 => va_D (va_A (wLs g a f1 f10 f11) s.heap.size) (wLs g a z9 f10 f11)) hq7) hD
  exact lp2 (n.toNat + 1) 0 f10 f11 (by omega) (by omega) ls hl s.heap [] hP hD hS

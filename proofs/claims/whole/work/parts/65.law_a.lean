set_option maxRecDepth 100000 in
set_option maxHeartbeats 4000000 in
theorem lc_0 {p : Program} {l : Launch} {e : Env} {s : State} {m : MethodId} {below : List Frame} {meth : Method} {c : Code} {g : Gd} {σ : Sg} {bs L : Nat} {xs : Nat → Int32} {Q : State → Prop} (hL : L ≤ 3072) (hC : LCx g σ p s m c bs L xs) (a b d fo tr tp sh am : Nat → Nat) (f1 e1 e10 e11 k1 k10 k11 o1 t1 t10 t11 p1 m10 m11 m12 M3 M4 M5 M7 M8 M13 : Int → Int) (f20 p20 p21 p22 p23 p24 M22 M23 M24 M25 : Int) (hV : LVx e1 k1 f20 p1 p20 m10 m11 m12 M24) {i9 : Nat} (hi9 : i9 + 6 ≤ L) {ls : Array Slot} (hl : lv_has ls 4 [(3, .int (iI (i9 : Int))), (2, .ref (am 0)), (1, .ref (a 0)), (0, .ref bs)]) {H : Heap} {locs : List Loc} (hP : va_P g.1 vwCl (wX g a b d fo tp sh f1 f20 ++ (wLs g b e1 e10 e11 ++ (wLs g d k1 k10 k11 ++ (wF g fo b tr o1 ++ (wLs g tr t1 t10 t11 ++ (wT g tp p1 p20 p21 p22 p23 p24 ++ (wSs g sh m10 m11 m12 ++ (wM g am e1 k1 M3 M4 M5 f1 M7 M8 p1 m10 m11 m12 M13 f20 p20 M22 M23 M24 M25)))))))) H) (hD : va_D (fun q : Nat => s.heap.size ≤ q) (wX g a b d fo tp sh f1 f20 ++ (wLs g b e1 e10 e11 ++ (wLs g d k1 k10 k11 ++ (wF g fo b tr o1 ++ (wLs g tr t1 t10 t11 ++ (wT g tp p1 p20 p21 p22 p23 p24 ++ (wSs g sh m10 m11 m12 ++ (wM g am e1 k1 M3 M4 M5 f1 M7 M8 p1 m10 m11 m12 M13 f20 p20 M22 M23 M24 M25))))))))) (hS : va_S (fun q : Nat => s.heap.size ≤ q) s.heap H locs) (K : ∀ (u : Nat → Int → Int) (H : Heap) (locs : List Loc), LV u → va_P g.1 vwCl (LW g (fun k => ([a, b, d, fo, tr, tp, sh, am] : List (Nat → Nat)).getD k a) u) H → va_D (fun q : Nat => s.heap.size ≤ q) (LW g (fun k => ([a, b, d, fo, tr, tp, sh, am] : List (Nat → Nat)).getD k a) u) → va_S (fun q : Nat => s.heap.size ≤ q) s.heap H locs → W p l e room_1 s m #[Value.ref bs] below meth c H locs 65 1678 Q (F0 m 1473 ls [])) : W p l e room_1 s m #[Value.ref bs] below meth c H locs 65 1678 Q (F0 m 216 ls []) := by
  obtain ⟨hx, hb, hml, hown, hts, hK, hX, hbl, hSB⟩ := hC
  have hbA : ¬ (fun q : Nat => s.heap.size ≤ q) bs := Nat.not_le.mpr hbl
  have hA : ∀ q : Nat, s.heap.size ≤ q → (fun q : Nat => s.heap.size ≤ q) q := fun _ h => h
  obtain ⟨hIe, hIk, hkp, hHB, hpz, hSS, hLR, hvz⟩ := hV
  have hI := hIe.1
  have hs9 := hIe.2
  obtain ⟨x1, hx1⟩ : ∃ x : Int, x = (xs (i9 + 1)).toInt := ⟨_, rfl⟩
  have ha1a : -2147483648 ≤ x1 := by rw [hx1]; exact (IR_of _).1
  have ha1b : x1 ≤ 2147483647 := by rw [hx1]; exact (IR_of _).2
  obtain ⟨x2, hx2⟩ : ∃ x : Int, x = (xs (i9 + 2)).toInt := ⟨_, rfl⟩
  have ha2a : -2147483648 ≤ x2 := by rw [hx2]; exact (IR_of _).1
  have ha2b : x2 ≤ 2147483647 := by rw [hx2]; exact (IR_of _).2
  obtain ⟨x3, hx3⟩ : ∃ x : Int, x = (xs (i9 + 3)).toInt := ⟨_, rfl⟩
  have ha3a : -2147483648 ≤ x3 := by rw [hx3]; exact (IR_of _).1
  have ha3b : x3 ≤ 2147483647 := by rw [hx3]; exact (IR_of _).2
  obtain ⟨x4, hx4⟩ : ∃ x : Int, x = (xs (i9 + 4)).toInt := ⟨_, rfl⟩
  have ha4a : -2147483648 ≤ x4 := by rw [hx4]; exact (IR_of _).1
  have ha4b : x4 ≤ 2147483647 := by rw [hx4]; exact (IR_of _).2
  obtain ⟨x5, hx5⟩ : ∃ x : Int, x = (xs (i9 + 5)).toInt := ⟨_, rfl⟩
  have ha5a : -2147483648 ≤ x5 := by rw [hx5]; exact (IR_of _).1
  have ha5b : x5 ≤ 2147483647 := by rw [hx5]; exact (IR_of _).2
  obtain ⟨hP0, hPr0⟩ := va_P_app.mp hP
  obtain ⟨hP1, hPr1⟩ := va_P_app.mp hPr0
  obtain ⟨hP2, hPr2⟩ := va_P_app.mp hPr1
  obtain ⟨hP3, hPr3⟩ := va_P_app.mp hPr2
  obtain ⟨hP4, hPr4⟩ := va_P_app.mp hPr3
  obtain ⟨hP5, hPr5⟩ := va_P_app.mp hPr4
  obtain ⟨hP6, hP7⟩ := va_P_app.mp hPr5
  refine lv_aload_n hx hb dL_law_216 rfl (lv_at hl 2 rfl) ?_
  refine lv_aload_n hx hb dL_law_217 rfl (lv_at hl 3 rfl) ?_
  refine lv_iload_n hx hb dL_law_218 rfl (lv_at hl 0 rfl) ?_
  refine lv_iconst (v := iI (1)) hx hb dL_law_219 (by decide) ?_
  refine xi_add hx hb dL_law_220 ?_
  refine xs_ld (i := (i9 : Int) + 1) (j := i9 + 1) hx hb hX hbl hbA hS (by omega) (by omega) hL dL_law_221 ?_
  rw [← hx1]
  refine lv_aload_n hx hb dL_law_222 rfl (lv_at hl 3 rfl) ?_
  refine lv_iload_n hx hb dL_law_223 rfl (lv_at hl 0 rfl) ?_
  refine lv_iconst (v := iI (2)) hx hb dL_law_224 (by decide) ?_
  refine xi_add hx hb dL_law_225 ?_
  refine xs_ld (i := (i9 : Int) + 2) (j := i9 + 2) hx hb hX hbl hbA hS (by omega) (by omega) hL dL_law_226 ?_
  rw [← hx2]
  refine lv_aload_n hx hb dL_law_227 rfl (lv_at hl 3 rfl) ?_
  refine lv_iload_n hx hb dL_law_228 rfl (lv_at hl 0 rfl) ?_
  refine lv_iconst (v := iI (3)) hx hb dL_law_229 (by decide) ?_
  refine xi_add hx hb dL_law_230 ?_
  refine xs_ld (i := (i9 : Int) + 3) (j := i9 + 3) hx hb hX hbl hbA hS (by omega) (by omega) hL dL_law_231 ?_
  rw [← hx3]
  have hP : va_P g.1 vwCl ((wX g a b d fo tp sh f1 f20 ++ (wLs g b e1 e10 e11)) ++ (wLs g d k1 k10 k11 ++ (wF g fo b tr o1 ++ (wLs g tr t1 t10 t11 ++ (wT g tp p1 p20 p21 p22 p23 p24 ++ (wSs g sh m10 m11 m12 ++ (wM g am e1 k1 M3 M4 M5 f1 M7 M8 p1 m10 m11 m12 M13 f20 p20 M22 M23 M24 M25))))))) H := by rw [List.append_assoc]; exact hP
  have hD : va_D (fun q : Nat => s.heap.size ≤ q) ((wX g a b d fo tp sh f1 f20 ++ (wLs g b e1 e10 e11)) ++ (wLs g d k1 k10 k11 ++ (wF g fo b tr o1 ++ (wLs g tr t1 t10 t11 ++ (wT g tp p1 p20 p21 p22 p23 p24 ++ (wSs g sh m10 m11 m12 ++ (wM g am e1 k1 M3 M4 M5 f1 M7 M8 p1 m10 m11 m12 M13 f20 p20 M22 M23 M24 M25))))))) := by rw [List.append_assoc]; exact hD
  refine xmF_i (rV (rest := []) hx hb hml hown hts hK hl (c_X4_pass l g d fo tp sh a f1 f20 b e1 e10 e11 x1 x2 x3 H.size (show InvK 0 e1 from hI) (show e1 0 ≤ 9999 from by omega) (show IR x1 from ⟨by omega, by omega⟩) (show IR x2 from ⟨by omega, by omega⟩) (show IR x3 from ⟨by omega, by omega⟩)) lk_L_13 ⟨rfl, (va_P_app.mp hP).1, (va_D_app hD).1.weaken (fun _ _ _ _ => trivial)⟩ (va_recv hK.1 hP0 (ci := 4) (q0 := 0) rfl rfl) rfl rfl rfl (Rm.of rfl) rfl rfl dL_law_232) hP hD hS hA (fun x9 _ H locs hw hP hD hS => ?_)
  have hP : va_P g.1 vwCl ((wX g a b d fo tp sh (fb (fPass x1 x2 x3) f1) f20 ++ (wLs g b (if fPass x1 x2 x3 = 0 then up (up e1 (7 + x1) x2) (31 + x1) (if x2 = 0 then 0 else x3) else e1) e10 e11)) ++ (wLs g d k1 k10 k11 ++ (wF g fo b tr o1 ++ (wLs g tr t1 t10 t11 ++ (wT g tp p1 p20 p21 p22 p23 p24 ++ (wSs g sh m10 m11 m12 ++ (wM g am e1 k1 M3 M4 M5 f1 M7 M8 p1 m10 m11 m12 M13 f20 p20 M22 M23 M24 M25))))))) H := hP
  have hD : va_D (fun q : Nat => s.heap.size ≤ q) ((wX g a b d fo tp sh (fb (fPass x1 x2 x3) f1) f20 ++ (wLs g b (if fPass x1 x2 x3 = 0 then up (up e1 (7 + x1) x2) (31 + x1) (if x2 = 0 then 0 else x3) else e1) e10 e11)) ++ (wLs g d k1 k10 k11 ++ (wF g fo b tr o1 ++ (wLs g tr t1 t10 t11 ++ (wT g tp p1 p20 p21 p22 p23 p24 ++ (wSs g sh m10 m11 m12 ++ (wM g am e1 k1 M3 M4 M5 f1 M7 M8 p1 m10 m11 m12 M13 f20 p20 M22 M23 M24 M25))))))) := hD
  rw [List.append_assoc] at hP hD
  obtain rfl : x9 = ab (fPass x1 x2 x3) (iI (if 0 < e1 (7 + x1) then 1 else 0)) := hw
  have hP : va_P g.1 vwCl (wX g a b d fo tp sh (fb (fPass x1 x2 x3) f1) f20 ++ (wLs g b (if fPass x1 x2 x3 = 0 then up (up e1 (7 + x1) x2) (31 + x1) (if x2 = 0 then 0 else x3) else e1) e10 e11 ++ (wLs g d k1 k10 k11 ++ (wF g fo b tr o1 ++ (wLs g tr t1 t10 t11 ++ (wT g tp p1 p20 p21 p22 p23 p24 ++ (wSs g sh m10 m11 m12 ++ (wM g am e1 k1 M3 M4 M5 f1 M7 M8 p1 m10 m11 m12 M13 f20 p20 M22 M23 M24 M25)))))))) H := hP
  have hD : va_D (fun q : Nat => s.heap.size ≤ q) (wX g a b d fo tp sh (fb (fPass x1 x2 x3) f1) f20 ++ (wLs g b (if fPass x1 x2 x3 = 0 then up (up e1 (7 + x1) x2) (31 + x1) (if x2 = 0 then 0 else x3) else e1) e10 e11 ++ (wLs g d k1 k10 k11 ++ (wF g fo b tr o1 ++ (wLs g tr t1 t10 t11 ++ (wT g tp p1 p20 p21 p22 p23 p24 ++ (wSs g sh m10 m11 m12 ++ (wM g am e1 k1 M3 M4 M5 f1 M7 M8 p1 m10 m11 m12 M13 f20 p20 M22 M23 M24 M25)))))))) := hD
  obtain ⟨hP0, hPr0⟩ := va_P_app.mp hP
  obtain ⟨hP1, hPr1⟩ := va_P_app.mp hPr0
  obtain ⟨hP2, hPr2⟩ := va_P_app.mp hPr1
  obtain ⟨hP3, hPr3⟩ := va_P_app.mp hPr2
  obtain ⟨hP4, hPr4⟩ := va_P_app.mp hPr3
  obtain ⟨hP5, hPr5⟩ := va_P_app.mp hPr4
  obtain ⟨hP6, hP7⟩ := va_P_app.mp hPr5
  refine lv_aload_n hx hb dL_law_235 rfl (lv_at hl 1 rfl) ?_
  refine lv_aload_n hx hb dL_law_236 rfl (lv_at hl 3 rfl) ?_
  refine lv_iload_n hx hb dL_law_237 rfl (lv_at hl 0 rfl) ?_
  refine lv_iconst (v := iI (1)) hx hb dL_law_238 (by decide) ?_
  refine xi_add hx hb dL_law_239 ?_
  refine xs_ld (i := (i9 : Int) + 1) (j := i9 + 1) hx hb hX hbl hbA hS (by omega) (by omega) hL dL_law_240 ?_
  rw [← hx1]
  refine lv_aload_n hx hb dL_law_241 rfl (lv_at hl 3 rfl) ?_
  refine lv_iload_n hx hb dL_law_242 rfl (lv_at hl 0 rfl) ?_
  refine lv_iconst (v := iI (2)) hx hb dL_law_243 (by decide) ?_
  refine xi_add hx hb dL_law_244 ?_
  refine xs_ld (i := (i9 : Int) + 2) (j := i9 + 2) hx hb hX hbl hbA hS (by omega) (by omega) hL dL_law_245 ?_
  rw [← hx2]
  refine lv_aload_n hx hb dL_law_246 rfl (lv_at hl 3 rfl) ?_
  refine lv_iload_n hx hb dL_law_247 rfl (lv_at hl 0 rfl) ?_
  refine lv_iconst (v := iI (3)) hx hb dL_law_248 (by decide) ?_
  refine xi_add hx hb dL_law_249 ?_
  refine xs_ld (i := (i9 : Int) + 3) (j := i9 + 3) hx hb hX hbl hbA hS (by omega) (by omega) hL dL_law_250 ?_
  rw [← hx3]
  have hD : va_D (fun q : Nat => s.heap.size ≤ q) (wX g a b d fo tp sh (fb (fPass x1 x2 x3) f1) f20 ++ (wLs g b (if fPass x1 x2 x3 = 0 then up (up e1 (7 + x1) x2) (31 + x1) (if x2 = 0 then 0 else x3) else e1) e10 e11 ++ (wLs g d k1 k10 k11 ++ (wF g fo b tr o1 ++ (wLs g tr t1 t10 t11 ++ (wT g tp p1 p20 p21 p22 p23 p24 ++ (wM g am e1 k1 M3 M4 M5 f1 M7 M8 p1 m10 m11 m12 M13 f20 p20 M22 M23 M24 M25 ++ (wSs g sh m10 m11 m12)))))))) := D_perm (List.Perm.append_left _ (List.Perm.append_left _ (List.Perm.append_left _ (List.Perm.append_left _ (List.Perm.append_left _ (List.Perm.append_left _ (List.perm_append_comm))))))) hD
  have hD : va_D (fun q : Nat => s.heap.size ≤ q) (wX g a b d fo tp sh (fb (fPass x1 x2 x3) f1) f20 ++ (wLs g b (if fPass x1 x2 x3 = 0 then up (up e1 (7 + x1) x2) (31 + x1) (if x2 = 0 then 0 else x3) else e1) e10 e11 ++ (wLs g d k1 k10 k11 ++ (wF g fo b tr o1 ++ (wLs g tr t1 t10 t11 ++ (wM g am e1 k1 M3 M4 M5 f1 M7 M8 p1 m10 m11 m12 M13 f20 p20 M22 M23 M24 M25 ++ (wT g tp p1 p20 p21 p22 p23 p24 ++ (wSs g sh m10 m11 m12)))))))) := D_perm (List.Perm.append_left _ (List.Perm.append_left _ (List.Perm.append_left _ (List.Perm.append_left _ (List.Perm.append_left _ (List.perm_append_comm_assoc _ _ _)))))) hD
  have hD : va_D (fun q : Nat => s.heap.size ≤ q) (wX g a b d fo tp sh (fb (fPass x1 x2 x3) f1) f20 ++ (wLs g b (if fPass x1 x2 x3 = 0 then up (up e1 (7 + x1) x2) (31 + x1) (if x2 = 0 then 0 else x3) else e1) e10 e11 ++ (wLs g d k1 k10 k11 ++ (wF g fo b tr o1 ++ (wM g am e1 k1 M3 M4 M5 f1 M7 M8 p1 m10 m11 m12 M13 f20 p20 M22 M23 M24 M25 ++ (wLs g tr t1 t10 t11 ++ (wT g tp p1 p20 p21 p22 p23 p24 ++ (wSs g sh m10 m11 m12)))))))) := D_perm (List.Perm.append_left _ (List.Perm.append_left _ (List.Perm.append_left _ (List.Perm.append_left _ (List.perm_append_comm_assoc _ _ _))))) hD
  have hD : va_D (fun q : Nat => s.heap.size ≤ q) (wX g a b d fo tp sh (fb (fPass x1 x2 x3) f1) f20 ++ (wLs g b (if fPass x1 x2 x3 = 0 then up (up e1 (7 + x1) x2) (31 + x1) (if x2 = 0 then 0 else x3) else e1) e10 e11 ++ (wLs g d k1 k10 k11 ++ (wM g am e1 k1 M3 M4 M5 f1 M7 M8 p1 m10 m11 m12 M13 f20 p20 M22 M23 M24 M25 ++ (wF g fo b tr o1 ++ (wLs g tr t1 t10 t11 ++ (wT g tp p1 p20 p21 p22 p23 p24 ++ (wSs g sh m10 m11 m12)))))))) := D_perm (List.Perm.append_left _ (List.Perm.append_left _ (List.Perm.append_left _ (List.perm_append_comm_assoc _ _ _)))) hD
  have hD : va_D (fun q : Nat => s.heap.size ≤ q) (wX g a b d fo tp sh (fb (fPass x1 x2 x3) f1) f20 ++ (wLs g b (if fPass x1 x2 x3 = 0 then up (up e1 (7 + x1) x2) (31 + x1) (if x2 = 0 then 0 else x3) else e1) e10 e11 ++ (wM g am e1 k1 M3 M4 M5 f1 M7 M8 p1 m10 m11 m12 M13 f20 p20 M22 M23 M24 M25 ++ (wLs g d k1 k10 k11 ++ (wF g fo b tr o1 ++ (wLs g tr t1 t10 t11 ++ (wT g tp p1 p20 p21 p22 p23 p24 ++ (wSs g sh m10 m11 m12)))))))) := D_perm (List.Perm.append_left _ (List.Perm.append_left _ (List.perm_append_comm_assoc _ _ _))) hD
  have hD : va_D (fun q : Nat => s.heap.size ≤ q) (wX g a b d fo tp sh (fb (fPass x1 x2 x3) f1) f20 ++ (wM g am e1 k1 M3 M4 M5 f1 M7 M8 p1 m10 m11 m12 M13 f20 p20 M22 M23 M24 M25 ++ (wLs g b (if fPass x1 x2 x3 = 0 then up (up e1 (7 + x1) x2) (31 + x1) (if x2 = 0 then 0 else x3) else e1) e10 e11 ++ (wLs g d k1 k10 k11 ++ (wF g fo b tr o1 ++ (wLs g tr t1 t10 t11 ++ (wT g tp p1 p20 p21 p22 p23 p24 ++ (wSs g sh m10 m11 m12)))))))) := D_perm (List.Perm.append_left _ (List.perm_append_comm_assoc _ _ _)) hD
  have hD : va_D (fun q : Nat => s.heap.size ≤ q) (wM g am e1 k1 M3 M4 M5 f1 M7 M8 p1 m10 m11 m12 M13 f20 p20 M22 M23 M24 M25 ++ (wX g a b d fo tp sh (fb (fPass x1 x2 x3) f1) f20 ++ (wLs g b (if fPass x1 x2 x3 = 0 then up (up e1 (7 + x1) x2) (31 + x1) (if x2 = 0 then 0 else x3) else e1) e10 e11 ++ (wLs g d k1 k10 k11 ++ (wF g fo b tr o1 ++ (wLs g tr t1 t10 t11 ++ (wT g tp p1 p20 p21 p22 p23 p24 ++ (wSs g sh m10 m11 m12)))))))) := D_perm (List.perm_append_comm_assoc _ _ _) hD
  have hP : va_P g.1 vwCl (wM g am e1 k1 M3 M4 M5 f1 M7 M8 p1 m10 m11 m12 M13 f20 p20 M22 M23 M24 M25 ++ (wX g a b d fo tp sh (fb (fPass x1 x2 x3) f1) f20 ++ (wLs g b (if fPass x1 x2 x3 = 0 then up (up e1 (7 + x1) x2) (31 + x1) (if x2 = 0 then 0 else x3) else e1) e10 e11 ++ (wLs g d k1 k10 k11 ++ (wF g fo b tr o1 ++ (wLs g tr t1 t10 t11 ++ (wT g tp p1 p20 p21 p22 p23 p24 ++ (wSs g sh m10 m11 m12)))))))) H := va_P_app.mpr ⟨hP7, va_P_app.mpr ⟨hP0, va_P_app.mpr ⟨hP1, va_P_app.mpr ⟨hP2, va_P_app.mpr ⟨hP3, va_P_app.mpr ⟨hP4, va_P_app.mpr ⟨hP5, hP6⟩⟩⟩⟩⟩⟩⟩
  refine xmF_i (rV (rest := [.int (ab (fPass x1 x2 x3) (iI (if 0 < e1 (7 + x1) then 1 else 0)))]) hx hb hml hown hts hK hl (c_X5_pass l g am e1 k1 M3 M4 M5 f1 M7 M8 p1 m10 m11 m12 M13 f20 p20 M22 M23 M24 M25 x1 x2 x3 H.size (show InvK 0 e1 from hI) (show e1 0 ≤ 9999 from by omega) (show IR x1 from ⟨by omega, by omega⟩) (show IR x2 from ⟨by omega, by omega⟩) (show IR x3 from ⟨by omega, by omega⟩)) lk_L_17 ⟨rfl, hP7, (va_D_app hD).1.weaken (fun _ _ _ _ => trivial)⟩ (va_recv hK.1 hP7 (ci := 5) (q0 := 0) rfl rfl) rfl rfl rfl (Rm.of rfl) rfl rfl dL_law_251) hP hD hS hA (fun x9 _ H locs hw hP hD hS => ?_)
  obtain rfl : x9 = ab (fPass x1 x2 x3) (iI (if 0 < e1 (7 + x1) then 1 else 0)) := hw
  have hP : va_P g.1 vwCl (wM g am (if fPass x1 x2 x3 = 0 then up (up e1 (7 + x1) x2) (31 + x1) (if x2 = 0 then 0 else x3) else e1) k1 M3 M4 M5 (fb (fPass x1 x2 x3) f1) M7 M8 p1 m10 m11 m12 M13 f20 p20 M22 M23 M24 M25 ++ (wX g a b d fo tp sh (fb (fPass x1 x2 x3) f1) f20 ++ (wLs g b (if fPass x1 x2 x3 = 0 then up (up e1 (7 + x1) x2) (31 + x1) (if x2 = 0 then 0 else x3) else e1) e10 e11 ++ (wLs g d k1 k10 k11 ++ (wF g fo b tr o1 ++ (wLs g tr t1 t10 t11 ++ (wT g tp p1 p20 p21 p22 p23 p24 ++ (wSs g sh m10 m11 m12)))))))) H := hP
  have hD : va_D (fun q : Nat => s.heap.size ≤ q) (wM g am (if fPass x1 x2 x3 = 0 then up (up e1 (7 + x1) x2) (31 + x1) (if x2 = 0 then 0 else x3) else e1) k1 M3 M4 M5 (fb (fPass x1 x2 x3) f1) M7 M8 p1 m10 m11 m12 M13 f20 p20 M22 M23 M24 M25 ++ (wX g a b d fo tp sh (fb (fPass x1 x2 x3) f1) f20 ++ (wLs g b (if fPass x1 x2 x3 = 0 then up (up e1 (7 + x1) x2) (31 + x1) (if x2 = 0 then 0 else x3) else e1) e10 e11 ++ (wLs g d k1 k10 k11 ++ (wF g fo b tr o1 ++ (wLs g tr t1 t10 t11 ++ (wT g tp p1 p20 p21 p22 p23 p24 ++ (wSs g sh m10 m11 m12)))))))) := hD
  obtain ⟨hP7, hPr0⟩ := va_P_app.mp hP
  obtain ⟨hP0, hPr1⟩ := va_P_app.mp hPr0
  obtain ⟨hP1, hPr2⟩ := va_P_app.mp hPr1
  obtain ⟨hP2, hPr3⟩ := va_P_app.mp hPr2
  obtain ⟨hP3, hPr4⟩ := va_P_app.mp hPr3
  obtain ⟨hP4, hPr5⟩ := va_P_app.mp hPr4
  obtain ⟨hP5, hP6⟩ := va_P_app.mp hPr5
  refine lv_icmp_eq (tgt := 1473) hx hb dL_law_254 (by decide) (fun _ => ?_) (fun z => absurd rfl z)
  have hD : va_D (fun q : Nat => s.heap.size ≤ q) (wX g a b d fo tp sh (fb (fPass x1 x2 x3) f1) f20 ++ (wM g am (if fPass x1 x2 x3 = 0 then up (up e1 (7 + x1) x2) (31 + x1) (if x2 = 0 then 0 else x3) else e1) k1 M3 M4 M5 (fb (fPass x1 x2 x3) f1) M7 M8 p1 m10 m11 m12 M13 f20 p20 M22 M23 M24 M25 ++ (wLs g b (if fPass x1 x2 x3 = 0 then up (up e1 (7 + x1) x2) (31 + x1) (if x2 = 0 then 0 else x3) else e1) e10 e11 ++ (wLs g d k1 k10 k11 ++ (wF g fo b tr o1 ++ (wLs g tr t1 t10 t11 ++ (wT g tp p1 p20 p21 p22 p23 p24 ++ (wSs g sh m10 m11 m12)))))))) := D_perm (List.perm_append_comm_assoc _ _ _) hD
  have hD : va_D (fun q : Nat => s.heap.size ≤ q) (wX g a b d fo tp sh (fb (fPass x1 x2 x3) f1) f20 ++ (wLs g b (if fPass x1 x2 x3 = 0 then up (up e1 (7 + x1) x2) (31 + x1) (if x2 = 0 then 0 else x3) else e1) e10 e11 ++ (wM g am (if fPass x1 x2 x3 = 0 then up (up e1 (7 + x1) x2) (31 + x1) (if x2 = 0 then 0 else x3) else e1) k1 M3 M4 M5 (fb (fPass x1 x2 x3) f1) M7 M8 p1 m10 m11 m12 M13 f20 p20 M22 M23 M24 M25 ++ (wLs g d k1 k10 k11 ++ (wF g fo b tr o1 ++ (wLs g tr t1 t10 t11 ++ (wT g tp p1 p20 p21 p22 p23 p24 ++ (wSs g sh m10 m11 m12)))))))) := D_perm (List.Perm.append_left _ (List.perm_append_comm_assoc _ _ _)) hD
  have hD : va_D (fun q : Nat => s.heap.size ≤ q) (wX g a b d fo tp sh (fb (fPass x1 x2 x3) f1) f20 ++ (wLs g b (if fPass x1 x2 x3 = 0 then up (up e1 (7 + x1) x2) (31 + x1) (if x2 = 0 then 0 else x3) else e1) e10 e11 ++ (wLs g d k1 k10 k11 ++ (wM g am (if fPass x1 x2 x3 = 0 then up (up e1 (7 + x1) x2) (31 + x1) (if x2 = 0 then 0 else x3) else e1) k1 M3 M4 M5 (fb (fPass x1 x2 x3) f1) M7 M8 p1 m10 m11 m12 M13 f20 p20 M22 M23 M24 M25 ++ (wF g fo b tr o1 ++ (wLs g tr t1 t10 t11 ++ (wT g tp p1 p20 p21 p22 p23 p24 ++ (wSs g sh m10 m11 m12)))))))) := D_perm (List.Perm.append_left _ (List.Perm.append_left _ (List.perm_append_comm_assoc _ _ _))) hD
  have hD : va_D (fun q : Nat => s.heap.size ≤ q) (wX g a b d fo tp sh (fb (fPass x1 x2 x3) f1) f20 ++ (wLs g b (if fPass x1 x2 x3 = 0 then up (up e1 (7 + x1) x2) (31 + x1) (if x2 = 0 then 0 else x3) else e1) e10 e11 ++ (wLs g d k1 k10 k11 ++ (wF g fo b tr o1 ++ (wM g am (if fPass x1 x2 x3 = 0 then up (up e1 (7 + x1) x2) (31 + x1) (if x2 = 0 then 0 else x3) else e1) k1 M3 M4 M5 (fb (fPass x1 x2 x3) f1) M7 M8 p1 m10 m11 m12 M13 f20 p20 M22 M23 M24 M25 ++ (wLs g tr t1 t10 t11 ++ (wT g tp p1 p20 p21 p22 p23 p24 ++ (wSs g sh m10 m11 m12)))))))) := D_perm (List.Perm.append_left _ (List.Perm.append_left _ (List.Perm.append_left _ (List.perm_append_comm_assoc _ _ _)))) hD
  have hD : va_D (fun q : Nat => s.heap.size ≤ q) (wX g a b d fo tp sh (fb (fPass x1 x2 x3) f1) f20 ++ (wLs g b (if fPass x1 x2 x3 = 0 then up (up e1 (7 + x1) x2) (31 + x1) (if x2 = 0 then 0 else x3) else e1) e10 e11 ++ (wLs g d k1 k10 k11 ++ (wF g fo b tr o1 ++ (wLs g tr t1 t10 t11 ++ (wM g am (if fPass x1 x2 x3 = 0 then up (up e1 (7 + x1) x2) (31 + x1) (if x2 = 0 then 0 else x3) else e1) k1 M3 M4 M5 (fb (fPass x1 x2 x3) f1) M7 M8 p1 m10 m11 m12 M13 f20 p20 M22 M23 M24 M25 ++ (wT g tp p1 p20 p21 p22 p23 p24 ++ (wSs g sh m10 m11 m12)))))))) := D_perm (List.Perm.append_left _ (List.Perm.append_left _ (List.Perm.append_left _ (List.Perm.append_left _ (List.perm_append_comm_assoc _ _ _))))) hD
  have hD : va_D (fun q : Nat => s.heap.size ≤ q) (wX g a b d fo tp sh (fb (fPass x1 x2 x3) f1) f20 ++ (wLs g b (if fPass x1 x2 x3 = 0 then up (up e1 (7 + x1) x2) (31 + x1) (if x2 = 0 then 0 else x3) else e1) e10 e11 ++ (wLs g d k1 k10 k11 ++ (wF g fo b tr o1 ++ (wLs g tr t1 t10 t11 ++ (wT g tp p1 p20 p21 p22 p23 p24 ++ (wM g am (if fPass x1 x2 x3 = 0 then up (up e1 (7 + x1) x2) (31 + x1) (if x2 = 0 then 0 else x3) else e1) k1 M3 M4 M5 (fb (fPass x1 x2 x3) f1) M7 M8 p1 m10 m11 m12 M13 f20 p20 M22 M23 M24 M25 ++ (wSs g sh m10 m11 m12)))))))) := D_perm (List.Perm.append_left _ (List.Perm.append_left _ (List.Perm.append_left _ (List.Perm.append_left _ (List.Perm.append_left _ (List.perm_append_comm_assoc _ _ _)))))) hD
  have hD : va_D (fun q : Nat => s.heap.size ≤ q) (wX g a b d fo tp sh (fb (fPass x1 x2 x3) f1) f20 ++ (wLs g b (if fPass x1 x2 x3 = 0 then up (up e1 (7 + x1) x2) (31 + x1) (if x2 = 0 then 0 else x3) else e1) e10 e11 ++ (wLs g d k1 k10 k11 ++ (wF g fo b tr o1 ++ (wLs g tr t1 t10 t11 ++ (wT g tp p1 p20 p21 p22 p23 p24 ++ (wSs g sh m10 m11 m12 ++ (wM g am (if fPass x1 x2 x3 = 0 then up (up e1 (7 + x1) x2) (31 + x1) (if x2 = 0 then 0 else x3) else e1) k1 M3 M4 M5 (fb (fPass x1 x2 x3) f1) M7 M8 p1 m10 m11 m12 M13 f20 p20 M22 M23 M24 M25)))))))) := D_perm (List.Perm.append_left _ (List.Perm.append_left _ (List.Perm.append_left _ (List.Perm.append_left _ (List.Perm.append_left _ (List.Perm.append_left _ (List.perm_append_comm))))))) hD
  have hP : va_P g.1 vwCl (wX g a b d fo tp sh (fb (fPass x1 x2 x3) f1) f20 ++ (wLs g b (if fPass x1 x2 x3 = 0 then up (up e1 (7 + x1) x2) (31 + x1) (if x2 = 0 then 0 else x3) else e1) e10 e11 ++ (wLs g d k1 k10 k11 ++ (wF g fo b tr o1 ++ (wLs g tr t1 t10 t11 ++ (wT g tp p1 p20 p21 p22 p23 p24 ++ (wSs g sh m10 m11 m12 ++ (wM g am (if fPass x1 x2 x3 = 0 then up (up e1 (7 + x1) x2) (31 + x1) (if x2 = 0 then 0 else x3) else e1) k1 M3 M4 M5 (fb (fPass x1 x2 x3) f1) M7 M8 p1 m10 m11 m12 M13 f20 p20 M22 M23 M24 M25)))))))) H := va_P_app.mpr ⟨hP0, va_P_app.mpr ⟨hP1, va_P_app.mpr ⟨hP2, va_P_app.mpr ⟨hP3, va_P_app.mpr ⟨hP4, va_P_app.mpr ⟨hP5, va_P_app.mpr ⟨hP6, hP7⟩⟩⟩⟩⟩⟩⟩
  exact K (fun k => ([(fb (fPass x1 x2 x3) f1), (fun _ => f20), (if fPass x1 x2 x3 = 0 then up (up e1 (7 + x1) x2) (31 + x1) (if x2 = 0 then 0 else x3) else e1), e10, e11, k1, k10, k11, o1, t1, t10, t11, p1, (fun _ => p20), (fun _ => p21), (fun _ => p22), (fun _ => p23), (fun _ => p24), m10, m11, m12, M3, M4, M5, M7, M8, M13, (fun _ => M22), (fun _ => M23), (fun _ => M24), (fun _ => M25)] : List (Int → Int)).getD k z0) H locs (show LVx (if fPass x1 x2 x3 = 0 then up (up e1 (7 + x1) x2) (31 + x1) (if x2 = 0 then 0 else x3) else e1) k1 f20 p1 p20 m10 m11 m12 M24 from ⟨iv_pass hIe, hIk, hkp, hHB, hpz, hSS, hLR, hvz⟩) hP hD hS

set_option maxRecDepth 100000 in
set_option maxHeartbeats 4000000 in
theorem lc_1 {p : Program} {l : Launch} {e : Env} {s : State} {m : MethodId} {below : List Frame} {meth : Method} {c : Code} {g : Gd} {σ : Sg} {bs L : Nat} {xs : Nat → Int32} {Q : State → Prop} (hL : L ≤ 3072) (hC : LCx g σ p s m c bs L xs) (a b d fo tr tp sh am : Nat → Nat) (f1 e1 e10 e11 k1 k10 k11 o1 t1 t10 t11 p1 m10 m11 m12 M3 M4 M5 M7 M8 M13 : Int → Int) (f20 p20 p21 p22 p23 p24 M22 M23 M24 M25 : Int) (hV : LVx e1 k1 f20 p1 p20 m10 m11 m12 M24) {i9 : Nat} (hi9 : i9 + 6 ≤ L) {ls : Array Slot} (hl : lv_has ls 4 [(3, .int (iI (i9 : Int))), (2, .ref (am 0)), (1, .ref (a 0)), (0, .ref bs)]) {H : Heap} {locs : List Loc} (hP : va_P g.1 vwCl (wX g a b d fo tp sh f1 f20 ++ (wLs g b e1 e10 e11 ++ (wLs g d k1 k10 k11 ++ (wF g fo b tr o1 ++ (wLs g tr t1 t10 t11 ++ (wT g tp p1 p20 p21 p22 p23 p24 ++ (wSs g sh m10 m11 m12 ++ (wM g am e1 k1 M3 M4 M5 f1 M7 M8 p1 m10 m11 m12 M13 f20 p20 M22 M23 M24 M25)))))))) H) (hD : va_D (fun q : Nat => s.heap.size ≤ q) (wX g a b d fo tp sh f1 f20 ++ (wLs g b e1 e10 e11 ++ (wLs g d k1 k10 k11 ++ (wF g fo b tr o1 ++ (wLs g tr t1 t10 t11 ++ (wT g tp p1 p20 p21 p22 p23 p24 ++ (wSs g sh m10 m11 m12 ++ (wM g am e1 k1 M3 M4 M5 f1 M7 M8 p1 m10 m11 m12 M13 f20 p20 M22 M23 M24 M25))))))))) (hS : va_S (fun q : Nat => s.heap.size ≤ q) s.heap H locs) (K : ∀ (u : Nat → Int → Int) (H : Heap) (locs : List Loc), LV u → va_P g.1 vwCl (LW g (fun k => ([a, b, d, fo, tr, tp, sh, am] : List (Nat → Nat)).getD k a) u) H → va_D (fun q : Nat => s.heap.size ≤ q) (LW g (fun k => ([a, b, d, fo, tr, tp, sh, am] : List (Nat → Nat)).getD k a) u) → va_S (fun q : Nat => s.heap.size ≤ q) s.heap H locs → W p l e room_1 s m #[Value.ref bs] below meth c H locs 65 1678 Q (F0 m 1473 ls [])) : W p l e room_1 s m #[Value.ref bs] below meth c H locs 65 1678 Q (F0 m 259 ls []) := by
  obtain ⟨hx, hb, hml, hown, hts, hK, hX, hbl, hSB⟩ := hC
  have hbA : ¬ (fun q : Nat => s.heap.size ≤ q) bs := Nat.not_le.mpr hbl
  have hA : ∀ q : Nat, s.heap.size ≤ q → (fun q : Nat => s.heap.size ≤ q) q := fun _ h => h
  obtain ⟨hIe, hIk, hkp, hHB, hpz, hSS, hLR, hvz⟩ := hV
  have hI := hIe.1
  have hs9 := hIe.2
  obtain ⟨x1, hx1⟩ : ∃ x : Int, x = (xs (i9 + 1)).toInt := ⟨_, rfl⟩
  have ha1a : -2147483648 ≤ x1 := by rw [hx1]; exact (IR_of _).1
  have ha1b : x1 ≤ 2147483647 := by rw [hx1]; exact (IR_of _).2
  obtain ⟨x2, hx2⟩ : ∃ x : Int, x = (xs (i9 + 2)).toInt := ⟨_, rfl⟩
  have ha2a : -2147483648 ≤ x2 := by rw [hx2]; exact (IR_of _).1
  have ha2b : x2 ≤ 2147483647 := by rw [hx2]; exact (IR_of _).2
  obtain ⟨x3, hx3⟩ : ∃ x : Int, x = (xs (i9 + 3)).toInt := ⟨_, rfl⟩
  have ha3a : -2147483648 ≤ x3 := by rw [hx3]; exact (IR_of _).1
  have ha3b : x3 ≤ 2147483647 := by rw [hx3]; exact (IR_of _).2
  obtain ⟨x4, hx4⟩ : ∃ x : Int, x = (xs (i9 + 4)).toInt := ⟨_, rfl⟩
  have ha4a : -2147483648 ≤ x4 := by rw [hx4]; exact (IR_of _).1
  have ha4b : x4 ≤ 2147483647 := by rw [hx4]; exact (IR_of _).2
  obtain ⟨x5, hx5⟩ : ∃ x : Int, x = (xs (i9 + 5)).toInt := ⟨_, rfl⟩
  have ha5a : -2147483648 ≤ x5 := by rw [hx5]; exact (IR_of _).1
  have ha5b : x5 ≤ 2147483647 := by rw [hx5]; exact (IR_of _).2
  obtain ⟨hP0, hPr0⟩ := va_P_app.mp hP
  obtain ⟨hP1, hPr1⟩ := va_P_app.mp hPr0
  obtain ⟨hP2, hPr2⟩ := va_P_app.mp hPr1
  obtain ⟨hP3, hPr3⟩ := va_P_app.mp hPr2
  obtain ⟨hP4, hPr4⟩ := va_P_app.mp hPr3
  obtain ⟨hP5, hPr5⟩ := va_P_app.mp hPr4
  obtain ⟨hP6, hP7⟩ := va_P_app.mp hPr5
  refine lv_aload_n hx hb dL_law_259 rfl (lv_at hl 2 rfl) ?_
  refine lv_aload_n hx hb dL_law_260 rfl (lv_at hl 3 rfl) ?_
  refine lv_iload_n hx hb dL_law_261 rfl (lv_at hl 0 rfl) ?_
  refine lv_iconst (v := iI (1)) hx hb dL_law_262 (by decide) ?_
  refine xi_add hx hb dL_law_263 ?_
  refine xs_ld (i := (i9 : Int) + 1) (j := i9 + 1) hx hb hX hbl hbA hS (by omega) (by omega) hL dL_law_264 ?_
  rw [← hx1]
  refine lv_aload_n hx hb dL_law_265 rfl (lv_at hl 3 rfl) ?_
  refine lv_iload_n hx hb dL_law_266 rfl (lv_at hl 0 rfl) ?_
  refine lv_iconst (v := iI (2)) hx hb dL_law_267 (by decide) ?_
  refine xi_add hx hb dL_law_268 ?_
  refine xs_ld (i := (i9 : Int) + 2) (j := i9 + 2) hx hb hX hbl hbA hS (by omega) (by omega) hL dL_law_269 ?_
  rw [← hx2]
  have hP : va_P g.1 vwCl ((wX g a b d fo tp sh f1 f20 ++ (wLs g b e1 e10 e11)) ++ (wLs g d k1 k10 k11 ++ (wF g fo b tr o1 ++ (wLs g tr t1 t10 t11 ++ (wT g tp p1 p20 p21 p22 p23 p24 ++ (wSs g sh m10 m11 m12 ++ (wM g am e1 k1 M3 M4 M5 f1 M7 M8 p1 m10 m11 m12 M13 f20 p20 M22 M23 M24 M25))))))) H := by rw [List.append_assoc]; exact hP
  have hD : va_D (fun q : Nat => s.heap.size ≤ q) ((wX g a b d fo tp sh f1 f20 ++ (wLs g b e1 e10 e11)) ++ (wLs g d k1 k10 k11 ++ (wF g fo b tr o1 ++ (wLs g tr t1 t10 t11 ++ (wT g tp p1 p20 p21 p22 p23 p24 ++ (wSs g sh m10 m11 m12 ++ (wM g am e1 k1 M3 M4 M5 f1 M7 M8 p1 m10 m11 m12 M13 f20 p20 M22 M23 M24 M25))))))) := by rw [List.append_assoc]; exact hD
  refine xmF_i (rV (rest := []) hx hb hml hown hts hK hl (c_X4_cell l g d fo tp sh a f1 f20 b e1 e10 e11 x1 x2 H.size (show InvK 0 e1 from hI) (show e1 0 ≤ 9999 from by omega) (show IR x1 from ⟨by omega, by omega⟩) (show IR x2 from ⟨by omega, by omega⟩)) lk_L_18 ⟨rfl, (va_P_app.mp hP).1, (va_D_app hD).1.weaken (fun _ _ _ _ => trivial)⟩ (va_recv hK.1 hP0 (ci := 4) (q0 := 0) rfl rfl) rfl rfl rfl (Rm.of rfl) rfl rfl dL_law_270) hP hD hS hA (fun x9 _ H locs hw hP hD hS => ?_)
  have hP : va_P g.1 vwCl ((wX g a b d fo tp sh (fb (fCell x1 x2) f1) f20 ++ (wLs g b e1 e10 e11)) ++ (wLs g d k1 k10 k11 ++ (wF g fo b tr o1 ++ (wLs g tr t1 t10 t11 ++ (wT g tp p1 p20 p21 p22 p23 p24 ++ (wSs g sh m10 m11 m12 ++ (wM g am e1 k1 M3 M4 M5 f1 M7 M8 p1 m10 m11 m12 M13 f20 p20 M22 M23 M24 M25))))))) H := hP
  have hD : va_D (fun q : Nat => s.heap.size ≤ q) ((wX g a b d fo tp sh (fb (fCell x1 x2) f1) f20 ++ (wLs g b e1 e10 e11)) ++ (wLs g d k1 k10 k11 ++ (wF g fo b tr o1 ++ (wLs g tr t1 t10 t11 ++ (wT g tp p1 p20 p21 p22 p23 p24 ++ (wSs g sh m10 m11 m12 ++ (wM g am e1 k1 M3 M4 M5 f1 M7 M8 p1 m10 m11 m12 M13 f20 p20 M22 M23 M24 M25))))))) := hD
  rw [List.append_assoc] at hP hD
  obtain rfl : x9 = ab (fCell x1 x2) (iI (aCell e1 x1 x2)) := hw
  have hP : va_P g.1 vwCl (wX g a b d fo tp sh (fb (fCell x1 x2) f1) f20 ++ (wLs g b e1 e10 e11 ++ (wLs g d k1 k10 k11 ++ (wF g fo b tr o1 ++ (wLs g tr t1 t10 t11 ++ (wT g tp p1 p20 p21 p22 p23 p24 ++ (wSs g sh m10 m11 m12 ++ (wM g am e1 k1 M3 M4 M5 f1 M7 M8 p1 m10 m11 m12 M13 f20 p20 M22 M23 M24 M25)))))))) H := hP
  have hD : va_D (fun q : Nat => s.heap.size ≤ q) (wX g a b d fo tp sh (fb (fCell x1 x2) f1) f20 ++ (wLs g b e1 e10 e11 ++ (wLs g d k1 k10 k11 ++ (wF g fo b tr o1 ++ (wLs g tr t1 t10 t11 ++ (wT g tp p1 p20 p21 p22 p23 p24 ++ (wSs g sh m10 m11 m12 ++ (wM g am e1 k1 M3 M4 M5 f1 M7 M8 p1 m10 m11 m12 M13 f20 p20 M22 M23 M24 M25)))))))) := hD
  obtain ⟨hP0, hPr0⟩ := va_P_app.mp hP
  obtain ⟨hP1, hPr1⟩ := va_P_app.mp hPr0
  obtain ⟨hP2, hPr2⟩ := va_P_app.mp hPr1
  obtain ⟨hP3, hPr3⟩ := va_P_app.mp hPr2
  obtain ⟨hP4, hPr4⟩ := va_P_app.mp hPr3
  obtain ⟨hP5, hPr5⟩ := va_P_app.mp hPr4
  obtain ⟨hP6, hP7⟩ := va_P_app.mp hPr5
  refine lv_aload_n hx hb dL_law_273 rfl (lv_at hl 1 rfl) ?_
  refine lv_aload_n hx hb dL_law_274 rfl (lv_at hl 3 rfl) ?_
  refine lv_iload_n hx hb dL_law_275 rfl (lv_at hl 0 rfl) ?_
  refine lv_iconst (v := iI (1)) hx hb dL_law_276 (by decide) ?_
  refine xi_add hx hb dL_law_277 ?_
  refine xs_ld (i := (i9 : Int) + 1) (j := i9 + 1) hx hb hX hbl hbA hS (by omega) (by omega) hL dL_law_278 ?_
  rw [← hx1]
  refine lv_aload_n hx hb dL_law_279 rfl (lv_at hl 3 rfl) ?_
  refine lv_iload_n hx hb dL_law_280 rfl (lv_at hl 0 rfl) ?_
  refine lv_iconst (v := iI (2)) hx hb dL_law_281 (by decide) ?_
  refine xi_add hx hb dL_law_282 ?_
  refine xs_ld (i := (i9 : Int) + 2) (j := i9 + 2) hx hb hX hbl hbA hS (by omega) (by omega) hL dL_law_283 ?_
  rw [← hx2]
  have hD : va_D (fun q : Nat => s.heap.size ≤ q) (wX g a b d fo tp sh (fb (fCell x1 x2) f1) f20 ++ (wLs g b e1 e10 e11 ++ (wLs g d k1 k10 k11 ++ (wF g fo b tr o1 ++ (wLs g tr t1 t10 t11 ++ (wT g tp p1 p20 p21 p22 p23 p24 ++ (wM g am e1 k1 M3 M4 M5 f1 M7 M8 p1 m10 m11 m12 M13 f20 p20 M22 M23 M24 M25 ++ (wSs g sh m10 m11 m12)))))))) := D_perm (List.Perm.append_left _ (List.Perm.append_left _ (List.Perm.append_left _ (List.Perm.append_left _ (List.Perm.append_left _ (List.Perm.append_left _ (List.perm_append_comm))))))) hD
  have hD : va_D (fun q : Nat => s.heap.size ≤ q) (wX g a b d fo tp sh (fb (fCell x1 x2) f1) f20 ++ (wLs g b e1 e10 e11 ++ (wLs g d k1 k10 k11 ++ (wF g fo b tr o1 ++ (wLs g tr t1 t10 t11 ++ (wM g am e1 k1 M3 M4 M5 f1 M7 M8 p1 m10 m11 m12 M13 f20 p20 M22 M23 M24 M25 ++ (wT g tp p1 p20 p21 p22 p23 p24 ++ (wSs g sh m10 m11 m12)))))))) := D_perm (List.Perm.append_left _ (List.Perm.append_left _ (List.Perm.append_left _ (List.Perm.append_left _ (List.Perm.append_left _ (List.perm_append_comm_assoc _ _ _)))))) hD
  have hD : va_D (fun q : Nat => s.heap.size ≤ q) (wX g a b d fo tp sh (fb (fCell x1 x2) f1) f20 ++ (wLs g b e1 e10 e11 ++ (wLs g d k1 k10 k11 ++ (wF g fo b tr o1 ++ (wM g am e1 k1 M3 M4 M5 f1 M7 M8 p1 m10 m11 m12 M13 f20 p20 M22 M23 M24 M25 ++ (wLs g tr t1 t10 t11 ++ (wT g tp p1 p20 p21 p22 p23 p24 ++ (wSs g sh m10 m11 m12)))))))) := D_perm (List.Perm.append_left _ (List.Perm.append_left _ (List.Perm.append_left _ (List.Perm.append_left _ (List.perm_append_comm_assoc _ _ _))))) hD
  have hD : va_D (fun q : Nat => s.heap.size ≤ q) (wX g a b d fo tp sh (fb (fCell x1 x2) f1) f20 ++ (wLs g b e1 e10 e11 ++ (wLs g d k1 k10 k11 ++ (wM g am e1 k1 M3 M4 M5 f1 M7 M8 p1 m10 m11 m12 M13 f20 p20 M22 M23 M24 M25 ++ (wF g fo b tr o1 ++ (wLs g tr t1 t10 t11 ++ (wT g tp p1 p20 p21 p22 p23 p24 ++ (wSs g sh m10 m11 m12)))))))) := D_perm (List.Perm.append_left _ (List.Perm.append_left _ (List.Perm.append_left _ (List.perm_append_comm_assoc _ _ _)))) hD
  have hD : va_D (fun q : Nat => s.heap.size ≤ q) (wX g a b d fo tp sh (fb (fCell x1 x2) f1) f20 ++ (wLs g b e1 e10 e11 ++ (wM g am e1 k1 M3 M4 M5 f1 M7 M8 p1 m10 m11 m12 M13 f20 p20 M22 M23 M24 M25 ++ (wLs g d k1 k10 k11 ++ (wF g fo b tr o1 ++ (wLs g tr t1 t10 t11 ++ (wT g tp p1 p20 p21 p22 p23 p24 ++ (wSs g sh m10 m11 m12)))))))) := D_perm (List.Perm.append_left _ (List.Perm.append_left _ (List.perm_append_comm_assoc _ _ _))) hD
  have hD : va_D (fun q : Nat => s.heap.size ≤ q) (wX g a b d fo tp sh (fb (fCell x1 x2) f1) f20 ++ (wM g am e1 k1 M3 M4 M5 f1 M7 M8 p1 m10 m11 m12 M13 f20 p20 M22 M23 M24 M25 ++ (wLs g b e1 e10 e11 ++ (wLs g d k1 k10 k11 ++ (wF g fo b tr o1 ++ (wLs g tr t1 t10 t11 ++ (wT g tp p1 p20 p21 p22 p23 p24 ++ (wSs g sh m10 m11 m12)))))))) := D_perm (List.Perm.append_left _ (List.perm_append_comm_assoc _ _ _)) hD
  have hD : va_D (fun q : Nat => s.heap.size ≤ q) (wM g am e1 k1 M3 M4 M5 f1 M7 M8 p1 m10 m11 m12 M13 f20 p20 M22 M23 M24 M25 ++ (wX g a b d fo tp sh (fb (fCell x1 x2) f1) f20 ++ (wLs g b e1 e10 e11 ++ (wLs g d k1 k10 k11 ++ (wF g fo b tr o1 ++ (wLs g tr t1 t10 t11 ++ (wT g tp p1 p20 p21 p22 p23 p24 ++ (wSs g sh m10 m11 m12)))))))) := D_perm (List.perm_append_comm_assoc _ _ _) hD
  have hP : va_P g.1 vwCl (wM g am e1 k1 M3 M4 M5 f1 M7 M8 p1 m10 m11 m12 M13 f20 p20 M22 M23 M24 M25 ++ (wX g a b d fo tp sh (fb (fCell x1 x2) f1) f20 ++ (wLs g b e1 e10 e11 ++ (wLs g d k1 k10 k11 ++ (wF g fo b tr o1 ++ (wLs g tr t1 t10 t11 ++ (wT g tp p1 p20 p21 p22 p23 p24 ++ (wSs g sh m10 m11 m12)))))))) H := va_P_app.mpr ⟨hP7, va_P_app.mpr ⟨hP0, va_P_app.mpr ⟨hP1, va_P_app.mpr ⟨hP2, va_P_app.mpr ⟨hP3, va_P_app.mpr ⟨hP4, va_P_app.mpr ⟨hP5, hP6⟩⟩⟩⟩⟩⟩⟩
  refine xmF_i (rV (rest := [.int (ab (fCell x1 x2) (iI (aCell e1 x1 x2)))]) hx hb hml hown hts hK hl (c_X5_cell l g am e1 k1 M3 M4 M5 f1 M7 M8 p1 m10 m11 m12 M13 f20 p20 M22 M23 M24 M25 x1 x2 H.size (show InvK 0 e1 from hI) (show e1 0 ≤ 9999 from by omega) (show IR x1 from ⟨by omega, by omega⟩) (show IR x2 from ⟨by omega, by omega⟩)) lk_L_22 ⟨rfl, hP7, (va_D_app hD).1.weaken (fun _ _ _ _ => trivial)⟩ (va_recv hK.1 hP7 (ci := 5) (q0 := 0) rfl rfl) rfl rfl rfl (Rm.of rfl) rfl rfl dL_law_284) hP hD hS hA (fun x9 _ H locs hw hP hD hS => ?_)
  obtain rfl : x9 = ab (fCell x1 x2) (iI (aCell e1 x1 x2)) := hw
  have hP : va_P g.1 vwCl (wM g am e1 k1 M3 M4 M5 (fb (fCell x1 x2) f1) M7 M8 p1 m10 m11 m12 M13 f20 p20 M22 M23 M24 M25 ++ (wX g a b d fo tp sh (fb (fCell x1 x2) f1) f20 ++ (wLs g b e1 e10 e11 ++ (wLs g d k1 k10 k11 ++ (wF g fo b tr o1 ++ (wLs g tr t1 t10 t11 ++ (wT g tp p1 p20 p21 p22 p23 p24 ++ (wSs g sh m10 m11 m12)))))))) H := hP
  have hD : va_D (fun q : Nat => s.heap.size ≤ q) (wM g am e1 k1 M3 M4 M5 (fb (fCell x1 x2) f1) M7 M8 p1 m10 m11 m12 M13 f20 p20 M22 M23 M24 M25 ++ (wX g a b d fo tp sh (fb (fCell x1 x2) f1) f20 ++ (wLs g b e1 e10 e11 ++ (wLs g d k1 k10 k11 ++ (wF g fo b tr o1 ++ (wLs g tr t1 t10 t11 ++ (wT g tp p1 p20 p21 p22 p23 p24 ++ (wSs g sh m10 m11 m12)))))))) := hD
  obtain ⟨hP7, hPr0⟩ := va_P_app.mp hP
  obtain ⟨hP0, hPr1⟩ := va_P_app.mp hPr0
  obtain ⟨hP1, hPr2⟩ := va_P_app.mp hPr1
  obtain ⟨hP2, hPr3⟩ := va_P_app.mp hPr2
  obtain ⟨hP3, hPr4⟩ := va_P_app.mp hPr3
  obtain ⟨hP4, hPr5⟩ := va_P_app.mp hPr4
  obtain ⟨hP5, hP6⟩ := va_P_app.mp hPr5
  refine lv_icmp_eq (tgt := 1473) hx hb dL_law_287 (by decide) (fun _ => ?_) (fun z => absurd rfl z)
  have hD : va_D (fun q : Nat => s.heap.size ≤ q) (wX g a b d fo tp sh (fb (fCell x1 x2) f1) f20 ++ (wM g am e1 k1 M3 M4 M5 (fb (fCell x1 x2) f1) M7 M8 p1 m10 m11 m12 M13 f20 p20 M22 M23 M24 M25 ++ (wLs g b e1 e10 e11 ++ (wLs g d k1 k10 k11 ++ (wF g fo b tr o1 ++ (wLs g tr t1 t10 t11 ++ (wT g tp p1 p20 p21 p22 p23 p24 ++ (wSs g sh m10 m11 m12)))))))) := D_perm (List.perm_append_comm_assoc _ _ _) hD
  have hD : va_D (fun q : Nat => s.heap.size ≤ q) (wX g a b d fo tp sh (fb (fCell x1 x2) f1) f20 ++ (wLs g b e1 e10 e11 ++ (wM g am e1 k1 M3 M4 M5 (fb (fCell x1 x2) f1) M7 M8 p1 m10 m11 m12 M13 f20 p20 M22 M23 M24 M25 ++ (wLs g d k1 k10 k11 ++ (wF g fo b tr o1 ++ (wLs g tr t1 t10 t11 ++ (wT g tp p1 p20 p21 p22 p23 p24 ++ (wSs g sh m10 m11 m12)))))))) := D_perm (List.Perm.append_left _ (List.perm_append_comm_assoc _ _ _)) hD
  have hD : va_D (fun q : Nat => s.heap.size ≤ q) (wX g a b d fo tp sh (fb (fCell x1 x2) f1) f20 ++ (wLs g b e1 e10 e11 ++ (wLs g d k1 k10 k11 ++ (wM g am e1 k1 M3 M4 M5 (fb (fCell x1 x2) f1) M7 M8 p1 m10 m11 m12 M13 f20 p20 M22 M23 M24 M25 ++ (wF g fo b tr o1 ++ (wLs g tr t1 t10 t11 ++ (wT g tp p1 p20 p21 p22 p23 p24 ++ (wSs g sh m10 m11 m12)))))))) := D_perm (List.Perm.append_left _ (List.Perm.append_left _ (List.perm_append_comm_assoc _ _ _))) hD
  have hD : va_D (fun q : Nat => s.heap.size ≤ q) (wX g a b d fo tp sh (fb (fCell x1 x2) f1) f20 ++ (wLs g b e1 e10 e11 ++ (wLs g d k1 k10 k11 ++ (wF g fo b tr o1 ++ (wM g am e1 k1 M3 M4 M5 (fb (fCell x1 x2) f1) M7 M8 p1 m10 m11 m12 M13 f20 p20 M22 M23 M24 M25 ++ (wLs g tr t1 t10 t11 ++ (wT g tp p1 p20 p21 p22 p23 p24 ++ (wSs g sh m10 m11 m12)))))))) := D_perm (List.Perm.append_left _ (List.Perm.append_left _ (List.Perm.append_left _ (List.perm_append_comm_assoc _ _ _)))) hD
  have hD : va_D (fun q : Nat => s.heap.size ≤ q) (wX g a b d fo tp sh (fb (fCell x1 x2) f1) f20 ++ (wLs g b e1 e10 e11 ++ (wLs g d k1 k10 k11 ++ (wF g fo b tr o1 ++ (wLs g tr t1 t10 t11 ++ (wM g am e1 k1 M3 M4 M5 (fb (fCell x1 x2) f1) M7 M8 p1 m10 m11 m12 M13 f20 p20 M22 M23 M24 M25 ++ (wT g tp p1 p20 p21 p22 p23 p24 ++ (wSs g sh m10 m11 m12)))))))) := D_perm (List.Perm.append_left _ (List.Perm.append_left _ (List.Perm.append_left _ (List.Perm.append_left _ (List.perm_append_comm_assoc _ _ _))))) hD
  have hD : va_D (fun q : Nat => s.heap.size ≤ q) (wX g a b d fo tp sh (fb (fCell x1 x2) f1) f20 ++ (wLs g b e1 e10 e11 ++ (wLs g d k1 k10 k11 ++ (wF g fo b tr o1 ++ (wLs g tr t1 t10 t11 ++ (wT g tp p1 p20 p21 p22 p23 p24 ++ (wM g am e1 k1 M3 M4 M5 (fb (fCell x1 x2) f1) M7 M8 p1 m10 m11 m12 M13 f20 p20 M22 M23 M24 M25 ++ (wSs g sh m10 m11 m12)))))))) := D_perm (List.Perm.append_left _ (List.Perm.append_left _ (List.Perm.append_left _ (List.Perm.append_left _ (List.Perm.append_left _ (List.perm_append_comm_assoc _ _ _)))))) hD
  have hD : va_D (fun q : Nat => s.heap.size ≤ q) (wX g a b d fo tp sh (fb (fCell x1 x2) f1) f20 ++ (wLs g b e1 e10 e11 ++ (wLs g d k1 k10 k11 ++ (wF g fo b tr o1 ++ (wLs g tr t1 t10 t11 ++ (wT g tp p1 p20 p21 p22 p23 p24 ++ (wSs g sh m10 m11 m12 ++ (wM g am e1 k1 M3 M4 M5 (fb (fCell x1 x2) f1) M7 M8 p1 m10 m11 m12 M13 f20 p20 M22 M23 M24 M25)))))))) := D_perm (List.Perm.append_left _ (List.Perm.append_left _ (List.Perm.append_left _ (List.Perm.append_left _ (List.Perm.append_left _ (List.Perm.append_left _ (List.perm_append_comm))))))) hD
  have hP : va_P g.1 vwCl (wX g a b d fo tp sh (fb (fCell x1 x2) f1) f20 ++ (wLs g b e1 e10 e11 ++ (wLs g d k1 k10 k11 ++ (wF g fo b tr o1 ++ (wLs g tr t1 t10 t11 ++ (wT g tp p1 p20 p21 p22 p23 p24 ++ (wSs g sh m10 m11 m12 ++ (wM g am e1 k1 M3 M4 M5 (fb (fCell x1 x2) f1) M7 M8 p1 m10 m11 m12 M13 f20 p20 M22 M23 M24 M25)))))))) H := va_P_app.mpr ⟨hP0, va_P_app.mpr ⟨hP1, va_P_app.mpr ⟨hP2, va_P_app.mpr ⟨hP3, va_P_app.mpr ⟨hP4, va_P_app.mpr ⟨hP5, va_P_app.mpr ⟨hP6, hP7⟩⟩⟩⟩⟩⟩⟩
  exact K (fun k => ([(fb (fCell x1 x2) f1), (fun _ => f20), e1, e10, e11, k1, k10, k11, o1, t1, t10, t11, p1, (fun _ => p20), (fun _ => p21), (fun _ => p22), (fun _ => p23), (fun _ => p24), m10, m11, m12, M3, M4, M5, M7, M8, M13, (fun _ => M22), (fun _ => M23), (fun _ => M24), (fun _ => M25)] : List (Int → Int)).getD k z0) H locs (show LVx e1 k1 f20 p1 p20 m10 m11 m12 M24 from ⟨hIe, hIk, hkp, hHB, hpz, hSS, hLR, hvz⟩) hP hD hS

set_option maxRecDepth 100000 in
set_option maxHeartbeats 4000000 in
theorem lc_2 {p : Program} {l : Launch} {e : Env} {s : State} {m : MethodId} {below : List Frame} {meth : Method} {c : Code} {g : Gd} {σ : Sg} {bs L : Nat} {xs : Nat → Int32} {Q : State → Prop} (hL : L ≤ 3072) (hC : LCx g σ p s m c bs L xs) (a b d fo tr tp sh am : Nat → Nat) (f1 e1 e10 e11 k1 k10 k11 o1 t1 t10 t11 p1 m10 m11 m12 M3 M4 M5 M7 M8 M13 : Int → Int) (f20 p20 p21 p22 p23 p24 M22 M23 M24 M25 : Int) (hV : LVx e1 k1 f20 p1 p20 m10 m11 m12 M24) {i9 : Nat} (hi9 : i9 + 6 ≤ L) {ls : Array Slot} (hl : lv_has ls 4 [(3, .int (iI (i9 : Int))), (2, .ref (am 0)), (1, .ref (a 0)), (0, .ref bs)]) {H : Heap} {locs : List Loc} (hP : va_P g.1 vwCl (wX g a b d fo tp sh f1 f20 ++ (wLs g b e1 e10 e11 ++ (wLs g d k1 k10 k11 ++ (wF g fo b tr o1 ++ (wLs g tr t1 t10 t11 ++ (wT g tp p1 p20 p21 p22 p23 p24 ++ (wSs g sh m10 m11 m12 ++ (wM g am e1 k1 M3 M4 M5 f1 M7 M8 p1 m10 m11 m12 M13 f20 p20 M22 M23 M24 M25)))))))) H) (hD : va_D (fun q : Nat => s.heap.size ≤ q) (wX g a b d fo tp sh f1 f20 ++ (wLs g b e1 e10 e11 ++ (wLs g d k1 k10 k11 ++ (wF g fo b tr o1 ++ (wLs g tr t1 t10 t11 ++ (wT g tp p1 p20 p21 p22 p23 p24 ++ (wSs g sh m10 m11 m12 ++ (wM g am e1 k1 M3 M4 M5 f1 M7 M8 p1 m10 m11 m12 M13 f20 p20 M22 M23 M24 M25))))))))) (hS : va_S (fun q : Nat => s.heap.size ≤ q) s.heap H locs) (K : ∀ (u : Nat → Int → Int) (H : Heap) (locs : List Loc), LV u → va_P g.1 vwCl (LW g (fun k => ([a, b, d, fo, tr, tp, sh, am] : List (Nat → Nat)).getD k a) u) H → va_D (fun q : Nat => s.heap.size ≤ q) (LW g (fun k => ([a, b, d, fo, tr, tp, sh, am] : List (Nat → Nat)).getD k a) u) → va_S (fun q : Nat => s.heap.size ≤ q) s.heap H locs → W p l e room_1 s m #[Value.ref bs] below meth c H locs 65 1678 Q (F0 m 1473 ls [])) : W p l e room_1 s m #[Value.ref bs] below meth c H locs 65 1678 Q (F0 m 292 ls []) := by
  obtain ⟨hx, hb, hml, hown, hts, hK, hX, hbl, hSB⟩ := hC
  have hbA : ¬ (fun q : Nat => s.heap.size ≤ q) bs := Nat.not_le.mpr hbl
  have hA : ∀ q : Nat, s.heap.size ≤ q → (fun q : Nat => s.heap.size ≤ q) q := fun _ h => h
  obtain ⟨hIe, hIk, hkp, hHB, hpz, hSS, hLR, hvz⟩ := hV
  have hI := hIe.1
  have hs9 := hIe.2
  obtain ⟨x1, hx1⟩ : ∃ x : Int, x = (xs (i9 + 1)).toInt := ⟨_, rfl⟩
  have ha1a : -2147483648 ≤ x1 := by rw [hx1]; exact (IR_of _).1
  have ha1b : x1 ≤ 2147483647 := by rw [hx1]; exact (IR_of _).2
  obtain ⟨x2, hx2⟩ : ∃ x : Int, x = (xs (i9 + 2)).toInt := ⟨_, rfl⟩
  have ha2a : -2147483648 ≤ x2 := by rw [hx2]; exact (IR_of _).1
  have ha2b : x2 ≤ 2147483647 := by rw [hx2]; exact (IR_of _).2
  obtain ⟨x3, hx3⟩ : ∃ x : Int, x = (xs (i9 + 3)).toInt := ⟨_, rfl⟩
  have ha3a : -2147483648 ≤ x3 := by rw [hx3]; exact (IR_of _).1
  have ha3b : x3 ≤ 2147483647 := by rw [hx3]; exact (IR_of _).2
  obtain ⟨x4, hx4⟩ : ∃ x : Int, x = (xs (i9 + 4)).toInt := ⟨_, rfl⟩
  have ha4a : -2147483648 ≤ x4 := by rw [hx4]; exact (IR_of _).1
  have ha4b : x4 ≤ 2147483647 := by rw [hx4]; exact (IR_of _).2
  obtain ⟨x5, hx5⟩ : ∃ x : Int, x = (xs (i9 + 5)).toInt := ⟨_, rfl⟩
  have ha5a : -2147483648 ≤ x5 := by rw [hx5]; exact (IR_of _).1
  have ha5b : x5 ≤ 2147483647 := by rw [hx5]; exact (IR_of _).2
  obtain ⟨hP0, hPr0⟩ := va_P_app.mp hP
  obtain ⟨hP1, hPr1⟩ := va_P_app.mp hPr0
  obtain ⟨hP2, hPr2⟩ := va_P_app.mp hPr1
  obtain ⟨hP3, hPr3⟩ := va_P_app.mp hPr2
  obtain ⟨hP4, hPr4⟩ := va_P_app.mp hPr3
  obtain ⟨hP5, hPr5⟩ := va_P_app.mp hPr4
  obtain ⟨hP6, hP7⟩ := va_P_app.mp hPr5
  refine lv_aload_n hx hb dL_law_292 rfl (lv_at hl 2 rfl) ?_
  refine lv_aload_n hx hb dL_law_293 rfl (lv_at hl 3 rfl) ?_
  refine lv_iload_n hx hb dL_law_294 rfl (lv_at hl 0 rfl) ?_
  refine lv_iconst (v := iI (1)) hx hb dL_law_295 (by decide) ?_
  refine xi_add hx hb dL_law_296 ?_
  refine xs_ld (i := (i9 : Int) + 1) (j := i9 + 1) hx hb hX hbl hbA hS (by omega) (by omega) hL dL_law_297 ?_
  rw [← hx1]
  have hP : va_P g.1 vwCl ((wX g a b d fo tp sh f1 f20 ++ (wLs g b e1 e10 e11)) ++ (wLs g d k1 k10 k11 ++ (wF g fo b tr o1 ++ (wLs g tr t1 t10 t11 ++ (wT g tp p1 p20 p21 p22 p23 p24 ++ (wSs g sh m10 m11 m12 ++ (wM g am e1 k1 M3 M4 M5 f1 M7 M8 p1 m10 m11 m12 M13 f20 p20 M22 M23 M24 M25))))))) H := by rw [List.append_assoc]; exact hP
  have hD : va_D (fun q : Nat => s.heap.size ≤ q) ((wX g a b d fo tp sh f1 f20 ++ (wLs g b e1 e10 e11)) ++ (wLs g d k1 k10 k11 ++ (wF g fo b tr o1 ++ (wLs g tr t1 t10 t11 ++ (wT g tp p1 p20 p21 p22 p23 p24 ++ (wSs g sh m10 m11 m12 ++ (wM g am e1 k1 M3 M4 M5 f1 M7 M8 p1 m10 m11 m12 M13 f20 p20 M22 M23 M24 M25))))))) := by rw [List.append_assoc]; exact hD
  refine xmF_i (rV (rest := []) hx hb hml hown hts hK hl (c_X4_village l g d fo tp sh a f1 f20 b e1 e10 e11 x1 H.size (show InvK 0 e1 from hI) (show e1 0 ≤ 9999 from by omega) (show IR x1 from ⟨by omega, by omega⟩)) lk_L_23 ⟨rfl, (va_P_app.mp hP).1, (va_D_app hD).1.weaken (fun _ _ _ _ => trivial)⟩ (va_recv hK.1 hP0 (ci := 4) (q0 := 0) rfl rfl) rfl rfl rfl (Rm.of rfl) rfl rfl dL_law_298) hP hD hS hA (fun x9 _ H locs hw hP hD hS => ?_)
  have hP : va_P g.1 vwCl ((wX g a b d fo tp sh (fb (fVil e1 x1) f1) f20 ++ (wLs g b (if fVil e1 x1 = 0 then nVil e1 x1 else e1) e10 e11)) ++ (wLs g d k1 k10 k11 ++ (wF g fo b tr o1 ++ (wLs g tr t1 t10 t11 ++ (wT g tp p1 p20 p21 p22 p23 p24 ++ (wSs g sh m10 m11 m12 ++ (wM g am e1 k1 M3 M4 M5 f1 M7 M8 p1 m10 m11 m12 M13 f20 p20 M22 M23 M24 M25))))))) H := hP
  have hD : va_D (fun q : Nat => s.heap.size ≤ q) ((wX g a b d fo tp sh (fb (fVil e1 x1) f1) f20 ++ (wLs g b (if fVil e1 x1 = 0 then nVil e1 x1 else e1) e10 e11)) ++ (wLs g d k1 k10 k11 ++ (wF g fo b tr o1 ++ (wLs g tr t1 t10 t11 ++ (wT g tp p1 p20 p21 p22 p23 p24 ++ (wSs g sh m10 m11 m12 ++ (wM g am e1 k1 M3 M4 M5 f1 M7 M8 p1 m10 m11 m12 M13 f20 p20 M22 M23 M24 M25))))))) := hD
  rw [List.append_assoc] at hP hD
  obtain rfl : x9 = ab (fVil e1 x1) (iI (e1 2)) := hw
  have hP : va_P g.1 vwCl (wX g a b d fo tp sh (fb (fVil e1 x1) f1) f20 ++ (wLs g b (if fVil e1 x1 = 0 then nVil e1 x1 else e1) e10 e11 ++ (wLs g d k1 k10 k11 ++ (wF g fo b tr o1 ++ (wLs g tr t1 t10 t11 ++ (wT g tp p1 p20 p21 p22 p23 p24 ++ (wSs g sh m10 m11 m12 ++ (wM g am e1 k1 M3 M4 M5 f1 M7 M8 p1 m10 m11 m12 M13 f20 p20 M22 M23 M24 M25)))))))) H := hP
  have hD : va_D (fun q : Nat => s.heap.size ≤ q) (wX g a b d fo tp sh (fb (fVil e1 x1) f1) f20 ++ (wLs g b (if fVil e1 x1 = 0 then nVil e1 x1 else e1) e10 e11 ++ (wLs g d k1 k10 k11 ++ (wF g fo b tr o1 ++ (wLs g tr t1 t10 t11 ++ (wT g tp p1 p20 p21 p22 p23 p24 ++ (wSs g sh m10 m11 m12 ++ (wM g am e1 k1 M3 M4 M5 f1 M7 M8 p1 m10 m11 m12 M13 f20 p20 M22 M23 M24 M25)))))))) := hD
  obtain ⟨hP0, hPr0⟩ := va_P_app.mp hP
  obtain ⟨hP1, hPr1⟩ := va_P_app.mp hPr0
  obtain ⟨hP2, hPr2⟩ := va_P_app.mp hPr1
  obtain ⟨hP3, hPr3⟩ := va_P_app.mp hPr2
  obtain ⟨hP4, hPr4⟩ := va_P_app.mp hPr3
  obtain ⟨hP5, hPr5⟩ := va_P_app.mp hPr4
  obtain ⟨hP6, hP7⟩ := va_P_app.mp hPr5
  refine lv_aload_n hx hb dL_law_301 rfl (lv_at hl 1 rfl) ?_
  refine lv_aload_n hx hb dL_law_302 rfl (lv_at hl 3 rfl) ?_
  refine lv_iload_n hx hb dL_law_303 rfl (lv_at hl 0 rfl) ?_
  refine lv_iconst (v := iI (1)) hx hb dL_law_304 (by decide) ?_
  refine xi_add hx hb dL_law_305 ?_
  refine xs_ld (i := (i9 : Int) + 1) (j := i9 + 1) hx hb hX hbl hbA hS (by omega) (by omega) hL dL_law_306 ?_
  rw [← hx1]
  have hD : va_D (fun q : Nat => s.heap.size ≤ q) (wX g a b d fo tp sh (fb (fVil e1 x1) f1) f20 ++ (wLs g b (if fVil e1 x1 = 0 then nVil e1 x1 else e1) e10 e11 ++ (wLs g d k1 k10 k11 ++ (wF g fo b tr o1 ++ (wLs g tr t1 t10 t11 ++ (wT g tp p1 p20 p21 p22 p23 p24 ++ (wM g am e1 k1 M3 M4 M5 f1 M7 M8 p1 m10 m11 m12 M13 f20 p20 M22 M23 M24 M25 ++ (wSs g sh m10 m11 m12)))))))) := D_perm (List.Perm.append_left _ (List.Perm.append_left _ (List.Perm.append_left _ (List.Perm.append_left _ (List.Perm.append_left _ (List.Perm.append_left _ (List.perm_append_comm))))))) hD
  have hD : va_D (fun q : Nat => s.heap.size ≤ q) (wX g a b d fo tp sh (fb (fVil e1 x1) f1) f20 ++ (wLs g b (if fVil e1 x1 = 0 then nVil e1 x1 else e1) e10 e11 ++ (wLs g d k1 k10 k11 ++ (wF g fo b tr o1 ++ (wLs g tr t1 t10 t11 ++ (wM g am e1 k1 M3 M4 M5 f1 M7 M8 p1 m10 m11 m12 M13 f20 p20 M22 M23 M24 M25 ++ (wT g tp p1 p20 p21 p22 p23 p24 ++ (wSs g sh m10 m11 m12)))))))) := D_perm (List.Perm.append_left _ (List.Perm.append_left _ (List.Perm.append_left _ (List.Perm.append_left _ (List.Perm.append_left _ (List.perm_append_comm_assoc _ _ _)))))) hD
  have hD : va_D (fun q : Nat => s.heap.size ≤ q) (wX g a b d fo tp sh (fb (fVil e1 x1) f1) f20 ++ (wLs g b (if fVil e1 x1 = 0 then nVil e1 x1 else e1) e10 e11 ++ (wLs g d k1 k10 k11 ++ (wF g fo b tr o1 ++ (wM g am e1 k1 M3 M4 M5 f1 M7 M8 p1 m10 m11 m12 M13 f20 p20 M22 M23 M24 M25 ++ (wLs g tr t1 t10 t11 ++ (wT g tp p1 p20 p21 p22 p23 p24 ++ (wSs g sh m10 m11 m12)))))))) := D_perm (List.Perm.append_left _ (List.Perm.append_left _ (List.Perm.append_left _ (List.Perm.append_left _ (List.perm_append_comm_assoc _ _ _))))) hD
  have hD : va_D (fun q : Nat => s.heap.size ≤ q) (wX g a b d fo tp sh (fb (fVil e1 x1) f1) f20 ++ (wLs g b (if fVil e1 x1 = 0 then nVil e1 x1 else e1) e10 e11 ++ (wLs g d k1 k10 k11 ++ (wM g am e1 k1 M3 M4 M5 f1 M7 M8 p1 m10 m11 m12 M13 f20 p20 M22 M23 M24 M25 ++ (wF g fo b tr o1 ++ (wLs g tr t1 t10 t11 ++ (wT g tp p1 p20 p21 p22 p23 p24 ++ (wSs g sh m10 m11 m12)))))))) := D_perm (List.Perm.append_left _ (List.Perm.append_left _ (List.Perm.append_left _ (List.perm_append_comm_assoc _ _ _)))) hD
  have hD : va_D (fun q : Nat => s.heap.size ≤ q) (wX g a b d fo tp sh (fb (fVil e1 x1) f1) f20 ++ (wLs g b (if fVil e1 x1 = 0 then nVil e1 x1 else e1) e10 e11 ++ (wM g am e1 k1 M3 M4 M5 f1 M7 M8 p1 m10 m11 m12 M13 f20 p20 M22 M23 M24 M25 ++ (wLs g d k1 k10 k11 ++ (wF g fo b tr o1 ++ (wLs g tr t1 t10 t11 ++ (wT g tp p1 p20 p21 p22 p23 p24 ++ (wSs g sh m10 m11 m12)))))))) := D_perm (List.Perm.append_left _ (List.Perm.append_left _ (List.perm_append_comm_assoc _ _ _))) hD
  have hD : va_D (fun q : Nat => s.heap.size ≤ q) (wX g a b d fo tp sh (fb (fVil e1 x1) f1) f20 ++ (wM g am e1 k1 M3 M4 M5 f1 M7 M8 p1 m10 m11 m12 M13 f20 p20 M22 M23 M24 M25 ++ (wLs g b (if fVil e1 x1 = 0 then nVil e1 x1 else e1) e10 e11 ++ (wLs g d k1 k10 k11 ++ (wF g fo b tr o1 ++ (wLs g tr t1 t10 t11 ++ (wT g tp p1 p20 p21 p22 p23 p24 ++ (wSs g sh m10 m11 m12)))))))) := D_perm (List.Perm.append_left _ (List.perm_append_comm_assoc _ _ _)) hD
  have hD : va_D (fun q : Nat => s.heap.size ≤ q) (wM g am e1 k1 M3 M4 M5 f1 M7 M8 p1 m10 m11 m12 M13 f20 p20 M22 M23 M24 M25 ++ (wX g a b d fo tp sh (fb (fVil e1 x1) f1) f20 ++ (wLs g b (if fVil e1 x1 = 0 then nVil e1 x1 else e1) e10 e11 ++ (wLs g d k1 k10 k11 ++ (wF g fo b tr o1 ++ (wLs g tr t1 t10 t11 ++ (wT g tp p1 p20 p21 p22 p23 p24 ++ (wSs g sh m10 m11 m12)))))))) := D_perm (List.perm_append_comm_assoc _ _ _) hD
  have hP : va_P g.1 vwCl (wM g am e1 k1 M3 M4 M5 f1 M7 M8 p1 m10 m11 m12 M13 f20 p20 M22 M23 M24 M25 ++ (wX g a b d fo tp sh (fb (fVil e1 x1) f1) f20 ++ (wLs g b (if fVil e1 x1 = 0 then nVil e1 x1 else e1) e10 e11 ++ (wLs g d k1 k10 k11 ++ (wF g fo b tr o1 ++ (wLs g tr t1 t10 t11 ++ (wT g tp p1 p20 p21 p22 p23 p24 ++ (wSs g sh m10 m11 m12)))))))) H := va_P_app.mpr ⟨hP7, va_P_app.mpr ⟨hP0, va_P_app.mpr ⟨hP1, va_P_app.mpr ⟨hP2, va_P_app.mpr ⟨hP3, va_P_app.mpr ⟨hP4, va_P_app.mpr ⟨hP5, hP6⟩⟩⟩⟩⟩⟩⟩
  refine xmF_i (rV (rest := [.int (ab (fVil e1 x1) (iI (e1 2)))]) hx hb hml hown hts hK hl (c_X5_village l g am e1 k1 M3 M4 M5 f1 M7 M8 p1 m10 m11 m12 M13 f20 p20 M22 M23 M24 M25 x1 H.size (show InvK 0 e1 from hI) (show e1 0 ≤ 9999 from by omega) (show IR x1 from ⟨by omega, by omega⟩)) lk_L_27 ⟨rfl, hP7, (va_D_app hD).1.weaken (fun _ _ _ _ => trivial)⟩ (va_recv hK.1 hP7 (ci := 5) (q0 := 0) rfl rfl) rfl rfl rfl (Rm.of rfl) rfl rfl dL_law_307) hP hD hS hA (fun x9 _ H locs hw hP hD hS => ?_)
  obtain rfl : x9 = ab (fVil e1 x1) (iI (e1 2)) := hw
  have hP : va_P g.1 vwCl (wM g am (if fVil e1 x1 = 0 then nVil e1 x1 else e1) k1 M3 M4 M5 (fb (fVil e1 x1) f1) M7 M8 p1 m10 m11 m12 M13 f20 p20 M22 M23 M24 M25 ++ (wX g a b d fo tp sh (fb (fVil e1 x1) f1) f20 ++ (wLs g b (if fVil e1 x1 = 0 then nVil e1 x1 else e1) e10 e11 ++ (wLs g d k1 k10 k11 ++ (wF g fo b tr o1 ++ (wLs g tr t1 t10 t11 ++ (wT g tp p1 p20 p21 p22 p23 p24 ++ (wSs g sh m10 m11 m12)))))))) H := hP
  have hD : va_D (fun q : Nat => s.heap.size ≤ q) (wM g am (if fVil e1 x1 = 0 then nVil e1 x1 else e1) k1 M3 M4 M5 (fb (fVil e1 x1) f1) M7 M8 p1 m10 m11 m12 M13 f20 p20 M22 M23 M24 M25 ++ (wX g a b d fo tp sh (fb (fVil e1 x1) f1) f20 ++ (wLs g b (if fVil e1 x1 = 0 then nVil e1 x1 else e1) e10 e11 ++ (wLs g d k1 k10 k11 ++ (wF g fo b tr o1 ++ (wLs g tr t1 t10 t11 ++ (wT g tp p1 p20 p21 p22 p23 p24 ++ (wSs g sh m10 m11 m12)))))))) := hD
  obtain ⟨hP7, hPr0⟩ := va_P_app.mp hP
  obtain ⟨hP0, hPr1⟩ := va_P_app.mp hPr0
  obtain ⟨hP1, hPr2⟩ := va_P_app.mp hPr1
  obtain ⟨hP2, hPr3⟩ := va_P_app.mp hPr2
  obtain ⟨hP3, hPr4⟩ := va_P_app.mp hPr3
  obtain ⟨hP4, hPr5⟩ := va_P_app.mp hPr4
  obtain ⟨hP5, hP6⟩ := va_P_app.mp hPr5
  refine lv_icmp_eq (tgt := 1473) hx hb dL_law_310 (by decide) (fun _ => ?_) (fun z => absurd rfl z)
  have hD : va_D (fun q : Nat => s.heap.size ≤ q) (wX g a b d fo tp sh (fb (fVil e1 x1) f1) f20 ++ (wM g am (if fVil e1 x1 = 0 then nVil e1 x1 else e1) k1 M3 M4 M5 (fb (fVil e1 x1) f1) M7 M8 p1 m10 m11 m12 M13 f20 p20 M22 M23 M24 M25 ++ (wLs g b (if fVil e1 x1 = 0 then nVil e1 x1 else e1) e10 e11 ++ (wLs g d k1 k10 k11 ++ (wF g fo b tr o1 ++ (wLs g tr t1 t10 t11 ++ (wT g tp p1 p20 p21 p22 p23 p24 ++ (wSs g sh m10 m11 m12)))))))) := D_perm (List.perm_append_comm_assoc _ _ _) hD
  have hD : va_D (fun q : Nat => s.heap.size ≤ q) (wX g a b d fo tp sh (fb (fVil e1 x1) f1) f20 ++ (wLs g b (if fVil e1 x1 = 0 then nVil e1 x1 else e1) e10 e11 ++ (wM g am (if fVil e1 x1 = 0 then nVil e1 x1 else e1) k1 M3 M4 M5 (fb (fVil e1 x1) f1) M7 M8 p1 m10 m11 m12 M13 f20 p20 M22 M23 M24 M25 ++ (wLs g d k1 k10 k11 ++ (wF g fo b tr o1 ++ (wLs g tr t1 t10 t11 ++ (wT g tp p1 p20 p21 p22 p23 p24 ++ (wSs g sh m10 m11 m12)))))))) := D_perm (List.Perm.append_left _ (List.perm_append_comm_assoc _ _ _)) hD
  have hD : va_D (fun q : Nat => s.heap.size ≤ q) (wX g a b d fo tp sh (fb (fVil e1 x1) f1) f20 ++ (wLs g b (if fVil e1 x1 = 0 then nVil e1 x1 else e1) e10 e11 ++ (wLs g d k1 k10 k11 ++ (wM g am (if fVil e1 x1 = 0 then nVil e1 x1 else e1) k1 M3 M4 M5 (fb (fVil e1 x1) f1) M7 M8 p1 m10 m11 m12 M13 f20 p20 M22 M23 M24 M25 ++ (wF g fo b tr o1 ++ (wLs g tr t1 t10 t11 ++ (wT g tp p1 p20 p21 p22 p23 p24 ++ (wSs g sh m10 m11 m12)))))))) := D_perm (List.Perm.append_left _ (List.Perm.append_left _ (List.perm_append_comm_assoc _ _ _))) hD
  have hD : va_D (fun q : Nat => s.heap.size ≤ q) (wX g a b d fo tp sh (fb (fVil e1 x1) f1) f20 ++ (wLs g b (if fVil e1 x1 = 0 then nVil e1 x1 else e1) e10 e11 ++ (wLs g d k1 k10 k11 ++ (wF g fo b tr o1 ++ (wM g am (if fVil e1 x1 = 0 then nVil e1 x1 else e1) k1 M3 M4 M5 (fb (fVil e1 x1) f1) M7 M8 p1 m10 m11 m12 M13 f20 p20 M22 M23 M24 M25 ++ (wLs g tr t1 t10 t11 ++ (wT g tp p1 p20 p21 p22 p23 p24 ++ (wSs g sh m10 m11 m12)))))))) := D_perm (List.Perm.append_left _ (List.Perm.append_left _ (List.Perm.append_left _ (List.perm_append_comm_assoc _ _ _)))) hD
  have hD : va_D (fun q : Nat => s.heap.size ≤ q) (wX g a b d fo tp sh (fb (fVil e1 x1) f1) f20 ++ (wLs g b (if fVil e1 x1 = 0 then nVil e1 x1 else e1) e10 e11 ++ (wLs g d k1 k10 k11 ++ (wF g fo b tr o1 ++ (wLs g tr t1 t10 t11 ++ (wM g am (if fVil e1 x1 = 0 then nVil e1 x1 else e1) k1 M3 M4 M5 (fb (fVil e1 x1) f1) M7 M8 p1 m10 m11 m12 M13 f20 p20 M22 M23 M24 M25 ++ (wT g tp p1 p20 p21 p22 p23 p24 ++ (wSs g sh m10 m11 m12)))))))) := D_perm (List.Perm.append_left _ (List.Perm.append_left _ (List.Perm.append_left _ (List.Perm.append_left _ (List.perm_append_comm_assoc _ _ _))))) hD
  have hD : va_D (fun q : Nat => s.heap.size ≤ q) (wX g a b d fo tp sh (fb (fVil e1 x1) f1) f20 ++ (wLs g b (if fVil e1 x1 = 0 then nVil e1 x1 else e1) e10 e11 ++ (wLs g d k1 k10 k11 ++ (wF g fo b tr o1 ++ (wLs g tr t1 t10 t11 ++ (wT g tp p1 p20 p21 p22 p23 p24 ++ (wM g am (if fVil e1 x1 = 0 then nVil e1 x1 else e1) k1 M3 M4 M5 (fb (fVil e1 x1) f1) M7 M8 p1 m10 m11 m12 M13 f20 p20 M22 M23 M24 M25 ++ (wSs g sh m10 m11 m12)))))))) := D_perm (List.Perm.append_left _ (List.Perm.append_left _ (List.Perm.append_left _ (List.Perm.append_left _ (List.Perm.append_left _ (List.perm_append_comm_assoc _ _ _)))))) hD
  have hD : va_D (fun q : Nat => s.heap.size ≤ q) (wX g a b d fo tp sh (fb (fVil e1 x1) f1) f20 ++ (wLs g b (if fVil e1 x1 = 0 then nVil e1 x1 else e1) e10 e11 ++ (wLs g d k1 k10 k11 ++ (wF g fo b tr o1 ++ (wLs g tr t1 t10 t11 ++ (wT g tp p1 p20 p21 p22 p23 p24 ++ (wSs g sh m10 m11 m12 ++ (wM g am (if fVil e1 x1 = 0 then nVil e1 x1 else e1) k1 M3 M4 M5 (fb (fVil e1 x1) f1) M7 M8 p1 m10 m11 m12 M13 f20 p20 M22 M23 M24 M25)))))))) := D_perm (List.Perm.append_left _ (List.Perm.append_left _ (List.Perm.append_left _ (List.Perm.append_left _ (List.Perm.append_left _ (List.Perm.append_left _ (List.perm_append_comm))))))) hD
  have hP : va_P g.1 vwCl (wX g a b d fo tp sh (fb (fVil e1 x1) f1) f20 ++ (wLs g b (if fVil e1 x1 = 0 then nVil e1 x1 else e1) e10 e11 ++ (wLs g d k1 k10 k11 ++ (wF g fo b tr o1 ++ (wLs g tr t1 t10 t11 ++ (wT g tp p1 p20 p21 p22 p23 p24 ++ (wSs g sh m10 m11 m12 ++ (wM g am (if fVil e1 x1 = 0 then nVil e1 x1 else e1) k1 M3 M4 M5 (fb (fVil e1 x1) f1) M7 M8 p1 m10 m11 m12 M13 f20 p20 M22 M23 M24 M25)))))))) H := va_P_app.mpr ⟨hP0, va_P_app.mpr ⟨hP1, va_P_app.mpr ⟨hP2, va_P_app.mpr ⟨hP3, va_P_app.mpr ⟨hP4, va_P_app.mpr ⟨hP5, va_P_app.mpr ⟨hP6, hP7⟩⟩⟩⟩⟩⟩⟩
  exact K (fun k => ([(fb (fVil e1 x1) f1), (fun _ => f20), (if fVil e1 x1 = 0 then nVil e1 x1 else e1), e10, e11, k1, k10, k11, o1, t1, t10, t11, p1, (fun _ => p20), (fun _ => p21), (fun _ => p22), (fun _ => p23), (fun _ => p24), m10, m11, m12, M3, M4, M5, M7, M8, M13, (fun _ => M22), (fun _ => M23), (fun _ => M24), (fun _ => M25)] : List (Int → Int)).getD k z0) H locs (show LVx (if fVil e1 x1 = 0 then nVil e1 x1 else e1) k1 f20 p1 p20 m10 m11 m12 M24 from ⟨iv_vil hIe, hIk, hkp, hHB, hpz, hSS, hLR, hvz⟩) hP hD hS

set_option maxRecDepth 100000 in
set_option maxHeartbeats 4000000 in
theorem lc_3 {p : Program} {l : Launch} {e : Env} {s : State} {m : MethodId} {below : List Frame} {meth : Method} {c : Code} {g : Gd} {σ : Sg} {bs L : Nat} {xs : Nat → Int32} {Q : State → Prop} (hL : L ≤ 3072) (hC : LCx g σ p s m c bs L xs) (a b d fo tr tp sh am : Nat → Nat) (f1 e1 e10 e11 k1 k10 k11 o1 t1 t10 t11 p1 m10 m11 m12 M3 M4 M5 M7 M8 M13 : Int → Int) (f20 p20 p21 p22 p23 p24 M22 M23 M24 M25 : Int) (hV : LVx e1 k1 f20 p1 p20 m10 m11 m12 M24) {i9 : Nat} (hi9 : i9 + 6 ≤ L) {ls : Array Slot} (hl : lv_has ls 4 [(3, .int (iI (i9 : Int))), (2, .ref (am 0)), (1, .ref (a 0)), (0, .ref bs)]) {H : Heap} {locs : List Loc} (hP : va_P g.1 vwCl (wX g a b d fo tp sh f1 f20 ++ (wLs g b e1 e10 e11 ++ (wLs g d k1 k10 k11 ++ (wF g fo b tr o1 ++ (wLs g tr t1 t10 t11 ++ (wT g tp p1 p20 p21 p22 p23 p24 ++ (wSs g sh m10 m11 m12 ++ (wM g am e1 k1 M3 M4 M5 f1 M7 M8 p1 m10 m11 m12 M13 f20 p20 M22 M23 M24 M25)))))))) H) (hD : va_D (fun q : Nat => s.heap.size ≤ q) (wX g a b d fo tp sh f1 f20 ++ (wLs g b e1 e10 e11 ++ (wLs g d k1 k10 k11 ++ (wF g fo b tr o1 ++ (wLs g tr t1 t10 t11 ++ (wT g tp p1 p20 p21 p22 p23 p24 ++ (wSs g sh m10 m11 m12 ++ (wM g am e1 k1 M3 M4 M5 f1 M7 M8 p1 m10 m11 m12 M13 f20 p20 M22 M23 M24 M25))))))))) (hS : va_S (fun q : Nat => s.heap.size ≤ q) s.heap H locs) (K : ∀ (u : Nat → Int → Int) (H : Heap) (locs : List Loc), LV u → va_P g.1 vwCl (LW g (fun k => ([a, b, d, fo, tr, tp, sh, am] : List (Nat → Nat)).getD k a) u) H → va_D (fun q : Nat => s.heap.size ≤ q) (LW g (fun k => ([a, b, d, fo, tr, tp, sh, am] : List (Nat → Nat)).getD k a) u) → va_S (fun q : Nat => s.heap.size ≤ q) s.heap H locs → W p l e room_1 s m #[Value.ref bs] below meth c H locs 65 1678 Q (F0 m 1473 ls [])) : W p l e room_1 s m #[Value.ref bs] below meth c H locs 65 1678 Q (F0 m 315 ls []) := by
  obtain ⟨hx, hb, hml, hown, hts, hK, hX, hbl, hSB⟩ := hC
  have hbA : ¬ (fun q : Nat => s.heap.size ≤ q) bs := Nat.not_le.mpr hbl
  have hA : ∀ q : Nat, s.heap.size ≤ q → (fun q : Nat => s.heap.size ≤ q) q := fun _ h => h
  obtain ⟨hIe, hIk, hkp, hHB, hpz, hSS, hLR, hvz⟩ := hV
  have hI := hIe.1
  have hs9 := hIe.2
  obtain ⟨x1, hx1⟩ : ∃ x : Int, x = (xs (i9 + 1)).toInt := ⟨_, rfl⟩
  have ha1a : -2147483648 ≤ x1 := by rw [hx1]; exact (IR_of _).1
  have ha1b : x1 ≤ 2147483647 := by rw [hx1]; exact (IR_of _).2
  obtain ⟨x2, hx2⟩ : ∃ x : Int, x = (xs (i9 + 2)).toInt := ⟨_, rfl⟩
  have ha2a : -2147483648 ≤ x2 := by rw [hx2]; exact (IR_of _).1
  have ha2b : x2 ≤ 2147483647 := by rw [hx2]; exact (IR_of _).2
  obtain ⟨x3, hx3⟩ : ∃ x : Int, x = (xs (i9 + 3)).toInt := ⟨_, rfl⟩
  have ha3a : -2147483648 ≤ x3 := by rw [hx3]; exact (IR_of _).1
  have ha3b : x3 ≤ 2147483647 := by rw [hx3]; exact (IR_of _).2
  obtain ⟨x4, hx4⟩ : ∃ x : Int, x = (xs (i9 + 4)).toInt := ⟨_, rfl⟩
  have ha4a : -2147483648 ≤ x4 := by rw [hx4]; exact (IR_of _).1
  have ha4b : x4 ≤ 2147483647 := by rw [hx4]; exact (IR_of _).2
  obtain ⟨x5, hx5⟩ : ∃ x : Int, x = (xs (i9 + 5)).toInt := ⟨_, rfl⟩
  have ha5a : -2147483648 ≤ x5 := by rw [hx5]; exact (IR_of _).1
  have ha5b : x5 ≤ 2147483647 := by rw [hx5]; exact (IR_of _).2
  obtain ⟨hP0, hPr0⟩ := va_P_app.mp hP
  obtain ⟨hP1, hPr1⟩ := va_P_app.mp hPr0
  obtain ⟨hP2, hPr2⟩ := va_P_app.mp hPr1
  obtain ⟨hP3, hPr3⟩ := va_P_app.mp hPr2
  obtain ⟨hP4, hPr4⟩ := va_P_app.mp hPr3
  obtain ⟨hP5, hPr5⟩ := va_P_app.mp hPr4
  obtain ⟨hP6, hP7⟩ := va_P_app.mp hPr5
  refine lv_aload_n hx hb dL_law_315 rfl (lv_at hl 2 rfl) ?_
  refine lv_aload_n hx hb dL_law_316 rfl (lv_at hl 3 rfl) ?_
  refine lv_iload_n hx hb dL_law_317 rfl (lv_at hl 0 rfl) ?_
  refine lv_iconst (v := iI (1)) hx hb dL_law_318 (by decide) ?_
  refine xi_add hx hb dL_law_319 ?_
  refine xs_ld (i := (i9 : Int) + 1) (j := i9 + 1) hx hb hX hbl hbA hS (by omega) (by omega) hL dL_law_320 ?_
  rw [← hx1]
  refine lv_aload_n hx hb dL_law_321 rfl (lv_at hl 3 rfl) ?_
  refine lv_iload_n hx hb dL_law_322 rfl (lv_at hl 0 rfl) ?_
  refine lv_iconst (v := iI (2)) hx hb dL_law_323 (by decide) ?_
  refine xi_add hx hb dL_law_324 ?_
  refine xs_ld (i := (i9 : Int) + 2) (j := i9 + 2) hx hb hX hbl hbA hS (by omega) (by omega) hL dL_law_325 ?_
  rw [← hx2]
  have hP : va_P g.1 vwCl ((wX g a b d fo tp sh f1 f20 ++ (wLs g b e1 e10 e11)) ++ (wLs g d k1 k10 k11 ++ (wF g fo b tr o1 ++ (wLs g tr t1 t10 t11 ++ (wT g tp p1 p20 p21 p22 p23 p24 ++ (wSs g sh m10 m11 m12 ++ (wM g am e1 k1 M3 M4 M5 f1 M7 M8 p1 m10 m11 m12 M13 f20 p20 M22 M23 M24 M25))))))) H := by rw [List.append_assoc]; exact hP
  have hD : va_D (fun q : Nat => s.heap.size ≤ q) ((wX g a b d fo tp sh f1 f20 ++ (wLs g b e1 e10 e11)) ++ (wLs g d k1 k10 k11 ++ (wF g fo b tr o1 ++ (wLs g tr t1 t10 t11 ++ (wT g tp p1 p20 p21 p22 p23 p24 ++ (wSs g sh m10 m11 m12 ++ (wM g am e1 k1 M3 M4 M5 f1 M7 M8 p1 m10 m11 m12 M13 f20 p20 M22 M23 M24 M25))))))) := by rw [List.append_assoc]; exact hD
  refine xmF_i (rV (rest := []) hx hb hml hown hts hK hl (c_X4_villageOf l g d fo tp sh a f1 f20 b e1 e10 e11 x1 x2 H.size (show InvK 0 e1 from hI) (show e1 0 ≤ 9999 from by omega) (show IR x1 from ⟨by omega, by omega⟩) (show IR x2 from ⟨by omega, by omega⟩)) lk_L_28 ⟨rfl, (va_P_app.mp hP).1, (va_D_app hD).1.weaken (fun _ _ _ _ => trivial)⟩ (va_recv hK.1 hP0 (ci := 4) (q0 := 0) rfl rfl) rfl rfl rfl (Rm.of rfl) rfl rfl dL_law_326) hP hD hS hA (fun x9 _ H locs hw hP hD hS => ?_)
  have hP : va_P g.1 vwCl ((wX g a b d fo tp sh (fb (fVOf e1 x1 x2) f1) f20 ++ (wLs g b e1 e10 e11)) ++ (wLs g d k1 k10 k11 ++ (wF g fo b tr o1 ++ (wLs g tr t1 t10 t11 ++ (wT g tp p1 p20 p21 p22 p23 p24 ++ (wSs g sh m10 m11 m12 ++ (wM g am e1 k1 M3 M4 M5 f1 M7 M8 p1 m10 m11 m12 M13 f20 p20 M22 M23 M24 M25))))))) H := hP
  have hD : va_D (fun q : Nat => s.heap.size ≤ q) ((wX g a b d fo tp sh (fb (fVOf e1 x1 x2) f1) f20 ++ (wLs g b e1 e10 e11)) ++ (wLs g d k1 k10 k11 ++ (wF g fo b tr o1 ++ (wLs g tr t1 t10 t11 ++ (wT g tp p1 p20 p21 p22 p23 p24 ++ (wSs g sh m10 m11 m12 ++ (wM g am e1 k1 M3 M4 M5 f1 M7 M8 p1 m10 m11 m12 M13 f20 p20 M22 M23 M24 M25))))))) := hD
  rw [List.append_assoc] at hP hD
  obtain rfl : x9 = ab (fVOf e1 x1 x2) (iI (aVOf e1 x1 x2)) := hw
  have hP : va_P g.1 vwCl (wX g a b d fo tp sh (fb (fVOf e1 x1 x2) f1) f20 ++ (wLs g b e1 e10 e11 ++ (wLs g d k1 k10 k11 ++ (wF g fo b tr o1 ++ (wLs g tr t1 t10 t11 ++ (wT g tp p1 p20 p21 p22 p23 p24 ++ (wSs g sh m10 m11 m12 ++ (wM g am e1 k1 M3 M4 M5 f1 M7 M8 p1 m10 m11 m12 M13 f20 p20 M22 M23 M24 M25)))))))) H := hP
  have hD : va_D (fun q : Nat => s.heap.size ≤ q) (wX g a b d fo tp sh (fb (fVOf e1 x1 x2) f1) f20 ++ (wLs g b e1 e10 e11 ++ (wLs g d k1 k10 k11 ++ (wF g fo b tr o1 ++ (wLs g tr t1 t10 t11 ++ (wT g tp p1 p20 p21 p22 p23 p24 ++ (wSs g sh m10 m11 m12 ++ (wM g am e1 k1 M3 M4 M5 f1 M7 M8 p1 m10 m11 m12 M13 f20 p20 M22 M23 M24 M25)))))))) := hD
  obtain ⟨hP0, hPr0⟩ := va_P_app.mp hP
  obtain ⟨hP1, hPr1⟩ := va_P_app.mp hPr0
  obtain ⟨hP2, hPr2⟩ := va_P_app.mp hPr1
  obtain ⟨hP3, hPr3⟩ := va_P_app.mp hPr2
  obtain ⟨hP4, hPr4⟩ := va_P_app.mp hPr3
  obtain ⟨hP5, hPr5⟩ := va_P_app.mp hPr4
  obtain ⟨hP6, hP7⟩ := va_P_app.mp hPr5
  refine lv_aload_n hx hb dL_law_329 rfl (lv_at hl 1 rfl) ?_
  refine lv_aload_n hx hb dL_law_330 rfl (lv_at hl 3 rfl) ?_
  refine lv_iload_n hx hb dL_law_331 rfl (lv_at hl 0 rfl) ?_
  refine lv_iconst (v := iI (1)) hx hb dL_law_332 (by decide) ?_
  refine xi_add hx hb dL_law_333 ?_
  refine xs_ld (i := (i9 : Int) + 1) (j := i9 + 1) hx hb hX hbl hbA hS (by omega) (by omega) hL dL_law_334 ?_
  rw [← hx1]
  refine lv_aload_n hx hb dL_law_335 rfl (lv_at hl 3 rfl) ?_
  refine lv_iload_n hx hb dL_law_336 rfl (lv_at hl 0 rfl) ?_
  refine lv_iconst (v := iI (2)) hx hb dL_law_337 (by decide) ?_
  refine xi_add hx hb dL_law_338 ?_
  refine xs_ld (i := (i9 : Int) + 2) (j := i9 + 2) hx hb hX hbl hbA hS (by omega) (by omega) hL dL_law_339 ?_
  rw [← hx2]
  have hD : va_D (fun q : Nat => s.heap.size ≤ q) (wX g a b d fo tp sh (fb (fVOf e1 x1 x2) f1) f20 ++ (wLs g b e1 e10 e11 ++ (wLs g d k1 k10 k11 ++ (wF g fo b tr o1 ++ (wLs g tr t1 t10 t11 ++ (wT g tp p1 p20 p21 p22 p23 p24 ++ (wM g am e1 k1 M3 M4 M5 f1 M7 M8 p1 m10 m11 m12 M13 f20 p20 M22 M23 M24 M25 ++ (wSs g sh m10 m11 m12)))))))) := D_perm (List.Perm.append_left _ (List.Perm.append_left _ (List.Perm.append_left _ (List.Perm.append_left _ (List.Perm.append_left _ (List.Perm.append_left _ (List.perm_append_comm))))))) hD
  have hD : va_D (fun q : Nat => s.heap.size ≤ q) (wX g a b d fo tp sh (fb (fVOf e1 x1 x2) f1) f20 ++ (wLs g b e1 e10 e11 ++ (wLs g d k1 k10 k11 ++ (wF g fo b tr o1 ++ (wLs g tr t1 t10 t11 ++ (wM g am e1 k1 M3 M4 M5 f1 M7 M8 p1 m10 m11 m12 M13 f20 p20 M22 M23 M24 M25 ++ (wT g tp p1 p20 p21 p22 p23 p24 ++ (wSs g sh m10 m11 m12)))))))) := D_perm (List.Perm.append_left _ (List.Perm.append_left _ (List.Perm.append_left _ (List.Perm.append_left _ (List.Perm.append_left _ (List.perm_append_comm_assoc _ _ _)))))) hD
  have hD : va_D (fun q : Nat => s.heap.size ≤ q) (wX g a b d fo tp sh (fb (fVOf e1 x1 x2) f1) f20 ++ (wLs g b e1 e10 e11 ++ (wLs g d k1 k10 k11 ++ (wF g fo b tr o1 ++ (wM g am e1 k1 M3 M4 M5 f1 M7 M8 p1 m10 m11 m12 M13 f20 p20 M22 M23 M24 M25 ++ (wLs g tr t1 t10 t11 ++ (wT g tp p1 p20 p21 p22 p23 p24 ++ (wSs g sh m10 m11 m12)))))))) := D_perm (List.Perm.append_left _ (List.Perm.append_left _ (List.Perm.append_left _ (List.Perm.append_left _ (List.perm_append_comm_assoc _ _ _))))) hD
  have hD : va_D (fun q : Nat => s.heap.size ≤ q) (wX g a b d fo tp sh (fb (fVOf e1 x1 x2) f1) f20 ++ (wLs g b e1 e10 e11 ++ (wLs g d k1 k10 k11 ++ (wM g am e1 k1 M3 M4 M5 f1 M7 M8 p1 m10 m11 m12 M13 f20 p20 M22 M23 M24 M25 ++ (wF g fo b tr o1 ++ (wLs g tr t1 t10 t11 ++ (wT g tp p1 p20 p21 p22 p23 p24 ++ (wSs g sh m10 m11 m12)))))))) := D_perm (List.Perm.append_left _ (List.Perm.append_left _ (List.Perm.append_left _ (List.perm_append_comm_assoc _ _ _)))) hD
  have hD : va_D (fun q : Nat => s.heap.size ≤ q) (wX g a b d fo tp sh (fb (fVOf e1 x1 x2) f1) f20 ++ (wLs g b e1 e10 e11 ++ (wM g am e1 k1 M3 M4 M5 f1 M7 M8 p1 m10 m11 m12 M13 f20 p20 M22 M23 M24 M25 ++ (wLs g d k1 k10 k11 ++ (wF g fo b tr o1 ++ (wLs g tr t1 t10 t11 ++ (wT g tp p1 p20 p21 p22 p23 p24 ++ (wSs g sh m10 m11 m12)))))))) := D_perm (List.Perm.append_left _ (List.Perm.append_left _ (List.perm_append_comm_assoc _ _ _))) hD
  have hD : va_D (fun q : Nat => s.heap.size ≤ q) (wX g a b d fo tp sh (fb (fVOf e1 x1 x2) f1) f20 ++ (wM g am e1 k1 M3 M4 M5 f1 M7 M8 p1 m10 m11 m12 M13 f20 p20 M22 M23 M24 M25 ++ (wLs g b e1 e10 e11 ++ (wLs g d k1 k10 k11 ++ (wF g fo b tr o1 ++ (wLs g tr t1 t10 t11 ++ (wT g tp p1 p20 p21 p22 p23 p24 ++ (wSs g sh m10 m11 m12)))))))) := D_perm (List.Perm.append_left _ (List.perm_append_comm_assoc _ _ _)) hD
  have hD : va_D (fun q : Nat => s.heap.size ≤ q) (wM g am e1 k1 M3 M4 M5 f1 M7 M8 p1 m10 m11 m12 M13 f20 p20 M22 M23 M24 M25 ++ (wX g a b d fo tp sh (fb (fVOf e1 x1 x2) f1) f20 ++ (wLs g b e1 e10 e11 ++ (wLs g d k1 k10 k11 ++ (wF g fo b tr o1 ++ (wLs g tr t1 t10 t11 ++ (wT g tp p1 p20 p21 p22 p23 p24 ++ (wSs g sh m10 m11 m12)))))))) := D_perm (List.perm_append_comm_assoc _ _ _) hD
  have hP : va_P g.1 vwCl (wM g am e1 k1 M3 M4 M5 f1 M7 M8 p1 m10 m11 m12 M13 f20 p20 M22 M23 M24 M25 ++ (wX g a b d fo tp sh (fb (fVOf e1 x1 x2) f1) f20 ++ (wLs g b e1 e10 e11 ++ (wLs g d k1 k10 k11 ++ (wF g fo b tr o1 ++ (wLs g tr t1 t10 t11 ++ (wT g tp p1 p20 p21 p22 p23 p24 ++ (wSs g sh m10 m11 m12)))))))) H := va_P_app.mpr ⟨hP7, va_P_app.mpr ⟨hP0, va_P_app.mpr ⟨hP1, va_P_app.mpr ⟨hP2, va_P_app.mpr ⟨hP3, va_P_app.mpr ⟨hP4, va_P_app.mpr ⟨hP5, hP6⟩⟩⟩⟩⟩⟩⟩
  refine xmF_i (rV (rest := [.int (ab (fVOf e1 x1 x2) (iI (aVOf e1 x1 x2)))]) hx hb hml hown hts hK hl (c_X5_villageOf l g am e1 k1 M3 M4 M5 f1 M7 M8 p1 m10 m11 m12 M13 f20 p20 M22 M23 M24 M25 x1 x2 H.size (show InvK 0 e1 from hI) (show e1 0 ≤ 9999 from by omega) (show IR x1 from ⟨by omega, by omega⟩) (show IR x2 from ⟨by omega, by omega⟩)) lk_L_31 ⟨rfl, hP7, (va_D_app hD).1.weaken (fun _ _ _ _ => trivial)⟩ (va_recv hK.1 hP7 (ci := 5) (q0 := 0) rfl rfl) rfl rfl rfl (Rm.of rfl) rfl rfl dL_law_340) hP hD hS hA (fun x9 _ H locs hw hP hD hS => ?_)
  obtain rfl : x9 = ab (fVOf e1 x1 x2) (iI (aVOf e1 x1 x2)) := hw
  have hP : va_P g.1 vwCl (wM g am e1 k1 M3 M4 M5 (fb (fVOf e1 x1 x2) f1) M7 M8 p1 m10 m11 m12 M13 f20 p20 M22 M23 M24 M25 ++ (wX g a b d fo tp sh (fb (fVOf e1 x1 x2) f1) f20 ++ (wLs g b e1 e10 e11 ++ (wLs g d k1 k10 k11 ++ (wF g fo b tr o1 ++ (wLs g tr t1 t10 t11 ++ (wT g tp p1 p20 p21 p22 p23 p24 ++ (wSs g sh m10 m11 m12)))))))) H := hP
  have hD : va_D (fun q : Nat => s.heap.size ≤ q) (wM g am e1 k1 M3 M4 M5 (fb (fVOf e1 x1 x2) f1) M7 M8 p1 m10 m11 m12 M13 f20 p20 M22 M23 M24 M25 ++ (wX g a b d fo tp sh (fb (fVOf e1 x1 x2) f1) f20 ++ (wLs g b e1 e10 e11 ++ (wLs g d k1 k10 k11 ++ (wF g fo b tr o1 ++ (wLs g tr t1 t10 t11 ++ (wT g tp p1 p20 p21 p22 p23 p24 ++ (wSs g sh m10 m11 m12)))))))) := hD
  obtain ⟨hP7, hPr0⟩ := va_P_app.mp hP
  obtain ⟨hP0, hPr1⟩ := va_P_app.mp hPr0
  obtain ⟨hP1, hPr2⟩ := va_P_app.mp hPr1
  obtain ⟨hP2, hPr3⟩ := va_P_app.mp hPr2
  obtain ⟨hP3, hPr4⟩ := va_P_app.mp hPr3
  obtain ⟨hP4, hPr5⟩ := va_P_app.mp hPr4
  obtain ⟨hP5, hP6⟩ := va_P_app.mp hPr5
  refine lv_icmp_eq (tgt := 1473) hx hb dL_law_343 (by decide) (fun _ => ?_) (fun z => absurd rfl z)
  have hD : va_D (fun q : Nat => s.heap.size ≤ q) (wX g a b d fo tp sh (fb (fVOf e1 x1 x2) f1) f20 ++ (wM g am e1 k1 M3 M4 M5 (fb (fVOf e1 x1 x2) f1) M7 M8 p1 m10 m11 m12 M13 f20 p20 M22 M23 M24 M25 ++ (wLs g b e1 e10 e11 ++ (wLs g d k1 k10 k11 ++ (wF g fo b tr o1 ++ (wLs g tr t1 t10 t11 ++ (wT g tp p1 p20 p21 p22 p23 p24 ++ (wSs g sh m10 m11 m12)))))))) := D_perm (List.perm_append_comm_assoc _ _ _) hD
  have hD : va_D (fun q : Nat => s.heap.size ≤ q) (wX g a b d fo tp sh (fb (fVOf e1 x1 x2) f1) f20 ++ (wLs g b e1 e10 e11 ++ (wM g am e1 k1 M3 M4 M5 (fb (fVOf e1 x1 x2) f1) M7 M8 p1 m10 m11 m12 M13 f20 p20 M22 M23 M24 M25 ++ (wLs g d k1 k10 k11 ++ (wF g fo b tr o1 ++ (wLs g tr t1 t10 t11 ++ (wT g tp p1 p20 p21 p22 p23 p24 ++ (wSs g sh m10 m11 m12)))))))) := D_perm (List.Perm.append_left _ (List.perm_append_comm_assoc _ _ _)) hD
  have hD : va_D (fun q : Nat => s.heap.size ≤ q) (wX g a b d fo tp sh (fb (fVOf e1 x1 x2) f1) f20 ++ (wLs g b e1 e10 e11 ++ (wLs g d k1 k10 k11 ++ (wM g am e1 k1 M3 M4 M5 (fb (fVOf e1 x1 x2) f1) M7 M8 p1 m10 m11 m12 M13 f20 p20 M22 M23 M24 M25 ++ (wF g fo b tr o1 ++ (wLs g tr t1 t10 t11 ++ (wT g tp p1 p20 p21 p22 p23 p24 ++ (wSs g sh m10 m11 m12)))))))) := D_perm (List.Perm.append_left _ (List.Perm.append_left _ (List.perm_append_comm_assoc _ _ _))) hD
  have hD : va_D (fun q : Nat => s.heap.size ≤ q) (wX g a b d fo tp sh (fb (fVOf e1 x1 x2) f1) f20 ++ (wLs g b e1 e10 e11 ++ (wLs g d k1 k10 k11 ++ (wF g fo b tr o1 ++ (wM g am e1 k1 M3 M4 M5 (fb (fVOf e1 x1 x2) f1) M7 M8 p1 m10 m11 m12 M13 f20 p20 M22 M23 M24 M25 ++ (wLs g tr t1 t10 t11 ++ (wT g tp p1 p20 p21 p22 p23 p24 ++ (wSs g sh m10 m11 m12)))))))) := D_perm (List.Perm.append_left _ (List.Perm.append_left _ (List.Perm.append_left _ (List.perm_append_comm_assoc _ _ _)))) hD
  have hD : va_D (fun q : Nat => s.heap.size ≤ q) (wX g a b d fo tp sh (fb (fVOf e1 x1 x2) f1) f20 ++ (wLs g b e1 e10 e11 ++ (wLs g d k1 k10 k11 ++ (wF g fo b tr o1 ++ (wLs g tr t1 t10 t11 ++ (wM g am e1 k1 M3 M4 M5 (fb (fVOf e1 x1 x2) f1) M7 M8 p1 m10 m11 m12 M13 f20 p20 M22 M23 M24 M25 ++ (wT g tp p1 p20 p21 p22 p23 p24 ++ (wSs g sh m10 m11 m12)))))))) := D_perm (List.Perm.append_left _ (List.Perm.append_left _ (List.Perm.append_left _ (List.Perm.append_left _ (List.perm_append_comm_assoc _ _ _))))) hD
  have hD : va_D (fun q : Nat => s.heap.size ≤ q) (wX g a b d fo tp sh (fb (fVOf e1 x1 x2) f1) f20 ++ (wLs g b e1 e10 e11 ++ (wLs g d k1 k10 k11 ++ (wF g fo b tr o1 ++ (wLs g tr t1 t10 t11 ++ (wT g tp p1 p20 p21 p22 p23 p24 ++ (wM g am e1 k1 M3 M4 M5 (fb (fVOf e1 x1 x2) f1) M7 M8 p1 m10 m11 m12 M13 f20 p20 M22 M23 M24 M25 ++ (wSs g sh m10 m11 m12)))))))) := D_perm (List.Perm.append_left _ (List.Perm.append_left _ (List.Perm.append_left _ (List.Perm.append_left _ (List.Perm.append_left _ (List.perm_append_comm_assoc _ _ _)))))) hD
  have hD : va_D (fun q : Nat => s.heap.size ≤ q) (wX g a b d fo tp sh (fb (fVOf e1 x1 x2) f1) f20 ++ (wLs g b e1 e10 e11 ++ (wLs g d k1 k10 k11 ++ (wF g fo b tr o1 ++ (wLs g tr t1 t10 t11 ++ (wT g tp p1 p20 p21 p22 p23 p24 ++ (wSs g sh m10 m11 m12 ++ (wM g am e1 k1 M3 M4 M5 (fb (fVOf e1 x1 x2) f1) M7 M8 p1 m10 m11 m12 M13 f20 p20 M22 M23 M24 M25)))))))) := D_perm (List.Perm.append_left _ (List.Perm.append_left _ (List.Perm.append_left _ (List.Perm.append_left _ (List.Perm.append_left _ (List.Perm.append_left _ (List.perm_append_comm))))))) hD
  have hP : va_P g.1 vwCl (wX g a b d fo tp sh (fb (fVOf e1 x1 x2) f1) f20 ++ (wLs g b e1 e10 e11 ++ (wLs g d k1 k10 k11 ++ (wF g fo b tr o1 ++ (wLs g tr t1 t10 t11 ++ (wT g tp p1 p20 p21 p22 p23 p24 ++ (wSs g sh m10 m11 m12 ++ (wM g am e1 k1 M3 M4 M5 (fb (fVOf e1 x1 x2) f1) M7 M8 p1 m10 m11 m12 M13 f20 p20 M22 M23 M24 M25)))))))) H := va_P_app.mpr ⟨hP0, va_P_app.mpr ⟨hP1, va_P_app.mpr ⟨hP2, va_P_app.mpr ⟨hP3, va_P_app.mpr ⟨hP4, va_P_app.mpr ⟨hP5, va_P_app.mpr ⟨hP6, hP7⟩⟩⟩⟩⟩⟩⟩
  exact K (fun k => ([(fb (fVOf e1 x1 x2) f1), (fun _ => f20), e1, e10, e11, k1, k10, k11, o1, t1, t10, t11, p1, (fun _ => p20), (fun _ => p21), (fun _ => p22), (fun _ => p23), (fun _ => p24), m10, m11, m12, M3, M4, M5, M7, M8, M13, (fun _ => M22), (fun _ => M23), (fun _ => M24), (fun _ => M25)] : List (Int → Int)).getD k z0) H locs (show LVx e1 k1 f20 p1 p20 m10 m11 m12 M24 from ⟨hIe, hIk, hkp, hHB, hpz, hSS, hLR, hvz⟩) hP hD hS

set_option maxRecDepth 100000 in
set_option maxHeartbeats 4000000 in
theorem lc_4 {p : Program} {l : Launch} {e : Env} {s : State} {m : MethodId} {below : List Frame} {meth : Method} {c : Code} {g : Gd} {σ : Sg} {bs L : Nat} {xs : Nat → Int32} {Q : State → Prop} (hL : L ≤ 3072) (hC : LCx g σ p s m c bs L xs) (a b d fo tr tp sh am : Nat → Nat) (f1 e1 e10 e11 k1 k10 k11 o1 t1 t10 t11 p1 m10 m11 m12 M3 M4 M5 M7 M8 M13 : Int → Int) (f20 p20 p21 p22 p23 p24 M22 M23 M24 M25 : Int) (hV : LVx e1 k1 f20 p1 p20 m10 m11 m12 M24) {i9 : Nat} (hi9 : i9 + 6 ≤ L) {ls : Array Slot} (hl : lv_has ls 4 [(3, .int (iI (i9 : Int))), (2, .ref (am 0)), (1, .ref (a 0)), (0, .ref bs)]) {H : Heap} {locs : List Loc} (hP : va_P g.1 vwCl (wX g a b d fo tp sh f1 f20 ++ (wLs g b e1 e10 e11 ++ (wLs g d k1 k10 k11 ++ (wF g fo b tr o1 ++ (wLs g tr t1 t10 t11 ++ (wT g tp p1 p20 p21 p22 p23 p24 ++ (wSs g sh m10 m11 m12 ++ (wM g am e1 k1 M3 M4 M5 f1 M7 M8 p1 m10 m11 m12 M13 f20 p20 M22 M23 M24 M25)))))))) H) (hD : va_D (fun q : Nat => s.heap.size ≤ q) (wX g a b d fo tp sh f1 f20 ++ (wLs g b e1 e10 e11 ++ (wLs g d k1 k10 k11 ++ (wF g fo b tr o1 ++ (wLs g tr t1 t10 t11 ++ (wT g tp p1 p20 p21 p22 p23 p24 ++ (wSs g sh m10 m11 m12 ++ (wM g am e1 k1 M3 M4 M5 f1 M7 M8 p1 m10 m11 m12 M13 f20 p20 M22 M23 M24 M25))))))))) (hS : va_S (fun q : Nat => s.heap.size ≤ q) s.heap H locs) (K : ∀ (u : Nat → Int → Int) (H : Heap) (locs : List Loc), LV u → va_P g.1 vwCl (LW g (fun k => ([a, b, d, fo, tr, tp, sh, am] : List (Nat → Nat)).getD k a) u) H → va_D (fun q : Nat => s.heap.size ≤ q) (LW g (fun k => ([a, b, d, fo, tr, tp, sh, am] : List (Nat → Nat)).getD k a) u) → va_S (fun q : Nat => s.heap.size ≤ q) s.heap H locs → W p l e room_1 s m #[Value.ref bs] below meth c H locs 65 1678 Q (F0 m 1473 ls [])) : W p l e room_1 s m #[Value.ref bs] below meth c H locs 65 1678 Q (F0 m 348 ls []) := by
  obtain ⟨hx, hb, hml, hown, hts, hK, hX, hbl, hSB⟩ := hC
  have hbA : ¬ (fun q : Nat => s.heap.size ≤ q) bs := Nat.not_le.mpr hbl
  have hA : ∀ q : Nat, s.heap.size ≤ q → (fun q : Nat => s.heap.size ≤ q) q := fun _ h => h
  obtain ⟨hIe, hIk, hkp, hHB, hpz, hSS, hLR, hvz⟩ := hV
  have hI := hIe.1
  have hs9 := hIe.2
  obtain ⟨x1, hx1⟩ : ∃ x : Int, x = (xs (i9 + 1)).toInt := ⟨_, rfl⟩
  have ha1a : -2147483648 ≤ x1 := by rw [hx1]; exact (IR_of _).1
  have ha1b : x1 ≤ 2147483647 := by rw [hx1]; exact (IR_of _).2
  obtain ⟨x2, hx2⟩ : ∃ x : Int, x = (xs (i9 + 2)).toInt := ⟨_, rfl⟩
  have ha2a : -2147483648 ≤ x2 := by rw [hx2]; exact (IR_of _).1
  have ha2b : x2 ≤ 2147483647 := by rw [hx2]; exact (IR_of _).2
  obtain ⟨x3, hx3⟩ : ∃ x : Int, x = (xs (i9 + 3)).toInt := ⟨_, rfl⟩
  have ha3a : -2147483648 ≤ x3 := by rw [hx3]; exact (IR_of _).1
  have ha3b : x3 ≤ 2147483647 := by rw [hx3]; exact (IR_of _).2
  obtain ⟨x4, hx4⟩ : ∃ x : Int, x = (xs (i9 + 4)).toInt := ⟨_, rfl⟩
  have ha4a : -2147483648 ≤ x4 := by rw [hx4]; exact (IR_of _).1
  have ha4b : x4 ≤ 2147483647 := by rw [hx4]; exact (IR_of _).2
  obtain ⟨x5, hx5⟩ : ∃ x : Int, x = (xs (i9 + 5)).toInt := ⟨_, rfl⟩
  have ha5a : -2147483648 ≤ x5 := by rw [hx5]; exact (IR_of _).1
  have ha5b : x5 ≤ 2147483647 := by rw [hx5]; exact (IR_of _).2
  obtain ⟨hP0, hPr0⟩ := va_P_app.mp hP
  obtain ⟨hP1, hPr1⟩ := va_P_app.mp hPr0
  obtain ⟨hP2, hPr2⟩ := va_P_app.mp hPr1
  obtain ⟨hP3, hPr3⟩ := va_P_app.mp hPr2
  obtain ⟨hP4, hPr4⟩ := va_P_app.mp hPr3
  obtain ⟨hP5, hPr5⟩ := va_P_app.mp hPr4
  obtain ⟨hP6, hP7⟩ := va_P_app.mp hPr5
  refine lv_aload_n hx hb dL_law_348 rfl (lv_at hl 2 rfl) ?_
  refine lv_aload_n hx hb dL_law_349 rfl (lv_at hl 3 rfl) ?_
  refine lv_iload_n hx hb dL_law_350 rfl (lv_at hl 0 rfl) ?_
  refine lv_iconst (v := iI (1)) hx hb dL_law_351 (by decide) ?_
  refine xi_add hx hb dL_law_352 ?_
  refine xs_ld (i := (i9 : Int) + 1) (j := i9 + 1) hx hb hX hbl hbA hS (by omega) (by omega) hL dL_law_353 ?_
  rw [← hx1]
  refine lv_aload_n hx hb dL_law_354 rfl (lv_at hl 3 rfl) ?_
  refine lv_iload_n hx hb dL_law_355 rfl (lv_at hl 0 rfl) ?_
  refine lv_iconst (v := iI (2)) hx hb dL_law_356 (by decide) ?_
  refine xi_add hx hb dL_law_357 ?_
  refine xs_ld (i := (i9 : Int) + 2) (j := i9 + 2) hx hb hX hbl hbA hS (by omega) (by omega) hL dL_law_358 ?_
  rw [← hx2]
  have hP : va_P g.1 vwCl ((wX g a b d fo tp sh f1 f20 ++ (wLs g b e1 e10 e11)) ++ (wLs g d k1 k10 k11 ++ (wF g fo b tr o1 ++ (wLs g tr t1 t10 t11 ++ (wT g tp p1 p20 p21 p22 p23 p24 ++ (wSs g sh m10 m11 m12 ++ (wM g am e1 k1 M3 M4 M5 f1 M7 M8 p1 m10 m11 m12 M13 f20 p20 M22 M23 M24 M25))))))) H := by rw [List.append_assoc]; exact hP
  have hD : va_D (fun q : Nat => s.heap.size ≤ q) ((wX g a b d fo tp sh f1 f20 ++ (wLs g b e1 e10 e11)) ++ (wLs g d k1 k10 k11 ++ (wF g fo b tr o1 ++ (wLs g tr t1 t10 t11 ++ (wT g tp p1 p20 p21 p22 p23 p24 ++ (wSs g sh m10 m11 m12 ++ (wM g am e1 k1 M3 M4 M5 f1 M7 M8 p1 m10 m11 m12 M13 f20 p20 M22 M23 M24 M25))))))) := by rw [List.append_assoc]; exact hD
  refine xmF_i (rV (rest := []) hx hb hml hown hts hK hl (c_X4_order l g d fo tp sh a f1 f20 b e1 e10 e11 x1 x2 H.size (show InvK 0 e1 from hI) (show e1 0 ≤ 9999 from by omega) (show IR x1 from ⟨by omega, by omega⟩) (show IR x2 from ⟨by omega, by omega⟩)) lk_L_32 ⟨rfl, (va_P_app.mp hP).1, (va_D_app hD).1.weaken (fun _ _ _ _ => trivial)⟩ (va_recv hK.1 hP0 (ci := 4) (q0 := 0) rfl rfl) rfl rfl rfl (Rm.of rfl) rfl rfl dL_law_359) hP hD hS hA (fun x9 _ H locs hw hP hD hS => ?_)
  have hP : va_P g.1 vwCl ((wX g a b d fo tp sh (fb (fOrd x1 x2) f1) f20 ++ (wLs g b (if fOrd x1 x2 = 0 then up e1 (3 + x1) x2 else e1) e10 e11)) ++ (wLs g d k1 k10 k11 ++ (wF g fo b tr o1 ++ (wLs g tr t1 t10 t11 ++ (wT g tp p1 p20 p21 p22 p23 p24 ++ (wSs g sh m10 m11 m12 ++ (wM g am e1 k1 M3 M4 M5 f1 M7 M8 p1 m10 m11 m12 M13 f20 p20 M22 M23 M24 M25))))))) H := hP
  have hD : va_D (fun q : Nat => s.heap.size ≤ q) ((wX g a b d fo tp sh (fb (fOrd x1 x2) f1) f20 ++ (wLs g b (if fOrd x1 x2 = 0 then up e1 (3 + x1) x2 else e1) e10 e11)) ++ (wLs g d k1 k10 k11 ++ (wF g fo b tr o1 ++ (wLs g tr t1 t10 t11 ++ (wT g tp p1 p20 p21 p22 p23 p24 ++ (wSs g sh m10 m11 m12 ++ (wM g am e1 k1 M3 M4 M5 f1 M7 M8 p1 m10 m11 m12 M13 f20 p20 M22 M23 M24 M25))))))) := hD
  rw [List.append_assoc] at hP hD
  obtain rfl : x9 = ab (fOrd x1 x2) (iI (e1 (3 + x1))) := hw
  have hP : va_P g.1 vwCl (wX g a b d fo tp sh (fb (fOrd x1 x2) f1) f20 ++ (wLs g b (if fOrd x1 x2 = 0 then up e1 (3 + x1) x2 else e1) e10 e11 ++ (wLs g d k1 k10 k11 ++ (wF g fo b tr o1 ++ (wLs g tr t1 t10 t11 ++ (wT g tp p1 p20 p21 p22 p23 p24 ++ (wSs g sh m10 m11 m12 ++ (wM g am e1 k1 M3 M4 M5 f1 M7 M8 p1 m10 m11 m12 M13 f20 p20 M22 M23 M24 M25)))))))) H := hP
  have hD : va_D (fun q : Nat => s.heap.size ≤ q) (wX g a b d fo tp sh (fb (fOrd x1 x2) f1) f20 ++ (wLs g b (if fOrd x1 x2 = 0 then up e1 (3 + x1) x2 else e1) e10 e11 ++ (wLs g d k1 k10 k11 ++ (wF g fo b tr o1 ++ (wLs g tr t1 t10 t11 ++ (wT g tp p1 p20 p21 p22 p23 p24 ++ (wSs g sh m10 m11 m12 ++ (wM g am e1 k1 M3 M4 M5 f1 M7 M8 p1 m10 m11 m12 M13 f20 p20 M22 M23 M24 M25)))))))) := hD
  obtain ⟨hP0, hPr0⟩ := va_P_app.mp hP
  obtain ⟨hP1, hPr1⟩ := va_P_app.mp hPr0
  obtain ⟨hP2, hPr2⟩ := va_P_app.mp hPr1
  obtain ⟨hP3, hPr3⟩ := va_P_app.mp hPr2
  obtain ⟨hP4, hPr4⟩ := va_P_app.mp hPr3
  obtain ⟨hP5, hPr5⟩ := va_P_app.mp hPr4
  obtain ⟨hP6, hP7⟩ := va_P_app.mp hPr5
  refine lv_aload_n hx hb dL_law_362 rfl (lv_at hl 1 rfl) ?_
  refine lv_aload_n hx hb dL_law_363 rfl (lv_at hl 3 rfl) ?_
  refine lv_iload_n hx hb dL_law_364 rfl (lv_at hl 0 rfl) ?_
  refine lv_iconst (v := iI (1)) hx hb dL_law_365 (by decide) ?_
  refine xi_add hx hb dL_law_366 ?_
  refine xs_ld (i := (i9 : Int) + 1) (j := i9 + 1) hx hb hX hbl hbA hS (by omega) (by omega) hL dL_law_367 ?_
  rw [← hx1]
  refine lv_aload_n hx hb dL_law_368 rfl (lv_at hl 3 rfl) ?_
  refine lv_iload_n hx hb dL_law_369 rfl (lv_at hl 0 rfl) ?_
  refine lv_iconst (v := iI (2)) hx hb dL_law_370 (by decide) ?_
  refine xi_add hx hb dL_law_371 ?_
  refine xs_ld (i := (i9 : Int) + 2) (j := i9 + 2) hx hb hX hbl hbA hS (by omega) (by omega) hL dL_law_372 ?_
  rw [← hx2]
  have hD : va_D (fun q : Nat => s.heap.size ≤ q) (wX g a b d fo tp sh (fb (fOrd x1 x2) f1) f20 ++ (wLs g b (if fOrd x1 x2 = 0 then up e1 (3 + x1) x2 else e1) e10 e11 ++ (wLs g d k1 k10 k11 ++ (wF g fo b tr o1 ++ (wLs g tr t1 t10 t11 ++ (wT g tp p1 p20 p21 p22 p23 p24 ++ (wM g am e1 k1 M3 M4 M5 f1 M7 M8 p1 m10 m11 m12 M13 f20 p20 M22 M23 M24 M25 ++ (wSs g sh m10 m11 m12)))))))) := D_perm (List.Perm.append_left _ (List.Perm.append_left _ (List.Perm.append_left _ (List.Perm.append_left _ (List.Perm.append_left _ (List.Perm.append_left _ (List.perm_append_comm))))))) hD
  have hD : va_D (fun q : Nat => s.heap.size ≤ q) (wX g a b d fo tp sh (fb (fOrd x1 x2) f1) f20 ++ (wLs g b (if fOrd x1 x2 = 0 then up e1 (3 + x1) x2 else e1) e10 e11 ++ (wLs g d k1 k10 k11 ++ (wF g fo b tr o1 ++ (wLs g tr t1 t10 t11 ++ (wM g am e1 k1 M3 M4 M5 f1 M7 M8 p1 m10 m11 m12 M13 f20 p20 M22 M23 M24 M25 ++ (wT g tp p1 p20 p21 p22 p23 p24 ++ (wSs g sh m10 m11 m12)))))))) := D_perm (List.Perm.append_left _ (List.Perm.append_left _ (List.Perm.append_left _ (List.Perm.append_left _ (List.Perm.append_left _ (List.perm_append_comm_assoc _ _ _)))))) hD
  have hD : va_D (fun q : Nat => s.heap.size ≤ q) (wX g a b d fo tp sh (fb (fOrd x1 x2) f1) f20 ++ (wLs g b (if fOrd x1 x2 = 0 then up e1 (3 + x1) x2 else e1) e10 e11 ++ (wLs g d k1 k10 k11 ++ (wF g fo b tr o1 ++ (wM g am e1 k1 M3 M4 M5 f1 M7 M8 p1 m10 m11 m12 M13 f20 p20 M22 M23 M24 M25 ++ (wLs g tr t1 t10 t11 ++ (wT g tp p1 p20 p21 p22 p23 p24 ++ (wSs g sh m10 m11 m12)))))))) := D_perm (List.Perm.append_left _ (List.Perm.append_left _ (List.Perm.append_left _ (List.Perm.append_left _ (List.perm_append_comm_assoc _ _ _))))) hD
  have hD : va_D (fun q : Nat => s.heap.size ≤ q) (wX g a b d fo tp sh (fb (fOrd x1 x2) f1) f20 ++ (wLs g b (if fOrd x1 x2 = 0 then up e1 (3 + x1) x2 else e1) e10 e11 ++ (wLs g d k1 k10 k11 ++ (wM g am e1 k1 M3 M4 M5 f1 M7 M8 p1 m10 m11 m12 M13 f20 p20 M22 M23 M24 M25 ++ (wF g fo b tr o1 ++ (wLs g tr t1 t10 t11 ++ (wT g tp p1 p20 p21 p22 p23 p24 ++ (wSs g sh m10 m11 m12)))))))) := D_perm (List.Perm.append_left _ (List.Perm.append_left _ (List.Perm.append_left _ (List.perm_append_comm_assoc _ _ _)))) hD
  have hD : va_D (fun q : Nat => s.heap.size ≤ q) (wX g a b d fo tp sh (fb (fOrd x1 x2) f1) f20 ++ (wLs g b (if fOrd x1 x2 = 0 then up e1 (3 + x1) x2 else e1) e10 e11 ++ (wM g am e1 k1 M3 M4 M5 f1 M7 M8 p1 m10 m11 m12 M13 f20 p20 M22 M23 M24 M25 ++ (wLs g d k1 k10 k11 ++ (wF g fo b tr o1 ++ (wLs g tr t1 t10 t11 ++ (wT g tp p1 p20 p21 p22 p23 p24 ++ (wSs g sh m10 m11 m12)))))))) := D_perm (List.Perm.append_left _ (List.Perm.append_left _ (List.perm_append_comm_assoc _ _ _))) hD
  have hD : va_D (fun q : Nat => s.heap.size ≤ q) (wX g a b d fo tp sh (fb (fOrd x1 x2) f1) f20 ++ (wM g am e1 k1 M3 M4 M5 f1 M7 M8 p1 m10 m11 m12 M13 f20 p20 M22 M23 M24 M25 ++ (wLs g b (if fOrd x1 x2 = 0 then up e1 (3 + x1) x2 else e1) e10 e11 ++ (wLs g d k1 k10 k11 ++ (wF g fo b tr o1 ++ (wLs g tr t1 t10 t11 ++ (wT g tp p1 p20 p21 p22 p23 p24 ++ (wSs g sh m10 m11 m12)))))))) := D_perm (List.Perm.append_left _ (List.perm_append_comm_assoc _ _ _)) hD
  have hD : va_D (fun q : Nat => s.heap.size ≤ q) (wM g am e1 k1 M3 M4 M5 f1 M7 M8 p1 m10 m11 m12 M13 f20 p20 M22 M23 M24 M25 ++ (wX g a b d fo tp sh (fb (fOrd x1 x2) f1) f20 ++ (wLs g b (if fOrd x1 x2 = 0 then up e1 (3 + x1) x2 else e1) e10 e11 ++ (wLs g d k1 k10 k11 ++ (wF g fo b tr o1 ++ (wLs g tr t1 t10 t11 ++ (wT g tp p1 p20 p21 p22 p23 p24 ++ (wSs g sh m10 m11 m12)))))))) := D_perm (List.perm_append_comm_assoc _ _ _) hD
  have hP : va_P g.1 vwCl (wM g am e1 k1 M3 M4 M5 f1 M7 M8 p1 m10 m11 m12 M13 f20 p20 M22 M23 M24 M25 ++ (wX g a b d fo tp sh (fb (fOrd x1 x2) f1) f20 ++ (wLs g b (if fOrd x1 x2 = 0 then up e1 (3 + x1) x2 else e1) e10 e11 ++ (wLs g d k1 k10 k11 ++ (wF g fo b tr o1 ++ (wLs g tr t1 t10 t11 ++ (wT g tp p1 p20 p21 p22 p23 p24 ++ (wSs g sh m10 m11 m12)))))))) H := va_P_app.mpr ⟨hP7, va_P_app.mpr ⟨hP0, va_P_app.mpr ⟨hP1, va_P_app.mpr ⟨hP2, va_P_app.mpr ⟨hP3, va_P_app.mpr ⟨hP4, va_P_app.mpr ⟨hP5, hP6⟩⟩⟩⟩⟩⟩⟩
  refine xmF_i (rV (rest := [.int (ab (fOrd x1 x2) (iI (e1 (3 + x1))))]) hx hb hml hown hts hK hl (c_X5_order l g am e1 k1 M3 M4 M5 f1 M7 M8 p1 m10 m11 m12 M13 f20 p20 M22 M23 M24 M25 x1 x2 H.size (show InvK 0 e1 from hI) (show e1 0 ≤ 9999 from by omega) (show IR x1 from ⟨by omega, by omega⟩) (show IR x2 from ⟨by omega, by omega⟩)) lk_L_35 ⟨rfl, hP7, (va_D_app hD).1.weaken (fun _ _ _ _ => trivial)⟩ (va_recv hK.1 hP7 (ci := 5) (q0 := 0) rfl rfl) rfl rfl rfl (Rm.of rfl) rfl rfl dL_law_373) hP hD hS hA (fun x9 _ H locs hw hP hD hS => ?_)
  obtain rfl : x9 = ab (fOrd x1 x2) (iI (e1 (3 + x1))) := hw
  have hP : va_P g.1 vwCl (wM g am (if fOrd x1 x2 = 0 then up e1 (3 + x1) x2 else e1) k1 M3 M4 M5 (fb (fOrd x1 x2) f1) M7 M8 p1 m10 m11 m12 M13 f20 p20 M22 M23 M24 M25 ++ (wX g a b d fo tp sh (fb (fOrd x1 x2) f1) f20 ++ (wLs g b (if fOrd x1 x2 = 0 then up e1 (3 + x1) x2 else e1) e10 e11 ++ (wLs g d k1 k10 k11 ++ (wF g fo b tr o1 ++ (wLs g tr t1 t10 t11 ++ (wT g tp p1 p20 p21 p22 p23 p24 ++ (wSs g sh m10 m11 m12)))))))) H := hP
  have hD : va_D (fun q : Nat => s.heap.size ≤ q) (wM g am (if fOrd x1 x2 = 0 then up e1 (3 + x1) x2 else e1) k1 M3 M4 M5 (fb (fOrd x1 x2) f1) M7 M8 p1 m10 m11 m12 M13 f20 p20 M22 M23 M24 M25 ++ (wX g a b d fo tp sh (fb (fOrd x1 x2) f1) f20 ++ (wLs g b (if fOrd x1 x2 = 0 then up e1 (3 + x1) x2 else e1) e10 e11 ++ (wLs g d k1 k10 k11 ++ (wF g fo b tr o1 ++ (wLs g tr t1 t10 t11 ++ (wT g tp p1 p20 p21 p22 p23 p24 ++ (wSs g sh m10 m11 m12)))))))) := hD
  obtain ⟨hP7, hPr0⟩ := va_P_app.mp hP
  obtain ⟨hP0, hPr1⟩ := va_P_app.mp hPr0
  obtain ⟨hP1, hPr2⟩ := va_P_app.mp hPr1
  obtain ⟨hP2, hPr3⟩ := va_P_app.mp hPr2
  obtain ⟨hP3, hPr4⟩ := va_P_app.mp hPr3
  obtain ⟨hP4, hPr5⟩ := va_P_app.mp hPr4
  obtain ⟨hP5, hP6⟩ := va_P_app.mp hPr5
  refine lv_icmp_eq (tgt := 1473) hx hb dL_law_376 (by decide) (fun _ => ?_) (fun z => absurd rfl z)
  have hD : va_D (fun q : Nat => s.heap.size ≤ q) (wX g a b d fo tp sh (fb (fOrd x1 x2) f1) f20 ++ (wM g am (if fOrd x1 x2 = 0 then up e1 (3 + x1) x2 else e1) k1 M3 M4 M5 (fb (fOrd x1 x2) f1) M7 M8 p1 m10 m11 m12 M13 f20 p20 M22 M23 M24 M25 ++ (wLs g b (if fOrd x1 x2 = 0 then up e1 (3 + x1) x2 else e1) e10 e11 ++ (wLs g d k1 k10 k11 ++ (wF g fo b tr o1 ++ (wLs g tr t1 t10 t11 ++ (wT g tp p1 p20 p21 p22 p23 p24 ++ (wSs g sh m10 m11 m12)))))))) := D_perm (List.perm_append_comm_assoc _ _ _) hD
  have hD : va_D (fun q : Nat => s.heap.size ≤ q) (wX g a b d fo tp sh (fb (fOrd x1 x2) f1) f20 ++ (wLs g b (if fOrd x1 x2 = 0 then up e1 (3 + x1) x2 else e1) e10 e11 ++ (wM g am (if fOrd x1 x2 = 0 then up e1 (3 + x1) x2 else e1) k1 M3 M4 M5 (fb (fOrd x1 x2) f1) M7 M8 p1 m10 m11 m12 M13 f20 p20 M22 M23 M24 M25 ++ (wLs g d k1 k10 k11 ++ (wF g fo b tr o1 ++ (wLs g tr t1 t10 t11 ++ (wT g tp p1 p20 p21 p22 p23 p24 ++ (wSs g sh m10 m11 m12)))))))) := D_perm (List.Perm.append_left _ (List.perm_append_comm_assoc _ _ _)) hD
  have hD : va_D (fun q : Nat => s.heap.size ≤ q) (wX g a b d fo tp sh (fb (fOrd x1 x2) f1) f20 ++ (wLs g b (if fOrd x1 x2 = 0 then up e1 (3 + x1) x2 else e1) e10 e11 ++ (wLs g d k1 k10 k11 ++ (wM g am (if fOrd x1 x2 = 0 then up e1 (3 + x1) x2 else e1) k1 M3 M4 M5 (fb (fOrd x1 x2) f1) M7 M8 p1 m10 m11 m12 M13 f20 p20 M22 M23 M24 M25 ++ (wF g fo b tr o1 ++ (wLs g tr t1 t10 t11 ++ (wT g tp p1 p20 p21 p22 p23 p24 ++ (wSs g sh m10 m11 m12)))))))) := D_perm (List.Perm.append_left _ (List.Perm.append_left _ (List.perm_append_comm_assoc _ _ _))) hD
  have hD : va_D (fun q : Nat => s.heap.size ≤ q) (wX g a b d fo tp sh (fb (fOrd x1 x2) f1) f20 ++ (wLs g b (if fOrd x1 x2 = 0 then up e1 (3 + x1) x2 else e1) e10 e11 ++ (wLs g d k1 k10 k11 ++ (wF g fo b tr o1 ++ (wM g am (if fOrd x1 x2 = 0 then up e1 (3 + x1) x2 else e1) k1 M3 M4 M5 (fb (fOrd x1 x2) f1) M7 M8 p1 m10 m11 m12 M13 f20 p20 M22 M23 M24 M25 ++ (wLs g tr t1 t10 t11 ++ (wT g tp p1 p20 p21 p22 p23 p24 ++ (wSs g sh m10 m11 m12)))))))) := D_perm (List.Perm.append_left _ (List.Perm.append_left _ (List.Perm.append_left _ (List.perm_append_comm_assoc _ _ _)))) hD
  have hD : va_D (fun q : Nat => s.heap.size ≤ q) (wX g a b d fo tp sh (fb (fOrd x1 x2) f1) f20 ++ (wLs g b (if fOrd x1 x2 = 0 then up e1 (3 + x1) x2 else e1) e10 e11 ++ (wLs g d k1 k10 k11 ++ (wF g fo b tr o1 ++ (wLs g tr t1 t10 t11 ++ (wM g am (if fOrd x1 x2 = 0 then up e1 (3 + x1) x2 else e1) k1 M3 M4 M5 (fb (fOrd x1 x2) f1) M7 M8 p1 m10 m11 m12 M13 f20 p20 M22 M23 M24 M25 ++ (wT g tp p1 p20 p21 p22 p23 p24 ++ (wSs g sh m10 m11 m12)))))))) := D_perm (List.Perm.append_left _ (List.Perm.append_left _ (List.Perm.append_left _ (List.Perm.append_left _ (List.perm_append_comm_assoc _ _ _))))) hD
  have hD : va_D (fun q : Nat => s.heap.size ≤ q) (wX g a b d fo tp sh (fb (fOrd x1 x2) f1) f20 ++ (wLs g b (if fOrd x1 x2 = 0 then up e1 (3 + x1) x2 else e1) e10 e11 ++ (wLs g d k1 k10 k11 ++ (wF g fo b tr o1 ++ (wLs g tr t1 t10 t11 ++ (wT g tp p1 p20 p21 p22 p23 p24 ++ (wM g am (if fOrd x1 x2 = 0 then up e1 (3 + x1) x2 else e1) k1 M3 M4 M5 (fb (fOrd x1 x2) f1) M7 M8 p1 m10 m11 m12 M13 f20 p20 M22 M23 M24 M25 ++ (wSs g sh m10 m11 m12)))))))) := D_perm (List.Perm.append_left _ (List.Perm.append_left _ (List.Perm.append_left _ (List.Perm.append_left _ (List.Perm.append_left _ (List.perm_append_comm_assoc _ _ _)))))) hD
  have hD : va_D (fun q : Nat => s.heap.size ≤ q) (wX g a b d fo tp sh (fb (fOrd x1 x2) f1) f20 ++ (wLs g b (if fOrd x1 x2 = 0 then up e1 (3 + x1) x2 else e1) e10 e11 ++ (wLs g d k1 k10 k11 ++ (wF g fo b tr o1 ++ (wLs g tr t1 t10 t11 ++ (wT g tp p1 p20 p21 p22 p23 p24 ++ (wSs g sh m10 m11 m12 ++ (wM g am (if fOrd x1 x2 = 0 then up e1 (3 + x1) x2 else e1) k1 M3 M4 M5 (fb (fOrd x1 x2) f1) M7 M8 p1 m10 m11 m12 M13 f20 p20 M22 M23 M24 M25)))))))) := D_perm (List.Perm.append_left _ (List.Perm.append_left _ (List.Perm.append_left _ (List.Perm.append_left _ (List.Perm.append_left _ (List.Perm.append_left _ (List.perm_append_comm))))))) hD
  have hP : va_P g.1 vwCl (wX g a b d fo tp sh (fb (fOrd x1 x2) f1) f20 ++ (wLs g b (if fOrd x1 x2 = 0 then up e1 (3 + x1) x2 else e1) e10 e11 ++ (wLs g d k1 k10 k11 ++ (wF g fo b tr o1 ++ (wLs g tr t1 t10 t11 ++ (wT g tp p1 p20 p21 p22 p23 p24 ++ (wSs g sh m10 m11 m12 ++ (wM g am (if fOrd x1 x2 = 0 then up e1 (3 + x1) x2 else e1) k1 M3 M4 M5 (fb (fOrd x1 x2) f1) M7 M8 p1 m10 m11 m12 M13 f20 p20 M22 M23 M24 M25)))))))) H := va_P_app.mpr ⟨hP0, va_P_app.mpr ⟨hP1, va_P_app.mpr ⟨hP2, va_P_app.mpr ⟨hP3, va_P_app.mpr ⟨hP4, va_P_app.mpr ⟨hP5, va_P_app.mpr ⟨hP6, hP7⟩⟩⟩⟩⟩⟩⟩
  exact K (fun k => ([(fb (fOrd x1 x2) f1), (fun _ => f20), (if fOrd x1 x2 = 0 then up e1 (3 + x1) x2 else e1), e10, e11, k1, k10, k11, o1, t1, t10, t11, p1, (fun _ => p20), (fun _ => p21), (fun _ => p22), (fun _ => p23), (fun _ => p24), m10, m11, m12, M3, M4, M5, M7, M8, M13, (fun _ => M22), (fun _ => M23), (fun _ => M24), (fun _ => M25)] : List (Int → Int)).getD k z0) H locs (show LVx (if fOrd x1 x2 = 0 then up e1 (3 + x1) x2 else e1) k1 f20 p1 p20 m10 m11 m12 M24 from ⟨iv_ord hIe, hIk, hkp, hHB, hpz, hSS, hLR, hvz⟩) hP hD hS

set_option maxRecDepth 100000 in
set_option maxHeartbeats 4000000 in
theorem lc_5 {p : Program} {l : Launch} {e : Env} {s : State} {m : MethodId} {below : List Frame} {meth : Method} {c : Code} {g : Gd} {σ : Sg} {bs L : Nat} {xs : Nat → Int32} {Q : State → Prop} (hL : L ≤ 3072) (hC : LCx g σ p s m c bs L xs) (a b d fo tr tp sh am : Nat → Nat) (f1 e1 e10 e11 k1 k10 k11 o1 t1 t10 t11 p1 m10 m11 m12 M3 M4 M5 M7 M8 M13 : Int → Int) (f20 p20 p21 p22 p23 p24 M22 M23 M24 M25 : Int) (hV : LVx e1 k1 f20 p1 p20 m10 m11 m12 M24) {i9 : Nat} (hi9 : i9 + 6 ≤ L) {ls : Array Slot} (hl : lv_has ls 4 [(3, .int (iI (i9 : Int))), (2, .ref (am 0)), (1, .ref (a 0)), (0, .ref bs)]) {H : Heap} {locs : List Loc} (hP : va_P g.1 vwCl (wX g a b d fo tp sh f1 f20 ++ (wLs g b e1 e10 e11 ++ (wLs g d k1 k10 k11 ++ (wF g fo b tr o1 ++ (wLs g tr t1 t10 t11 ++ (wT g tp p1 p20 p21 p22 p23 p24 ++ (wSs g sh m10 m11 m12 ++ (wM g am e1 k1 M3 M4 M5 f1 M7 M8 p1 m10 m11 m12 M13 f20 p20 M22 M23 M24 M25)))))))) H) (hD : va_D (fun q : Nat => s.heap.size ≤ q) (wX g a b d fo tp sh f1 f20 ++ (wLs g b e1 e10 e11 ++ (wLs g d k1 k10 k11 ++ (wF g fo b tr o1 ++ (wLs g tr t1 t10 t11 ++ (wT g tp p1 p20 p21 p22 p23 p24 ++ (wSs g sh m10 m11 m12 ++ (wM g am e1 k1 M3 M4 M5 f1 M7 M8 p1 m10 m11 m12 M13 f20 p20 M22 M23 M24 M25))))))))) (hS : va_S (fun q : Nat => s.heap.size ≤ q) s.heap H locs) (K : ∀ (u : Nat → Int → Int) (H : Heap) (locs : List Loc), LV u → va_P g.1 vwCl (LW g (fun k => ([a, b, d, fo, tr, tp, sh, am] : List (Nat → Nat)).getD k a) u) H → va_D (fun q : Nat => s.heap.size ≤ q) (LW g (fun k => ([a, b, d, fo, tr, tp, sh, am] : List (Nat → Nat)).getD k a) u) → va_S (fun q : Nat => s.heap.size ≤ q) s.heap H locs → W p l e room_1 s m #[Value.ref bs] below meth c H locs 65 1678 Q (F0 m 1473 ls [])) : W p l e room_1 s m #[Value.ref bs] below meth c H locs 65 1678 Q (F0 m 381 ls []) := by
  obtain ⟨hx, hb, hml, hown, hts, hK, hX, hbl, hSB⟩ := hC
  have hbA : ¬ (fun q : Nat => s.heap.size ≤ q) bs := Nat.not_le.mpr hbl
  have hA : ∀ q : Nat, s.heap.size ≤ q → (fun q : Nat => s.heap.size ≤ q) q := fun _ h => h
  obtain ⟨hIe, hIk, hkp, hHB, hpz, hSS, hLR, hvz⟩ := hV
  have hI := hIe.1
  have hs9 := hIe.2
  obtain ⟨x1, hx1⟩ : ∃ x : Int, x = (xs (i9 + 1)).toInt := ⟨_, rfl⟩
  have ha1a : -2147483648 ≤ x1 := by rw [hx1]; exact (IR_of _).1
  have ha1b : x1 ≤ 2147483647 := by rw [hx1]; exact (IR_of _).2
  obtain ⟨x2, hx2⟩ : ∃ x : Int, x = (xs (i9 + 2)).toInt := ⟨_, rfl⟩
  have ha2a : -2147483648 ≤ x2 := by rw [hx2]; exact (IR_of _).1
  have ha2b : x2 ≤ 2147483647 := by rw [hx2]; exact (IR_of _).2
  obtain ⟨x3, hx3⟩ : ∃ x : Int, x = (xs (i9 + 3)).toInt := ⟨_, rfl⟩
  have ha3a : -2147483648 ≤ x3 := by rw [hx3]; exact (IR_of _).1
  have ha3b : x3 ≤ 2147483647 := by rw [hx3]; exact (IR_of _).2
  obtain ⟨x4, hx4⟩ : ∃ x : Int, x = (xs (i9 + 4)).toInt := ⟨_, rfl⟩
  have ha4a : -2147483648 ≤ x4 := by rw [hx4]; exact (IR_of _).1
  have ha4b : x4 ≤ 2147483647 := by rw [hx4]; exact (IR_of _).2
  obtain ⟨x5, hx5⟩ : ∃ x : Int, x = (xs (i9 + 5)).toInt := ⟨_, rfl⟩
  have ha5a : -2147483648 ≤ x5 := by rw [hx5]; exact (IR_of _).1
  have ha5b : x5 ≤ 2147483647 := by rw [hx5]; exact (IR_of _).2
  obtain ⟨hP0, hPr0⟩ := va_P_app.mp hP
  obtain ⟨hP1, hPr1⟩ := va_P_app.mp hPr0
  obtain ⟨hP2, hPr2⟩ := va_P_app.mp hPr1
  obtain ⟨hP3, hPr3⟩ := va_P_app.mp hPr2
  obtain ⟨hP4, hPr4⟩ := va_P_app.mp hPr3
  obtain ⟨hP5, hPr5⟩ := va_P_app.mp hPr4
  obtain ⟨hP6, hP7⟩ := va_P_app.mp hPr5
  refine lv_aload_n hx hb dL_law_381 rfl (lv_at hl 2 rfl) ?_
  refine lv_aload_n hx hb dL_law_382 rfl (lv_at hl 3 rfl) ?_
  refine lv_iload_n hx hb dL_law_383 rfl (lv_at hl 0 rfl) ?_
  refine lv_iconst (v := iI (1)) hx hb dL_law_384 (by decide) ?_
  refine xi_add hx hb dL_law_385 ?_
  refine xs_ld (i := (i9 : Int) + 1) (j := i9 + 1) hx hb hX hbl hbA hS (by omega) (by omega) hL dL_law_386 ?_
  rw [← hx1]
  refine lv_aload_n hx hb dL_law_387 rfl (lv_at hl 3 rfl) ?_
  refine lv_iload_n hx hb dL_law_388 rfl (lv_at hl 0 rfl) ?_
  refine lv_iconst (v := iI (2)) hx hb dL_law_389 (by decide) ?_
  refine xi_add hx hb dL_law_390 ?_
  refine xs_ld (i := (i9 : Int) + 2) (j := i9 + 2) hx hb hX hbl hbA hS (by omega) (by omega) hL dL_law_391 ?_
  rw [← hx2]
  have hP : va_P g.1 vwCl ((wX g a b d fo tp sh f1 f20 ++ (wLs g b e1 e10 e11)) ++ (wLs g d k1 k10 k11 ++ (wF g fo b tr o1 ++ (wLs g tr t1 t10 t11 ++ (wT g tp p1 p20 p21 p22 p23 p24 ++ (wSs g sh m10 m11 m12 ++ (wM g am e1 k1 M3 M4 M5 f1 M7 M8 p1 m10 m11 m12 M13 f20 p20 M22 M23 M24 M25))))))) H := by rw [List.append_assoc]; exact hP
  have hD : va_D (fun q : Nat => s.heap.size ≤ q) ((wX g a b d fo tp sh f1 f20 ++ (wLs g b e1 e10 e11)) ++ (wLs g d k1 k10 k11 ++ (wF g fo b tr o1 ++ (wLs g tr t1 t10 t11 ++ (wT g tp p1 p20 p21 p22 p23 p24 ++ (wSs g sh m10 m11 m12 ++ (wM g am e1 k1 M3 M4 M5 f1 M7 M8 p1 m10 m11 m12 M13 f20 p20 M22 M23 M24 M25))))))) := by rw [List.append_assoc]; exact hD
  refine xmF_i (rV (rest := []) hx hb hml hown hts hK hl (c_X4_range l g d fo tp sh a f1 f20 b e1 e10 e11 x1 x2 H.size (show InvK 0 e1 from hI) (show e1 0 ≤ 9999 from by omega) (show IR x1 from ⟨by omega, by omega⟩) (show IR x2 from ⟨by omega, by omega⟩)) lk_L_36 ⟨rfl, (va_P_app.mp hP).1, (va_D_app hD).1.weaken (fun _ _ _ _ => trivial)⟩ (va_recv hK.1 hP0 (ci := 4) (q0 := 0) rfl rfl) rfl rfl rfl (Rm.of rfl) rfl rfl dL_law_392) hP hD hS hA (fun x9 _ H locs hw hP hD hS => ?_)
  have hP : va_P g.1 vwCl ((wX g a b d fo tp sh (fb (fRan e1 x1 x2) f1) f20 ++ (wLs g b (if fRan e1 x1 x2 = 0 then addR e1 x1 x2 0 else e1) e10 e11)) ++ (wLs g d k1 k10 k11 ++ (wF g fo b tr o1 ++ (wLs g tr t1 t10 t11 ++ (wT g tp p1 p20 p21 p22 p23 p24 ++ (wSs g sh m10 m11 m12 ++ (wM g am e1 k1 M3 M4 M5 f1 M7 M8 p1 m10 m11 m12 M13 f20 p20 M22 M23 M24 M25))))))) H := hP
  have hD : va_D (fun q : Nat => s.heap.size ≤ q) ((wX g a b d fo tp sh (fb (fRan e1 x1 x2) f1) f20 ++ (wLs g b (if fRan e1 x1 x2 = 0 then addR e1 x1 x2 0 else e1) e10 e11)) ++ (wLs g d k1 k10 k11 ++ (wF g fo b tr o1 ++ (wLs g tr t1 t10 t11 ++ (wT g tp p1 p20 p21 p22 p23 p24 ++ (wSs g sh m10 m11 m12 ++ (wM g am e1 k1 M3 M4 M5 f1 M7 M8 p1 m10 m11 m12 M13 f20 p20 M22 M23 M24 M25))))))) := hD
  rw [List.append_assoc] at hP hD
  obtain rfl : x9 = ab (fRan e1 x1 x2) (iI (e1 1)) := hw
  have hP : va_P g.1 vwCl (wX g a b d fo tp sh (fb (fRan e1 x1 x2) f1) f20 ++ (wLs g b (if fRan e1 x1 x2 = 0 then addR e1 x1 x2 0 else e1) e10 e11 ++ (wLs g d k1 k10 k11 ++ (wF g fo b tr o1 ++ (wLs g tr t1 t10 t11 ++ (wT g tp p1 p20 p21 p22 p23 p24 ++ (wSs g sh m10 m11 m12 ++ (wM g am e1 k1 M3 M4 M5 f1 M7 M8 p1 m10 m11 m12 M13 f20 p20 M22 M23 M24 M25)))))))) H := hP
  have hD : va_D (fun q : Nat => s.heap.size ≤ q) (wX g a b d fo tp sh (fb (fRan e1 x1 x2) f1) f20 ++ (wLs g b (if fRan e1 x1 x2 = 0 then addR e1 x1 x2 0 else e1) e10 e11 ++ (wLs g d k1 k10 k11 ++ (wF g fo b tr o1 ++ (wLs g tr t1 t10 t11 ++ (wT g tp p1 p20 p21 p22 p23 p24 ++ (wSs g sh m10 m11 m12 ++ (wM g am e1 k1 M3 M4 M5 f1 M7 M8 p1 m10 m11 m12 M13 f20 p20 M22 M23 M24 M25)))))))) := hD
  obtain ⟨hP0, hPr0⟩ := va_P_app.mp hP
  obtain ⟨hP1, hPr1⟩ := va_P_app.mp hPr0
  obtain ⟨hP2, hPr2⟩ := va_P_app.mp hPr1
  obtain ⟨hP3, hPr3⟩ := va_P_app.mp hPr2
  obtain ⟨hP4, hPr4⟩ := va_P_app.mp hPr3
  obtain ⟨hP5, hPr5⟩ := va_P_app.mp hPr4
  obtain ⟨hP6, hP7⟩ := va_P_app.mp hPr5
  refine lv_aload_n hx hb dL_law_395 rfl (lv_at hl 1 rfl) ?_
  refine lv_aload_n hx hb dL_law_396 rfl (lv_at hl 3 rfl) ?_
  refine lv_iload_n hx hb dL_law_397 rfl (lv_at hl 0 rfl) ?_
  refine lv_iconst (v := iI (1)) hx hb dL_law_398 (by decide) ?_
  refine xi_add hx hb dL_law_399 ?_
  refine xs_ld (i := (i9 : Int) + 1) (j := i9 + 1) hx hb hX hbl hbA hS (by omega) (by omega) hL dL_law_400 ?_
  rw [← hx1]
  refine lv_aload_n hx hb dL_law_401 rfl (lv_at hl 3 rfl) ?_
  refine lv_iload_n hx hb dL_law_402 rfl (lv_at hl 0 rfl) ?_
  refine lv_iconst (v := iI (2)) hx hb dL_law_403 (by decide) ?_
  refine xi_add hx hb dL_law_404 ?_
  refine xs_ld (i := (i9 : Int) + 2) (j := i9 + 2) hx hb hX hbl hbA hS (by omega) (by omega) hL dL_law_405 ?_
  rw [← hx2]
  have hD : va_D (fun q : Nat => s.heap.size ≤ q) (wX g a b d fo tp sh (fb (fRan e1 x1 x2) f1) f20 ++ (wLs g b (if fRan e1 x1 x2 = 0 then addR e1 x1 x2 0 else e1) e10 e11 ++ (wLs g d k1 k10 k11 ++ (wF g fo b tr o1 ++ (wLs g tr t1 t10 t11 ++ (wT g tp p1 p20 p21 p22 p23 p24 ++ (wM g am e1 k1 M3 M4 M5 f1 M7 M8 p1 m10 m11 m12 M13 f20 p20 M22 M23 M24 M25 ++ (wSs g sh m10 m11 m12)))))))) := D_perm (List.Perm.append_left _ (List.Perm.append_left _ (List.Perm.append_left _ (List.Perm.append_left _ (List.Perm.append_left _ (List.Perm.append_left _ (List.perm_append_comm))))))) hD
  have hD : va_D (fun q : Nat => s.heap.size ≤ q) (wX g a b d fo tp sh (fb (fRan e1 x1 x2) f1) f20 ++ (wLs g b (if fRan e1 x1 x2 = 0 then addR e1 x1 x2 0 else e1) e10 e11 ++ (wLs g d k1 k10 k11 ++ (wF g fo b tr o1 ++ (wLs g tr t1 t10 t11 ++ (wM g am e1 k1 M3 M4 M5 f1 M7 M8 p1 m10 m11 m12 M13 f20 p20 M22 M23 M24 M25 ++ (wT g tp p1 p20 p21 p22 p23 p24 ++ (wSs g sh m10 m11 m12)))))))) := D_perm (List.Perm.append_left _ (List.Perm.append_left _ (List.Perm.append_left _ (List.Perm.append_left _ (List.Perm.append_left _ (List.perm_append_comm_assoc _ _ _)))))) hD
  have hD : va_D (fun q : Nat => s.heap.size ≤ q) (wX g a b d fo tp sh (fb (fRan e1 x1 x2) f1) f20 ++ (wLs g b (if fRan e1 x1 x2 = 0 then addR e1 x1 x2 0 else e1) e10 e11 ++ (wLs g d k1 k10 k11 ++ (wF g fo b tr o1 ++ (wM g am e1 k1 M3 M4 M5 f1 M7 M8 p1 m10 m11 m12 M13 f20 p20 M22 M23 M24 M25 ++ (wLs g tr t1 t10 t11 ++ (wT g tp p1 p20 p21 p22 p23 p24 ++ (wSs g sh m10 m11 m12)))))))) := D_perm (List.Perm.append_left _ (List.Perm.append_left _ (List.Perm.append_left _ (List.Perm.append_left _ (List.perm_append_comm_assoc _ _ _))))) hD
  have hD : va_D (fun q : Nat => s.heap.size ≤ q) (wX g a b d fo tp sh (fb (fRan e1 x1 x2) f1) f20 ++ (wLs g b (if fRan e1 x1 x2 = 0 then addR e1 x1 x2 0 else e1) e10 e11 ++ (wLs g d k1 k10 k11 ++ (wM g am e1 k1 M3 M4 M5 f1 M7 M8 p1 m10 m11 m12 M13 f20 p20 M22 M23 M24 M25 ++ (wF g fo b tr o1 ++ (wLs g tr t1 t10 t11 ++ (wT g tp p1 p20 p21 p22 p23 p24 ++ (wSs g sh m10 m11 m12)))))))) := D_perm (List.Perm.append_left _ (List.Perm.append_left _ (List.Perm.append_left _ (List.perm_append_comm_assoc _ _ _)))) hD
  have hD : va_D (fun q : Nat => s.heap.size ≤ q) (wX g a b d fo tp sh (fb (fRan e1 x1 x2) f1) f20 ++ (wLs g b (if fRan e1 x1 x2 = 0 then addR e1 x1 x2 0 else e1) e10 e11 ++ (wM g am e1 k1 M3 M4 M5 f1 M7 M8 p1 m10 m11 m12 M13 f20 p20 M22 M23 M24 M25 ++ (wLs g d k1 k10 k11 ++ (wF g fo b tr o1 ++ (wLs g tr t1 t10 t11 ++ (wT g tp p1 p20 p21 p22 p23 p24 ++ (wSs g sh m10 m11 m12)))))))) := D_perm (List.Perm.append_left _ (List.Perm.append_left _ (List.perm_append_comm_assoc _ _ _))) hD
  have hD : va_D (fun q : Nat => s.heap.size ≤ q) (wX g a b d fo tp sh (fb (fRan e1 x1 x2) f1) f20 ++ (wM g am e1 k1 M3 M4 M5 f1 M7 M8 p1 m10 m11 m12 M13 f20 p20 M22 M23 M24 M25 ++ (wLs g b (if fRan e1 x1 x2 = 0 then addR e1 x1 x2 0 else e1) e10 e11 ++ (wLs g d k1 k10 k11 ++ (wF g fo b tr o1 ++ (wLs g tr t1 t10 t11 ++ (wT g tp p1 p20 p21 p22 p23 p24 ++ (wSs g sh m10 m11 m12)))))))) := D_perm (List.Perm.append_left _ (List.perm_append_comm_assoc _ _ _)) hD
  have hD : va_D (fun q : Nat => s.heap.size ≤ q) (wM g am e1 k1 M3 M4 M5 f1 M7 M8 p1 m10 m11 m12 M13 f20 p20 M22 M23 M24 M25 ++ (wX g a b d fo tp sh (fb (fRan e1 x1 x2) f1) f20 ++ (wLs g b (if fRan e1 x1 x2 = 0 then addR e1 x1 x2 0 else e1) e10 e11 ++ (wLs g d k1 k10 k11 ++ (wF g fo b tr o1 ++ (wLs g tr t1 t10 t11 ++ (wT g tp p1 p20 p21 p22 p23 p24 ++ (wSs g sh m10 m11 m12)))))))) := D_perm (List.perm_append_comm_assoc _ _ _) hD
  have hP : va_P g.1 vwCl (wM g am e1 k1 M3 M4 M5 f1 M7 M8 p1 m10 m11 m12 M13 f20 p20 M22 M23 M24 M25 ++ (wX g a b d fo tp sh (fb (fRan e1 x1 x2) f1) f20 ++ (wLs g b (if fRan e1 x1 x2 = 0 then addR e1 x1 x2 0 else e1) e10 e11 ++ (wLs g d k1 k10 k11 ++ (wF g fo b tr o1 ++ (wLs g tr t1 t10 t11 ++ (wT g tp p1 p20 p21 p22 p23 p24 ++ (wSs g sh m10 m11 m12)))))))) H := va_P_app.mpr ⟨hP7, va_P_app.mpr ⟨hP0, va_P_app.mpr ⟨hP1, va_P_app.mpr ⟨hP2, va_P_app.mpr ⟨hP3, va_P_app.mpr ⟨hP4, va_P_app.mpr ⟨hP5, hP6⟩⟩⟩⟩⟩⟩⟩
  refine xmF_i (rV (rest := [.int (ab (fRan e1 x1 x2) (iI (e1 1)))]) hx hb hml hown hts hK hl (c_X5_range l g am e1 k1 M3 M4 M5 f1 M7 M8 p1 m10 m11 m12 M13 f20 p20 M22 M23 M24 M25 x1 x2 H.size (show InvK 0 e1 from hI) (show e1 0 ≤ 9999 from by omega) (show IR x1 from ⟨by omega, by omega⟩) (show IR x2 from ⟨by omega, by omega⟩)) lk_L_39 ⟨rfl, hP7, (va_D_app hD).1.weaken (fun _ _ _ _ => trivial)⟩ (va_recv hK.1 hP7 (ci := 5) (q0 := 0) rfl rfl) rfl rfl rfl (Rm.of rfl) rfl rfl dL_law_406) hP hD hS hA (fun x9 _ H locs hw hP hD hS => ?_)
  obtain rfl : x9 = ab (fRan e1 x1 x2) (iI (e1 1)) := hw
  have hP : va_P g.1 vwCl (wM g am (if fRan e1 x1 x2 = 0 then addR e1 x1 x2 0 else e1) k1 M3 M4 M5 (fb (fRan e1 x1 x2) f1) M7 M8 p1 m10 m11 m12 M13 f20 p20 M22 M23 M24 M25 ++ (wX g a b d fo tp sh (fb (fRan e1 x1 x2) f1) f20 ++ (wLs g b (if fRan e1 x1 x2 = 0 then addR e1 x1 x2 0 else e1) e10 e11 ++ (wLs g d k1 k10 k11 ++ (wF g fo b tr o1 ++ (wLs g tr t1 t10 t11 ++ (wT g tp p1 p20 p21 p22 p23 p24 ++ (wSs g sh m10 m11 m12)))))))) H := hP
  have hD : va_D (fun q : Nat => s.heap.size ≤ q) (wM g am (if fRan e1 x1 x2 = 0 then addR e1 x1 x2 0 else e1) k1 M3 M4 M5 (fb (fRan e1 x1 x2) f1) M7 M8 p1 m10 m11 m12 M13 f20 p20 M22 M23 M24 M25 ++ (wX g a b d fo tp sh (fb (fRan e1 x1 x2) f1) f20 ++ (wLs g b (if fRan e1 x1 x2 = 0 then addR e1 x1 x2 0 else e1) e10 e11 ++ (wLs g d k1 k10 k11 ++ (wF g fo b tr o1 ++ (wLs g tr t1 t10 t11 ++ (wT g tp p1 p20 p21 p22 p23 p24 ++ (wSs g sh m10 m11 m12)))))))) := hD
  obtain ⟨hP7, hPr0⟩ := va_P_app.mp hP
  obtain ⟨hP0, hPr1⟩ := va_P_app.mp hPr0
  obtain ⟨hP1, hPr2⟩ := va_P_app.mp hPr1
  obtain ⟨hP2, hPr3⟩ := va_P_app.mp hPr2
  obtain ⟨hP3, hPr4⟩ := va_P_app.mp hPr3
  obtain ⟨hP4, hPr5⟩ := va_P_app.mp hPr4
  obtain ⟨hP5, hP6⟩ := va_P_app.mp hPr5
  refine lv_icmp_eq (tgt := 1473) hx hb dL_law_409 (by decide) (fun _ => ?_) (fun z => absurd rfl z)
  have hD : va_D (fun q : Nat => s.heap.size ≤ q) (wX g a b d fo tp sh (fb (fRan e1 x1 x2) f1) f20 ++ (wM g am (if fRan e1 x1 x2 = 0 then addR e1 x1 x2 0 else e1) k1 M3 M4 M5 (fb (fRan e1 x1 x2) f1) M7 M8 p1 m10 m11 m12 M13 f20 p20 M22 M23 M24 M25 ++ (wLs g b (if fRan e1 x1 x2 = 0 then addR e1 x1 x2 0 else e1) e10 e11 ++ (wLs g d k1 k10 k11 ++ (wF g fo b tr o1 ++ (wLs g tr t1 t10 t11 ++ (wT g tp p1 p20 p21 p22 p23 p24 ++ (wSs g sh m10 m11 m12)))))))) := D_perm (List.perm_append_comm_assoc _ _ _) hD
  have hD : va_D (fun q : Nat => s.heap.size ≤ q) (wX g a b d fo tp sh (fb (fRan e1 x1 x2) f1) f20 ++ (wLs g b (if fRan e1 x1 x2 = 0 then addR e1 x1 x2 0 else e1) e10 e11 ++ (wM g am (if fRan e1 x1 x2 = 0 then addR e1 x1 x2 0 else e1) k1 M3 M4 M5 (fb (fRan e1 x1 x2) f1) M7 M8 p1 m10 m11 m12 M13 f20 p20 M22 M23 M24 M25 ++ (wLs g d k1 k10 k11 ++ (wF g fo b tr o1 ++ (wLs g tr t1 t10 t11 ++ (wT g tp p1 p20 p21 p22 p23 p24 ++ (wSs g sh m10 m11 m12)))))))) := D_perm (List.Perm.append_left _ (List.perm_append_comm_assoc _ _ _)) hD
  have hD : va_D (fun q : Nat => s.heap.size ≤ q) (wX g a b d fo tp sh (fb (fRan e1 x1 x2) f1) f20 ++ (wLs g b (if fRan e1 x1 x2 = 0 then addR e1 x1 x2 0 else e1) e10 e11 ++ (wLs g d k1 k10 k11 ++ (wM g am (if fRan e1 x1 x2 = 0 then addR e1 x1 x2 0 else e1) k1 M3 M4 M5 (fb (fRan e1 x1 x2) f1) M7 M8 p1 m10 m11 m12 M13 f20 p20 M22 M23 M24 M25 ++ (wF g fo b tr o1 ++ (wLs g tr t1 t10 t11 ++ (wT g tp p1 p20 p21 p22 p23 p24 ++ (wSs g sh m10 m11 m12)))))))) := D_perm (List.Perm.append_left _ (List.Perm.append_left _ (List.perm_append_comm_assoc _ _ _))) hD
  have hD : va_D (fun q : Nat => s.heap.size ≤ q) (wX g a b d fo tp sh (fb (fRan e1 x1 x2) f1) f20 ++ (wLs g b (if fRan e1 x1 x2 = 0 then addR e1 x1 x2 0 else e1) e10 e11 ++ (wLs g d k1 k10 k11 ++ (wF g fo b tr o1 ++ (wM g am (if fRan e1 x1 x2 = 0 then addR e1 x1 x2 0 else e1) k1 M3 M4 M5 (fb (fRan e1 x1 x2) f1) M7 M8 p1 m10 m11 m12 M13 f20 p20 M22 M23 M24 M25 ++ (wLs g tr t1 t10 t11 ++ (wT g tp p1 p20 p21 p22 p23 p24 ++ (wSs g sh m10 m11 m12)))))))) := D_perm (List.Perm.append_left _ (List.Perm.append_left _ (List.Perm.append_left _ (List.perm_append_comm_assoc _ _ _)))) hD
  have hD : va_D (fun q : Nat => s.heap.size ≤ q) (wX g a b d fo tp sh (fb (fRan e1 x1 x2) f1) f20 ++ (wLs g b (if fRan e1 x1 x2 = 0 then addR e1 x1 x2 0 else e1) e10 e11 ++ (wLs g d k1 k10 k11 ++ (wF g fo b tr o1 ++ (wLs g tr t1 t10 t11 ++ (wM g am (if fRan e1 x1 x2 = 0 then addR e1 x1 x2 0 else e1) k1 M3 M4 M5 (fb (fRan e1 x1 x2) f1) M7 M8 p1 m10 m11 m12 M13 f20 p20 M22 M23 M24 M25 ++ (wT g tp p1 p20 p21 p22 p23 p24 ++ (wSs g sh m10 m11 m12)))))))) := D_perm (List.Perm.append_left _ (List.Perm.append_left _ (List.Perm.append_left _ (List.Perm.append_left _ (List.perm_append_comm_assoc _ _ _))))) hD
  have hD : va_D (fun q : Nat => s.heap.size ≤ q) (wX g a b d fo tp sh (fb (fRan e1 x1 x2) f1) f20 ++ (wLs g b (if fRan e1 x1 x2 = 0 then addR e1 x1 x2 0 else e1) e10 e11 ++ (wLs g d k1 k10 k11 ++ (wF g fo b tr o1 ++ (wLs g tr t1 t10 t11 ++ (wT g tp p1 p20 p21 p22 p23 p24 ++ (wM g am (if fRan e1 x1 x2 = 0 then addR e1 x1 x2 0 else e1) k1 M3 M4 M5 (fb (fRan e1 x1 x2) f1) M7 M8 p1 m10 m11 m12 M13 f20 p20 M22 M23 M24 M25 ++ (wSs g sh m10 m11 m12)))))))) := D_perm (List.Perm.append_left _ (List.Perm.append_left _ (List.Perm.append_left _ (List.Perm.append_left _ (List.Perm.append_left _ (List.perm_append_comm_assoc _ _ _)))))) hD
  have hD : va_D (fun q : Nat => s.heap.size ≤ q) (wX g a b d fo tp sh (fb (fRan e1 x1 x2) f1) f20 ++ (wLs g b (if fRan e1 x1 x2 = 0 then addR e1 x1 x2 0 else e1) e10 e11 ++ (wLs g d k1 k10 k11 ++ (wF g fo b tr o1 ++ (wLs g tr t1 t10 t11 ++ (wT g tp p1 p20 p21 p22 p23 p24 ++ (wSs g sh m10 m11 m12 ++ (wM g am (if fRan e1 x1 x2 = 0 then addR e1 x1 x2 0 else e1) k1 M3 M4 M5 (fb (fRan e1 x1 x2) f1) M7 M8 p1 m10 m11 m12 M13 f20 p20 M22 M23 M24 M25)))))))) := D_perm (List.Perm.append_left _ (List.Perm.append_left _ (List.Perm.append_left _ (List.Perm.append_left _ (List.Perm.append_left _ (List.Perm.append_left _ (List.perm_append_comm))))))) hD
  have hP : va_P g.1 vwCl (wX g a b d fo tp sh (fb (fRan e1 x1 x2) f1) f20 ++ (wLs g b (if fRan e1 x1 x2 = 0 then addR e1 x1 x2 0 else e1) e10 e11 ++ (wLs g d k1 k10 k11 ++ (wF g fo b tr o1 ++ (wLs g tr t1 t10 t11 ++ (wT g tp p1 p20 p21 p22 p23 p24 ++ (wSs g sh m10 m11 m12 ++ (wM g am (if fRan e1 x1 x2 = 0 then addR e1 x1 x2 0 else e1) k1 M3 M4 M5 (fb (fRan e1 x1 x2) f1) M7 M8 p1 m10 m11 m12 M13 f20 p20 M22 M23 M24 M25)))))))) H := va_P_app.mpr ⟨hP0, va_P_app.mpr ⟨hP1, va_P_app.mpr ⟨hP2, va_P_app.mpr ⟨hP3, va_P_app.mpr ⟨hP4, va_P_app.mpr ⟨hP5, va_P_app.mpr ⟨hP6, hP7⟩⟩⟩⟩⟩⟩⟩
  exact K (fun k => ([(fb (fRan e1 x1 x2) f1), (fun _ => f20), (if fRan e1 x1 x2 = 0 then addR e1 x1 x2 0 else e1), e10, e11, k1, k10, k11, o1, t1, t10, t11, p1, (fun _ => p20), (fun _ => p21), (fun _ => p22), (fun _ => p23), (fun _ => p24), m10, m11, m12, M3, M4, M5, M7, M8, M13, (fun _ => M22), (fun _ => M23), (fun _ => M24), (fun _ => M25)] : List (Int → Int)).getD k z0) H locs (show LVx (if fRan e1 x1 x2 = 0 then addR e1 x1 x2 0 else e1) k1 f20 p1 p20 m10 m11 m12 M24 from ⟨iv_ran hIe, hIk, hkp, hHB, hpz, hSS, hLR, hvz⟩) hP hD hS

set_option maxRecDepth 100000 in
set_option maxHeartbeats 4000000 in
theorem lc_6 {p : Program} {l : Launch} {e : Env} {s : State} {m : MethodId} {below : List Frame} {meth : Method} {c : Code} {g : Gd} {σ : Sg} {bs L : Nat} {xs : Nat → Int32} {Q : State → Prop} (hL : L ≤ 3072) (hC : LCx g σ p s m c bs L xs) (a b d fo tr tp sh am : Nat → Nat) (f1 e1 e10 e11 k1 k10 k11 o1 t1 t10 t11 p1 m10 m11 m12 M3 M4 M5 M7 M8 M13 : Int → Int) (f20 p20 p21 p22 p23 p24 M22 M23 M24 M25 : Int) (hV : LVx e1 k1 f20 p1 p20 m10 m11 m12 M24) {i9 : Nat} (hi9 : i9 + 6 ≤ L) {ls : Array Slot} (hl : lv_has ls 4 [(3, .int (iI (i9 : Int))), (2, .ref (am 0)), (1, .ref (a 0)), (0, .ref bs)]) {H : Heap} {locs : List Loc} (hP : va_P g.1 vwCl (wX g a b d fo tp sh f1 f20 ++ (wLs g b e1 e10 e11 ++ (wLs g d k1 k10 k11 ++ (wF g fo b tr o1 ++ (wLs g tr t1 t10 t11 ++ (wT g tp p1 p20 p21 p22 p23 p24 ++ (wSs g sh m10 m11 m12 ++ (wM g am e1 k1 M3 M4 M5 f1 M7 M8 p1 m10 m11 m12 M13 f20 p20 M22 M23 M24 M25)))))))) H) (hD : va_D (fun q : Nat => s.heap.size ≤ q) (wX g a b d fo tp sh f1 f20 ++ (wLs g b e1 e10 e11 ++ (wLs g d k1 k10 k11 ++ (wF g fo b tr o1 ++ (wLs g tr t1 t10 t11 ++ (wT g tp p1 p20 p21 p22 p23 p24 ++ (wSs g sh m10 m11 m12 ++ (wM g am e1 k1 M3 M4 M5 f1 M7 M8 p1 m10 m11 m12 M13 f20 p20 M22 M23 M24 M25))))))))) (hS : va_S (fun q : Nat => s.heap.size ≤ q) s.heap H locs) (K : ∀ (u : Nat → Int → Int) (H : Heap) (locs : List Loc), LV u → va_P g.1 vwCl (LW g (fun k => ([a, b, d, fo, tr, tp, sh, am] : List (Nat → Nat)).getD k a) u) H → va_D (fun q : Nat => s.heap.size ≤ q) (LW g (fun k => ([a, b, d, fo, tr, tp, sh, am] : List (Nat → Nat)).getD k a) u) → va_S (fun q : Nat => s.heap.size ≤ q) s.heap H locs → W p l e room_1 s m #[Value.ref bs] below meth c H locs 65 1678 Q (F0 m 1473 ls [])) : W p l e room_1 s m #[Value.ref bs] below meth c H locs 65 1678 Q (F0 m 414 ls []) := by
  obtain ⟨hx, hb, hml, hown, hts, hK, hX, hbl, hSB⟩ := hC
  have hbA : ¬ (fun q : Nat => s.heap.size ≤ q) bs := Nat.not_le.mpr hbl
  have hA : ∀ q : Nat, s.heap.size ≤ q → (fun q : Nat => s.heap.size ≤ q) q := fun _ h => h
  obtain ⟨hIe, hIk, hkp, hHB, hpz, hSS, hLR, hvz⟩ := hV
  have hI := hIe.1
  have hs9 := hIe.2
  obtain ⟨x1, hx1⟩ : ∃ x : Int, x = (xs (i9 + 1)).toInt := ⟨_, rfl⟩
  have ha1a : -2147483648 ≤ x1 := by rw [hx1]; exact (IR_of _).1
  have ha1b : x1 ≤ 2147483647 := by rw [hx1]; exact (IR_of _).2
  obtain ⟨x2, hx2⟩ : ∃ x : Int, x = (xs (i9 + 2)).toInt := ⟨_, rfl⟩
  have ha2a : -2147483648 ≤ x2 := by rw [hx2]; exact (IR_of _).1
  have ha2b : x2 ≤ 2147483647 := by rw [hx2]; exact (IR_of _).2
  obtain ⟨x3, hx3⟩ : ∃ x : Int, x = (xs (i9 + 3)).toInt := ⟨_, rfl⟩
  have ha3a : -2147483648 ≤ x3 := by rw [hx3]; exact (IR_of _).1
  have ha3b : x3 ≤ 2147483647 := by rw [hx3]; exact (IR_of _).2
  obtain ⟨x4, hx4⟩ : ∃ x : Int, x = (xs (i9 + 4)).toInt := ⟨_, rfl⟩
  have ha4a : -2147483648 ≤ x4 := by rw [hx4]; exact (IR_of _).1
  have ha4b : x4 ≤ 2147483647 := by rw [hx4]; exact (IR_of _).2
  obtain ⟨x5, hx5⟩ : ∃ x : Int, x = (xs (i9 + 5)).toInt := ⟨_, rfl⟩
  have ha5a : -2147483648 ≤ x5 := by rw [hx5]; exact (IR_of _).1
  have ha5b : x5 ≤ 2147483647 := by rw [hx5]; exact (IR_of _).2
  obtain ⟨hP0, hPr0⟩ := va_P_app.mp hP
  obtain ⟨hP1, hPr1⟩ := va_P_app.mp hPr0
  obtain ⟨hP2, hPr2⟩ := va_P_app.mp hPr1
  obtain ⟨hP3, hPr3⟩ := va_P_app.mp hPr2
  obtain ⟨hP4, hPr4⟩ := va_P_app.mp hPr3
  obtain ⟨hP5, hPr5⟩ := va_P_app.mp hPr4
  obtain ⟨hP6, hP7⟩ := va_P_app.mp hPr5
  refine lv_aload_n hx hb dL_law_414 rfl (lv_at hl 2 rfl) ?_
  refine lv_aload_n hx hb dL_law_415 rfl (lv_at hl 3 rfl) ?_
  refine lv_iload_n hx hb dL_law_416 rfl (lv_at hl 0 rfl) ?_
  refine lv_iconst (v := iI (1)) hx hb dL_law_417 (by decide) ?_
  refine xi_add hx hb dL_law_418 ?_
  refine xs_ld (i := (i9 : Int) + 1) (j := i9 + 1) hx hb hX hbl hbA hS (by omega) (by omega) hL dL_law_419 ?_
  rw [← hx1]
  refine lv_aload_n hx hb dL_law_420 rfl (lv_at hl 3 rfl) ?_
  refine lv_iload_n hx hb dL_law_421 rfl (lv_at hl 0 rfl) ?_
  refine lv_iconst (v := iI (2)) hx hb dL_law_422 (by decide) ?_
  refine xi_add hx hb dL_law_423 ?_
  refine xs_ld (i := (i9 : Int) + 2) (j := i9 + 2) hx hb hX hbl hbA hS (by omega) (by omega) hL dL_law_424 ?_
  rw [← hx2]
  have hP : va_P g.1 vwCl ((wX g a b d fo tp sh f1 f20 ++ (wLs g b e1 e10 e11)) ++ (wLs g d k1 k10 k11 ++ (wF g fo b tr o1 ++ (wLs g tr t1 t10 t11 ++ (wT g tp p1 p20 p21 p22 p23 p24 ++ (wSs g sh m10 m11 m12 ++ (wM g am e1 k1 M3 M4 M5 f1 M7 M8 p1 m10 m11 m12 M13 f20 p20 M22 M23 M24 M25))))))) H := by rw [List.append_assoc]; exact hP
  have hD : va_D (fun q : Nat => s.heap.size ≤ q) ((wX g a b d fo tp sh f1 f20 ++ (wLs g b e1 e10 e11)) ++ (wLs g d k1 k10 k11 ++ (wF g fo b tr o1 ++ (wLs g tr t1 t10 t11 ++ (wT g tp p1 p20 p21 p22 p23 p24 ++ (wSs g sh m10 m11 m12 ++ (wM g am e1 k1 M3 M4 M5 f1 M7 M8 p1 m10 m11 m12 M13 f20 p20 M22 M23 M24 M25))))))) := by rw [List.append_assoc]; exact hD
  refine xmF_i (rV (rest := []) hx hb hml hown hts hK hl (c_X4_of l g d fo tp sh a f1 f20 b e1 e10 e11 x1 x2 H.size (show InvK 0 e1 from hI) (show e1 0 ≤ 9999 from by omega) (show IR x1 from ⟨by omega, by omega⟩) (show IR x2 from ⟨by omega, by omega⟩)) lk_L_40 ⟨rfl, (va_P_app.mp hP).1, (va_D_app hD).1.weaken (fun _ _ _ _ => trivial)⟩ (va_recv hK.1 hP0 (ci := 4) (q0 := 0) rfl rfl) rfl rfl rfl (Rm.of rfl) rfl rfl dL_law_425) hP hD hS hA (fun x9 u1 H locs hw hP hD hS => ?_)
  have hP : va_P g.1 vwCl ((wX g a b d fo tp sh (fb (fOf e1 x1 x2) f1) f20 ++ (wLs g b e1 (u1 110) (u1 111))) ++ (wLs g d k1 k10 k11 ++ (wF g fo b tr o1 ++ (wLs g tr t1 t10 t11 ++ (wT g tp p1 p20 p21 p22 p23 p24 ++ (wSs g sh m10 m11 m12 ++ (wM g am e1 k1 M3 M4 M5 f1 M7 M8 p1 m10 m11 m12 M13 f20 p20 M22 M23 M24 M25))))))) H := hP
  have hD : va_D (fun q : Nat => s.heap.size ≤ q) ((wX g a b d fo tp sh (fb (fOf e1 x1 x2) f1) f20 ++ (wLs g b e1 (u1 110) (u1 111))) ++ (wLs g d k1 k10 k11 ++ (wF g fo b tr o1 ++ (wLs g tr t1 t10 t11 ++ (wT g tp p1 p20 p21 p22 p23 p24 ++ (wSs g sh m10 m11 m12 ++ (wM g am e1 k1 M3 M4 M5 f1 M7 M8 p1 m10 m11 m12 M13 f20 p20 M22 M23 M24 M25))))))) := hD
  rw [List.append_assoc] at hP hD
  obtain rfl : x9 = ab (fOf e1 x1 x2) (iI (aOf e1 x1 x2)) := hw
  have hP : va_P g.1 vwCl (wX g a b d fo tp sh (fb (fOf e1 x1 x2) f1) f20 ++ (wLs g b e1 (u1 110) (u1 111) ++ (wLs g d k1 k10 k11 ++ (wF g fo b tr o1 ++ (wLs g tr t1 t10 t11 ++ (wT g tp p1 p20 p21 p22 p23 p24 ++ (wSs g sh m10 m11 m12 ++ (wM g am e1 k1 M3 M4 M5 f1 M7 M8 p1 m10 m11 m12 M13 f20 p20 M22 M23 M24 M25)))))))) H := hP
  have hD : va_D (fun q : Nat => s.heap.size ≤ q) (wX g a b d fo tp sh (fb (fOf e1 x1 x2) f1) f20 ++ (wLs g b e1 (u1 110) (u1 111) ++ (wLs g d k1 k10 k11 ++ (wF g fo b tr o1 ++ (wLs g tr t1 t10 t11 ++ (wT g tp p1 p20 p21 p22 p23 p24 ++ (wSs g sh m10 m11 m12 ++ (wM g am e1 k1 M3 M4 M5 f1 M7 M8 p1 m10 m11 m12 M13 f20 p20 M22 M23 M24 M25)))))))) := hD
  obtain ⟨hP0, hPr0⟩ := va_P_app.mp hP
  obtain ⟨hP1, hPr1⟩ := va_P_app.mp hPr0
  obtain ⟨hP2, hPr2⟩ := va_P_app.mp hPr1
  obtain ⟨hP3, hPr3⟩ := va_P_app.mp hPr2
  obtain ⟨hP4, hPr4⟩ := va_P_app.mp hPr3
  obtain ⟨hP5, hPr5⟩ := va_P_app.mp hPr4
  obtain ⟨hP6, hP7⟩ := va_P_app.mp hPr5
  refine lv_aload_n hx hb dL_law_428 rfl (lv_at hl 1 rfl) ?_
  refine lv_aload_n hx hb dL_law_429 rfl (lv_at hl 3 rfl) ?_
  refine lv_iload_n hx hb dL_law_430 rfl (lv_at hl 0 rfl) ?_
  refine lv_iconst (v := iI (1)) hx hb dL_law_431 (by decide) ?_
  refine xi_add hx hb dL_law_432 ?_
  refine xs_ld (i := (i9 : Int) + 1) (j := i9 + 1) hx hb hX hbl hbA hS (by omega) (by omega) hL dL_law_433 ?_
  rw [← hx1]
  refine lv_aload_n hx hb dL_law_434 rfl (lv_at hl 3 rfl) ?_
  refine lv_iload_n hx hb dL_law_435 rfl (lv_at hl 0 rfl) ?_
  refine lv_iconst (v := iI (2)) hx hb dL_law_436 (by decide) ?_
  refine xi_add hx hb dL_law_437 ?_
  refine xs_ld (i := (i9 : Int) + 2) (j := i9 + 2) hx hb hX hbl hbA hS (by omega) (by omega) hL dL_law_438 ?_
  rw [← hx2]
  have hD : va_D (fun q : Nat => s.heap.size ≤ q) (wX g a b d fo tp sh (fb (fOf e1 x1 x2) f1) f20 ++ (wLs g b e1 (u1 110) (u1 111) ++ (wLs g d k1 k10 k11 ++ (wF g fo b tr o1 ++ (wLs g tr t1 t10 t11 ++ (wT g tp p1 p20 p21 p22 p23 p24 ++ (wM g am e1 k1 M3 M4 M5 f1 M7 M8 p1 m10 m11 m12 M13 f20 p20 M22 M23 M24 M25 ++ (wSs g sh m10 m11 m12)))))))) := D_perm (List.Perm.append_left _ (List.Perm.append_left _ (List.Perm.append_left _ (List.Perm.append_left _ (List.Perm.append_left _ (List.Perm.append_left _ (List.perm_append_comm))))))) hD
  have hD : va_D (fun q : Nat => s.heap.size ≤ q) (wX g a b d fo tp sh (fb (fOf e1 x1 x2) f1) f20 ++ (wLs g b e1 (u1 110) (u1 111) ++ (wLs g d k1 k10 k11 ++ (wF g fo b tr o1 ++ (wLs g tr t1 t10 t11 ++ (wM g am e1 k1 M3 M4 M5 f1 M7 M8 p1 m10 m11 m12 M13 f20 p20 M22 M23 M24 M25 ++ (wT g tp p1 p20 p21 p22 p23 p24 ++ (wSs g sh m10 m11 m12)))))))) := D_perm (List.Perm.append_left _ (List.Perm.append_left _ (List.Perm.append_left _ (List.Perm.append_left _ (List.Perm.append_left _ (List.perm_append_comm_assoc _ _ _)))))) hD
  have hD : va_D (fun q : Nat => s.heap.size ≤ q) (wX g a b d fo tp sh (fb (fOf e1 x1 x2) f1) f20 ++ (wLs g b e1 (u1 110) (u1 111) ++ (wLs g d k1 k10 k11 ++ (wF g fo b tr o1 ++ (wM g am e1 k1 M3 M4 M5 f1 M7 M8 p1 m10 m11 m12 M13 f20 p20 M22 M23 M24 M25 ++ (wLs g tr t1 t10 t11 ++ (wT g tp p1 p20 p21 p22 p23 p24 ++ (wSs g sh m10 m11 m12)))))))) := D_perm (List.Perm.append_left _ (List.Perm.append_left _ (List.Perm.append_left _ (List.Perm.append_left _ (List.perm_append_comm_assoc _ _ _))))) hD
  have hD : va_D (fun q : Nat => s.heap.size ≤ q) (wX g a b d fo tp sh (fb (fOf e1 x1 x2) f1) f20 ++ (wLs g b e1 (u1 110) (u1 111) ++ (wLs g d k1 k10 k11 ++ (wM g am e1 k1 M3 M4 M5 f1 M7 M8 p1 m10 m11 m12 M13 f20 p20 M22 M23 M24 M25 ++ (wF g fo b tr o1 ++ (wLs g tr t1 t10 t11 ++ (wT g tp p1 p20 p21 p22 p23 p24 ++ (wSs g sh m10 m11 m12)))))))) := D_perm (List.Perm.append_left _ (List.Perm.append_left _ (List.Perm.append_left _ (List.perm_append_comm_assoc _ _ _)))) hD
  have hD : va_D (fun q : Nat => s.heap.size ≤ q) (wX g a b d fo tp sh (fb (fOf e1 x1 x2) f1) f20 ++ (wLs g b e1 (u1 110) (u1 111) ++ (wM g am e1 k1 M3 M4 M5 f1 M7 M8 p1 m10 m11 m12 M13 f20 p20 M22 M23 M24 M25 ++ (wLs g d k1 k10 k11 ++ (wF g fo b tr o1 ++ (wLs g tr t1 t10 t11 ++ (wT g tp p1 p20 p21 p22 p23 p24 ++ (wSs g sh m10 m11 m12)))))))) := D_perm (List.Perm.append_left _ (List.Perm.append_left _ (List.perm_append_comm_assoc _ _ _))) hD
  have hD : va_D (fun q : Nat => s.heap.size ≤ q) (wX g a b d fo tp sh (fb (fOf e1 x1 x2) f1) f20 ++ (wM g am e1 k1 M3 M4 M5 f1 M7 M8 p1 m10 m11 m12 M13 f20 p20 M22 M23 M24 M25 ++ (wLs g b e1 (u1 110) (u1 111) ++ (wLs g d k1 k10 k11 ++ (wF g fo b tr o1 ++ (wLs g tr t1 t10 t11 ++ (wT g tp p1 p20 p21 p22 p23 p24 ++ (wSs g sh m10 m11 m12)))))))) := D_perm (List.Perm.append_left _ (List.perm_append_comm_assoc _ _ _)) hD
  have hD : va_D (fun q : Nat => s.heap.size ≤ q) (wM g am e1 k1 M3 M4 M5 f1 M7 M8 p1 m10 m11 m12 M13 f20 p20 M22 M23 M24 M25 ++ (wX g a b d fo tp sh (fb (fOf e1 x1 x2) f1) f20 ++ (wLs g b e1 (u1 110) (u1 111) ++ (wLs g d k1 k10 k11 ++ (wF g fo b tr o1 ++ (wLs g tr t1 t10 t11 ++ (wT g tp p1 p20 p21 p22 p23 p24 ++ (wSs g sh m10 m11 m12)))))))) := D_perm (List.perm_append_comm_assoc _ _ _) hD
  have hP : va_P g.1 vwCl (wM g am e1 k1 M3 M4 M5 f1 M7 M8 p1 m10 m11 m12 M13 f20 p20 M22 M23 M24 M25 ++ (wX g a b d fo tp sh (fb (fOf e1 x1 x2) f1) f20 ++ (wLs g b e1 (u1 110) (u1 111) ++ (wLs g d k1 k10 k11 ++ (wF g fo b tr o1 ++ (wLs g tr t1 t10 t11 ++ (wT g tp p1 p20 p21 p22 p23 p24 ++ (wSs g sh m10 m11 m12)))))))) H := va_P_app.mpr ⟨hP7, va_P_app.mpr ⟨hP0, va_P_app.mpr ⟨hP1, va_P_app.mpr ⟨hP2, va_P_app.mpr ⟨hP3, va_P_app.mpr ⟨hP4, va_P_app.mpr ⟨hP5, hP6⟩⟩⟩⟩⟩⟩⟩
  refine xmF_i (rV (rest := [.int (ab (fOf e1 x1 x2) (iI (aOf e1 x1 x2)))]) hx hb hml hown hts hK hl (c_X5_of l g am e1 k1 M3 M4 M5 f1 M7 M8 p1 m10 m11 m12 M13 f20 p20 M22 M23 M24 M25 x1 x2 H.size (show InvK 0 e1 from hI) (show e1 0 ≤ 9999 from by omega) (show IR x1 from ⟨by omega, by omega⟩) (show IR x2 from ⟨by omega, by omega⟩)) lk_L_43 ⟨rfl, hP7, (va_D_app hD).1.weaken (fun _ _ _ _ => trivial)⟩ (va_recv hK.1 hP7 (ci := 5) (q0 := 0) rfl rfl) rfl rfl rfl (Rm.of rfl) rfl rfl dL_law_439) hP hD hS hA (fun x9 _ H locs hw hP hD hS => ?_)
  obtain rfl : x9 = ab (fOf e1 x1 x2) (iI (aOf e1 x1 x2)) := hw
  have hP : va_P g.1 vwCl (wM g am e1 k1 M3 M4 M5 (fb (fOf e1 x1 x2) f1) M7 M8 p1 m10 m11 m12 M13 f20 p20 M22 M23 M24 M25 ++ (wX g a b d fo tp sh (fb (fOf e1 x1 x2) f1) f20 ++ (wLs g b e1 (u1 110) (u1 111) ++ (wLs g d k1 k10 k11 ++ (wF g fo b tr o1 ++ (wLs g tr t1 t10 t11 ++ (wT g tp p1 p20 p21 p22 p23 p24 ++ (wSs g sh m10 m11 m12)))))))) H := hP
  have hD : va_D (fun q : Nat => s.heap.size ≤ q) (wM g am e1 k1 M3 M4 M5 (fb (fOf e1 x1 x2) f1) M7 M8 p1 m10 m11 m12 M13 f20 p20 M22 M23 M24 M25 ++ (wX g a b d fo tp sh (fb (fOf e1 x1 x2) f1) f20 ++ (wLs g b e1 (u1 110) (u1 111) ++ (wLs g d k1 k10 k11 ++ (wF g fo b tr o1 ++ (wLs g tr t1 t10 t11 ++ (wT g tp p1 p20 p21 p22 p23 p24 ++ (wSs g sh m10 m11 m12)))))))) := hD
  obtain ⟨hP7, hPr0⟩ := va_P_app.mp hP
  obtain ⟨hP0, hPr1⟩ := va_P_app.mp hPr0
  obtain ⟨hP1, hPr2⟩ := va_P_app.mp hPr1
  obtain ⟨hP2, hPr3⟩ := va_P_app.mp hPr2
  obtain ⟨hP3, hPr4⟩ := va_P_app.mp hPr3
  obtain ⟨hP4, hPr5⟩ := va_P_app.mp hPr4
  obtain ⟨hP5, hP6⟩ := va_P_app.mp hPr5
  refine lv_icmp_eq (tgt := 1473) hx hb dL_law_442 (by decide) (fun _ => ?_) (fun z => absurd rfl z)
  have hD : va_D (fun q : Nat => s.heap.size ≤ q) (wX g a b d fo tp sh (fb (fOf e1 x1 x2) f1) f20 ++ (wM g am e1 k1 M3 M4 M5 (fb (fOf e1 x1 x2) f1) M7 M8 p1 m10 m11 m12 M13 f20 p20 M22 M23 M24 M25 ++ (wLs g b e1 (u1 110) (u1 111) ++ (wLs g d k1 k10 k11 ++ (wF g fo b tr o1 ++ (wLs g tr t1 t10 t11 ++ (wT g tp p1 p20 p21 p22 p23 p24 ++ (wSs g sh m10 m11 m12)))))))) := D_perm (List.perm_append_comm_assoc _ _ _) hD
  have hD : va_D (fun q : Nat => s.heap.size ≤ q) (wX g a b d fo tp sh (fb (fOf e1 x1 x2) f1) f20 ++ (wLs g b e1 (u1 110) (u1 111) ++ (wM g am e1 k1 M3 M4 M5 (fb (fOf e1 x1 x2) f1) M7 M8 p1 m10 m11 m12 M13 f20 p20 M22 M23 M24 M25 ++ (wLs g d k1 k10 k11 ++ (wF g fo b tr o1 ++ (wLs g tr t1 t10 t11 ++ (wT g tp p1 p20 p21 p22 p23 p24 ++ (wSs g sh m10 m11 m12)))))))) := D_perm (List.Perm.append_left _ (List.perm_append_comm_assoc _ _ _)) hD
  have hD : va_D (fun q : Nat => s.heap.size ≤ q) (wX g a b d fo tp sh (fb (fOf e1 x1 x2) f1) f20 ++ (wLs g b e1 (u1 110) (u1 111) ++ (wLs g d k1 k10 k11 ++ (wM g am e1 k1 M3 M4 M5 (fb (fOf e1 x1 x2) f1) M7 M8 p1 m10 m11 m12 M13 f20 p20 M22 M23 M24 M25 ++ (wF g fo b tr o1 ++ (wLs g tr t1 t10 t11 ++ (wT g tp p1 p20 p21 p22 p23 p24 ++ (wSs g sh m10 m11 m12)))))))) := D_perm (List.Perm.append_left _ (List.Perm.append_left _ (List.perm_append_comm_assoc _ _ _))) hD
  have hD : va_D (fun q : Nat => s.heap.size ≤ q) (wX g a b d fo tp sh (fb (fOf e1 x1 x2) f1) f20 ++ (wLs g b e1 (u1 110) (u1 111) ++ (wLs g d k1 k10 k11 ++ (wF g fo b tr o1 ++ (wM g am e1 k1 M3 M4 M5 (fb (fOf e1 x1 x2) f1) M7 M8 p1 m10 m11 m12 M13 f20 p20 M22 M23 M24 M25 ++ (wLs g tr t1 t10 t11 ++ (wT g tp p1 p20 p21 p22 p23 p24 ++ (wSs g sh m10 m11 m12)))))))) := D_perm (List.Perm.append_left _ (List.Perm.append_left _ (List.Perm.append_left _ (List.perm_append_comm_assoc _ _ _)))) hD
  have hD : va_D (fun q : Nat => s.heap.size ≤ q) (wX g a b d fo tp sh (fb (fOf e1 x1 x2) f1) f20 ++ (wLs g b e1 (u1 110) (u1 111) ++ (wLs g d k1 k10 k11 ++ (wF g fo b tr o1 ++ (wLs g tr t1 t10 t11 ++ (wM g am e1 k1 M3 M4 M5 (fb (fOf e1 x1 x2) f1) M7 M8 p1 m10 m11 m12 M13 f20 p20 M22 M23 M24 M25 ++ (wT g tp p1 p20 p21 p22 p23 p24 ++ (wSs g sh m10 m11 m12)))))))) := D_perm (List.Perm.append_left _ (List.Perm.append_left _ (List.Perm.append_left _ (List.Perm.append_left _ (List.perm_append_comm_assoc _ _ _))))) hD
  have hD : va_D (fun q : Nat => s.heap.size ≤ q) (wX g a b d fo tp sh (fb (fOf e1 x1 x2) f1) f20 ++ (wLs g b e1 (u1 110) (u1 111) ++ (wLs g d k1 k10 k11 ++ (wF g fo b tr o1 ++ (wLs g tr t1 t10 t11 ++ (wT g tp p1 p20 p21 p22 p23 p24 ++ (wM g am e1 k1 M3 M4 M5 (fb (fOf e1 x1 x2) f1) M7 M8 p1 m10 m11 m12 M13 f20 p20 M22 M23 M24 M25 ++ (wSs g sh m10 m11 m12)))))))) := D_perm (List.Perm.append_left _ (List.Perm.append_left _ (List.Perm.append_left _ (List.Perm.append_left _ (List.Perm.append_left _ (List.perm_append_comm_assoc _ _ _)))))) hD
  have hD : va_D (fun q : Nat => s.heap.size ≤ q) (wX g a b d fo tp sh (fb (fOf e1 x1 x2) f1) f20 ++ (wLs g b e1 (u1 110) (u1 111) ++ (wLs g d k1 k10 k11 ++ (wF g fo b tr o1 ++ (wLs g tr t1 t10 t11 ++ (wT g tp p1 p20 p21 p22 p23 p24 ++ (wSs g sh m10 m11 m12 ++ (wM g am e1 k1 M3 M4 M5 (fb (fOf e1 x1 x2) f1) M7 M8 p1 m10 m11 m12 M13 f20 p20 M22 M23 M24 M25)))))))) := D_perm (List.Perm.append_left _ (List.Perm.append_left _ (List.Perm.append_left _ (List.Perm.append_left _ (List.Perm.append_left _ (List.Perm.append_left _ (List.perm_append_comm))))))) hD
  have hP : va_P g.1 vwCl (wX g a b d fo tp sh (fb (fOf e1 x1 x2) f1) f20 ++ (wLs g b e1 (u1 110) (u1 111) ++ (wLs g d k1 k10 k11 ++ (wF g fo b tr o1 ++ (wLs g tr t1 t10 t11 ++ (wT g tp p1 p20 p21 p22 p23 p24 ++ (wSs g sh m10 m11 m12 ++ (wM g am e1 k1 M3 M4 M5 (fb (fOf e1 x1 x2) f1) M7 M8 p1 m10 m11 m12 M13 f20 p20 M22 M23 M24 M25)))))))) H := va_P_app.mpr ⟨hP0, va_P_app.mpr ⟨hP1, va_P_app.mpr ⟨hP2, va_P_app.mpr ⟨hP3, va_P_app.mpr ⟨hP4, va_P_app.mpr ⟨hP5, va_P_app.mpr ⟨hP6, hP7⟩⟩⟩⟩⟩⟩⟩
  exact K (fun k => ([(fb (fOf e1 x1 x2) f1), (fun _ => f20), e1, (u1 110), (u1 111), k1, k10, k11, o1, t1, t10, t11, p1, (fun _ => p20), (fun _ => p21), (fun _ => p22), (fun _ => p23), (fun _ => p24), m10, m11, m12, M3, M4, M5, M7, M8, M13, (fun _ => M22), (fun _ => M23), (fun _ => M24), (fun _ => M25)] : List (Int → Int)).getD k z0) H locs (show LVx e1 k1 f20 p1 p20 m10 m11 m12 M24 from ⟨hIe, hIk, hkp, hHB, hpz, hSS, hLR, hvz⟩) hP hD hS

set_option maxRecDepth 100000 in
set_option maxHeartbeats 4000000 in
theorem lc_7 {p : Program} {l : Launch} {e : Env} {s : State} {m : MethodId} {below : List Frame} {meth : Method} {c : Code} {g : Gd} {σ : Sg} {bs L : Nat} {xs : Nat → Int32} {Q : State → Prop} (hL : L ≤ 3072) (hC : LCx g σ p s m c bs L xs) (a b d fo tr tp sh am : Nat → Nat) (f1 e1 e10 e11 k1 k10 k11 o1 t1 t10 t11 p1 m10 m11 m12 M3 M4 M5 M7 M8 M13 : Int → Int) (f20 p20 p21 p22 p23 p24 M22 M23 M24 M25 : Int) (hV : LVx e1 k1 f20 p1 p20 m10 m11 m12 M24) {i9 : Nat} (hi9 : i9 + 6 ≤ L) {ls : Array Slot} (hl : lv_has ls 4 [(3, .int (iI (i9 : Int))), (2, .ref (am 0)), (1, .ref (a 0)), (0, .ref bs)]) {H : Heap} {locs : List Loc} (hP : va_P g.1 vwCl (wX g a b d fo tp sh f1 f20 ++ (wLs g b e1 e10 e11 ++ (wLs g d k1 k10 k11 ++ (wF g fo b tr o1 ++ (wLs g tr t1 t10 t11 ++ (wT g tp p1 p20 p21 p22 p23 p24 ++ (wSs g sh m10 m11 m12 ++ (wM g am e1 k1 M3 M4 M5 f1 M7 M8 p1 m10 m11 m12 M13 f20 p20 M22 M23 M24 M25)))))))) H) (hD : va_D (fun q : Nat => s.heap.size ≤ q) (wX g a b d fo tp sh f1 f20 ++ (wLs g b e1 e10 e11 ++ (wLs g d k1 k10 k11 ++ (wF g fo b tr o1 ++ (wLs g tr t1 t10 t11 ++ (wT g tp p1 p20 p21 p22 p23 p24 ++ (wSs g sh m10 m11 m12 ++ (wM g am e1 k1 M3 M4 M5 f1 M7 M8 p1 m10 m11 m12 M13 f20 p20 M22 M23 M24 M25))))))))) (hS : va_S (fun q : Nat => s.heap.size ≤ q) s.heap H locs) (K : ∀ (u : Nat → Int → Int) (H : Heap) (locs : List Loc), LV u → va_P g.1 vwCl (LW g (fun k => ([a, b, d, fo, tr, tp, sh, am] : List (Nat → Nat)).getD k a) u) H → va_D (fun q : Nat => s.heap.size ≤ q) (LW g (fun k => ([a, b, d, fo, tr, tp, sh, am] : List (Nat → Nat)).getD k a) u) → va_S (fun q : Nat => s.heap.size ≤ q) s.heap H locs → W p l e room_1 s m #[Value.ref bs] below meth c H locs 65 1678 Q (F0 m 1473 ls [])) : W p l e room_1 s m #[Value.ref bs] below meth c H locs 65 1678 Q (F0 m 447 ls []) := by
  obtain ⟨hx, hb, hml, hown, hts, hK, hX, hbl, hSB⟩ := hC
  have hbA : ¬ (fun q : Nat => s.heap.size ≤ q) bs := Nat.not_le.mpr hbl
  have hA : ∀ q : Nat, s.heap.size ≤ q → (fun q : Nat => s.heap.size ≤ q) q := fun _ h => h
  obtain ⟨hIe, hIk, hkp, hHB, hpz, hSS, hLR, hvz⟩ := hV
  have hI := hIe.1
  have hs9 := hIe.2
  obtain ⟨x1, hx1⟩ : ∃ x : Int, x = (xs (i9 + 1)).toInt := ⟨_, rfl⟩
  have ha1a : -2147483648 ≤ x1 := by rw [hx1]; exact (IR_of _).1
  have ha1b : x1 ≤ 2147483647 := by rw [hx1]; exact (IR_of _).2
  obtain ⟨x2, hx2⟩ : ∃ x : Int, x = (xs (i9 + 2)).toInt := ⟨_, rfl⟩
  have ha2a : -2147483648 ≤ x2 := by rw [hx2]; exact (IR_of _).1
  have ha2b : x2 ≤ 2147483647 := by rw [hx2]; exact (IR_of _).2
  obtain ⟨x3, hx3⟩ : ∃ x : Int, x = (xs (i9 + 3)).toInt := ⟨_, rfl⟩
  have ha3a : -2147483648 ≤ x3 := by rw [hx3]; exact (IR_of _).1
  have ha3b : x3 ≤ 2147483647 := by rw [hx3]; exact (IR_of _).2
  obtain ⟨x4, hx4⟩ : ∃ x : Int, x = (xs (i9 + 4)).toInt := ⟨_, rfl⟩
  have ha4a : -2147483648 ≤ x4 := by rw [hx4]; exact (IR_of _).1
  have ha4b : x4 ≤ 2147483647 := by rw [hx4]; exact (IR_of _).2
  obtain ⟨x5, hx5⟩ : ∃ x : Int, x = (xs (i9 + 5)).toInt := ⟨_, rfl⟩
  have ha5a : -2147483648 ≤ x5 := by rw [hx5]; exact (IR_of _).1
  have ha5b : x5 ≤ 2147483647 := by rw [hx5]; exact (IR_of _).2
  obtain ⟨hP0, hPr0⟩ := va_P_app.mp hP
  obtain ⟨hP1, hPr1⟩ := va_P_app.mp hPr0
  obtain ⟨hP2, hPr2⟩ := va_P_app.mp hPr1
  obtain ⟨hP3, hPr3⟩ := va_P_app.mp hPr2
  obtain ⟨hP4, hPr4⟩ := va_P_app.mp hPr3
  obtain ⟨hP5, hPr5⟩ := va_P_app.mp hPr4
  obtain ⟨hP6, hP7⟩ := va_P_app.mp hPr5
  refine lv_aload_n hx hb dL_law_447 rfl (lv_at hl 2 rfl) ?_
  refine lv_aload_n hx hb dL_law_448 rfl (lv_at hl 3 rfl) ?_
  refine lv_iload_n hx hb dL_law_449 rfl (lv_at hl 0 rfl) ?_
  refine lv_iconst (v := iI (1)) hx hb dL_law_450 (by decide) ?_
  refine xi_add hx hb dL_law_451 ?_
  refine xs_ld (i := (i9 : Int) + 1) (j := i9 + 1) hx hb hX hbl hbA hS (by omega) (by omega) hL dL_law_452 ?_
  rw [← hx1]
  refine lv_aload_n hx hb dL_law_453 rfl (lv_at hl 3 rfl) ?_
  refine lv_iload_n hx hb dL_law_454 rfl (lv_at hl 0 rfl) ?_
  refine lv_iconst (v := iI (2)) hx hb dL_law_455 (by decide) ?_
  refine xi_add hx hb dL_law_456 ?_
  refine xs_ld (i := (i9 : Int) + 2) (j := i9 + 2) hx hb hX hbl hbA hS (by omega) (by omega) hL dL_law_457 ?_
  rw [← hx2]
  refine lv_aload_n hx hb dL_law_458 rfl (lv_at hl 3 rfl) ?_
  refine lv_iload_n hx hb dL_law_459 rfl (lv_at hl 0 rfl) ?_
  refine lv_iconst (v := iI (3)) hx hb dL_law_460 (by decide) ?_
  refine xi_add hx hb dL_law_461 ?_
  refine xs_ld (i := (i9 : Int) + 3) (j := i9 + 3) hx hb hX hbl hbA hS (by omega) (by omega) hL dL_law_462 ?_
  rw [← hx3]
  have hP : va_P g.1 vwCl ((wX g a b d fo tp sh f1 f20 ++ (wLs g b e1 e10 e11)) ++ (wLs g d k1 k10 k11 ++ (wF g fo b tr o1 ++ (wLs g tr t1 t10 t11 ++ (wT g tp p1 p20 p21 p22 p23 p24 ++ (wSs g sh m10 m11 m12 ++ (wM g am e1 k1 M3 M4 M5 f1 M7 M8 p1 m10 m11 m12 M13 f20 p20 M22 M23 M24 M25))))))) H := by rw [List.append_assoc]; exact hP
  have hD : va_D (fun q : Nat => s.heap.size ≤ q) ((wX g a b d fo tp sh f1 f20 ++ (wLs g b e1 e10 e11)) ++ (wLs g d k1 k10 k11 ++ (wF g fo b tr o1 ++ (wLs g tr t1 t10 t11 ++ (wT g tp p1 p20 p21 p22 p23 p24 ++ (wSs g sh m10 m11 m12 ++ (wM g am e1 k1 M3 M4 M5 f1 M7 M8 p1 m10 m11 m12 M13 f20 p20 M22 M23 M24 M25))))))) := by rw [List.append_assoc]; exact hD
  refine xmF_i (rV (rest := []) hx hb hml hown hts hK hl (c_X4_set l g d fo tp sh a f1 f20 b e1 e10 e11 x1 x2 x3 H.size (show InvK 0 e1 from hI) (show e1 0 ≤ 9999 from by omega) (show IR x1 from ⟨by omega, by omega⟩) (show IR x2 from ⟨by omega, by omega⟩) (show IR x3 from ⟨by omega, by omega⟩)) lk_L_44 ⟨rfl, (va_P_app.mp hP).1, (va_D_app hD).1.weaken (fun _ _ _ _ => trivial)⟩ (va_recv hK.1 hP0 (ci := 4) (q0 := 0) rfl rfl) rfl rfl rfl (Rm.of rfl) rfl rfl dL_law_463) hP hD hS hA (fun x9 _ H locs hw hP hD hS => ?_)
  have hP : va_P g.1 vwCl ((wX g a b d fo tp sh (fb (fSet e1 x1 x2 x3) f1) f20 ++ (wLs g b (if fSet e1 x1 x2 x3 = 0 then up e1 (61 + 5 * x1 + x2) x3 else e1) e10 e11)) ++ (wLs g d k1 k10 k11 ++ (wF g fo b tr o1 ++ (wLs g tr t1 t10 t11 ++ (wT g tp p1 p20 p21 p22 p23 p24 ++ (wSs g sh m10 m11 m12 ++ (wM g am e1 k1 M3 M4 M5 f1 M7 M8 p1 m10 m11 m12 M13 f20 p20 M22 M23 M24 M25))))))) H := hP
  have hD : va_D (fun q : Nat => s.heap.size ≤ q) ((wX g a b d fo tp sh (fb (fSet e1 x1 x2 x3) f1) f20 ++ (wLs g b (if fSet e1 x1 x2 x3 = 0 then up e1 (61 + 5 * x1 + x2) x3 else e1) e10 e11)) ++ (wLs g d k1 k10 k11 ++ (wF g fo b tr o1 ++ (wLs g tr t1 t10 t11 ++ (wT g tp p1 p20 p21 p22 p23 p24 ++ (wSs g sh m10 m11 m12 ++ (wM g am e1 k1 M3 M4 M5 f1 M7 M8 p1 m10 m11 m12 M13 f20 p20 M22 M23 M24 M25))))))) := hD
  rw [List.append_assoc] at hP hD
  obtain rfl : x9 = ab (fSet e1 x1 x2 x3) (iI (e1 (61 + 5 * x1 + x2))) := hw
  have hP : va_P g.1 vwCl (wX g a b d fo tp sh (fb (fSet e1 x1 x2 x3) f1) f20 ++ (wLs g b (if fSet e1 x1 x2 x3 = 0 then up e1 (61 + 5 * x1 + x2) x3 else e1) e10 e11 ++ (wLs g d k1 k10 k11 ++ (wF g fo b tr o1 ++ (wLs g tr t1 t10 t11 ++ (wT g tp p1 p20 p21 p22 p23 p24 ++ (wSs g sh m10 m11 m12 ++ (wM g am e1 k1 M3 M4 M5 f1 M7 M8 p1 m10 m11 m12 M13 f20 p20 M22 M23 M24 M25)))))))) H := hP
  have hD : va_D (fun q : Nat => s.heap.size ≤ q) (wX g a b d fo tp sh (fb (fSet e1 x1 x2 x3) f1) f20 ++ (wLs g b (if fSet e1 x1 x2 x3 = 0 then up e1 (61 + 5 * x1 + x2) x3 else e1) e10 e11 ++ (wLs g d k1 k10 k11 ++ (wF g fo b tr o1 ++ (wLs g tr t1 t10 t11 ++ (wT g tp p1 p20 p21 p22 p23 p24 ++ (wSs g sh m10 m11 m12 ++ (wM g am e1 k1 M3 M4 M5 f1 M7 M8 p1 m10 m11 m12 M13 f20 p20 M22 M23 M24 M25)))))))) := hD
  obtain ⟨hP0, hPr0⟩ := va_P_app.mp hP
  obtain ⟨hP1, hPr1⟩ := va_P_app.mp hPr0
  obtain ⟨hP2, hPr2⟩ := va_P_app.mp hPr1
  obtain ⟨hP3, hPr3⟩ := va_P_app.mp hPr2
  obtain ⟨hP4, hPr4⟩ := va_P_app.mp hPr3
  obtain ⟨hP5, hPr5⟩ := va_P_app.mp hPr4
  obtain ⟨hP6, hP7⟩ := va_P_app.mp hPr5
  refine lv_aload_n hx hb dL_law_466 rfl (lv_at hl 1 rfl) ?_
  refine lv_aload_n hx hb dL_law_467 rfl (lv_at hl 3 rfl) ?_
  refine lv_iload_n hx hb dL_law_468 rfl (lv_at hl 0 rfl) ?_
  refine lv_iconst (v := iI (1)) hx hb dL_law_469 (by decide) ?_
  refine xi_add hx hb dL_law_470 ?_
  refine xs_ld (i := (i9 : Int) + 1) (j := i9 + 1) hx hb hX hbl hbA hS (by omega) (by omega) hL dL_law_471 ?_
  rw [← hx1]
  refine lv_aload_n hx hb dL_law_472 rfl (lv_at hl 3 rfl) ?_
  refine lv_iload_n hx hb dL_law_473 rfl (lv_at hl 0 rfl) ?_
  refine lv_iconst (v := iI (2)) hx hb dL_law_474 (by decide) ?_
  refine xi_add hx hb dL_law_475 ?_
  refine xs_ld (i := (i9 : Int) + 2) (j := i9 + 2) hx hb hX hbl hbA hS (by omega) (by omega) hL dL_law_476 ?_
  rw [← hx2]
  refine lv_aload_n hx hb dL_law_477 rfl (lv_at hl 3 rfl) ?_
  refine lv_iload_n hx hb dL_law_478 rfl (lv_at hl 0 rfl) ?_
  refine lv_iconst (v := iI (3)) hx hb dL_law_479 (by decide) ?_
  refine xi_add hx hb dL_law_480 ?_
  refine xs_ld (i := (i9 : Int) + 3) (j := i9 + 3) hx hb hX hbl hbA hS (by omega) (by omega) hL dL_law_481 ?_
  rw [← hx3]
  have hD : va_D (fun q : Nat => s.heap.size ≤ q) (wX g a b d fo tp sh (fb (fSet e1 x1 x2 x3) f1) f20 ++ (wLs g b (if fSet e1 x1 x2 x3 = 0 then up e1 (61 + 5 * x1 + x2) x3 else e1) e10 e11 ++ (wLs g d k1 k10 k11 ++ (wF g fo b tr o1 ++ (wLs g tr t1 t10 t11 ++ (wT g tp p1 p20 p21 p22 p23 p24 ++ (wM g am e1 k1 M3 M4 M5 f1 M7 M8 p1 m10 m11 m12 M13 f20 p20 M22 M23 M24 M25 ++ (wSs g sh m10 m11 m12)))))))) := D_perm (List.Perm.append_left _ (List.Perm.append_left _ (List.Perm.append_left _ (List.Perm.append_left _ (List.Perm.append_left _ (List.Perm.append_left _ (List.perm_append_comm))))))) hD
  have hD : va_D (fun q : Nat => s.heap.size ≤ q) (wX g a b d fo tp sh (fb (fSet e1 x1 x2 x3) f1) f20 ++ (wLs g b (if fSet e1 x1 x2 x3 = 0 then up e1 (61 + 5 * x1 + x2) x3 else e1) e10 e11 ++ (wLs g d k1 k10 k11 ++ (wF g fo b tr o1 ++ (wLs g tr t1 t10 t11 ++ (wM g am e1 k1 M3 M4 M5 f1 M7 M8 p1 m10 m11 m12 M13 f20 p20 M22 M23 M24 M25 ++ (wT g tp p1 p20 p21 p22 p23 p24 ++ (wSs g sh m10 m11 m12)))))))) := D_perm (List.Perm.append_left _ (List.Perm.append_left _ (List.Perm.append_left _ (List.Perm.append_left _ (List.Perm.append_left _ (List.perm_append_comm_assoc _ _ _)))))) hD
  have hD : va_D (fun q : Nat => s.heap.size ≤ q) (wX g a b d fo tp sh (fb (fSet e1 x1 x2 x3) f1) f20 ++ (wLs g b (if fSet e1 x1 x2 x3 = 0 then up e1 (61 + 5 * x1 + x2) x3 else e1) e10 e11 ++ (wLs g d k1 k10 k11 ++ (wF g fo b tr o1 ++ (wM g am e1 k1 M3 M4 M5 f1 M7 M8 p1 m10 m11 m12 M13 f20 p20 M22 M23 M24 M25 ++ (wLs g tr t1 t10 t11 ++ (wT g tp p1 p20 p21 p22 p23 p24 ++ (wSs g sh m10 m11 m12)))))))) := D_perm (List.Perm.append_left _ (List.Perm.append_left _ (List.Perm.append_left _ (List.Perm.append_left _ (List.perm_append_comm_assoc _ _ _))))) hD
  have hD : va_D (fun q : Nat => s.heap.size ≤ q) (wX g a b d fo tp sh (fb (fSet e1 x1 x2 x3) f1) f20 ++ (wLs g b (if fSet e1 x1 x2 x3 = 0 then up e1 (61 + 5 * x1 + x2) x3 else e1) e10 e11 ++ (wLs g d k1 k10 k11 ++ (wM g am e1 k1 M3 M4 M5 f1 M7 M8 p1 m10 m11 m12 M13 f20 p20 M22 M23 M24 M25 ++ (wF g fo b tr o1 ++ (wLs g tr t1 t10 t11 ++ (wT g tp p1 p20 p21 p22 p23 p24 ++ (wSs g sh m10 m11 m12)))))))) := D_perm (List.Perm.append_left _ (List.Perm.append_left _ (List.Perm.append_left _ (List.perm_append_comm_assoc _ _ _)))) hD
  have hD : va_D (fun q : Nat => s.heap.size ≤ q) (wX g a b d fo tp sh (fb (fSet e1 x1 x2 x3) f1) f20 ++ (wLs g b (if fSet e1 x1 x2 x3 = 0 then up e1 (61 + 5 * x1 + x2) x3 else e1) e10 e11 ++ (wM g am e1 k1 M3 M4 M5 f1 M7 M8 p1 m10 m11 m12 M13 f20 p20 M22 M23 M24 M25 ++ (wLs g d k1 k10 k11 ++ (wF g fo b tr o1 ++ (wLs g tr t1 t10 t11 ++ (wT g tp p1 p20 p21 p22 p23 p24 ++ (wSs g sh m10 m11 m12)))))))) := D_perm (List.Perm.append_left _ (List.Perm.append_left _ (List.perm_append_comm_assoc _ _ _))) hD
  have hD : va_D (fun q : Nat => s.heap.size ≤ q) (wX g a b d fo tp sh (fb (fSet e1 x1 x2 x3) f1) f20 ++ (wM g am e1 k1 M3 M4 M5 f1 M7 M8 p1 m10 m11 m12 M13 f20 p20 M22 M23 M24 M25 ++ (wLs g b (if fSet e1 x1 x2 x3 = 0 then up e1 (61 + 5 * x1 + x2) x3 else e1) e10 e11 ++ (wLs g d k1 k10 k11 ++ (wF g fo b tr o1 ++ (wLs g tr t1 t10 t11 ++ (wT g tp p1 p20 p21 p22 p23 p24 ++ (wSs g sh m10 m11 m12)))))))) := D_perm (List.Perm.append_left _ (List.perm_append_comm_assoc _ _ _)) hD
  have hD : va_D (fun q : Nat => s.heap.size ≤ q) (wM g am e1 k1 M3 M4 M5 f1 M7 M8 p1 m10 m11 m12 M13 f20 p20 M22 M23 M24 M25 ++ (wX g a b d fo tp sh (fb (fSet e1 x1 x2 x3) f1) f20 ++ (wLs g b (if fSet e1 x1 x2 x3 = 0 then up e1 (61 + 5 * x1 + x2) x3 else e1) e10 e11 ++ (wLs g d k1 k10 k11 ++ (wF g fo b tr o1 ++ (wLs g tr t1 t10 t11 ++ (wT g tp p1 p20 p21 p22 p23 p24 ++ (wSs g sh m10 m11 m12)))))))) := D_perm (List.perm_append_comm_assoc _ _ _) hD
  have hP : va_P g.1 vwCl (wM g am e1 k1 M3 M4 M5 f1 M7 M8 p1 m10 m11 m12 M13 f20 p20 M22 M23 M24 M25 ++ (wX g a b d fo tp sh (fb (fSet e1 x1 x2 x3) f1) f20 ++ (wLs g b (if fSet e1 x1 x2 x3 = 0 then up e1 (61 + 5 * x1 + x2) x3 else e1) e10 e11 ++ (wLs g d k1 k10 k11 ++ (wF g fo b tr o1 ++ (wLs g tr t1 t10 t11 ++ (wT g tp p1 p20 p21 p22 p23 p24 ++ (wSs g sh m10 m11 m12)))))))) H := va_P_app.mpr ⟨hP7, va_P_app.mpr ⟨hP0, va_P_app.mpr ⟨hP1, va_P_app.mpr ⟨hP2, va_P_app.mpr ⟨hP3, va_P_app.mpr ⟨hP4, va_P_app.mpr ⟨hP5, hP6⟩⟩⟩⟩⟩⟩⟩
  refine xmF_i (rV (rest := [.int (ab (fSet e1 x1 x2 x3) (iI (e1 (61 + 5 * x1 + x2))))]) hx hb hml hown hts hK hl (c_X5_set l g am e1 k1 M3 M4 M5 f1 M7 M8 p1 m10 m11 m12 M13 f20 p20 M22 M23 M24 M25 x1 x2 x3 H.size (show InvK 0 e1 from hI) (show e1 0 ≤ 9999 from by omega) (show IR x1 from ⟨by omega, by omega⟩) (show IR x2 from ⟨by omega, by omega⟩) (show IR x3 from ⟨by omega, by omega⟩)) lk_L_47 ⟨rfl, hP7, (va_D_app hD).1.weaken (fun _ _ _ _ => trivial)⟩ (va_recv hK.1 hP7 (ci := 5) (q0 := 0) rfl rfl) rfl rfl rfl (Rm.of rfl) rfl rfl dL_law_482) hP hD hS hA (fun x9 _ H locs hw hP hD hS => ?_)
  obtain rfl : x9 = ab (fSet e1 x1 x2 x3) (iI (e1 (61 + 5 * x1 + x2))) := hw
  have hP : va_P g.1 vwCl (wM g am (if fSet e1 x1 x2 x3 = 0 then up e1 (61 + 5 * x1 + x2) x3 else e1) k1 M3 M4 M5 (fb (fSet e1 x1 x2 x3) f1) M7 M8 p1 m10 m11 m12 M13 f20 p20 M22 M23 M24 M25 ++ (wX g a b d fo tp sh (fb (fSet e1 x1 x2 x3) f1) f20 ++ (wLs g b (if fSet e1 x1 x2 x3 = 0 then up e1 (61 + 5 * x1 + x2) x3 else e1) e10 e11 ++ (wLs g d k1 k10 k11 ++ (wF g fo b tr o1 ++ (wLs g tr t1 t10 t11 ++ (wT g tp p1 p20 p21 p22 p23 p24 ++ (wSs g sh m10 m11 m12)))))))) H := hP
  have hD : va_D (fun q : Nat => s.heap.size ≤ q) (wM g am (if fSet e1 x1 x2 x3 = 0 then up e1 (61 + 5 * x1 + x2) x3 else e1) k1 M3 M4 M5 (fb (fSet e1 x1 x2 x3) f1) M7 M8 p1 m10 m11 m12 M13 f20 p20 M22 M23 M24 M25 ++ (wX g a b d fo tp sh (fb (fSet e1 x1 x2 x3) f1) f20 ++ (wLs g b (if fSet e1 x1 x2 x3 = 0 then up e1 (61 + 5 * x1 + x2) x3 else e1) e10 e11 ++ (wLs g d k1 k10 k11 ++ (wF g fo b tr o1 ++ (wLs g tr t1 t10 t11 ++ (wT g tp p1 p20 p21 p22 p23 p24 ++ (wSs g sh m10 m11 m12)))))))) := hD
  obtain ⟨hP7, hPr0⟩ := va_P_app.mp hP
  obtain ⟨hP0, hPr1⟩ := va_P_app.mp hPr0
  obtain ⟨hP1, hPr2⟩ := va_P_app.mp hPr1
  obtain ⟨hP2, hPr3⟩ := va_P_app.mp hPr2
  obtain ⟨hP3, hPr4⟩ := va_P_app.mp hPr3
  obtain ⟨hP4, hPr5⟩ := va_P_app.mp hPr4
  obtain ⟨hP5, hP6⟩ := va_P_app.mp hPr5
  refine lv_icmp_eq (tgt := 1473) hx hb dL_law_485 (by decide) (fun _ => ?_) (fun z => absurd rfl z)
  have hD : va_D (fun q : Nat => s.heap.size ≤ q) (wX g a b d fo tp sh (fb (fSet e1 x1 x2 x3) f1) f20 ++ (wM g am (if fSet e1 x1 x2 x3 = 0 then up e1 (61 + 5 * x1 + x2) x3 else e1) k1 M3 M4 M5 (fb (fSet e1 x1 x2 x3) f1) M7 M8 p1 m10 m11 m12 M13 f20 p20 M22 M23 M24 M25 ++ (wLs g b (if fSet e1 x1 x2 x3 = 0 then up e1 (61 + 5 * x1 + x2) x3 else e1) e10 e11 ++ (wLs g d k1 k10 k11 ++ (wF g fo b tr o1 ++ (wLs g tr t1 t10 t11 ++ (wT g tp p1 p20 p21 p22 p23 p24 ++ (wSs g sh m10 m11 m12)))))))) := D_perm (List.perm_append_comm_assoc _ _ _) hD
  have hD : va_D (fun q : Nat => s.heap.size ≤ q) (wX g a b d fo tp sh (fb (fSet e1 x1 x2 x3) f1) f20 ++ (wLs g b (if fSet e1 x1 x2 x3 = 0 then up e1 (61 + 5 * x1 + x2) x3 else e1) e10 e11 ++ (wM g am (if fSet e1 x1 x2 x3 = 0 then up e1 (61 + 5 * x1 + x2) x3 else e1) k1 M3 M4 M5 (fb (fSet e1 x1 x2 x3) f1) M7 M8 p1 m10 m11 m12 M13 f20 p20 M22 M23 M24 M25 ++ (wLs g d k1 k10 k11 ++ (wF g fo b tr o1 ++ (wLs g tr t1 t10 t11 ++ (wT g tp p1 p20 p21 p22 p23 p24 ++ (wSs g sh m10 m11 m12)))))))) := D_perm (List.Perm.append_left _ (List.perm_append_comm_assoc _ _ _)) hD
  have hD : va_D (fun q : Nat => s.heap.size ≤ q) (wX g a b d fo tp sh (fb (fSet e1 x1 x2 x3) f1) f20 ++ (wLs g b (if fSet e1 x1 x2 x3 = 0 then up e1 (61 + 5 * x1 + x2) x3 else e1) e10 e11 ++ (wLs g d k1 k10 k11 ++ (wM g am (if fSet e1 x1 x2 x3 = 0 then up e1 (61 + 5 * x1 + x2) x3 else e1) k1 M3 M4 M5 (fb (fSet e1 x1 x2 x3) f1) M7 M8 p1 m10 m11 m12 M13 f20 p20 M22 M23 M24 M25 ++ (wF g fo b tr o1 ++ (wLs g tr t1 t10 t11 ++ (wT g tp p1 p20 p21 p22 p23 p24 ++ (wSs g sh m10 m11 m12)))))))) := D_perm (List.Perm.append_left _ (List.Perm.append_left _ (List.perm_append_comm_assoc _ _ _))) hD
  have hD : va_D (fun q : Nat => s.heap.size ≤ q) (wX g a b d fo tp sh (fb (fSet e1 x1 x2 x3) f1) f20 ++ (wLs g b (if fSet e1 x1 x2 x3 = 0 then up e1 (61 + 5 * x1 + x2) x3 else e1) e10 e11 ++ (wLs g d k1 k10 k11 ++ (wF g fo b tr o1 ++ (wM g am (if fSet e1 x1 x2 x3 = 0 then up e1 (61 + 5 * x1 + x2) x3 else e1) k1 M3 M4 M5 (fb (fSet e1 x1 x2 x3) f1) M7 M8 p1 m10 m11 m12 M13 f20 p20 M22 M23 M24 M25 ++ (wLs g tr t1 t10 t11 ++ (wT g tp p1 p20 p21 p22 p23 p24 ++ (wSs g sh m10 m11 m12)))))))) := D_perm (List.Perm.append_left _ (List.Perm.append_left _ (List.Perm.append_left _ (List.perm_append_comm_assoc _ _ _)))) hD
  have hD : va_D (fun q : Nat => s.heap.size ≤ q) (wX g a b d fo tp sh (fb (fSet e1 x1 x2 x3) f1) f20 ++ (wLs g b (if fSet e1 x1 x2 x3 = 0 then up e1 (61 + 5 * x1 + x2) x3 else e1) e10 e11 ++ (wLs g d k1 k10 k11 ++ (wF g fo b tr o1 ++ (wLs g tr t1 t10 t11 ++ (wM g am (if fSet e1 x1 x2 x3 = 0 then up e1 (61 + 5 * x1 + x2) x3 else e1) k1 M3 M4 M5 (fb (fSet e1 x1 x2 x3) f1) M7 M8 p1 m10 m11 m12 M13 f20 p20 M22 M23 M24 M25 ++ (wT g tp p1 p20 p21 p22 p23 p24 ++ (wSs g sh m10 m11 m12)))))))) := D_perm (List.Perm.append_left _ (List.Perm.append_left _ (List.Perm.append_left _ (List.Perm.append_left _ (List.perm_append_comm_assoc _ _ _))))) hD
  have hD : va_D (fun q : Nat => s.heap.size ≤ q) (wX g a b d fo tp sh (fb (fSet e1 x1 x2 x3) f1) f20 ++ (wLs g b (if fSet e1 x1 x2 x3 = 0 then up e1 (61 + 5 * x1 + x2) x3 else e1) e10 e11 ++ (wLs g d k1 k10 k11 ++ (wF g fo b tr o1 ++ (wLs g tr t1 t10 t11 ++ (wT g tp p1 p20 p21 p22 p23 p24 ++ (wM g am (if fSet e1 x1 x2 x3 = 0 then up e1 (61 + 5 * x1 + x2) x3 else e1) k1 M3 M4 M5 (fb (fSet e1 x1 x2 x3) f1) M7 M8 p1 m10 m11 m12 M13 f20 p20 M22 M23 M24 M25 ++ (wSs g sh m10 m11 m12)))))))) := D_perm (List.Perm.append_left _ (List.Perm.append_left _ (List.Perm.append_left _ (List.Perm.append_left _ (List.Perm.append_left _ (List.perm_append_comm_assoc _ _ _)))))) hD
  have hD : va_D (fun q : Nat => s.heap.size ≤ q) (wX g a b d fo tp sh (fb (fSet e1 x1 x2 x3) f1) f20 ++ (wLs g b (if fSet e1 x1 x2 x3 = 0 then up e1 (61 + 5 * x1 + x2) x3 else e1) e10 e11 ++ (wLs g d k1 k10 k11 ++ (wF g fo b tr o1 ++ (wLs g tr t1 t10 t11 ++ (wT g tp p1 p20 p21 p22 p23 p24 ++ (wSs g sh m10 m11 m12 ++ (wM g am (if fSet e1 x1 x2 x3 = 0 then up e1 (61 + 5 * x1 + x2) x3 else e1) k1 M3 M4 M5 (fb (fSet e1 x1 x2 x3) f1) M7 M8 p1 m10 m11 m12 M13 f20 p20 M22 M23 M24 M25)))))))) := D_perm (List.Perm.append_left _ (List.Perm.append_left _ (List.Perm.append_left _ (List.Perm.append_left _ (List.Perm.append_left _ (List.Perm.append_left _ (List.perm_append_comm))))))) hD
  have hP : va_P g.1 vwCl (wX g a b d fo tp sh (fb (fSet e1 x1 x2 x3) f1) f20 ++ (wLs g b (if fSet e1 x1 x2 x3 = 0 then up e1 (61 + 5 * x1 + x2) x3 else e1) e10 e11 ++ (wLs g d k1 k10 k11 ++ (wF g fo b tr o1 ++ (wLs g tr t1 t10 t11 ++ (wT g tp p1 p20 p21 p22 p23 p24 ++ (wSs g sh m10 m11 m12 ++ (wM g am (if fSet e1 x1 x2 x3 = 0 then up e1 (61 + 5 * x1 + x2) x3 else e1) k1 M3 M4 M5 (fb (fSet e1 x1 x2 x3) f1) M7 M8 p1 m10 m11 m12 M13 f20 p20 M22 M23 M24 M25)))))))) H := va_P_app.mpr ⟨hP0, va_P_app.mpr ⟨hP1, va_P_app.mpr ⟨hP2, va_P_app.mpr ⟨hP3, va_P_app.mpr ⟨hP4, va_P_app.mpr ⟨hP5, va_P_app.mpr ⟨hP6, hP7⟩⟩⟩⟩⟩⟩⟩
  exact K (fun k => ([(fb (fSet e1 x1 x2 x3) f1), (fun _ => f20), (if fSet e1 x1 x2 x3 = 0 then up e1 (61 + 5 * x1 + x2) x3 else e1), e10, e11, k1, k10, k11, o1, t1, t10, t11, p1, (fun _ => p20), (fun _ => p21), (fun _ => p22), (fun _ => p23), (fun _ => p24), m10, m11, m12, M3, M4, M5, M7, M8, M13, (fun _ => M22), (fun _ => M23), (fun _ => M24), (fun _ => M25)] : List (Int → Int)).getD k z0) H locs (show LVx (if fSet e1 x1 x2 x3 = 0 then up e1 (61 + 5 * x1 + x2) x3 else e1) k1 f20 p1 p20 m10 m11 m12 M24 from ⟨iv_set hIe, hIk, hkp, hHB, hpz, hSS, hLR, hvz⟩) hP hD hS

set_option maxRecDepth 100000 in
set_option maxHeartbeats 4000000 in
theorem lc_8 {p : Program} {l : Launch} {e : Env} {s : State} {m : MethodId} {below : List Frame} {meth : Method} {c : Code} {g : Gd} {σ : Sg} {bs L : Nat} {xs : Nat → Int32} {Q : State → Prop} (hL : L ≤ 3072) (hC : LCx g σ p s m c bs L xs) (a b d fo tr tp sh am : Nat → Nat) (f1 e1 e10 e11 k1 k10 k11 o1 t1 t10 t11 p1 m10 m11 m12 M3 M4 M5 M7 M8 M13 : Int → Int) (f20 p20 p21 p22 p23 p24 M22 M23 M24 M25 : Int) (hV : LVx e1 k1 f20 p1 p20 m10 m11 m12 M24) {i9 : Nat} (hi9 : i9 + 6 ≤ L) {ls : Array Slot} (hl : lv_has ls 4 [(3, .int (iI (i9 : Int))), (2, .ref (am 0)), (1, .ref (a 0)), (0, .ref bs)]) {H : Heap} {locs : List Loc} (hP : va_P g.1 vwCl (wX g a b d fo tp sh f1 f20 ++ (wLs g b e1 e10 e11 ++ (wLs g d k1 k10 k11 ++ (wF g fo b tr o1 ++ (wLs g tr t1 t10 t11 ++ (wT g tp p1 p20 p21 p22 p23 p24 ++ (wSs g sh m10 m11 m12 ++ (wM g am e1 k1 M3 M4 M5 f1 M7 M8 p1 m10 m11 m12 M13 f20 p20 M22 M23 M24 M25)))))))) H) (hD : va_D (fun q : Nat => s.heap.size ≤ q) (wX g a b d fo tp sh f1 f20 ++ (wLs g b e1 e10 e11 ++ (wLs g d k1 k10 k11 ++ (wF g fo b tr o1 ++ (wLs g tr t1 t10 t11 ++ (wT g tp p1 p20 p21 p22 p23 p24 ++ (wSs g sh m10 m11 m12 ++ (wM g am e1 k1 M3 M4 M5 f1 M7 M8 p1 m10 m11 m12 M13 f20 p20 M22 M23 M24 M25))))))))) (hS : va_S (fun q : Nat => s.heap.size ≤ q) s.heap H locs) (K : ∀ (u : Nat → Int → Int) (H : Heap) (locs : List Loc), LV u → va_P g.1 vwCl (LW g (fun k => ([a, b, d, fo, tr, tp, sh, am] : List (Nat → Nat)).getD k a) u) H → va_D (fun q : Nat => s.heap.size ≤ q) (LW g (fun k => ([a, b, d, fo, tr, tp, sh, am] : List (Nat → Nat)).getD k a) u) → va_S (fun q : Nat => s.heap.size ≤ q) s.heap H locs → W p l e room_1 s m #[Value.ref bs] below meth c H locs 65 1678 Q (F0 m 1473 ls [])) : W p l e room_1 s m #[Value.ref bs] below meth c H locs 65 1678 Q (F0 m 490 ls []) := by
  obtain ⟨hx, hb, hml, hown, hts, hK, hX, hbl, hSB⟩ := hC
  have hbA : ¬ (fun q : Nat => s.heap.size ≤ q) bs := Nat.not_le.mpr hbl
  have hA : ∀ q : Nat, s.heap.size ≤ q → (fun q : Nat => s.heap.size ≤ q) q := fun _ h => h
  obtain ⟨hIe, hIk, hkp, hHB, hpz, hSS, hLR, hvz⟩ := hV
  have hI := hIe.1
  have hs9 := hIe.2
  obtain ⟨x1, hx1⟩ : ∃ x : Int, x = (xs (i9 + 1)).toInt := ⟨_, rfl⟩
  have ha1a : -2147483648 ≤ x1 := by rw [hx1]; exact (IR_of _).1
  have ha1b : x1 ≤ 2147483647 := by rw [hx1]; exact (IR_of _).2
  obtain ⟨x2, hx2⟩ : ∃ x : Int, x = (xs (i9 + 2)).toInt := ⟨_, rfl⟩
  have ha2a : -2147483648 ≤ x2 := by rw [hx2]; exact (IR_of _).1
  have ha2b : x2 ≤ 2147483647 := by rw [hx2]; exact (IR_of _).2
  obtain ⟨x3, hx3⟩ : ∃ x : Int, x = (xs (i9 + 3)).toInt := ⟨_, rfl⟩
  have ha3a : -2147483648 ≤ x3 := by rw [hx3]; exact (IR_of _).1
  have ha3b : x3 ≤ 2147483647 := by rw [hx3]; exact (IR_of _).2
  obtain ⟨x4, hx4⟩ : ∃ x : Int, x = (xs (i9 + 4)).toInt := ⟨_, rfl⟩
  have ha4a : -2147483648 ≤ x4 := by rw [hx4]; exact (IR_of _).1
  have ha4b : x4 ≤ 2147483647 := by rw [hx4]; exact (IR_of _).2
  obtain ⟨x5, hx5⟩ : ∃ x : Int, x = (xs (i9 + 5)).toInt := ⟨_, rfl⟩
  have ha5a : -2147483648 ≤ x5 := by rw [hx5]; exact (IR_of _).1
  have ha5b : x5 ≤ 2147483647 := by rw [hx5]; exact (IR_of _).2
  obtain ⟨hP0, hPr0⟩ := va_P_app.mp hP
  obtain ⟨hP1, hPr1⟩ := va_P_app.mp hPr0
  obtain ⟨hP2, hPr2⟩ := va_P_app.mp hPr1
  obtain ⟨hP3, hPr3⟩ := va_P_app.mp hPr2
  obtain ⟨hP4, hPr4⟩ := va_P_app.mp hPr3
  obtain ⟨hP5, hPr5⟩ := va_P_app.mp hPr4
  obtain ⟨hP6, hP7⟩ := va_P_app.mp hPr5
  refine lv_aload_n hx hb dL_law_490 rfl (lv_at hl 2 rfl) ?_
  refine lv_aload_n hx hb dL_law_491 rfl (lv_at hl 3 rfl) ?_
  refine lv_iload_n hx hb dL_law_492 rfl (lv_at hl 0 rfl) ?_
  refine lv_iconst (v := iI (1)) hx hb dL_law_493 (by decide) ?_
  refine xi_add hx hb dL_law_494 ?_
  refine xs_ld (i := (i9 : Int) + 1) (j := i9 + 1) hx hb hX hbl hbA hS (by omega) (by omega) hL dL_law_495 ?_
  rw [← hx1]
  refine lv_aload_n hx hb dL_law_496 rfl (lv_at hl 3 rfl) ?_
  refine lv_iload_n hx hb dL_law_497 rfl (lv_at hl 0 rfl) ?_
  refine lv_iconst (v := iI (2)) hx hb dL_law_498 (by decide) ?_
  refine xi_add hx hb dL_law_499 ?_
  refine xs_ld (i := (i9 : Int) + 2) (j := i9 + 2) hx hb hX hbl hbA hS (by omega) (by omega) hL dL_law_500 ?_
  rw [← hx2]
  have hP : va_P g.1 vwCl ((wX g a b d fo tp sh f1 f20 ++ (wLs g b e1 e10 e11)) ++ (wLs g d k1 k10 k11 ++ (wF g fo b tr o1 ++ (wLs g tr t1 t10 t11 ++ (wT g tp p1 p20 p21 p22 p23 p24 ++ (wSs g sh m10 m11 m12 ++ (wM g am e1 k1 M3 M4 M5 f1 M7 M8 p1 m10 m11 m12 M13 f20 p20 M22 M23 M24 M25))))))) H := by rw [List.append_assoc]; exact hP
  have hD : va_D (fun q : Nat => s.heap.size ≤ q) ((wX g a b d fo tp sh f1 f20 ++ (wLs g b e1 e10 e11)) ++ (wLs g d k1 k10 k11 ++ (wF g fo b tr o1 ++ (wLs g tr t1 t10 t11 ++ (wT g tp p1 p20 p21 p22 p23 p24 ++ (wSs g sh m10 m11 m12 ++ (wM g am e1 k1 M3 M4 M5 f1 M7 M8 p1 m10 m11 m12 M13 f20 p20 M22 M23 M24 M25))))))) := by rw [List.append_assoc]; exact hD
  refine xmF_i (rV (rest := []) hx hb hml hown hts hK hl (c_X4_turn l g d fo tp sh a f1 f20 b e1 e10 e11 x1 x2 H.size (show InvK 0 e1 from hI) (show e1 0 ≤ 9999 from by omega) (show IR x1 from ⟨by omega, by omega⟩) (show IR x2 from ⟨by omega, by omega⟩)) lk_L_48 ⟨rfl, (va_P_app.mp hP).1, (va_D_app hD).1.weaken (fun _ _ _ _ => trivial)⟩ (va_recv hK.1 hP0 (ci := 4) (q0 := 0) rfl rfl) rfl rfl rfl (Rm.of rfl) rfl rfl dL_law_501) hP hD hS hA (fun x9 _ H locs hw hP hD hS => ?_)
  have hP : va_P g.1 vwCl ((wX g a b d fo tp sh (fb (fTurn e1 x1 x2) f1) f20 ++ (wLs g b (if fTurn e1 x1 x2 = 0 then up e1 (61 + 5 * x1 + 0) x2 else e1) e10 e11)) ++ (wLs g d k1 k10 k11 ++ (wF g fo b tr o1 ++ (wLs g tr t1 t10 t11 ++ (wT g tp p1 p20 p21 p22 p23 p24 ++ (wSs g sh m10 m11 m12 ++ (wM g am e1 k1 M3 M4 M5 f1 M7 M8 p1 m10 m11 m12 M13 f20 p20 M22 M23 M24 M25))))))) H := hP
  have hD : va_D (fun q : Nat => s.heap.size ≤ q) ((wX g a b d fo tp sh (fb (fTurn e1 x1 x2) f1) f20 ++ (wLs g b (if fTurn e1 x1 x2 = 0 then up e1 (61 + 5 * x1 + 0) x2 else e1) e10 e11)) ++ (wLs g d k1 k10 k11 ++ (wF g fo b tr o1 ++ (wLs g tr t1 t10 t11 ++ (wT g tp p1 p20 p21 p22 p23 p24 ++ (wSs g sh m10 m11 m12 ++ (wM g am e1 k1 M3 M4 M5 f1 M7 M8 p1 m10 m11 m12 M13 f20 p20 M22 M23 M24 M25))))))) := hD
  rw [List.append_assoc] at hP hD
  obtain rfl : x9 = ab (fTurn e1 x1 x2) (iI (e1 (61 + 5 * x1 + 0))) := hw
  have hP : va_P g.1 vwCl (wX g a b d fo tp sh (fb (fTurn e1 x1 x2) f1) f20 ++ (wLs g b (if fTurn e1 x1 x2 = 0 then up e1 (61 + 5 * x1 + 0) x2 else e1) e10 e11 ++ (wLs g d k1 k10 k11 ++ (wF g fo b tr o1 ++ (wLs g tr t1 t10 t11 ++ (wT g tp p1 p20 p21 p22 p23 p24 ++ (wSs g sh m10 m11 m12 ++ (wM g am e1 k1 M3 M4 M5 f1 M7 M8 p1 m10 m11 m12 M13 f20 p20 M22 M23 M24 M25)))))))) H := hP
  have hD : va_D (fun q : Nat => s.heap.size ≤ q) (wX g a b d fo tp sh (fb (fTurn e1 x1 x2) f1) f20 ++ (wLs g b (if fTurn e1 x1 x2 = 0 then up e1 (61 + 5 * x1 + 0) x2 else e1) e10 e11 ++ (wLs g d k1 k10 k11 ++ (wF g fo b tr o1 ++ (wLs g tr t1 t10 t11 ++ (wT g tp p1 p20 p21 p22 p23 p24 ++ (wSs g sh m10 m11 m12 ++ (wM g am e1 k1 M3 M4 M5 f1 M7 M8 p1 m10 m11 m12 M13 f20 p20 M22 M23 M24 M25)))))))) := hD
  obtain ⟨hP0, hPr0⟩ := va_P_app.mp hP
  obtain ⟨hP1, hPr1⟩ := va_P_app.mp hPr0
  obtain ⟨hP2, hPr2⟩ := va_P_app.mp hPr1
  obtain ⟨hP3, hPr3⟩ := va_P_app.mp hPr2
  obtain ⟨hP4, hPr4⟩ := va_P_app.mp hPr3
  obtain ⟨hP5, hPr5⟩ := va_P_app.mp hPr4
  obtain ⟨hP6, hP7⟩ := va_P_app.mp hPr5
  refine lv_aload_n hx hb dL_law_504 rfl (lv_at hl 1 rfl) ?_
  refine lv_aload_n hx hb dL_law_505 rfl (lv_at hl 3 rfl) ?_
  refine lv_iload_n hx hb dL_law_506 rfl (lv_at hl 0 rfl) ?_
  refine lv_iconst (v := iI (1)) hx hb dL_law_507 (by decide) ?_
  refine xi_add hx hb dL_law_508 ?_
  refine xs_ld (i := (i9 : Int) + 1) (j := i9 + 1) hx hb hX hbl hbA hS (by omega) (by omega) hL dL_law_509 ?_
  rw [← hx1]
  refine lv_aload_n hx hb dL_law_510 rfl (lv_at hl 3 rfl) ?_
  refine lv_iload_n hx hb dL_law_511 rfl (lv_at hl 0 rfl) ?_
  refine lv_iconst (v := iI (2)) hx hb dL_law_512 (by decide) ?_
  refine xi_add hx hb dL_law_513 ?_
  refine xs_ld (i := (i9 : Int) + 2) (j := i9 + 2) hx hb hX hbl hbA hS (by omega) (by omega) hL dL_law_514 ?_
  rw [← hx2]
  have hD : va_D (fun q : Nat => s.heap.size ≤ q) (wX g a b d fo tp sh (fb (fTurn e1 x1 x2) f1) f20 ++ (wLs g b (if fTurn e1 x1 x2 = 0 then up e1 (61 + 5 * x1 + 0) x2 else e1) e10 e11 ++ (wLs g d k1 k10 k11 ++ (wF g fo b tr o1 ++ (wLs g tr t1 t10 t11 ++ (wT g tp p1 p20 p21 p22 p23 p24 ++ (wM g am e1 k1 M3 M4 M5 f1 M7 M8 p1 m10 m11 m12 M13 f20 p20 M22 M23 M24 M25 ++ (wSs g sh m10 m11 m12)))))))) := D_perm (List.Perm.append_left _ (List.Perm.append_left _ (List.Perm.append_left _ (List.Perm.append_left _ (List.Perm.append_left _ (List.Perm.append_left _ (List.perm_append_comm))))))) hD
  have hD : va_D (fun q : Nat => s.heap.size ≤ q) (wX g a b d fo tp sh (fb (fTurn e1 x1 x2) f1) f20 ++ (wLs g b (if fTurn e1 x1 x2 = 0 then up e1 (61 + 5 * x1 + 0) x2 else e1) e10 e11 ++ (wLs g d k1 k10 k11 ++ (wF g fo b tr o1 ++ (wLs g tr t1 t10 t11 ++ (wM g am e1 k1 M3 M4 M5 f1 M7 M8 p1 m10 m11 m12 M13 f20 p20 M22 M23 M24 M25 ++ (wT g tp p1 p20 p21 p22 p23 p24 ++ (wSs g sh m10 m11 m12)))))))) := D_perm (List.Perm.append_left _ (List.Perm.append_left _ (List.Perm.append_left _ (List.Perm.append_left _ (List.Perm.append_left _ (List.perm_append_comm_assoc _ _ _)))))) hD
  have hD : va_D (fun q : Nat => s.heap.size ≤ q) (wX g a b d fo tp sh (fb (fTurn e1 x1 x2) f1) f20 ++ (wLs g b (if fTurn e1 x1 x2 = 0 then up e1 (61 + 5 * x1 + 0) x2 else e1) e10 e11 ++ (wLs g d k1 k10 k11 ++ (wF g fo b tr o1 ++ (wM g am e1 k1 M3 M4 M5 f1 M7 M8 p1 m10 m11 m12 M13 f20 p20 M22 M23 M24 M25 ++ (wLs g tr t1 t10 t11 ++ (wT g tp p1 p20 p21 p22 p23 p24 ++ (wSs g sh m10 m11 m12)))))))) := D_perm (List.Perm.append_left _ (List.Perm.append_left _ (List.Perm.append_left _ (List.Perm.append_left _ (List.perm_append_comm_assoc _ _ _))))) hD
  have hD : va_D (fun q : Nat => s.heap.size ≤ q) (wX g a b d fo tp sh (fb (fTurn e1 x1 x2) f1) f20 ++ (wLs g b (if fTurn e1 x1 x2 = 0 then up e1 (61 + 5 * x1 + 0) x2 else e1) e10 e11 ++ (wLs g d k1 k10 k11 ++ (wM g am e1 k1 M3 M4 M5 f1 M7 M8 p1 m10 m11 m12 M13 f20 p20 M22 M23 M24 M25 ++ (wF g fo b tr o1 ++ (wLs g tr t1 t10 t11 ++ (wT g tp p1 p20 p21 p22 p23 p24 ++ (wSs g sh m10 m11 m12)))))))) := D_perm (List.Perm.append_left _ (List.Perm.append_left _ (List.Perm.append_left _ (List.perm_append_comm_assoc _ _ _)))) hD
  have hD : va_D (fun q : Nat => s.heap.size ≤ q) (wX g a b d fo tp sh (fb (fTurn e1 x1 x2) f1) f20 ++ (wLs g b (if fTurn e1 x1 x2 = 0 then up e1 (61 + 5 * x1 + 0) x2 else e1) e10 e11 ++ (wM g am e1 k1 M3 M4 M5 f1 M7 M8 p1 m10 m11 m12 M13 f20 p20 M22 M23 M24 M25 ++ (wLs g d k1 k10 k11 ++ (wF g fo b tr o1 ++ (wLs g tr t1 t10 t11 ++ (wT g tp p1 p20 p21 p22 p23 p24 ++ (wSs g sh m10 m11 m12)))))))) := D_perm (List.Perm.append_left _ (List.Perm.append_left _ (List.perm_append_comm_assoc _ _ _))) hD
  have hD : va_D (fun q : Nat => s.heap.size ≤ q) (wX g a b d fo tp sh (fb (fTurn e1 x1 x2) f1) f20 ++ (wM g am e1 k1 M3 M4 M5 f1 M7 M8 p1 m10 m11 m12 M13 f20 p20 M22 M23 M24 M25 ++ (wLs g b (if fTurn e1 x1 x2 = 0 then up e1 (61 + 5 * x1 + 0) x2 else e1) e10 e11 ++ (wLs g d k1 k10 k11 ++ (wF g fo b tr o1 ++ (wLs g tr t1 t10 t11 ++ (wT g tp p1 p20 p21 p22 p23 p24 ++ (wSs g sh m10 m11 m12)))))))) := D_perm (List.Perm.append_left _ (List.perm_append_comm_assoc _ _ _)) hD
  have hD : va_D (fun q : Nat => s.heap.size ≤ q) (wM g am e1 k1 M3 M4 M5 f1 M7 M8 p1 m10 m11 m12 M13 f20 p20 M22 M23 M24 M25 ++ (wX g a b d fo tp sh (fb (fTurn e1 x1 x2) f1) f20 ++ (wLs g b (if fTurn e1 x1 x2 = 0 then up e1 (61 + 5 * x1 + 0) x2 else e1) e10 e11 ++ (wLs g d k1 k10 k11 ++ (wF g fo b tr o1 ++ (wLs g tr t1 t10 t11 ++ (wT g tp p1 p20 p21 p22 p23 p24 ++ (wSs g sh m10 m11 m12)))))))) := D_perm (List.perm_append_comm_assoc _ _ _) hD
  have hP : va_P g.1 vwCl (wM g am e1 k1 M3 M4 M5 f1 M7 M8 p1 m10 m11 m12 M13 f20 p20 M22 M23 M24 M25 ++ (wX g a b d fo tp sh (fb (fTurn e1 x1 x2) f1) f20 ++ (wLs g b (if fTurn e1 x1 x2 = 0 then up e1 (61 + 5 * x1 + 0) x2 else e1) e10 e11 ++ (wLs g d k1 k10 k11 ++ (wF g fo b tr o1 ++ (wLs g tr t1 t10 t11 ++ (wT g tp p1 p20 p21 p22 p23 p24 ++ (wSs g sh m10 m11 m12)))))))) H := va_P_app.mpr ⟨hP7, va_P_app.mpr ⟨hP0, va_P_app.mpr ⟨hP1, va_P_app.mpr ⟨hP2, va_P_app.mpr ⟨hP3, va_P_app.mpr ⟨hP4, va_P_app.mpr ⟨hP5, hP6⟩⟩⟩⟩⟩⟩⟩
  refine xmF_i (rV (rest := [.int (ab (fTurn e1 x1 x2) (iI (e1 (61 + 5 * x1 + 0))))]) hx hb hml hown hts hK hl (c_X5_turn l g am e1 k1 M3 M4 M5 f1 M7 M8 p1 m10 m11 m12 M13 f20 p20 M22 M23 M24 M25 x1 x2 H.size (show InvK 0 e1 from hI) (show e1 0 ≤ 9999 from by omega) (show IR x1 from ⟨by omega, by omega⟩) (show IR x2 from ⟨by omega, by omega⟩)) lk_L_51 ⟨rfl, hP7, (va_D_app hD).1.weaken (fun _ _ _ _ => trivial)⟩ (va_recv hK.1 hP7 (ci := 5) (q0 := 0) rfl rfl) rfl rfl rfl (Rm.of rfl) rfl rfl dL_law_515) hP hD hS hA (fun x9 _ H locs hw hP hD hS => ?_)
  obtain rfl : x9 = ab (fTurn e1 x1 x2) (iI (e1 (61 + 5 * x1 + 0))) := hw
  have hP : va_P g.1 vwCl (wM g am (if fTurn e1 x1 x2 = 0 then up e1 (61 + 5 * x1 + 0) x2 else e1) k1 M3 M4 M5 (fb (fTurn e1 x1 x2) f1) M7 M8 p1 m10 m11 m12 M13 f20 p20 M22 M23 M24 M25 ++ (wX g a b d fo tp sh (fb (fTurn e1 x1 x2) f1) f20 ++ (wLs g b (if fTurn e1 x1 x2 = 0 then up e1 (61 + 5 * x1 + 0) x2 else e1) e10 e11 ++ (wLs g d k1 k10 k11 ++ (wF g fo b tr o1 ++ (wLs g tr t1 t10 t11 ++ (wT g tp p1 p20 p21 p22 p23 p24 ++ (wSs g sh m10 m11 m12)))))))) H := hP
  have hD : va_D (fun q : Nat => s.heap.size ≤ q) (wM g am (if fTurn e1 x1 x2 = 0 then up e1 (61 + 5 * x1 + 0) x2 else e1) k1 M3 M4 M5 (fb (fTurn e1 x1 x2) f1) M7 M8 p1 m10 m11 m12 M13 f20 p20 M22 M23 M24 M25 ++ (wX g a b d fo tp sh (fb (fTurn e1 x1 x2) f1) f20 ++ (wLs g b (if fTurn e1 x1 x2 = 0 then up e1 (61 + 5 * x1 + 0) x2 else e1) e10 e11 ++ (wLs g d k1 k10 k11 ++ (wF g fo b tr o1 ++ (wLs g tr t1 t10 t11 ++ (wT g tp p1 p20 p21 p22 p23 p24 ++ (wSs g sh m10 m11 m12)))))))) := hD
  obtain ⟨hP7, hPr0⟩ := va_P_app.mp hP
  obtain ⟨hP0, hPr1⟩ := va_P_app.mp hPr0
  obtain ⟨hP1, hPr2⟩ := va_P_app.mp hPr1
  obtain ⟨hP2, hPr3⟩ := va_P_app.mp hPr2
  obtain ⟨hP3, hPr4⟩ := va_P_app.mp hPr3
  obtain ⟨hP4, hPr5⟩ := va_P_app.mp hPr4
  obtain ⟨hP5, hP6⟩ := va_P_app.mp hPr5
  refine lv_icmp_eq (tgt := 1473) hx hb dL_law_518 (by decide) (fun _ => ?_) (fun z => absurd rfl z)
  have hD : va_D (fun q : Nat => s.heap.size ≤ q) (wX g a b d fo tp sh (fb (fTurn e1 x1 x2) f1) f20 ++ (wM g am (if fTurn e1 x1 x2 = 0 then up e1 (61 + 5 * x1 + 0) x2 else e1) k1 M3 M4 M5 (fb (fTurn e1 x1 x2) f1) M7 M8 p1 m10 m11 m12 M13 f20 p20 M22 M23 M24 M25 ++ (wLs g b (if fTurn e1 x1 x2 = 0 then up e1 (61 + 5 * x1 + 0) x2 else e1) e10 e11 ++ (wLs g d k1 k10 k11 ++ (wF g fo b tr o1 ++ (wLs g tr t1 t10 t11 ++ (wT g tp p1 p20 p21 p22 p23 p24 ++ (wSs g sh m10 m11 m12)))))))) := D_perm (List.perm_append_comm_assoc _ _ _) hD
  have hD : va_D (fun q : Nat => s.heap.size ≤ q) (wX g a b d fo tp sh (fb (fTurn e1 x1 x2) f1) f20 ++ (wLs g b (if fTurn e1 x1 x2 = 0 then up e1 (61 + 5 * x1 + 0) x2 else e1) e10 e11 ++ (wM g am (if fTurn e1 x1 x2 = 0 then up e1 (61 + 5 * x1 + 0) x2 else e1) k1 M3 M4 M5 (fb (fTurn e1 x1 x2) f1) M7 M8 p1 m10 m11 m12 M13 f20 p20 M22 M23 M24 M25 ++ (wLs g d k1 k10 k11 ++ (wF g fo b tr o1 ++ (wLs g tr t1 t10 t11 ++ (wT g tp p1 p20 p21 p22 p23 p24 ++ (wSs g sh m10 m11 m12)))))))) := D_perm (List.Perm.append_left _ (List.perm_append_comm_assoc _ _ _)) hD
  have hD : va_D (fun q : Nat => s.heap.size ≤ q) (wX g a b d fo tp sh (fb (fTurn e1 x1 x2) f1) f20 ++ (wLs g b (if fTurn e1 x1 x2 = 0 then up e1 (61 + 5 * x1 + 0) x2 else e1) e10 e11 ++ (wLs g d k1 k10 k11 ++ (wM g am (if fTurn e1 x1 x2 = 0 then up e1 (61 + 5 * x1 + 0) x2 else e1) k1 M3 M4 M5 (fb (fTurn e1 x1 x2) f1) M7 M8 p1 m10 m11 m12 M13 f20 p20 M22 M23 M24 M25 ++ (wF g fo b tr o1 ++ (wLs g tr t1 t10 t11 ++ (wT g tp p1 p20 p21 p22 p23 p24 ++ (wSs g sh m10 m11 m12)))))))) := D_perm (List.Perm.append_left _ (List.Perm.append_left _ (List.perm_append_comm_assoc _ _ _))) hD
  have hD : va_D (fun q : Nat => s.heap.size ≤ q) (wX g a b d fo tp sh (fb (fTurn e1 x1 x2) f1) f20 ++ (wLs g b (if fTurn e1 x1 x2 = 0 then up e1 (61 + 5 * x1 + 0) x2 else e1) e10 e11 ++ (wLs g d k1 k10 k11 ++ (wF g fo b tr o1 ++ (wM g am (if fTurn e1 x1 x2 = 0 then up e1 (61 + 5 * x1 + 0) x2 else e1) k1 M3 M4 M5 (fb (fTurn e1 x1 x2) f1) M7 M8 p1 m10 m11 m12 M13 f20 p20 M22 M23 M24 M25 ++ (wLs g tr t1 t10 t11 ++ (wT g tp p1 p20 p21 p22 p23 p24 ++ (wSs g sh m10 m11 m12)))))))) := D_perm (List.Perm.append_left _ (List.Perm.append_left _ (List.Perm.append_left _ (List.perm_append_comm_assoc _ _ _)))) hD
  have hD : va_D (fun q : Nat => s.heap.size ≤ q) (wX g a b d fo tp sh (fb (fTurn e1 x1 x2) f1) f20 ++ (wLs g b (if fTurn e1 x1 x2 = 0 then up e1 (61 + 5 * x1 + 0) x2 else e1) e10 e11 ++ (wLs g d k1 k10 k11 ++ (wF g fo b tr o1 ++ (wLs g tr t1 t10 t11 ++ (wM g am (if fTurn e1 x1 x2 = 0 then up e1 (61 + 5 * x1 + 0) x2 else e1) k1 M3 M4 M5 (fb (fTurn e1 x1 x2) f1) M7 M8 p1 m10 m11 m12 M13 f20 p20 M22 M23 M24 M25 ++ (wT g tp p1 p20 p21 p22 p23 p24 ++ (wSs g sh m10 m11 m12)))))))) := D_perm (List.Perm.append_left _ (List.Perm.append_left _ (List.Perm.append_left _ (List.Perm.append_left _ (List.perm_append_comm_assoc _ _ _))))) hD
  have hD : va_D (fun q : Nat => s.heap.size ≤ q) (wX g a b d fo tp sh (fb (fTurn e1 x1 x2) f1) f20 ++ (wLs g b (if fTurn e1 x1 x2 = 0 then up e1 (61 + 5 * x1 + 0) x2 else e1) e10 e11 ++ (wLs g d k1 k10 k11 ++ (wF g fo b tr o1 ++ (wLs g tr t1 t10 t11 ++ (wT g tp p1 p20 p21 p22 p23 p24 ++ (wM g am (if fTurn e1 x1 x2 = 0 then up e1 (61 + 5 * x1 + 0) x2 else e1) k1 M3 M4 M5 (fb (fTurn e1 x1 x2) f1) M7 M8 p1 m10 m11 m12 M13 f20 p20 M22 M23 M24 M25 ++ (wSs g sh m10 m11 m12)))))))) := D_perm (List.Perm.append_left _ (List.Perm.append_left _ (List.Perm.append_left _ (List.Perm.append_left _ (List.Perm.append_left _ (List.perm_append_comm_assoc _ _ _)))))) hD
  have hD : va_D (fun q : Nat => s.heap.size ≤ q) (wX g a b d fo tp sh (fb (fTurn e1 x1 x2) f1) f20 ++ (wLs g b (if fTurn e1 x1 x2 = 0 then up e1 (61 + 5 * x1 + 0) x2 else e1) e10 e11 ++ (wLs g d k1 k10 k11 ++ (wF g fo b tr o1 ++ (wLs g tr t1 t10 t11 ++ (wT g tp p1 p20 p21 p22 p23 p24 ++ (wSs g sh m10 m11 m12 ++ (wM g am (if fTurn e1 x1 x2 = 0 then up e1 (61 + 5 * x1 + 0) x2 else e1) k1 M3 M4 M5 (fb (fTurn e1 x1 x2) f1) M7 M8 p1 m10 m11 m12 M13 f20 p20 M22 M23 M24 M25)))))))) := D_perm (List.Perm.append_left _ (List.Perm.append_left _ (List.Perm.append_left _ (List.Perm.append_left _ (List.Perm.append_left _ (List.Perm.append_left _ (List.perm_append_comm))))))) hD
  have hP : va_P g.1 vwCl (wX g a b d fo tp sh (fb (fTurn e1 x1 x2) f1) f20 ++ (wLs g b (if fTurn e1 x1 x2 = 0 then up e1 (61 + 5 * x1 + 0) x2 else e1) e10 e11 ++ (wLs g d k1 k10 k11 ++ (wF g fo b tr o1 ++ (wLs g tr t1 t10 t11 ++ (wT g tp p1 p20 p21 p22 p23 p24 ++ (wSs g sh m10 m11 m12 ++ (wM g am (if fTurn e1 x1 x2 = 0 then up e1 (61 + 5 * x1 + 0) x2 else e1) k1 M3 M4 M5 (fb (fTurn e1 x1 x2) f1) M7 M8 p1 m10 m11 m12 M13 f20 p20 M22 M23 M24 M25)))))))) H := va_P_app.mpr ⟨hP0, va_P_app.mpr ⟨hP1, va_P_app.mpr ⟨hP2, va_P_app.mpr ⟨hP3, va_P_app.mpr ⟨hP4, va_P_app.mpr ⟨hP5, va_P_app.mpr ⟨hP6, hP7⟩⟩⟩⟩⟩⟩⟩
  exact K (fun k => ([(fb (fTurn e1 x1 x2) f1), (fun _ => f20), (if fTurn e1 x1 x2 = 0 then up e1 (61 + 5 * x1 + 0) x2 else e1), e10, e11, k1, k10, k11, o1, t1, t10, t11, p1, (fun _ => p20), (fun _ => p21), (fun _ => p22), (fun _ => p23), (fun _ => p24), m10, m11, m12, M3, M4, M5, M7, M8, M13, (fun _ => M22), (fun _ => M23), (fun _ => M24), (fun _ => M25)] : List (Int → Int)).getD k z0) H locs (show LVx (if fTurn e1 x1 x2 = 0 then up e1 (61 + 5 * x1 + 0) x2 else e1) k1 f20 p1 p20 m10 m11 m12 M24 from ⟨iv_turn hIe, hIk, hkp, hHB, hpz, hSS, hLR, hvz⟩) hP hD hS

set_option maxRecDepth 100000 in
set_option maxHeartbeats 4000000 in
theorem lc_9 {p : Program} {l : Launch} {e : Env} {s : State} {m : MethodId} {below : List Frame} {meth : Method} {c : Code} {g : Gd} {σ : Sg} {bs L : Nat} {xs : Nat → Int32} {Q : State → Prop} (hL : L ≤ 3072) (hC : LCx g σ p s m c bs L xs) (a b d fo tr tp sh am : Nat → Nat) (f1 e1 e10 e11 k1 k10 k11 o1 t1 t10 t11 p1 m10 m11 m12 M3 M4 M5 M7 M8 M13 : Int → Int) (f20 p20 p21 p22 p23 p24 M22 M23 M24 M25 : Int) (hV : LVx e1 k1 f20 p1 p20 m10 m11 m12 M24) {i9 : Nat} (hi9 : i9 + 6 ≤ L) {ls : Array Slot} (hl : lv_has ls 4 [(3, .int (iI (i9 : Int))), (2, .ref (am 0)), (1, .ref (a 0)), (0, .ref bs)]) {H : Heap} {locs : List Loc} (hP : va_P g.1 vwCl (wX g a b d fo tp sh f1 f20 ++ (wLs g b e1 e10 e11 ++ (wLs g d k1 k10 k11 ++ (wF g fo b tr o1 ++ (wLs g tr t1 t10 t11 ++ (wT g tp p1 p20 p21 p22 p23 p24 ++ (wSs g sh m10 m11 m12 ++ (wM g am e1 k1 M3 M4 M5 f1 M7 M8 p1 m10 m11 m12 M13 f20 p20 M22 M23 M24 M25)))))))) H) (hD : va_D (fun q : Nat => s.heap.size ≤ q) (wX g a b d fo tp sh f1 f20 ++ (wLs g b e1 e10 e11 ++ (wLs g d k1 k10 k11 ++ (wF g fo b tr o1 ++ (wLs g tr t1 t10 t11 ++ (wT g tp p1 p20 p21 p22 p23 p24 ++ (wSs g sh m10 m11 m12 ++ (wM g am e1 k1 M3 M4 M5 f1 M7 M8 p1 m10 m11 m12 M13 f20 p20 M22 M23 M24 M25))))))))) (hS : va_S (fun q : Nat => s.heap.size ≤ q) s.heap H locs) (K : ∀ (u : Nat → Int → Int) (H : Heap) (locs : List Loc), LV u → va_P g.1 vwCl (LW g (fun k => ([a, b, d, fo, tr, tp, sh, am] : List (Nat → Nat)).getD k a) u) H → va_D (fun q : Nat => s.heap.size ≤ q) (LW g (fun k => ([a, b, d, fo, tr, tp, sh, am] : List (Nat → Nat)).getD k a) u) → va_S (fun q : Nat => s.heap.size ≤ q) s.heap H locs → W p l e room_1 s m #[Value.ref bs] below meth c H locs 65 1678 Q (F0 m 1473 ls [])) : W p l e room_1 s m #[Value.ref bs] below meth c H locs 65 1678 Q (F0 m 523 ls []) := by
  obtain ⟨hx, hb, hml, hown, hts, hK, hX, hbl, hSB⟩ := hC
  have hbA : ¬ (fun q : Nat => s.heap.size ≤ q) bs := Nat.not_le.mpr hbl
  have hA : ∀ q : Nat, s.heap.size ≤ q → (fun q : Nat => s.heap.size ≤ q) q := fun _ h => h
  obtain ⟨hIe, hIk, hkp, hHB, hpz, hSS, hLR, hvz⟩ := hV
  have hI := hIe.1
  have hs9 := hIe.2
  obtain ⟨x1, hx1⟩ : ∃ x : Int, x = (xs (i9 + 1)).toInt := ⟨_, rfl⟩
  have ha1a : -2147483648 ≤ x1 := by rw [hx1]; exact (IR_of _).1
  have ha1b : x1 ≤ 2147483647 := by rw [hx1]; exact (IR_of _).2
  obtain ⟨x2, hx2⟩ : ∃ x : Int, x = (xs (i9 + 2)).toInt := ⟨_, rfl⟩
  have ha2a : -2147483648 ≤ x2 := by rw [hx2]; exact (IR_of _).1
  have ha2b : x2 ≤ 2147483647 := by rw [hx2]; exact (IR_of _).2
  obtain ⟨x3, hx3⟩ : ∃ x : Int, x = (xs (i9 + 3)).toInt := ⟨_, rfl⟩
  have ha3a : -2147483648 ≤ x3 := by rw [hx3]; exact (IR_of _).1
  have ha3b : x3 ≤ 2147483647 := by rw [hx3]; exact (IR_of _).2
  obtain ⟨x4, hx4⟩ : ∃ x : Int, x = (xs (i9 + 4)).toInt := ⟨_, rfl⟩
  have ha4a : -2147483648 ≤ x4 := by rw [hx4]; exact (IR_of _).1
  have ha4b : x4 ≤ 2147483647 := by rw [hx4]; exact (IR_of _).2
  obtain ⟨x5, hx5⟩ : ∃ x : Int, x = (xs (i9 + 5)).toInt := ⟨_, rfl⟩
  have ha5a : -2147483648 ≤ x5 := by rw [hx5]; exact (IR_of _).1
  have ha5b : x5 ≤ 2147483647 := by rw [hx5]; exact (IR_of _).2
  obtain ⟨hP0, hPr0⟩ := va_P_app.mp hP
  obtain ⟨hP1, hPr1⟩ := va_P_app.mp hPr0
  obtain ⟨hP2, hPr2⟩ := va_P_app.mp hPr1
  obtain ⟨hP3, hPr3⟩ := va_P_app.mp hPr2
  obtain ⟨hP4, hPr4⟩ := va_P_app.mp hPr3
  obtain ⟨hP5, hPr5⟩ := va_P_app.mp hPr4
  obtain ⟨hP6, hP7⟩ := va_P_app.mp hPr5
  refine lv_aload_n hx hb dL_law_523 rfl (lv_at hl 2 rfl) ?_
  refine lv_aload_n hx hb dL_law_524 rfl (lv_at hl 3 rfl) ?_
  refine lv_iload_n hx hb dL_law_525 rfl (lv_at hl 0 rfl) ?_
  refine lv_iconst (v := iI (1)) hx hb dL_law_526 (by decide) ?_
  refine xi_add hx hb dL_law_527 ?_
  refine xs_ld (i := (i9 : Int) + 1) (j := i9 + 1) hx hb hX hbl hbA hS (by omega) (by omega) hL dL_law_528 ?_
  rw [← hx1]
  refine lv_aload_n hx hb dL_law_529 rfl (lv_at hl 3 rfl) ?_
  refine lv_iload_n hx hb dL_law_530 rfl (lv_at hl 0 rfl) ?_
  refine lv_iconst (v := iI (2)) hx hb dL_law_531 (by decide) ?_
  refine xi_add hx hb dL_law_532 ?_
  refine xs_ld (i := (i9 : Int) + 2) (j := i9 + 2) hx hb hX hbl hbA hS (by omega) (by omega) hL dL_law_533 ?_
  rw [← hx2]
  have hP : va_P g.1 vwCl ((wX g a b d fo tp sh f1 f20 ++ (wLs g b e1 e10 e11)) ++ (wLs g d k1 k10 k11 ++ (wF g fo b tr o1 ++ (wLs g tr t1 t10 t11 ++ (wT g tp p1 p20 p21 p22 p23 p24 ++ (wSs g sh m10 m11 m12 ++ (wM g am e1 k1 M3 M4 M5 f1 M7 M8 p1 m10 m11 m12 M13 f20 p20 M22 M23 M24 M25))))))) H := by rw [List.append_assoc]; exact hP
  have hD : va_D (fun q : Nat => s.heap.size ≤ q) ((wX g a b d fo tp sh f1 f20 ++ (wLs g b e1 e10 e11)) ++ (wLs g d k1 k10 k11 ++ (wF g fo b tr o1 ++ (wLs g tr t1 t10 t11 ++ (wT g tp p1 p20 p21 p22 p23 p24 ++ (wSs g sh m10 m11 m12 ++ (wM g am e1 k1 M3 M4 M5 f1 M7 M8 p1 m10 m11 m12 M13 f20 p20 M22 M23 M24 M25))))))) := by rw [List.append_assoc]; exact hD
  refine xmF_i (rV (rest := []) hx hb hml hown hts hK hl (c_X4_as l g d fo tp sh a f1 f20 b e1 e10 e11 x1 x2 H.size (show InvK 0 e1 from hI) (show e1 0 ≤ 9999 from by omega) (show IR x1 from ⟨by omega, by omega⟩) (show IR x2 from ⟨by omega, by omega⟩)) lk_L_52 ⟨rfl, (va_P_app.mp hP).1, (va_D_app hD).1.weaken (fun _ _ _ _ => trivial)⟩ (va_recv hK.1 hP0 (ci := 4) (q0 := 0) rfl rfl) rfl rfl rfl (Rm.of rfl) rfl rfl dL_law_534) hP hD hS hA (fun x9 _ H locs hw hP hD hS => ?_)
  have hP : va_P g.1 vwCl ((wX g a b d fo tp sh (fb (fAs e1 x1 x2) f1) f20 ++ (wLs g b e1 e10 e11)) ++ (wLs g d k1 k10 k11 ++ (wF g fo b tr o1 ++ (wLs g tr t1 t10 t11 ++ (wT g tp p1 p20 p21 p22 p23 p24 ++ (wSs g sh m10 m11 m12 ++ (wM g am e1 k1 M3 M4 M5 f1 M7 M8 p1 m10 m11 m12 M13 f20 p20 M22 M23 M24 M25))))))) H := hP
  have hD : va_D (fun q : Nat => s.heap.size ≤ q) ((wX g a b d fo tp sh (fb (fAs e1 x1 x2) f1) f20 ++ (wLs g b e1 e10 e11)) ++ (wLs g d k1 k10 k11 ++ (wF g fo b tr o1 ++ (wLs g tr t1 t10 t11 ++ (wT g tp p1 p20 p21 p22 p23 p24 ++ (wSs g sh m10 m11 m12 ++ (wM g am e1 k1 M3 M4 M5 f1 M7 M8 p1 m10 m11 m12 M13 f20 p20 M22 M23 M24 M25))))))) := hD
  rw [List.append_assoc] at hP hD
  obtain rfl : x9 = ab (fAs e1 x1 x2) (iI (e1 (61 + 5 * x1 + 2))) := hw
  have hP : va_P g.1 vwCl (wX g a b d fo tp sh (fb (fAs e1 x1 x2) f1) f20 ++ (wLs g b e1 e10 e11 ++ (wLs g d k1 k10 k11 ++ (wF g fo b tr o1 ++ (wLs g tr t1 t10 t11 ++ (wT g tp p1 p20 p21 p22 p23 p24 ++ (wSs g sh m10 m11 m12 ++ (wM g am e1 k1 M3 M4 M5 f1 M7 M8 p1 m10 m11 m12 M13 f20 p20 M22 M23 M24 M25)))))))) H := hP
  have hD : va_D (fun q : Nat => s.heap.size ≤ q) (wX g a b d fo tp sh (fb (fAs e1 x1 x2) f1) f20 ++ (wLs g b e1 e10 e11 ++ (wLs g d k1 k10 k11 ++ (wF g fo b tr o1 ++ (wLs g tr t1 t10 t11 ++ (wT g tp p1 p20 p21 p22 p23 p24 ++ (wSs g sh m10 m11 m12 ++ (wM g am e1 k1 M3 M4 M5 f1 M7 M8 p1 m10 m11 m12 M13 f20 p20 M22 M23 M24 M25)))))))) := hD
  obtain ⟨hP0, hPr0⟩ := va_P_app.mp hP
  obtain ⟨hP1, hPr1⟩ := va_P_app.mp hPr0
  obtain ⟨hP2, hPr2⟩ := va_P_app.mp hPr1
  obtain ⟨hP3, hPr3⟩ := va_P_app.mp hPr2
  obtain ⟨hP4, hPr4⟩ := va_P_app.mp hPr3
  obtain ⟨hP5, hPr5⟩ := va_P_app.mp hPr4
  obtain ⟨hP6, hP7⟩ := va_P_app.mp hPr5
  refine lv_aload_n hx hb dL_law_537 rfl (lv_at hl 1 rfl) ?_
  refine lv_aload_n hx hb dL_law_538 rfl (lv_at hl 3 rfl) ?_
  refine lv_iload_n hx hb dL_law_539 rfl (lv_at hl 0 rfl) ?_
  refine lv_iconst (v := iI (1)) hx hb dL_law_540 (by decide) ?_
  refine xi_add hx hb dL_law_541 ?_
  refine xs_ld (i := (i9 : Int) + 1) (j := i9 + 1) hx hb hX hbl hbA hS (by omega) (by omega) hL dL_law_542 ?_
  rw [← hx1]
  refine lv_aload_n hx hb dL_law_543 rfl (lv_at hl 3 rfl) ?_
  refine lv_iload_n hx hb dL_law_544 rfl (lv_at hl 0 rfl) ?_
  refine lv_iconst (v := iI (2)) hx hb dL_law_545 (by decide) ?_
  refine xi_add hx hb dL_law_546 ?_
  refine xs_ld (i := (i9 : Int) + 2) (j := i9 + 2) hx hb hX hbl hbA hS (by omega) (by omega) hL dL_law_547 ?_
  rw [← hx2]
  have hD : va_D (fun q : Nat => s.heap.size ≤ q) (wX g a b d fo tp sh (fb (fAs e1 x1 x2) f1) f20 ++ (wLs g b e1 e10 e11 ++ (wLs g d k1 k10 k11 ++ (wF g fo b tr o1 ++ (wLs g tr t1 t10 t11 ++ (wT g tp p1 p20 p21 p22 p23 p24 ++ (wM g am e1 k1 M3 M4 M5 f1 M7 M8 p1 m10 m11 m12 M13 f20 p20 M22 M23 M24 M25 ++ (wSs g sh m10 m11 m12)))))))) := D_perm (List.Perm.append_left _ (List.Perm.append_left _ (List.Perm.append_left _ (List.Perm.append_left _ (List.Perm.append_left _ (List.Perm.append_left _ (List.perm_append_comm))))))) hD
  have hD : va_D (fun q : Nat => s.heap.size ≤ q) (wX g a b d fo tp sh (fb (fAs e1 x1 x2) f1) f20 ++ (wLs g b e1 e10 e11 ++ (wLs g d k1 k10 k11 ++ (wF g fo b tr o1 ++ (wLs g tr t1 t10 t11 ++ (wM g am e1 k1 M3 M4 M5 f1 M7 M8 p1 m10 m11 m12 M13 f20 p20 M22 M23 M24 M25 ++ (wT g tp p1 p20 p21 p22 p23 p24 ++ (wSs g sh m10 m11 m12)))))))) := D_perm (List.Perm.append_left _ (List.Perm.append_left _ (List.Perm.append_left _ (List.Perm.append_left _ (List.Perm.append_left _ (List.perm_append_comm_assoc _ _ _)))))) hD
  have hD : va_D (fun q : Nat => s.heap.size ≤ q) (wX g a b d fo tp sh (fb (fAs e1 x1 x2) f1) f20 ++ (wLs g b e1 e10 e11 ++ (wLs g d k1 k10 k11 ++ (wF g fo b tr o1 ++ (wM g am e1 k1 M3 M4 M5 f1 M7 M8 p1 m10 m11 m12 M13 f20 p20 M22 M23 M24 M25 ++ (wLs g tr t1 t10 t11 ++ (wT g tp p1 p20 p21 p22 p23 p24 ++ (wSs g sh m10 m11 m12)))))))) := D_perm (List.Perm.append_left _ (List.Perm.append_left _ (List.Perm.append_left _ (List.Perm.append_left _ (List.perm_append_comm_assoc _ _ _))))) hD
  have hD : va_D (fun q : Nat => s.heap.size ≤ q) (wX g a b d fo tp sh (fb (fAs e1 x1 x2) f1) f20 ++ (wLs g b e1 e10 e11 ++ (wLs g d k1 k10 k11 ++ (wM g am e1 k1 M3 M4 M5 f1 M7 M8 p1 m10 m11 m12 M13 f20 p20 M22 M23 M24 M25 ++ (wF g fo b tr o1 ++ (wLs g tr t1 t10 t11 ++ (wT g tp p1 p20 p21 p22 p23 p24 ++ (wSs g sh m10 m11 m12)))))))) := D_perm (List.Perm.append_left _ (List.Perm.append_left _ (List.Perm.append_left _ (List.perm_append_comm_assoc _ _ _)))) hD
  have hD : va_D (fun q : Nat => s.heap.size ≤ q) (wX g a b d fo tp sh (fb (fAs e1 x1 x2) f1) f20 ++ (wLs g b e1 e10 e11 ++ (wM g am e1 k1 M3 M4 M5 f1 M7 M8 p1 m10 m11 m12 M13 f20 p20 M22 M23 M24 M25 ++ (wLs g d k1 k10 k11 ++ (wF g fo b tr o1 ++ (wLs g tr t1 t10 t11 ++ (wT g tp p1 p20 p21 p22 p23 p24 ++ (wSs g sh m10 m11 m12)))))))) := D_perm (List.Perm.append_left _ (List.Perm.append_left _ (List.perm_append_comm_assoc _ _ _))) hD
  have hD : va_D (fun q : Nat => s.heap.size ≤ q) (wX g a b d fo tp sh (fb (fAs e1 x1 x2) f1) f20 ++ (wM g am e1 k1 M3 M4 M5 f1 M7 M8 p1 m10 m11 m12 M13 f20 p20 M22 M23 M24 M25 ++ (wLs g b e1 e10 e11 ++ (wLs g d k1 k10 k11 ++ (wF g fo b tr o1 ++ (wLs g tr t1 t10 t11 ++ (wT g tp p1 p20 p21 p22 p23 p24 ++ (wSs g sh m10 m11 m12)))))))) := D_perm (List.Perm.append_left _ (List.perm_append_comm_assoc _ _ _)) hD
  have hD : va_D (fun q : Nat => s.heap.size ≤ q) (wM g am e1 k1 M3 M4 M5 f1 M7 M8 p1 m10 m11 m12 M13 f20 p20 M22 M23 M24 M25 ++ (wX g a b d fo tp sh (fb (fAs e1 x1 x2) f1) f20 ++ (wLs g b e1 e10 e11 ++ (wLs g d k1 k10 k11 ++ (wF g fo b tr o1 ++ (wLs g tr t1 t10 t11 ++ (wT g tp p1 p20 p21 p22 p23 p24 ++ (wSs g sh m10 m11 m12)))))))) := D_perm (List.perm_append_comm_assoc _ _ _) hD
  have hP : va_P g.1 vwCl (wM g am e1 k1 M3 M4 M5 f1 M7 M8 p1 m10 m11 m12 M13 f20 p20 M22 M23 M24 M25 ++ (wX g a b d fo tp sh (fb (fAs e1 x1 x2) f1) f20 ++ (wLs g b e1 e10 e11 ++ (wLs g d k1 k10 k11 ++ (wF g fo b tr o1 ++ (wLs g tr t1 t10 t11 ++ (wT g tp p1 p20 p21 p22 p23 p24 ++ (wSs g sh m10 m11 m12)))))))) H := va_P_app.mpr ⟨hP7, va_P_app.mpr ⟨hP0, va_P_app.mpr ⟨hP1, va_P_app.mpr ⟨hP2, va_P_app.mpr ⟨hP3, va_P_app.mpr ⟨hP4, va_P_app.mpr ⟨hP5, hP6⟩⟩⟩⟩⟩⟩⟩
  refine xmF_i (rV (rest := [.int (ab (fAs e1 x1 x2) (iI (e1 (61 + 5 * x1 + 2))))]) hx hb hml hown hts hK hl (c_X5_as l g am e1 k1 M3 M4 M5 f1 M7 M8 p1 m10 m11 m12 M13 f20 p20 M22 M23 M24 M25 x1 x2 H.size (show InvK 0 e1 from hI) (show e1 0 ≤ 9999 from by omega) (show IR x1 from ⟨by omega, by omega⟩) (show IR x2 from ⟨by omega, by omega⟩)) lk_L_55 ⟨rfl, hP7, (va_D_app hD).1.weaken (fun _ _ _ _ => trivial)⟩ (va_recv hK.1 hP7 (ci := 5) (q0 := 0) rfl rfl) rfl rfl rfl (Rm.of rfl) rfl rfl dL_law_548) hP hD hS hA (fun x9 _ H locs hw hP hD hS => ?_)
  obtain rfl : x9 = ab (fAs e1 x1 x2) (iI (e1 (61 + 5 * x1 + 2))) := hw
  have hP : va_P g.1 vwCl (wM g am e1 k1 M3 M4 M5 (fb (fAs e1 x1 x2) f1) M7 M8 p1 m10 m11 m12 M13 f20 p20 M22 M23 M24 M25 ++ (wX g a b d fo tp sh (fb (fAs e1 x1 x2) f1) f20 ++ (wLs g b e1 e10 e11 ++ (wLs g d k1 k10 k11 ++ (wF g fo b tr o1 ++ (wLs g tr t1 t10 t11 ++ (wT g tp p1 p20 p21 p22 p23 p24 ++ (wSs g sh m10 m11 m12)))))))) H := hP
  have hD : va_D (fun q : Nat => s.heap.size ≤ q) (wM g am e1 k1 M3 M4 M5 (fb (fAs e1 x1 x2) f1) M7 M8 p1 m10 m11 m12 M13 f20 p20 M22 M23 M24 M25 ++ (wX g a b d fo tp sh (fb (fAs e1 x1 x2) f1) f20 ++ (wLs g b e1 e10 e11 ++ (wLs g d k1 k10 k11 ++ (wF g fo b tr o1 ++ (wLs g tr t1 t10 t11 ++ (wT g tp p1 p20 p21 p22 p23 p24 ++ (wSs g sh m10 m11 m12)))))))) := hD
  obtain ⟨hP7, hPr0⟩ := va_P_app.mp hP
  obtain ⟨hP0, hPr1⟩ := va_P_app.mp hPr0
  obtain ⟨hP1, hPr2⟩ := va_P_app.mp hPr1
  obtain ⟨hP2, hPr3⟩ := va_P_app.mp hPr2
  obtain ⟨hP3, hPr4⟩ := va_P_app.mp hPr3
  obtain ⟨hP4, hPr5⟩ := va_P_app.mp hPr4
  obtain ⟨hP5, hP6⟩ := va_P_app.mp hPr5
  refine lv_icmp_eq (tgt := 1473) hx hb dL_law_551 (by decide) (fun _ => ?_) (fun z => absurd rfl z)
  have hD : va_D (fun q : Nat => s.heap.size ≤ q) (wX g a b d fo tp sh (fb (fAs e1 x1 x2) f1) f20 ++ (wM g am e1 k1 M3 M4 M5 (fb (fAs e1 x1 x2) f1) M7 M8 p1 m10 m11 m12 M13 f20 p20 M22 M23 M24 M25 ++ (wLs g b e1 e10 e11 ++ (wLs g d k1 k10 k11 ++ (wF g fo b tr o1 ++ (wLs g tr t1 t10 t11 ++ (wT g tp p1 p20 p21 p22 p23 p24 ++ (wSs g sh m10 m11 m12)))))))) := D_perm (List.perm_append_comm_assoc _ _ _) hD
  have hD : va_D (fun q : Nat => s.heap.size ≤ q) (wX g a b d fo tp sh (fb (fAs e1 x1 x2) f1) f20 ++ (wLs g b e1 e10 e11 ++ (wM g am e1 k1 M3 M4 M5 (fb (fAs e1 x1 x2) f1) M7 M8 p1 m10 m11 m12 M13 f20 p20 M22 M23 M24 M25 ++ (wLs g d k1 k10 k11 ++ (wF g fo b tr o1 ++ (wLs g tr t1 t10 t11 ++ (wT g tp p1 p20 p21 p22 p23 p24 ++ (wSs g sh m10 m11 m12)))))))) := D_perm (List.Perm.append_left _ (List.perm_append_comm_assoc _ _ _)) hD
  have hD : va_D (fun q : Nat => s.heap.size ≤ q) (wX g a b d fo tp sh (fb (fAs e1 x1 x2) f1) f20 ++ (wLs g b e1 e10 e11 ++ (wLs g d k1 k10 k11 ++ (wM g am e1 k1 M3 M4 M5 (fb (fAs e1 x1 x2) f1) M7 M8 p1 m10 m11 m12 M13 f20 p20 M22 M23 M24 M25 ++ (wF g fo b tr o1 ++ (wLs g tr t1 t10 t11 ++ (wT g tp p1 p20 p21 p22 p23 p24 ++ (wSs g sh m10 m11 m12)))))))) := D_perm (List.Perm.append_left _ (List.Perm.append_left _ (List.perm_append_comm_assoc _ _ _))) hD
  have hD : va_D (fun q : Nat => s.heap.size ≤ q) (wX g a b d fo tp sh (fb (fAs e1 x1 x2) f1) f20 ++ (wLs g b e1 e10 e11 ++ (wLs g d k1 k10 k11 ++ (wF g fo b tr o1 ++ (wM g am e1 k1 M3 M4 M5 (fb (fAs e1 x1 x2) f1) M7 M8 p1 m10 m11 m12 M13 f20 p20 M22 M23 M24 M25 ++ (wLs g tr t1 t10 t11 ++ (wT g tp p1 p20 p21 p22 p23 p24 ++ (wSs g sh m10 m11 m12)))))))) := D_perm (List.Perm.append_left _ (List.Perm.append_left _ (List.Perm.append_left _ (List.perm_append_comm_assoc _ _ _)))) hD
  have hD : va_D (fun q : Nat => s.heap.size ≤ q) (wX g a b d fo tp sh (fb (fAs e1 x1 x2) f1) f20 ++ (wLs g b e1 e10 e11 ++ (wLs g d k1 k10 k11 ++ (wF g fo b tr o1 ++ (wLs g tr t1 t10 t11 ++ (wM g am e1 k1 M3 M4 M5 (fb (fAs e1 x1 x2) f1) M7 M8 p1 m10 m11 m12 M13 f20 p20 M22 M23 M24 M25 ++ (wT g tp p1 p20 p21 p22 p23 p24 ++ (wSs g sh m10 m11 m12)))))))) := D_perm (List.Perm.append_left _ (List.Perm.append_left _ (List.Perm.append_left _ (List.Perm.append_left _ (List.perm_append_comm_assoc _ _ _))))) hD
  have hD : va_D (fun q : Nat => s.heap.size ≤ q) (wX g a b d fo tp sh (fb (fAs e1 x1 x2) f1) f20 ++ (wLs g b e1 e10 e11 ++ (wLs g d k1 k10 k11 ++ (wF g fo b tr o1 ++ (wLs g tr t1 t10 t11 ++ (wT g tp p1 p20 p21 p22 p23 p24 ++ (wM g am e1 k1 M3 M4 M5 (fb (fAs e1 x1 x2) f1) M7 M8 p1 m10 m11 m12 M13 f20 p20 M22 M23 M24 M25 ++ (wSs g sh m10 m11 m12)))))))) := D_perm (List.Perm.append_left _ (List.Perm.append_left _ (List.Perm.append_left _ (List.Perm.append_left _ (List.Perm.append_left _ (List.perm_append_comm_assoc _ _ _)))))) hD
  have hD : va_D (fun q : Nat => s.heap.size ≤ q) (wX g a b d fo tp sh (fb (fAs e1 x1 x2) f1) f20 ++ (wLs g b e1 e10 e11 ++ (wLs g d k1 k10 k11 ++ (wF g fo b tr o1 ++ (wLs g tr t1 t10 t11 ++ (wT g tp p1 p20 p21 p22 p23 p24 ++ (wSs g sh m10 m11 m12 ++ (wM g am e1 k1 M3 M4 M5 (fb (fAs e1 x1 x2) f1) M7 M8 p1 m10 m11 m12 M13 f20 p20 M22 M23 M24 M25)))))))) := D_perm (List.Perm.append_left _ (List.Perm.append_left _ (List.Perm.append_left _ (List.Perm.append_left _ (List.Perm.append_left _ (List.Perm.append_left _ (List.perm_append_comm))))))) hD
  have hP : va_P g.1 vwCl (wX g a b d fo tp sh (fb (fAs e1 x1 x2) f1) f20 ++ (wLs g b e1 e10 e11 ++ (wLs g d k1 k10 k11 ++ (wF g fo b tr o1 ++ (wLs g tr t1 t10 t11 ++ (wT g tp p1 p20 p21 p22 p23 p24 ++ (wSs g sh m10 m11 m12 ++ (wM g am e1 k1 M3 M4 M5 (fb (fAs e1 x1 x2) f1) M7 M8 p1 m10 m11 m12 M13 f20 p20 M22 M23 M24 M25)))))))) H := va_P_app.mpr ⟨hP0, va_P_app.mpr ⟨hP1, va_P_app.mpr ⟨hP2, va_P_app.mpr ⟨hP3, va_P_app.mpr ⟨hP4, va_P_app.mpr ⟨hP5, va_P_app.mpr ⟨hP6, hP7⟩⟩⟩⟩⟩⟩⟩
  exact K (fun k => ([(fb (fAs e1 x1 x2) f1), (fun _ => f20), e1, e10, e11, k1, k10, k11, o1, t1, t10, t11, p1, (fun _ => p20), (fun _ => p21), (fun _ => p22), (fun _ => p23), (fun _ => p24), m10, m11, m12, M3, M4, M5, M7, M8, M13, (fun _ => M22), (fun _ => M23), (fun _ => M24), (fun _ => M25)] : List (Int → Int)).getD k z0) H locs (show LVx e1 k1 f20 p1 p20 m10 m11 m12 M24 from ⟨hIe, hIk, hkp, hHB, hpz, hSS, hLR, hvz⟩) hP hD hS

set_option maxRecDepth 100000 in
set_option maxHeartbeats 4000000 in
theorem lc_10 {p : Program} {l : Launch} {e : Env} {s : State} {m : MethodId} {below : List Frame} {meth : Method} {c : Code} {g : Gd} {σ : Sg} {bs L : Nat} {xs : Nat → Int32} {Q : State → Prop} (hL : L ≤ 3072) (hC : LCx g σ p s m c bs L xs) (a b d fo tr tp sh am : Nat → Nat) (f1 e1 e10 e11 k1 k10 k11 o1 t1 t10 t11 p1 m10 m11 m12 M3 M4 M5 M7 M8 M13 : Int → Int) (f20 p20 p21 p22 p23 p24 M22 M23 M24 M25 : Int) (hV : LVx e1 k1 f20 p1 p20 m10 m11 m12 M24) {i9 : Nat} (hi9 : i9 + 6 ≤ L) {ls : Array Slot} (hl : lv_has ls 4 [(3, .int (iI (i9 : Int))), (2, .ref (am 0)), (1, .ref (a 0)), (0, .ref bs)]) {H : Heap} {locs : List Loc} (hP : va_P g.1 vwCl (wX g a b d fo tp sh f1 f20 ++ (wLs g b e1 e10 e11 ++ (wLs g d k1 k10 k11 ++ (wF g fo b tr o1 ++ (wLs g tr t1 t10 t11 ++ (wT g tp p1 p20 p21 p22 p23 p24 ++ (wSs g sh m10 m11 m12 ++ (wM g am e1 k1 M3 M4 M5 f1 M7 M8 p1 m10 m11 m12 M13 f20 p20 M22 M23 M24 M25)))))))) H) (hD : va_D (fun q : Nat => s.heap.size ≤ q) (wX g a b d fo tp sh f1 f20 ++ (wLs g b e1 e10 e11 ++ (wLs g d k1 k10 k11 ++ (wF g fo b tr o1 ++ (wLs g tr t1 t10 t11 ++ (wT g tp p1 p20 p21 p22 p23 p24 ++ (wSs g sh m10 m11 m12 ++ (wM g am e1 k1 M3 M4 M5 f1 M7 M8 p1 m10 m11 m12 M13 f20 p20 M22 M23 M24 M25))))))))) (hS : va_S (fun q : Nat => s.heap.size ≤ q) s.heap H locs) (K : ∀ (u : Nat → Int → Int) (H : Heap) (locs : List Loc), LV u → va_P g.1 vwCl (LW g (fun k => ([a, b, d, fo, tr, tp, sh, am] : List (Nat → Nat)).getD k a) u) H → va_D (fun q : Nat => s.heap.size ≤ q) (LW g (fun k => ([a, b, d, fo, tr, tp, sh, am] : List (Nat → Nat)).getD k a) u) → va_S (fun q : Nat => s.heap.size ≤ q) s.heap H locs → W p l e room_1 s m #[Value.ref bs] below meth c H locs 65 1678 Q (F0 m 1473 ls [])) : W p l e room_1 s m #[Value.ref bs] below meth c H locs 65 1678 Q (F0 m 556 ls []) := by
  obtain ⟨hx, hb, hml, hown, hts, hK, hX, hbl, hSB⟩ := hC
  have hbA : ¬ (fun q : Nat => s.heap.size ≤ q) bs := Nat.not_le.mpr hbl
  have hA : ∀ q : Nat, s.heap.size ≤ q → (fun q : Nat => s.heap.size ≤ q) q := fun _ h => h
  obtain ⟨hIe, hIk, hkp, hHB, hpz, hSS, hLR, hvz⟩ := hV
  have hI := hIe.1
  have hs9 := hIe.2
  obtain ⟨x1, hx1⟩ : ∃ x : Int, x = (xs (i9 + 1)).toInt := ⟨_, rfl⟩
  have ha1a : -2147483648 ≤ x1 := by rw [hx1]; exact (IR_of _).1
  have ha1b : x1 ≤ 2147483647 := by rw [hx1]; exact (IR_of _).2
  obtain ⟨x2, hx2⟩ : ∃ x : Int, x = (xs (i9 + 2)).toInt := ⟨_, rfl⟩
  have ha2a : -2147483648 ≤ x2 := by rw [hx2]; exact (IR_of _).1
  have ha2b : x2 ≤ 2147483647 := by rw [hx2]; exact (IR_of _).2
  obtain ⟨x3, hx3⟩ : ∃ x : Int, x = (xs (i9 + 3)).toInt := ⟨_, rfl⟩
  have ha3a : -2147483648 ≤ x3 := by rw [hx3]; exact (IR_of _).1
  have ha3b : x3 ≤ 2147483647 := by rw [hx3]; exact (IR_of _).2
  obtain ⟨x4, hx4⟩ : ∃ x : Int, x = (xs (i9 + 4)).toInt := ⟨_, rfl⟩
  have ha4a : -2147483648 ≤ x4 := by rw [hx4]; exact (IR_of _).1
  have ha4b : x4 ≤ 2147483647 := by rw [hx4]; exact (IR_of _).2
  obtain ⟨x5, hx5⟩ : ∃ x : Int, x = (xs (i9 + 5)).toInt := ⟨_, rfl⟩
  have ha5a : -2147483648 ≤ x5 := by rw [hx5]; exact (IR_of _).1
  have ha5b : x5 ≤ 2147483647 := by rw [hx5]; exact (IR_of _).2
  obtain ⟨hP0, hPr0⟩ := va_P_app.mp hP
  obtain ⟨hP1, hPr1⟩ := va_P_app.mp hPr0
  obtain ⟨hP2, hPr2⟩ := va_P_app.mp hPr1
  obtain ⟨hP3, hPr3⟩ := va_P_app.mp hPr2
  obtain ⟨hP4, hPr4⟩ := va_P_app.mp hPr3
  obtain ⟨hP5, hPr5⟩ := va_P_app.mp hPr4
  obtain ⟨hP6, hP7⟩ := va_P_app.mp hPr5
  refine lv_aload_n hx hb dL_law_556 rfl (lv_at hl 2 rfl) ?_
  refine lv_aload_n hx hb dL_law_557 rfl (lv_at hl 3 rfl) ?_
  refine lv_iload_n hx hb dL_law_558 rfl (lv_at hl 0 rfl) ?_
  refine lv_iconst (v := iI (1)) hx hb dL_law_559 (by decide) ?_
  refine xi_add hx hb dL_law_560 ?_
  refine xs_ld (i := (i9 : Int) + 1) (j := i9 + 1) hx hb hX hbl hbA hS (by omega) (by omega) hL dL_law_561 ?_
  rw [← hx1]
  have hP : va_P g.1 vwCl ((wX g a b d fo tp sh f1 f20 ++ (wLs g b e1 e10 e11)) ++ (wLs g d k1 k10 k11 ++ (wF g fo b tr o1 ++ (wLs g tr t1 t10 t11 ++ (wT g tp p1 p20 p21 p22 p23 p24 ++ (wSs g sh m10 m11 m12 ++ (wM g am e1 k1 M3 M4 M5 f1 M7 M8 p1 m10 m11 m12 M13 f20 p20 M22 M23 M24 M25))))))) H := by rw [List.append_assoc]; exact hP
  have hD : va_D (fun q : Nat => s.heap.size ≤ q) ((wX g a b d fo tp sh f1 f20 ++ (wLs g b e1 e10 e11)) ++ (wLs g d k1 k10 k11 ++ (wF g fo b tr o1 ++ (wLs g tr t1 t10 t11 ++ (wT g tp p1 p20 p21 p22 p23 p24 ++ (wSs g sh m10 m11 m12 ++ (wM g am e1 k1 M3 M4 M5 f1 M7 M8 p1 m10 m11 m12 M13 f20 p20 M22 M23 M24 M25))))))) := by rw [List.append_assoc]; exact hD
  refine xmF_i (rV (rest := []) hx hb hml hown hts hK hl (c_X4_level l g d fo tp sh a f1 f20 b e1 e10 e11 x1 H.size (show InvK 0 e1 from hI) (show e1 0 ≤ 9999 from by omega) (show IR x1 from ⟨by omega, by omega⟩)) lk_L_56 ⟨rfl, (va_P_app.mp hP).1, (va_D_app hD).1.weaken (fun _ _ _ _ => trivial)⟩ (va_recv hK.1 hP0 (ci := 4) (q0 := 0) rfl rfl) rfl rfl rfl (Rm.of rfl) rfl rfl dL_law_562) hP hD hS hA (fun x9 _ H locs hw hP hD hS => ?_)
  have hP : va_P g.1 vwCl ((wX g a b d fo tp sh (fb (fLev e1 x1) f1) f20 ++ (wLs g b (if fLev e1 x1 = 0 then nLev e1 x1 else e1) e10 e11)) ++ (wLs g d k1 k10 k11 ++ (wF g fo b tr o1 ++ (wLs g tr t1 t10 t11 ++ (wT g tp p1 p20 p21 p22 p23 p24 ++ (wSs g sh m10 m11 m12 ++ (wM g am e1 k1 M3 M4 M5 f1 M7 M8 p1 m10 m11 m12 M13 f20 p20 M22 M23 M24 M25))))))) H := hP
  have hD : va_D (fun q : Nat => s.heap.size ≤ q) ((wX g a b d fo tp sh (fb (fLev e1 x1) f1) f20 ++ (wLs g b (if fLev e1 x1 = 0 then nLev e1 x1 else e1) e10 e11)) ++ (wLs g d k1 k10 k11 ++ (wF g fo b tr o1 ++ (wLs g tr t1 t10 t11 ++ (wT g tp p1 p20 p21 p22 p23 p24 ++ (wSs g sh m10 m11 m12 ++ (wM g am e1 k1 M3 M4 M5 f1 M7 M8 p1 m10 m11 m12 M13 f20 p20 M22 M23 M24 M25))))))) := hD
  rw [List.append_assoc] at hP hD
  obtain rfl : x9 = ab (fLev e1 x1) (iI (e1 (61 + 5 * x1 + 3))) := hw
  have hP : va_P g.1 vwCl (wX g a b d fo tp sh (fb (fLev e1 x1) f1) f20 ++ (wLs g b (if fLev e1 x1 = 0 then nLev e1 x1 else e1) e10 e11 ++ (wLs g d k1 k10 k11 ++ (wF g fo b tr o1 ++ (wLs g tr t1 t10 t11 ++ (wT g tp p1 p20 p21 p22 p23 p24 ++ (wSs g sh m10 m11 m12 ++ (wM g am e1 k1 M3 M4 M5 f1 M7 M8 p1 m10 m11 m12 M13 f20 p20 M22 M23 M24 M25)))))))) H := hP
  have hD : va_D (fun q : Nat => s.heap.size ≤ q) (wX g a b d fo tp sh (fb (fLev e1 x1) f1) f20 ++ (wLs g b (if fLev e1 x1 = 0 then nLev e1 x1 else e1) e10 e11 ++ (wLs g d k1 k10 k11 ++ (wF g fo b tr o1 ++ (wLs g tr t1 t10 t11 ++ (wT g tp p1 p20 p21 p22 p23 p24 ++ (wSs g sh m10 m11 m12 ++ (wM g am e1 k1 M3 M4 M5 f1 M7 M8 p1 m10 m11 m12 M13 f20 p20 M22 M23 M24 M25)))))))) := hD
  obtain ⟨hP0, hPr0⟩ := va_P_app.mp hP
  obtain ⟨hP1, hPr1⟩ := va_P_app.mp hPr0
  obtain ⟨hP2, hPr2⟩ := va_P_app.mp hPr1
  obtain ⟨hP3, hPr3⟩ := va_P_app.mp hPr2
  obtain ⟨hP4, hPr4⟩ := va_P_app.mp hPr3
  obtain ⟨hP5, hPr5⟩ := va_P_app.mp hPr4
  obtain ⟨hP6, hP7⟩ := va_P_app.mp hPr5
  refine lv_aload_n hx hb dL_law_565 rfl (lv_at hl 1 rfl) ?_
  refine lv_aload_n hx hb dL_law_566 rfl (lv_at hl 3 rfl) ?_
  refine lv_iload_n hx hb dL_law_567 rfl (lv_at hl 0 rfl) ?_
  refine lv_iconst (v := iI (1)) hx hb dL_law_568 (by decide) ?_
  refine xi_add hx hb dL_law_569 ?_
  refine xs_ld (i := (i9 : Int) + 1) (j := i9 + 1) hx hb hX hbl hbA hS (by omega) (by omega) hL dL_law_570 ?_
  rw [← hx1]
  have hD : va_D (fun q : Nat => s.heap.size ≤ q) (wX g a b d fo tp sh (fb (fLev e1 x1) f1) f20 ++ (wLs g b (if fLev e1 x1 = 0 then nLev e1 x1 else e1) e10 e11 ++ (wLs g d k1 k10 k11 ++ (wF g fo b tr o1 ++ (wLs g tr t1 t10 t11 ++ (wT g tp p1 p20 p21 p22 p23 p24 ++ (wM g am e1 k1 M3 M4 M5 f1 M7 M8 p1 m10 m11 m12 M13 f20 p20 M22 M23 M24 M25 ++ (wSs g sh m10 m11 m12)))))))) := D_perm (List.Perm.append_left _ (List.Perm.append_left _ (List.Perm.append_left _ (List.Perm.append_left _ (List.Perm.append_left _ (List.Perm.append_left _ (List.perm_append_comm))))))) hD
  have hD : va_D (fun q : Nat => s.heap.size ≤ q) (wX g a b d fo tp sh (fb (fLev e1 x1) f1) f20 ++ (wLs g b (if fLev e1 x1 = 0 then nLev e1 x1 else e1) e10 e11 ++ (wLs g d k1 k10 k11 ++ (wF g fo b tr o1 ++ (wLs g tr t1 t10 t11 ++ (wM g am e1 k1 M3 M4 M5 f1 M7 M8 p1 m10 m11 m12 M13 f20 p20 M22 M23 M24 M25 ++ (wT g tp p1 p20 p21 p22 p23 p24 ++ (wSs g sh m10 m11 m12)))))))) := D_perm (List.Perm.append_left _ (List.Perm.append_left _ (List.Perm.append_left _ (List.Perm.append_left _ (List.Perm.append_left _ (List.perm_append_comm_assoc _ _ _)))))) hD
  have hD : va_D (fun q : Nat => s.heap.size ≤ q) (wX g a b d fo tp sh (fb (fLev e1 x1) f1) f20 ++ (wLs g b (if fLev e1 x1 = 0 then nLev e1 x1 else e1) e10 e11 ++ (wLs g d k1 k10 k11 ++ (wF g fo b tr o1 ++ (wM g am e1 k1 M3 M4 M5 f1 M7 M8 p1 m10 m11 m12 M13 f20 p20 M22 M23 M24 M25 ++ (wLs g tr t1 t10 t11 ++ (wT g tp p1 p20 p21 p22 p23 p24 ++ (wSs g sh m10 m11 m12)))))))) := D_perm (List.Perm.append_left _ (List.Perm.append_left _ (List.Perm.append_left _ (List.Perm.append_left _ (List.perm_append_comm_assoc _ _ _))))) hD
  have hD : va_D (fun q : Nat => s.heap.size ≤ q) (wX g a b d fo tp sh (fb (fLev e1 x1) f1) f20 ++ (wLs g b (if fLev e1 x1 = 0 then nLev e1 x1 else e1) e10 e11 ++ (wLs g d k1 k10 k11 ++ (wM g am e1 k1 M3 M4 M5 f1 M7 M8 p1 m10 m11 m12 M13 f20 p20 M22 M23 M24 M25 ++ (wF g fo b tr o1 ++ (wLs g tr t1 t10 t11 ++ (wT g tp p1 p20 p21 p22 p23 p24 ++ (wSs g sh m10 m11 m12)))))))) := D_perm (List.Perm.append_left _ (List.Perm.append_left _ (List.Perm.append_left _ (List.perm_append_comm_assoc _ _ _)))) hD
  have hD : va_D (fun q : Nat => s.heap.size ≤ q) (wX g a b d fo tp sh (fb (fLev e1 x1) f1) f20 ++ (wLs g b (if fLev e1 x1 = 0 then nLev e1 x1 else e1) e10 e11 ++ (wM g am e1 k1 M3 M4 M5 f1 M7 M8 p1 m10 m11 m12 M13 f20 p20 M22 M23 M24 M25 ++ (wLs g d k1 k10 k11 ++ (wF g fo b tr o1 ++ (wLs g tr t1 t10 t11 ++ (wT g tp p1 p20 p21 p22 p23 p24 ++ (wSs g sh m10 m11 m12)))))))) := D_perm (List.Perm.append_left _ (List.Perm.append_left _ (List.perm_append_comm_assoc _ _ _))) hD
  have hD : va_D (fun q : Nat => s.heap.size ≤ q) (wX g a b d fo tp sh (fb (fLev e1 x1) f1) f20 ++ (wM g am e1 k1 M3 M4 M5 f1 M7 M8 p1 m10 m11 m12 M13 f20 p20 M22 M23 M24 M25 ++ (wLs g b (if fLev e1 x1 = 0 then nLev e1 x1 else e1) e10 e11 ++ (wLs g d k1 k10 k11 ++ (wF g fo b tr o1 ++ (wLs g tr t1 t10 t11 ++ (wT g tp p1 p20 p21 p22 p23 p24 ++ (wSs g sh m10 m11 m12)))))))) := D_perm (List.Perm.append_left _ (List.perm_append_comm_assoc _ _ _)) hD
  have hD : va_D (fun q : Nat => s.heap.size ≤ q) (wM g am e1 k1 M3 M4 M5 f1 M7 M8 p1 m10 m11 m12 M13 f20 p20 M22 M23 M24 M25 ++ (wX g a b d fo tp sh (fb (fLev e1 x1) f1) f20 ++ (wLs g b (if fLev e1 x1 = 0 then nLev e1 x1 else e1) e10 e11 ++ (wLs g d k1 k10 k11 ++ (wF g fo b tr o1 ++ (wLs g tr t1 t10 t11 ++ (wT g tp p1 p20 p21 p22 p23 p24 ++ (wSs g sh m10 m11 m12)))))))) := D_perm (List.perm_append_comm_assoc _ _ _) hD
  have hP : va_P g.1 vwCl (wM g am e1 k1 M3 M4 M5 f1 M7 M8 p1 m10 m11 m12 M13 f20 p20 M22 M23 M24 M25 ++ (wX g a b d fo tp sh (fb (fLev e1 x1) f1) f20 ++ (wLs g b (if fLev e1 x1 = 0 then nLev e1 x1 else e1) e10 e11 ++ (wLs g d k1 k10 k11 ++ (wF g fo b tr o1 ++ (wLs g tr t1 t10 t11 ++ (wT g tp p1 p20 p21 p22 p23 p24 ++ (wSs g sh m10 m11 m12)))))))) H := va_P_app.mpr ⟨hP7, va_P_app.mpr ⟨hP0, va_P_app.mpr ⟨hP1, va_P_app.mpr ⟨hP2, va_P_app.mpr ⟨hP3, va_P_app.mpr ⟨hP4, va_P_app.mpr ⟨hP5, hP6⟩⟩⟩⟩⟩⟩⟩
  refine xmF_i (rV (rest := [.int (ab (fLev e1 x1) (iI (e1 (61 + 5 * x1 + 3))))]) hx hb hml hown hts hK hl (c_X5_level l g am e1 k1 M3 M4 M5 f1 M7 M8 p1 m10 m11 m12 M13 f20 p20 M22 M23 M24 M25 x1 H.size (show InvK 0 e1 from hI) (show e1 0 ≤ 9999 from by omega) (show IR x1 from ⟨by omega, by omega⟩)) lk_L_59 ⟨rfl, hP7, (va_D_app hD).1.weaken (fun _ _ _ _ => trivial)⟩ (va_recv hK.1 hP7 (ci := 5) (q0 := 0) rfl rfl) rfl rfl rfl (Rm.of rfl) rfl rfl dL_law_571) hP hD hS hA (fun x9 _ H locs hw hP hD hS => ?_)
  obtain rfl : x9 = ab (fLev e1 x1) (iI (e1 (61 + 5 * x1 + 3))) := hw
  have hP : va_P g.1 vwCl (wM g am (if fLev e1 x1 = 0 then nLev e1 x1 else e1) k1 M3 M4 M5 (fb (fLev e1 x1) f1) M7 M8 p1 m10 m11 m12 M13 f20 p20 M22 M23 M24 M25 ++ (wX g a b d fo tp sh (fb (fLev e1 x1) f1) f20 ++ (wLs g b (if fLev e1 x1 = 0 then nLev e1 x1 else e1) e10 e11 ++ (wLs g d k1 k10 k11 ++ (wF g fo b tr o1 ++ (wLs g tr t1 t10 t11 ++ (wT g tp p1 p20 p21 p22 p23 p24 ++ (wSs g sh m10 m11 m12)))))))) H := hP
  have hD : va_D (fun q : Nat => s.heap.size ≤ q) (wM g am (if fLev e1 x1 = 0 then nLev e1 x1 else e1) k1 M3 M4 M5 (fb (fLev e1 x1) f1) M7 M8 p1 m10 m11 m12 M13 f20 p20 M22 M23 M24 M25 ++ (wX g a b d fo tp sh (fb (fLev e1 x1) f1) f20 ++ (wLs g b (if fLev e1 x1 = 0 then nLev e1 x1 else e1) e10 e11 ++ (wLs g d k1 k10 k11 ++ (wF g fo b tr o1 ++ (wLs g tr t1 t10 t11 ++ (wT g tp p1 p20 p21 p22 p23 p24 ++ (wSs g sh m10 m11 m12)))))))) := hD
  obtain ⟨hP7, hPr0⟩ := va_P_app.mp hP
  obtain ⟨hP0, hPr1⟩ := va_P_app.mp hPr0
  obtain ⟨hP1, hPr2⟩ := va_P_app.mp hPr1
  obtain ⟨hP2, hPr3⟩ := va_P_app.mp hPr2
  obtain ⟨hP3, hPr4⟩ := va_P_app.mp hPr3
  obtain ⟨hP4, hPr5⟩ := va_P_app.mp hPr4
  obtain ⟨hP5, hP6⟩ := va_P_app.mp hPr5
  refine lv_icmp_eq (tgt := 1473) hx hb dL_law_574 (by decide) (fun _ => ?_) (fun z => absurd rfl z)
  have hD : va_D (fun q : Nat => s.heap.size ≤ q) (wX g a b d fo tp sh (fb (fLev e1 x1) f1) f20 ++ (wM g am (if fLev e1 x1 = 0 then nLev e1 x1 else e1) k1 M3 M4 M5 (fb (fLev e1 x1) f1) M7 M8 p1 m10 m11 m12 M13 f20 p20 M22 M23 M24 M25 ++ (wLs g b (if fLev e1 x1 = 0 then nLev e1 x1 else e1) e10 e11 ++ (wLs g d k1 k10 k11 ++ (wF g fo b tr o1 ++ (wLs g tr t1 t10 t11 ++ (wT g tp p1 p20 p21 p22 p23 p24 ++ (wSs g sh m10 m11 m12)))))))) := D_perm (List.perm_append_comm_assoc _ _ _) hD
  have hD : va_D (fun q : Nat => s.heap.size ≤ q) (wX g a b d fo tp sh (fb (fLev e1 x1) f1) f20 ++ (wLs g b (if fLev e1 x1 = 0 then nLev e1 x1 else e1) e10 e11 ++ (wM g am (if fLev e1 x1 = 0 then nLev e1 x1 else e1) k1 M3 M4 M5 (fb (fLev e1 x1) f1) M7 M8 p1 m10 m11 m12 M13 f20 p20 M22 M23 M24 M25 ++ (wLs g d k1 k10 k11 ++ (wF g fo b tr o1 ++ (wLs g tr t1 t10 t11 ++ (wT g tp p1 p20 p21 p22 p23 p24 ++ (wSs g sh m10 m11 m12)))))))) := D_perm (List.Perm.append_left _ (List.perm_append_comm_assoc _ _ _)) hD
  have hD : va_D (fun q : Nat => s.heap.size ≤ q) (wX g a b d fo tp sh (fb (fLev e1 x1) f1) f20 ++ (wLs g b (if fLev e1 x1 = 0 then nLev e1 x1 else e1) e10 e11 ++ (wLs g d k1 k10 k11 ++ (wM g am (if fLev e1 x1 = 0 then nLev e1 x1 else e1) k1 M3 M4 M5 (fb (fLev e1 x1) f1) M7 M8 p1 m10 m11 m12 M13 f20 p20 M22 M23 M24 M25 ++ (wF g fo b tr o1 ++ (wLs g tr t1 t10 t11 ++ (wT g tp p1 p20 p21 p22 p23 p24 ++ (wSs g sh m10 m11 m12)))))))) := D_perm (List.Perm.append_left _ (List.Perm.append_left _ (List.perm_append_comm_assoc _ _ _))) hD
  have hD : va_D (fun q : Nat => s.heap.size ≤ q) (wX g a b d fo tp sh (fb (fLev e1 x1) f1) f20 ++ (wLs g b (if fLev e1 x1 = 0 then nLev e1 x1 else e1) e10 e11 ++ (wLs g d k1 k10 k11 ++ (wF g fo b tr o1 ++ (wM g am (if fLev e1 x1 = 0 then nLev e1 x1 else e1) k1 M3 M4 M5 (fb (fLev e1 x1) f1) M7 M8 p1 m10 m11 m12 M13 f20 p20 M22 M23 M24 M25 ++ (wLs g tr t1 t10 t11 ++ (wT g tp p1 p20 p21 p22 p23 p24 ++ (wSs g sh m10 m11 m12)))))))) := D_perm (List.Perm.append_left _ (List.Perm.append_left _ (List.Perm.append_left _ (List.perm_append_comm_assoc _ _ _)))) hD
  have hD : va_D (fun q : Nat => s.heap.size ≤ q) (wX g a b d fo tp sh (fb (fLev e1 x1) f1) f20 ++ (wLs g b (if fLev e1 x1 = 0 then nLev e1 x1 else e1) e10 e11 ++ (wLs g d k1 k10 k11 ++ (wF g fo b tr o1 ++ (wLs g tr t1 t10 t11 ++ (wM g am (if fLev e1 x1 = 0 then nLev e1 x1 else e1) k1 M3 M4 M5 (fb (fLev e1 x1) f1) M7 M8 p1 m10 m11 m12 M13 f20 p20 M22 M23 M24 M25 ++ (wT g tp p1 p20 p21 p22 p23 p24 ++ (wSs g sh m10 m11 m12)))))))) := D_perm (List.Perm.append_left _ (List.Perm.append_left _ (List.Perm.append_left _ (List.Perm.append_left _ (List.perm_append_comm_assoc _ _ _))))) hD
  have hD : va_D (fun q : Nat => s.heap.size ≤ q) (wX g a b d fo tp sh (fb (fLev e1 x1) f1) f20 ++ (wLs g b (if fLev e1 x1 = 0 then nLev e1 x1 else e1) e10 e11 ++ (wLs g d k1 k10 k11 ++ (wF g fo b tr o1 ++ (wLs g tr t1 t10 t11 ++ (wT g tp p1 p20 p21 p22 p23 p24 ++ (wM g am (if fLev e1 x1 = 0 then nLev e1 x1 else e1) k1 M3 M4 M5 (fb (fLev e1 x1) f1) M7 M8 p1 m10 m11 m12 M13 f20 p20 M22 M23 M24 M25 ++ (wSs g sh m10 m11 m12)))))))) := D_perm (List.Perm.append_left _ (List.Perm.append_left _ (List.Perm.append_left _ (List.Perm.append_left _ (List.Perm.append_left _ (List.perm_append_comm_assoc _ _ _)))))) hD
  have hD : va_D (fun q : Nat => s.heap.size ≤ q) (wX g a b d fo tp sh (fb (fLev e1 x1) f1) f20 ++ (wLs g b (if fLev e1 x1 = 0 then nLev e1 x1 else e1) e10 e11 ++ (wLs g d k1 k10 k11 ++ (wF g fo b tr o1 ++ (wLs g tr t1 t10 t11 ++ (wT g tp p1 p20 p21 p22 p23 p24 ++ (wSs g sh m10 m11 m12 ++ (wM g am (if fLev e1 x1 = 0 then nLev e1 x1 else e1) k1 M3 M4 M5 (fb (fLev e1 x1) f1) M7 M8 p1 m10 m11 m12 M13 f20 p20 M22 M23 M24 M25)))))))) := D_perm (List.Perm.append_left _ (List.Perm.append_left _ (List.Perm.append_left _ (List.Perm.append_left _ (List.Perm.append_left _ (List.Perm.append_left _ (List.perm_append_comm))))))) hD
  have hP : va_P g.1 vwCl (wX g a b d fo tp sh (fb (fLev e1 x1) f1) f20 ++ (wLs g b (if fLev e1 x1 = 0 then nLev e1 x1 else e1) e10 e11 ++ (wLs g d k1 k10 k11 ++ (wF g fo b tr o1 ++ (wLs g tr t1 t10 t11 ++ (wT g tp p1 p20 p21 p22 p23 p24 ++ (wSs g sh m10 m11 m12 ++ (wM g am (if fLev e1 x1 = 0 then nLev e1 x1 else e1) k1 M3 M4 M5 (fb (fLev e1 x1) f1) M7 M8 p1 m10 m11 m12 M13 f20 p20 M22 M23 M24 M25)))))))) H := va_P_app.mpr ⟨hP0, va_P_app.mpr ⟨hP1, va_P_app.mpr ⟨hP2, va_P_app.mpr ⟨hP3, va_P_app.mpr ⟨hP4, va_P_app.mpr ⟨hP5, va_P_app.mpr ⟨hP6, hP7⟩⟩⟩⟩⟩⟩⟩
  exact K (fun k => ([(fb (fLev e1 x1) f1), (fun _ => f20), (if fLev e1 x1 = 0 then nLev e1 x1 else e1), e10, e11, k1, k10, k11, o1, t1, t10, t11, p1, (fun _ => p20), (fun _ => p21), (fun _ => p22), (fun _ => p23), (fun _ => p24), m10, m11, m12, M3, M4, M5, M7, M8, M13, (fun _ => M22), (fun _ => M23), (fun _ => M24), (fun _ => M25)] : List (Int → Int)).getD k z0) H locs (show LVx (if fLev e1 x1 = 0 then nLev e1 x1 else e1) k1 f20 p1 p20 m10 m11 m12 M24 from ⟨iv_lev hIe, hIk, hkp, hHB, hpz, hSS, hLR, hvz⟩) hP hD hS

set_option maxRecDepth 100000 in
set_option maxHeartbeats 4000000 in
theorem lc_11 {p : Program} {l : Launch} {e : Env} {s : State} {m : MethodId} {below : List Frame} {meth : Method} {c : Code} {g : Gd} {σ : Sg} {bs L : Nat} {xs : Nat → Int32} {Q : State → Prop} (hL : L ≤ 3072) (hC : LCx g σ p s m c bs L xs) (a b d fo tr tp sh am : Nat → Nat) (f1 e1 e10 e11 k1 k10 k11 o1 t1 t10 t11 p1 m10 m11 m12 M3 M4 M5 M7 M8 M13 : Int → Int) (f20 p20 p21 p22 p23 p24 M22 M23 M24 M25 : Int) (hV : LVx e1 k1 f20 p1 p20 m10 m11 m12 M24) {i9 : Nat} (hi9 : i9 + 6 ≤ L) {ls : Array Slot} (hl : lv_has ls 4 [(3, .int (iI (i9 : Int))), (2, .ref (am 0)), (1, .ref (a 0)), (0, .ref bs)]) {H : Heap} {locs : List Loc} (hP : va_P g.1 vwCl (wX g a b d fo tp sh f1 f20 ++ (wLs g b e1 e10 e11 ++ (wLs g d k1 k10 k11 ++ (wF g fo b tr o1 ++ (wLs g tr t1 t10 t11 ++ (wT g tp p1 p20 p21 p22 p23 p24 ++ (wSs g sh m10 m11 m12 ++ (wM g am e1 k1 M3 M4 M5 f1 M7 M8 p1 m10 m11 m12 M13 f20 p20 M22 M23 M24 M25)))))))) H) (hD : va_D (fun q : Nat => s.heap.size ≤ q) (wX g a b d fo tp sh f1 f20 ++ (wLs g b e1 e10 e11 ++ (wLs g d k1 k10 k11 ++ (wF g fo b tr o1 ++ (wLs g tr t1 t10 t11 ++ (wT g tp p1 p20 p21 p22 p23 p24 ++ (wSs g sh m10 m11 m12 ++ (wM g am e1 k1 M3 M4 M5 f1 M7 M8 p1 m10 m11 m12 M13 f20 p20 M22 M23 M24 M25))))))))) (hS : va_S (fun q : Nat => s.heap.size ≤ q) s.heap H locs) (K : ∀ (u : Nat → Int → Int) (H : Heap) (locs : List Loc), LV u → va_P g.1 vwCl (LW g (fun k => ([a, b, d, fo, tr, tp, sh, am] : List (Nat → Nat)).getD k a) u) H → va_D (fun q : Nat => s.heap.size ≤ q) (LW g (fun k => ([a, b, d, fo, tr, tp, sh, am] : List (Nat → Nat)).getD k a) u) → va_S (fun q : Nat => s.heap.size ≤ q) s.heap H locs → W p l e room_1 s m #[Value.ref bs] below meth c H locs 65 1678 Q (F0 m 1473 ls [])) : W p l e room_1 s m #[Value.ref bs] below meth c H locs 65 1678 Q (F0 m 579 ls []) := by
  obtain ⟨hx, hb, hml, hown, hts, hK, hX, hbl, hSB⟩ := hC
  have hbA : ¬ (fun q : Nat => s.heap.size ≤ q) bs := Nat.not_le.mpr hbl
  have hA : ∀ q : Nat, s.heap.size ≤ q → (fun q : Nat => s.heap.size ≤ q) q := fun _ h => h
  obtain ⟨hIe, hIk, hkp, hHB, hpz, hSS, hLR, hvz⟩ := hV
  have hI := hIe.1
  have hs9 := hIe.2
  obtain ⟨x1, hx1⟩ : ∃ x : Int, x = (xs (i9 + 1)).toInt := ⟨_, rfl⟩
  have ha1a : -2147483648 ≤ x1 := by rw [hx1]; exact (IR_of _).1
  have ha1b : x1 ≤ 2147483647 := by rw [hx1]; exact (IR_of _).2
  obtain ⟨x2, hx2⟩ : ∃ x : Int, x = (xs (i9 + 2)).toInt := ⟨_, rfl⟩
  have ha2a : -2147483648 ≤ x2 := by rw [hx2]; exact (IR_of _).1
  have ha2b : x2 ≤ 2147483647 := by rw [hx2]; exact (IR_of _).2
  obtain ⟨x3, hx3⟩ : ∃ x : Int, x = (xs (i9 + 3)).toInt := ⟨_, rfl⟩
  have ha3a : -2147483648 ≤ x3 := by rw [hx3]; exact (IR_of _).1
  have ha3b : x3 ≤ 2147483647 := by rw [hx3]; exact (IR_of _).2
  obtain ⟨x4, hx4⟩ : ∃ x : Int, x = (xs (i9 + 4)).toInt := ⟨_, rfl⟩
  have ha4a : -2147483648 ≤ x4 := by rw [hx4]; exact (IR_of _).1
  have ha4b : x4 ≤ 2147483647 := by rw [hx4]; exact (IR_of _).2
  obtain ⟨x5, hx5⟩ : ∃ x : Int, x = (xs (i9 + 5)).toInt := ⟨_, rfl⟩
  have ha5a : -2147483648 ≤ x5 := by rw [hx5]; exact (IR_of _).1
  have ha5b : x5 ≤ 2147483647 := by rw [hx5]; exact (IR_of _).2
  obtain ⟨hP0, hPr0⟩ := va_P_app.mp hP
  obtain ⟨hP1, hPr1⟩ := va_P_app.mp hPr0
  obtain ⟨hP2, hPr2⟩ := va_P_app.mp hPr1
  obtain ⟨hP3, hPr3⟩ := va_P_app.mp hPr2
  obtain ⟨hP4, hPr4⟩ := va_P_app.mp hPr3
  obtain ⟨hP5, hPr5⟩ := va_P_app.mp hPr4
  obtain ⟨hP6, hP7⟩ := va_P_app.mp hPr5
  refine lv_aload_n hx hb dL_law_579 rfl (lv_at hl 2 rfl) ?_
  refine lv_aload_n hx hb dL_law_580 rfl (lv_at hl 3 rfl) ?_
  refine lv_iload_n hx hb dL_law_581 rfl (lv_at hl 0 rfl) ?_
  refine lv_iconst (v := iI (1)) hx hb dL_law_582 (by decide) ?_
  refine xi_add hx hb dL_law_583 ?_
  refine xs_ld (i := (i9 : Int) + 1) (j := i9 + 1) hx hb hX hbl hbA hS (by omega) (by omega) hL dL_law_584 ?_
  rw [← hx1]
  have hP : va_P g.1 vwCl ((wX g a b d fo tp sh f1 f20 ++ (wLs g b e1 e10 e11)) ++ (wLs g d k1 k10 k11 ++ (wF g fo b tr o1 ++ (wLs g tr t1 t10 t11 ++ (wT g tp p1 p20 p21 p22 p23 p24 ++ (wSs g sh m10 m11 m12 ++ (wM g am e1 k1 M3 M4 M5 f1 M7 M8 p1 m10 m11 m12 M13 f20 p20 M22 M23 M24 M25))))))) H := by rw [List.append_assoc]; exact hP
  have hD : va_D (fun q : Nat => s.heap.size ≤ q) ((wX g a b d fo tp sh f1 f20 ++ (wLs g b e1 e10 e11)) ++ (wLs g d k1 k10 k11 ++ (wF g fo b tr o1 ++ (wLs g tr t1 t10 t11 ++ (wT g tp p1 p20 p21 p22 p23 p24 ++ (wSs g sh m10 m11 m12 ++ (wM g am e1 k1 M3 M4 M5 f1 M7 M8 p1 m10 m11 m12 M13 f20 p20 M22 M23 M24 M25))))))) := by rw [List.append_assoc]; exact hD
  refine xmF_i (rV (rest := []) hx hb hml hown hts hK hl (c_X4_seasons l g d fo tp sh a f1 f20 b e1 e10 e11 x1 H.size (show InvK 0 e1 from hI) (show e1 0 ≤ 9999 from by omega) (show IR x1 from ⟨by omega, by omega⟩)) lk_L_60 ⟨rfl, (va_P_app.mp hP).1, (va_D_app hD).1.weaken (fun _ _ _ _ => trivial)⟩ (va_recv hK.1 hP0 (ci := 4) (q0 := 0) rfl rfl) rfl rfl rfl (Rm.of rfl) rfl rfl dL_law_585) hP hD hS hA (fun x9 u1 H locs hw hP hD hS => ?_)
  have hP : va_P g.1 vwCl ((wX g a b d fo tp sh (fb (fSea e1 x1) f1) f20 ++ (wLs g b (if fSea e1 x1 = 0 then seaN e1 (Int.toNat x1) else e1) (u1 110) (u1 111))) ++ (wLs g d k1 k10 k11 ++ (wF g fo b tr o1 ++ (wLs g tr t1 t10 t11 ++ (wT g tp p1 p20 p21 p22 p23 p24 ++ (wSs g sh m10 m11 m12 ++ (wM g am e1 k1 M3 M4 M5 f1 M7 M8 p1 m10 m11 m12 M13 f20 p20 M22 M23 M24 M25))))))) H := hP
  have hD : va_D (fun q : Nat => s.heap.size ≤ q) ((wX g a b d fo tp sh (fb (fSea e1 x1) f1) f20 ++ (wLs g b (if fSea e1 x1 = 0 then seaN e1 (Int.toNat x1) else e1) (u1 110) (u1 111))) ++ (wLs g d k1 k10 k11 ++ (wF g fo b tr o1 ++ (wLs g tr t1 t10 t11 ++ (wT g tp p1 p20 p21 p22 p23 p24 ++ (wSs g sh m10 m11 m12 ++ (wM g am e1 k1 M3 M4 M5 f1 M7 M8 p1 m10 m11 m12 M13 f20 p20 M22 M23 M24 M25))))))) := hD
  rw [List.append_assoc] at hP hD
  obtain rfl : x9 = ab (fSea e1 x1) (iI (sumA (seaN e1 (Int.toNat x1)) 3)) := hw
  have hP : va_P g.1 vwCl (wX g a b d fo tp sh (fb (fSea e1 x1) f1) f20 ++ (wLs g b (if fSea e1 x1 = 0 then seaN e1 (Int.toNat x1) else e1) (u1 110) (u1 111) ++ (wLs g d k1 k10 k11 ++ (wF g fo b tr o1 ++ (wLs g tr t1 t10 t11 ++ (wT g tp p1 p20 p21 p22 p23 p24 ++ (wSs g sh m10 m11 m12 ++ (wM g am e1 k1 M3 M4 M5 f1 M7 M8 p1 m10 m11 m12 M13 f20 p20 M22 M23 M24 M25)))))))) H := hP
  have hD : va_D (fun q : Nat => s.heap.size ≤ q) (wX g a b d fo tp sh (fb (fSea e1 x1) f1) f20 ++ (wLs g b (if fSea e1 x1 = 0 then seaN e1 (Int.toNat x1) else e1) (u1 110) (u1 111) ++ (wLs g d k1 k10 k11 ++ (wF g fo b tr o1 ++ (wLs g tr t1 t10 t11 ++ (wT g tp p1 p20 p21 p22 p23 p24 ++ (wSs g sh m10 m11 m12 ++ (wM g am e1 k1 M3 M4 M5 f1 M7 M8 p1 m10 m11 m12 M13 f20 p20 M22 M23 M24 M25)))))))) := hD
  obtain ⟨hP0, hPr0⟩ := va_P_app.mp hP
  obtain ⟨hP1, hPr1⟩ := va_P_app.mp hPr0
  obtain ⟨hP2, hPr2⟩ := va_P_app.mp hPr1
  obtain ⟨hP3, hPr3⟩ := va_P_app.mp hPr2
  obtain ⟨hP4, hPr4⟩ := va_P_app.mp hPr3
  obtain ⟨hP5, hPr5⟩ := va_P_app.mp hPr4
  obtain ⟨hP6, hP7⟩ := va_P_app.mp hPr5
  refine lv_aload_n hx hb dL_law_588 rfl (lv_at hl 1 rfl) ?_
  refine lv_aload_n hx hb dL_law_589 rfl (lv_at hl 3 rfl) ?_
  refine lv_iload_n hx hb dL_law_590 rfl (lv_at hl 0 rfl) ?_
  refine lv_iconst (v := iI (1)) hx hb dL_law_591 (by decide) ?_
  refine xi_add hx hb dL_law_592 ?_
  refine xs_ld (i := (i9 : Int) + 1) (j := i9 + 1) hx hb hX hbl hbA hS (by omega) (by omega) hL dL_law_593 ?_
  rw [← hx1]
  have hD : va_D (fun q : Nat => s.heap.size ≤ q) (wX g a b d fo tp sh (fb (fSea e1 x1) f1) f20 ++ (wLs g b (if fSea e1 x1 = 0 then seaN e1 (Int.toNat x1) else e1) (u1 110) (u1 111) ++ (wLs g d k1 k10 k11 ++ (wF g fo b tr o1 ++ (wLs g tr t1 t10 t11 ++ (wT g tp p1 p20 p21 p22 p23 p24 ++ (wM g am e1 k1 M3 M4 M5 f1 M7 M8 p1 m10 m11 m12 M13 f20 p20 M22 M23 M24 M25 ++ (wSs g sh m10 m11 m12)))))))) := D_perm (List.Perm.append_left _ (List.Perm.append_left _ (List.Perm.append_left _ (List.Perm.append_left _ (List.Perm.append_left _ (List.Perm.append_left _ (List.perm_append_comm))))))) hD
  have hD : va_D (fun q : Nat => s.heap.size ≤ q) (wX g a b d fo tp sh (fb (fSea e1 x1) f1) f20 ++ (wLs g b (if fSea e1 x1 = 0 then seaN e1 (Int.toNat x1) else e1) (u1 110) (u1 111) ++ (wLs g d k1 k10 k11 ++ (wF g fo b tr o1 ++ (wLs g tr t1 t10 t11 ++ (wM g am e1 k1 M3 M4 M5 f1 M7 M8 p1 m10 m11 m12 M13 f20 p20 M22 M23 M24 M25 ++ (wT g tp p1 p20 p21 p22 p23 p24 ++ (wSs g sh m10 m11 m12)))))))) := D_perm (List.Perm.append_left _ (List.Perm.append_left _ (List.Perm.append_left _ (List.Perm.append_left _ (List.Perm.append_left _ (List.perm_append_comm_assoc _ _ _)))))) hD
  have hD : va_D (fun q : Nat => s.heap.size ≤ q) (wX g a b d fo tp sh (fb (fSea e1 x1) f1) f20 ++ (wLs g b (if fSea e1 x1 = 0 then seaN e1 (Int.toNat x1) else e1) (u1 110) (u1 111) ++ (wLs g d k1 k10 k11 ++ (wF g fo b tr o1 ++ (wM g am e1 k1 M3 M4 M5 f1 M7 M8 p1 m10 m11 m12 M13 f20 p20 M22 M23 M24 M25 ++ (wLs g tr t1 t10 t11 ++ (wT g tp p1 p20 p21 p22 p23 p24 ++ (wSs g sh m10 m11 m12)))))))) := D_perm (List.Perm.append_left _ (List.Perm.append_left _ (List.Perm.append_left _ (List.Perm.append_left _ (List.perm_append_comm_assoc _ _ _))))) hD
  have hD : va_D (fun q : Nat => s.heap.size ≤ q) (wX g a b d fo tp sh (fb (fSea e1 x1) f1) f20 ++ (wLs g b (if fSea e1 x1 = 0 then seaN e1 (Int.toNat x1) else e1) (u1 110) (u1 111) ++ (wLs g d k1 k10 k11 ++ (wM g am e1 k1 M3 M4 M5 f1 M7 M8 p1 m10 m11 m12 M13 f20 p20 M22 M23 M24 M25 ++ (wF g fo b tr o1 ++ (wLs g tr t1 t10 t11 ++ (wT g tp p1 p20 p21 p22 p23 p24 ++ (wSs g sh m10 m11 m12)))))))) := D_perm (List.Perm.append_left _ (List.Perm.append_left _ (List.Perm.append_left _ (List.perm_append_comm_assoc _ _ _)))) hD
  have hD : va_D (fun q : Nat => s.heap.size ≤ q) (wX g a b d fo tp sh (fb (fSea e1 x1) f1) f20 ++ (wLs g b (if fSea e1 x1 = 0 then seaN e1 (Int.toNat x1) else e1) (u1 110) (u1 111) ++ (wM g am e1 k1 M3 M4 M5 f1 M7 M8 p1 m10 m11 m12 M13 f20 p20 M22 M23 M24 M25 ++ (wLs g d k1 k10 k11 ++ (wF g fo b tr o1 ++ (wLs g tr t1 t10 t11 ++ (wT g tp p1 p20 p21 p22 p23 p24 ++ (wSs g sh m10 m11 m12)))))))) := D_perm (List.Perm.append_left _ (List.Perm.append_left _ (List.perm_append_comm_assoc _ _ _))) hD
  have hD : va_D (fun q : Nat => s.heap.size ≤ q) (wX g a b d fo tp sh (fb (fSea e1 x1) f1) f20 ++ (wM g am e1 k1 M3 M4 M5 f1 M7 M8 p1 m10 m11 m12 M13 f20 p20 M22 M23 M24 M25 ++ (wLs g b (if fSea e1 x1 = 0 then seaN e1 (Int.toNat x1) else e1) (u1 110) (u1 111) ++ (wLs g d k1 k10 k11 ++ (wF g fo b tr o1 ++ (wLs g tr t1 t10 t11 ++ (wT g tp p1 p20 p21 p22 p23 p24 ++ (wSs g sh m10 m11 m12)))))))) := D_perm (List.Perm.append_left _ (List.perm_append_comm_assoc _ _ _)) hD
  have hD : va_D (fun q : Nat => s.heap.size ≤ q) (wM g am e1 k1 M3 M4 M5 f1 M7 M8 p1 m10 m11 m12 M13 f20 p20 M22 M23 M24 M25 ++ (wX g a b d fo tp sh (fb (fSea e1 x1) f1) f20 ++ (wLs g b (if fSea e1 x1 = 0 then seaN e1 (Int.toNat x1) else e1) (u1 110) (u1 111) ++ (wLs g d k1 k10 k11 ++ (wF g fo b tr o1 ++ (wLs g tr t1 t10 t11 ++ (wT g tp p1 p20 p21 p22 p23 p24 ++ (wSs g sh m10 m11 m12)))))))) := D_perm (List.perm_append_comm_assoc _ _ _) hD
  have hP : va_P g.1 vwCl (wM g am e1 k1 M3 M4 M5 f1 M7 M8 p1 m10 m11 m12 M13 f20 p20 M22 M23 M24 M25 ++ (wX g a b d fo tp sh (fb (fSea e1 x1) f1) f20 ++ (wLs g b (if fSea e1 x1 = 0 then seaN e1 (Int.toNat x1) else e1) (u1 110) (u1 111) ++ (wLs g d k1 k10 k11 ++ (wF g fo b tr o1 ++ (wLs g tr t1 t10 t11 ++ (wT g tp p1 p20 p21 p22 p23 p24 ++ (wSs g sh m10 m11 m12)))))))) H := va_P_app.mpr ⟨hP7, va_P_app.mpr ⟨hP0, va_P_app.mpr ⟨hP1, va_P_app.mpr ⟨hP2, va_P_app.mpr ⟨hP3, va_P_app.mpr ⟨hP4, va_P_app.mpr ⟨hP5, hP6⟩⟩⟩⟩⟩⟩⟩
  refine xmF_i (rV (rest := [.int (ab (fSea e1 x1) (iI (sumA (seaN e1 (Int.toNat x1)) 3)))]) hx hb hml hown hts hK hl (c_X5_seasons l g am e1 k1 M3 M4 M5 f1 M7 M8 p1 m10 m11 m12 M13 f20 p20 M22 M23 M24 M25 x1 H.size (show InvK 0 e1 from hI) (show e1 0 ≤ 9999 from by omega) (show IR x1 from ⟨by omega, by omega⟩)) lk_L_63 ⟨rfl, hP7, (va_D_app hD).1.weaken (fun _ _ _ _ => trivial)⟩ (va_recv hK.1 hP7 (ci := 5) (q0 := 0) rfl rfl) rfl rfl rfl (Rm.of rfl) rfl rfl dL_law_594) hP hD hS hA (fun x9 u2 H locs hw hP hD hS => ?_)
  obtain rfl : x9 = ab (fSea e1 x1) (iI (sumA (seaN e1 (Int.toNat x1)) 3)) := hw
  have hP : va_P g.1 vwCl (wM g am (if fSea e1 x1 = 0 then seaN e1 (Int.toNat x1) else e1) k1 M3 M4 M5 (fb (fSea e1 x1) f1) (u2 7) M8 p1 m10 m11 m12 M13 f20 p20 M22 M23 M24 M25 ++ (wX g a b d fo tp sh (fb (fSea e1 x1) f1) f20 ++ (wLs g b (if fSea e1 x1 = 0 then seaN e1 (Int.toNat x1) else e1) (u1 110) (u1 111) ++ (wLs g d k1 k10 k11 ++ (wF g fo b tr o1 ++ (wLs g tr t1 t10 t11 ++ (wT g tp p1 p20 p21 p22 p23 p24 ++ (wSs g sh m10 m11 m12)))))))) H := hP
  have hD : va_D (fun q : Nat => s.heap.size ≤ q) (wM g am (if fSea e1 x1 = 0 then seaN e1 (Int.toNat x1) else e1) k1 M3 M4 M5 (fb (fSea e1 x1) f1) (u2 7) M8 p1 m10 m11 m12 M13 f20 p20 M22 M23 M24 M25 ++ (wX g a b d fo tp sh (fb (fSea e1 x1) f1) f20 ++ (wLs g b (if fSea e1 x1 = 0 then seaN e1 (Int.toNat x1) else e1) (u1 110) (u1 111) ++ (wLs g d k1 k10 k11 ++ (wF g fo b tr o1 ++ (wLs g tr t1 t10 t11 ++ (wT g tp p1 p20 p21 p22 p23 p24 ++ (wSs g sh m10 m11 m12)))))))) := hD
  obtain ⟨hP7, hPr0⟩ := va_P_app.mp hP
  obtain ⟨hP0, hPr1⟩ := va_P_app.mp hPr0
  obtain ⟨hP1, hPr2⟩ := va_P_app.mp hPr1
  obtain ⟨hP2, hPr3⟩ := va_P_app.mp hPr2
  obtain ⟨hP3, hPr4⟩ := va_P_app.mp hPr3
  obtain ⟨hP4, hPr5⟩ := va_P_app.mp hPr4
  obtain ⟨hP5, hP6⟩ := va_P_app.mp hPr5
  refine lv_icmp_eq (tgt := 1473) hx hb dL_law_597 (by decide) (fun _ => ?_) (fun z => absurd rfl z)
  have hD : va_D (fun q : Nat => s.heap.size ≤ q) (wX g a b d fo tp sh (fb (fSea e1 x1) f1) f20 ++ (wM g am (if fSea e1 x1 = 0 then seaN e1 (Int.toNat x1) else e1) k1 M3 M4 M5 (fb (fSea e1 x1) f1) (u2 7) M8 p1 m10 m11 m12 M13 f20 p20 M22 M23 M24 M25 ++ (wLs g b (if fSea e1 x1 = 0 then seaN e1 (Int.toNat x1) else e1) (u1 110) (u1 111) ++ (wLs g d k1 k10 k11 ++ (wF g fo b tr o1 ++ (wLs g tr t1 t10 t11 ++ (wT g tp p1 p20 p21 p22 p23 p24 ++ (wSs g sh m10 m11 m12)))))))) := D_perm (List.perm_append_comm_assoc _ _ _) hD
  have hD : va_D (fun q : Nat => s.heap.size ≤ q) (wX g a b d fo tp sh (fb (fSea e1 x1) f1) f20 ++ (wLs g b (if fSea e1 x1 = 0 then seaN e1 (Int.toNat x1) else e1) (u1 110) (u1 111) ++ (wM g am (if fSea e1 x1 = 0 then seaN e1 (Int.toNat x1) else e1) k1 M3 M4 M5 (fb (fSea e1 x1) f1) (u2 7) M8 p1 m10 m11 m12 M13 f20 p20 M22 M23 M24 M25 ++ (wLs g d k1 k10 k11 ++ (wF g fo b tr o1 ++ (wLs g tr t1 t10 t11 ++ (wT g tp p1 p20 p21 p22 p23 p24 ++ (wSs g sh m10 m11 m12)))))))) := D_perm (List.Perm.append_left _ (List.perm_append_comm_assoc _ _ _)) hD
  have hD : va_D (fun q : Nat => s.heap.size ≤ q) (wX g a b d fo tp sh (fb (fSea e1 x1) f1) f20 ++ (wLs g b (if fSea e1 x1 = 0 then seaN e1 (Int.toNat x1) else e1) (u1 110) (u1 111) ++ (wLs g d k1 k10 k11 ++ (wM g am (if fSea e1 x1 = 0 then seaN e1 (Int.toNat x1) else e1) k1 M3 M4 M5 (fb (fSea e1 x1) f1) (u2 7) M8 p1 m10 m11 m12 M13 f20 p20 M22 M23 M24 M25 ++ (wF g fo b tr o1 ++ (wLs g tr t1 t10 t11 ++ (wT g tp p1 p20 p21 p22 p23 p24 ++ (wSs g sh m10 m11 m12)))))))) := D_perm (List.Perm.append_left _ (List.Perm.append_left _ (List.perm_append_comm_assoc _ _ _))) hD
  have hD : va_D (fun q : Nat => s.heap.size ≤ q) (wX g a b d fo tp sh (fb (fSea e1 x1) f1) f20 ++ (wLs g b (if fSea e1 x1 = 0 then seaN e1 (Int.toNat x1) else e1) (u1 110) (u1 111) ++ (wLs g d k1 k10 k11 ++ (wF g fo b tr o1 ++ (wM g am (if fSea e1 x1 = 0 then seaN e1 (Int.toNat x1) else e1) k1 M3 M4 M5 (fb (fSea e1 x1) f1) (u2 7) M8 p1 m10 m11 m12 M13 f20 p20 M22 M23 M24 M25 ++ (wLs g tr t1 t10 t11 ++ (wT g tp p1 p20 p21 p22 p23 p24 ++ (wSs g sh m10 m11 m12)))))))) := D_perm (List.Perm.append_left _ (List.Perm.append_left _ (List.Perm.append_left _ (List.perm_append_comm_assoc _ _ _)))) hD
  have hD : va_D (fun q : Nat => s.heap.size ≤ q) (wX g a b d fo tp sh (fb (fSea e1 x1) f1) f20 ++ (wLs g b (if fSea e1 x1 = 0 then seaN e1 (Int.toNat x1) else e1) (u1 110) (u1 111) ++ (wLs g d k1 k10 k11 ++ (wF g fo b tr o1 ++ (wLs g tr t1 t10 t11 ++ (wM g am (if fSea e1 x1 = 0 then seaN e1 (Int.toNat x1) else e1) k1 M3 M4 M5 (fb (fSea e1 x1) f1) (u2 7) M8 p1 m10 m11 m12 M13 f20 p20 M22 M23 M24 M25 ++ (wT g tp p1 p20 p21 p22 p23 p24 ++ (wSs g sh m10 m11 m12)))))))) := D_perm (List.Perm.append_left _ (List.Perm.append_left _ (List.Perm.append_left _ (List.Perm.append_left _ (List.perm_append_comm_assoc _ _ _))))) hD
  have hD : va_D (fun q : Nat => s.heap.size ≤ q) (wX g a b d fo tp sh (fb (fSea e1 x1) f1) f20 ++ (wLs g b (if fSea e1 x1 = 0 then seaN e1 (Int.toNat x1) else e1) (u1 110) (u1 111) ++ (wLs g d k1 k10 k11 ++ (wF g fo b tr o1 ++ (wLs g tr t1 t10 t11 ++ (wT g tp p1 p20 p21 p22 p23 p24 ++ (wM g am (if fSea e1 x1 = 0 then seaN e1 (Int.toNat x1) else e1) k1 M3 M4 M5 (fb (fSea e1 x1) f1) (u2 7) M8 p1 m10 m11 m12 M13 f20 p20 M22 M23 M24 M25 ++ (wSs g sh m10 m11 m12)))))))) := D_perm (List.Perm.append_left _ (List.Perm.append_left _ (List.Perm.append_left _ (List.Perm.append_left _ (List.Perm.append_left _ (List.perm_append_comm_assoc _ _ _)))))) hD
  have hD : va_D (fun q : Nat => s.heap.size ≤ q) (wX g a b d fo tp sh (fb (fSea e1 x1) f1) f20 ++ (wLs g b (if fSea e1 x1 = 0 then seaN e1 (Int.toNat x1) else e1) (u1 110) (u1 111) ++ (wLs g d k1 k10 k11 ++ (wF g fo b tr o1 ++ (wLs g tr t1 t10 t11 ++ (wT g tp p1 p20 p21 p22 p23 p24 ++ (wSs g sh m10 m11 m12 ++ (wM g am (if fSea e1 x1 = 0 then seaN e1 (Int.toNat x1) else e1) k1 M3 M4 M5 (fb (fSea e1 x1) f1) (u2 7) M8 p1 m10 m11 m12 M13 f20 p20 M22 M23 M24 M25)))))))) := D_perm (List.Perm.append_left _ (List.Perm.append_left _ (List.Perm.append_left _ (List.Perm.append_left _ (List.Perm.append_left _ (List.Perm.append_left _ (List.perm_append_comm))))))) hD
  have hP : va_P g.1 vwCl (wX g a b d fo tp sh (fb (fSea e1 x1) f1) f20 ++ (wLs g b (if fSea e1 x1 = 0 then seaN e1 (Int.toNat x1) else e1) (u1 110) (u1 111) ++ (wLs g d k1 k10 k11 ++ (wF g fo b tr o1 ++ (wLs g tr t1 t10 t11 ++ (wT g tp p1 p20 p21 p22 p23 p24 ++ (wSs g sh m10 m11 m12 ++ (wM g am (if fSea e1 x1 = 0 then seaN e1 (Int.toNat x1) else e1) k1 M3 M4 M5 (fb (fSea e1 x1) f1) (u2 7) M8 p1 m10 m11 m12 M13 f20 p20 M22 M23 M24 M25)))))))) H := va_P_app.mpr ⟨hP0, va_P_app.mpr ⟨hP1, va_P_app.mpr ⟨hP2, va_P_app.mpr ⟨hP3, va_P_app.mpr ⟨hP4, va_P_app.mpr ⟨hP5, va_P_app.mpr ⟨hP6, hP7⟩⟩⟩⟩⟩⟩⟩
  exact K (fun k => ([(fb (fSea e1 x1) f1), (fun _ => f20), (if fSea e1 x1 = 0 then seaN e1 (Int.toNat x1) else e1), (u1 110), (u1 111), k1, k10, k11, o1, t1, t10, t11, p1, (fun _ => p20), (fun _ => p21), (fun _ => p22), (fun _ => p23), (fun _ => p24), m10, m11, m12, M3, M4, M5, (u2 7), M8, M13, (fun _ => M22), (fun _ => M23), (fun _ => M24), (fun _ => M25)] : List (Int → Int)).getD k z0) H locs (show LVx (if fSea e1 x1 = 0 then seaN e1 (Int.toNat x1) else e1) k1 f20 p1 p20 m10 m11 m12 M24 from ⟨iv_sea hIe, hIk, hkp, hHB, hpz, hSS, hLR, hvz⟩) hP hD hS

set_option maxRecDepth 100000 in
set_option maxHeartbeats 4000000 in
theorem lc_12 {p : Program} {l : Launch} {e : Env} {s : State} {m : MethodId} {below : List Frame} {meth : Method} {c : Code} {g : Gd} {σ : Sg} {bs L : Nat} {xs : Nat → Int32} {Q : State → Prop} (hL : L ≤ 3072) (hC : LCx g σ p s m c bs L xs) (a b d fo tr tp sh am : Nat → Nat) (f1 e1 e10 e11 k1 k10 k11 o1 t1 t10 t11 p1 m10 m11 m12 M3 M4 M5 M7 M8 M13 : Int → Int) (f20 p20 p21 p22 p23 p24 M22 M23 M24 M25 : Int) (hV : LVx e1 k1 f20 p1 p20 m10 m11 m12 M24) {i9 : Nat} (hi9 : i9 + 6 ≤ L) {ls : Array Slot} (hl : lv_has ls 4 [(3, .int (iI (i9 : Int))), (2, .ref (am 0)), (1, .ref (a 0)), (0, .ref bs)]) {H : Heap} {locs : List Loc} (hP : va_P g.1 vwCl (wX g a b d fo tp sh f1 f20 ++ (wLs g b e1 e10 e11 ++ (wLs g d k1 k10 k11 ++ (wF g fo b tr o1 ++ (wLs g tr t1 t10 t11 ++ (wT g tp p1 p20 p21 p22 p23 p24 ++ (wSs g sh m10 m11 m12 ++ (wM g am e1 k1 M3 M4 M5 f1 M7 M8 p1 m10 m11 m12 M13 f20 p20 M22 M23 M24 M25)))))))) H) (hD : va_D (fun q : Nat => s.heap.size ≤ q) (wX g a b d fo tp sh f1 f20 ++ (wLs g b e1 e10 e11 ++ (wLs g d k1 k10 k11 ++ (wF g fo b tr o1 ++ (wLs g tr t1 t10 t11 ++ (wT g tp p1 p20 p21 p22 p23 p24 ++ (wSs g sh m10 m11 m12 ++ (wM g am e1 k1 M3 M4 M5 f1 M7 M8 p1 m10 m11 m12 M13 f20 p20 M22 M23 M24 M25))))))))) (hS : va_S (fun q : Nat => s.heap.size ≤ q) s.heap H locs) (K : ∀ (u : Nat → Int → Int) (H : Heap) (locs : List Loc), LV u → va_P g.1 vwCl (LW g (fun k => ([a, b, d, fo, tr, tp, sh, am] : List (Nat → Nat)).getD k a) u) H → va_D (fun q : Nat => s.heap.size ≤ q) (LW g (fun k => ([a, b, d, fo, tr, tp, sh, am] : List (Nat → Nat)).getD k a) u) → va_S (fun q : Nat => s.heap.size ≤ q) s.heap H locs → W p l e room_1 s m #[Value.ref bs] below meth c H locs 65 1678 Q (F0 m 1473 ls [])) : W p l e room_1 s m #[Value.ref bs] below meth c H locs 65 1678 Q (F0 m 602 ls []) := by
  obtain ⟨hx, hb, hml, hown, hts, hK, hX, hbl, hSB⟩ := hC
  have hbA : ¬ (fun q : Nat => s.heap.size ≤ q) bs := Nat.not_le.mpr hbl
  have hA : ∀ q : Nat, s.heap.size ≤ q → (fun q : Nat => s.heap.size ≤ q) q := fun _ h => h
  obtain ⟨hIe, hIk, hkp, hHB, hpz, hSS, hLR, hvz⟩ := hV
  have hI := hIe.1
  have hs9 := hIe.2
  obtain ⟨x1, hx1⟩ : ∃ x : Int, x = (xs (i9 + 1)).toInt := ⟨_, rfl⟩
  have ha1a : -2147483648 ≤ x1 := by rw [hx1]; exact (IR_of _).1
  have ha1b : x1 ≤ 2147483647 := by rw [hx1]; exact (IR_of _).2
  obtain ⟨x2, hx2⟩ : ∃ x : Int, x = (xs (i9 + 2)).toInt := ⟨_, rfl⟩
  have ha2a : -2147483648 ≤ x2 := by rw [hx2]; exact (IR_of _).1
  have ha2b : x2 ≤ 2147483647 := by rw [hx2]; exact (IR_of _).2
  obtain ⟨x3, hx3⟩ : ∃ x : Int, x = (xs (i9 + 3)).toInt := ⟨_, rfl⟩
  have ha3a : -2147483648 ≤ x3 := by rw [hx3]; exact (IR_of _).1
  have ha3b : x3 ≤ 2147483647 := by rw [hx3]; exact (IR_of _).2
  obtain ⟨x4, hx4⟩ : ∃ x : Int, x = (xs (i9 + 4)).toInt := ⟨_, rfl⟩
  have ha4a : -2147483648 ≤ x4 := by rw [hx4]; exact (IR_of _).1
  have ha4b : x4 ≤ 2147483647 := by rw [hx4]; exact (IR_of _).2
  obtain ⟨x5, hx5⟩ : ∃ x : Int, x = (xs (i9 + 5)).toInt := ⟨_, rfl⟩
  have ha5a : -2147483648 ≤ x5 := by rw [hx5]; exact (IR_of _).1
  have ha5b : x5 ≤ 2147483647 := by rw [hx5]; exact (IR_of _).2
  obtain ⟨hP0, hPr0⟩ := va_P_app.mp hP
  obtain ⟨hP1, hPr1⟩ := va_P_app.mp hPr0
  obtain ⟨hP2, hPr2⟩ := va_P_app.mp hPr1
  obtain ⟨hP3, hPr3⟩ := va_P_app.mp hPr2
  obtain ⟨hP4, hPr4⟩ := va_P_app.mp hPr3
  obtain ⟨hP5, hPr5⟩ := va_P_app.mp hPr4
  obtain ⟨hP6, hP7⟩ := va_P_app.mp hPr5
  refine lv_aload_n hx hb dL_law_602 rfl (lv_at hl 2 rfl) ?_
  refine lv_aload_n hx hb dL_law_603 rfl (lv_at hl 3 rfl) ?_
  refine lv_iload_n hx hb dL_law_604 rfl (lv_at hl 0 rfl) ?_
  refine lv_iconst (v := iI (1)) hx hb dL_law_605 (by decide) ?_
  refine xi_add hx hb dL_law_606 ?_
  refine xs_ld (i := (i9 : Int) + 1) (j := i9 + 1) hx hb hX hbl hbA hS (by omega) (by omega) hL dL_law_607 ?_
  rw [← hx1]
  have hP : va_P g.1 vwCl ((wX g a b d fo tp sh f1 f20 ++ (wLs g b e1 e10 e11)) ++ (wLs g d k1 k10 k11 ++ (wF g fo b tr o1 ++ (wLs g tr t1 t10 t11 ++ (wT g tp p1 p20 p21 p22 p23 p24 ++ (wSs g sh m10 m11 m12 ++ (wM g am e1 k1 M3 M4 M5 f1 M7 M8 p1 m10 m11 m12 M13 f20 p20 M22 M23 M24 M25))))))) H := by rw [List.append_assoc]; exact hP
  have hD : va_D (fun q : Nat => s.heap.size ≤ q) ((wX g a b d fo tp sh f1 f20 ++ (wLs g b e1 e10 e11)) ++ (wLs g d k1 k10 k11 ++ (wF g fo b tr o1 ++ (wLs g tr t1 t10 t11 ++ (wT g tp p1 p20 p21 p22 p23 p24 ++ (wSs g sh m10 m11 m12 ++ (wM g am e1 k1 M3 M4 M5 f1 M7 M8 p1 m10 m11 m12 M13 f20 p20 M22 M23 M24 M25))))))) := by rw [List.append_assoc]; exact hD
  refine xmF_i (rV (rest := []) hx hb hml hown hts hK hl (c_X4_now l g d fo tp sh a f1 f20 b e1 e10 e11 x1 H.size (show InvK 0 e1 from hI) (show e1 0 ≤ 9999 from by omega) (show IR x1 from ⟨by omega, by omega⟩)) lk_L_64 ⟨rfl, (va_P_app.mp hP).1, (va_D_app hD).1.weaken (fun _ _ _ _ => trivial)⟩ (va_recv hK.1 hP0 (ci := 4) (q0 := 0) rfl rfl) rfl rfl rfl (Rm.of rfl) rfl rfl dL_law_608) hP hD hS hA (fun x9 _ H locs hw hP hD hS => ?_)
  have hP : va_P g.1 vwCl ((wX g a b d fo tp sh (fb (fBtw x1 0 6) f1) f20 ++ (wLs g b e1 e10 e11)) ++ (wLs g d k1 k10 k11 ++ (wF g fo b tr o1 ++ (wLs g tr t1 t10 t11 ++ (wT g tp p1 p20 p21 p22 p23 p24 ++ (wSs g sh m10 m11 m12 ++ (wM g am e1 k1 M3 M4 M5 f1 M7 M8 p1 m10 m11 m12 M13 f20 p20 M22 M23 M24 M25))))))) H := hP
  have hD : va_D (fun q : Nat => s.heap.size ≤ q) ((wX g a b d fo tp sh (fb (fBtw x1 0 6) f1) f20 ++ (wLs g b e1 e10 e11)) ++ (wLs g d k1 k10 k11 ++ (wF g fo b tr o1 ++ (wLs g tr t1 t10 t11 ++ (wT g tp p1 p20 p21 p22 p23 p24 ++ (wSs g sh m10 m11 m12 ++ (wM g am e1 k1 M3 M4 M5 f1 M7 M8 p1 m10 m11 m12 M13 f20 p20 M22 M23 M24 M25))))))) := hD
  rw [List.append_assoc] at hP hD
  obtain rfl : x9 = ab (fBtw x1 0 6) (aNow e1 x1) := hw
  have hP : va_P g.1 vwCl (wX g a b d fo tp sh (fb (fBtw x1 0 6) f1) f20 ++ (wLs g b e1 e10 e11 ++ (wLs g d k1 k10 k11 ++ (wF g fo b tr o1 ++ (wLs g tr t1 t10 t11 ++ (wT g tp p1 p20 p21 p22 p23 p24 ++ (wSs g sh m10 m11 m12 ++ (wM g am e1 k1 M3 M4 M5 f1 M7 M8 p1 m10 m11 m12 M13 f20 p20 M22 M23 M24 M25)))))))) H := hP
  have hD : va_D (fun q : Nat => s.heap.size ≤ q) (wX g a b d fo tp sh (fb (fBtw x1 0 6) f1) f20 ++ (wLs g b e1 e10 e11 ++ (wLs g d k1 k10 k11 ++ (wF g fo b tr o1 ++ (wLs g tr t1 t10 t11 ++ (wT g tp p1 p20 p21 p22 p23 p24 ++ (wSs g sh m10 m11 m12 ++ (wM g am e1 k1 M3 M4 M5 f1 M7 M8 p1 m10 m11 m12 M13 f20 p20 M22 M23 M24 M25)))))))) := hD
  obtain ⟨hP0, hPr0⟩ := va_P_app.mp hP
  obtain ⟨hP1, hPr1⟩ := va_P_app.mp hPr0
  obtain ⟨hP2, hPr2⟩ := va_P_app.mp hPr1
  obtain ⟨hP3, hPr3⟩ := va_P_app.mp hPr2
  obtain ⟨hP4, hPr4⟩ := va_P_app.mp hPr3
  obtain ⟨hP5, hPr5⟩ := va_P_app.mp hPr4
  obtain ⟨hP6, hP7⟩ := va_P_app.mp hPr5
  refine lv_aload_n hx hb dL_law_611 rfl (lv_at hl 1 rfl) ?_
  refine lv_aload_n hx hb dL_law_612 rfl (lv_at hl 3 rfl) ?_
  refine lv_iload_n hx hb dL_law_613 rfl (lv_at hl 0 rfl) ?_
  refine lv_iconst (v := iI (1)) hx hb dL_law_614 (by decide) ?_
  refine xi_add hx hb dL_law_615 ?_
  refine xs_ld (i := (i9 : Int) + 1) (j := i9 + 1) hx hb hX hbl hbA hS (by omega) (by omega) hL dL_law_616 ?_
  rw [← hx1]
  have hD : va_D (fun q : Nat => s.heap.size ≤ q) (wX g a b d fo tp sh (fb (fBtw x1 0 6) f1) f20 ++ (wLs g b e1 e10 e11 ++ (wLs g d k1 k10 k11 ++ (wF g fo b tr o1 ++ (wLs g tr t1 t10 t11 ++ (wT g tp p1 p20 p21 p22 p23 p24 ++ (wM g am e1 k1 M3 M4 M5 f1 M7 M8 p1 m10 m11 m12 M13 f20 p20 M22 M23 M24 M25 ++ (wSs g sh m10 m11 m12)))))))) := D_perm (List.Perm.append_left _ (List.Perm.append_left _ (List.Perm.append_left _ (List.Perm.append_left _ (List.Perm.append_left _ (List.Perm.append_left _ (List.perm_append_comm))))))) hD
  have hD : va_D (fun q : Nat => s.heap.size ≤ q) (wX g a b d fo tp sh (fb (fBtw x1 0 6) f1) f20 ++ (wLs g b e1 e10 e11 ++ (wLs g d k1 k10 k11 ++ (wF g fo b tr o1 ++ (wLs g tr t1 t10 t11 ++ (wM g am e1 k1 M3 M4 M5 f1 M7 M8 p1 m10 m11 m12 M13 f20 p20 M22 M23 M24 M25 ++ (wT g tp p1 p20 p21 p22 p23 p24 ++ (wSs g sh m10 m11 m12)))))))) := D_perm (List.Perm.append_left _ (List.Perm.append_left _ (List.Perm.append_left _ (List.Perm.append_left _ (List.Perm.append_left _ (List.perm_append_comm_assoc _ _ _)))))) hD
  have hD : va_D (fun q : Nat => s.heap.size ≤ q) (wX g a b d fo tp sh (fb (fBtw x1 0 6) f1) f20 ++ (wLs g b e1 e10 e11 ++ (wLs g d k1 k10 k11 ++ (wF g fo b tr o1 ++ (wM g am e1 k1 M3 M4 M5 f1 M7 M8 p1 m10 m11 m12 M13 f20 p20 M22 M23 M24 M25 ++ (wLs g tr t1 t10 t11 ++ (wT g tp p1 p20 p21 p22 p23 p24 ++ (wSs g sh m10 m11 m12)))))))) := D_perm (List.Perm.append_left _ (List.Perm.append_left _ (List.Perm.append_left _ (List.Perm.append_left _ (List.perm_append_comm_assoc _ _ _))))) hD
  have hD : va_D (fun q : Nat => s.heap.size ≤ q) (wX g a b d fo tp sh (fb (fBtw x1 0 6) f1) f20 ++ (wLs g b e1 e10 e11 ++ (wLs g d k1 k10 k11 ++ (wM g am e1 k1 M3 M4 M5 f1 M7 M8 p1 m10 m11 m12 M13 f20 p20 M22 M23 M24 M25 ++ (wF g fo b tr o1 ++ (wLs g tr t1 t10 t11 ++ (wT g tp p1 p20 p21 p22 p23 p24 ++ (wSs g sh m10 m11 m12)))))))) := D_perm (List.Perm.append_left _ (List.Perm.append_left _ (List.Perm.append_left _ (List.perm_append_comm_assoc _ _ _)))) hD
  have hD : va_D (fun q : Nat => s.heap.size ≤ q) (wX g a b d fo tp sh (fb (fBtw x1 0 6) f1) f20 ++ (wLs g b e1 e10 e11 ++ (wM g am e1 k1 M3 M4 M5 f1 M7 M8 p1 m10 m11 m12 M13 f20 p20 M22 M23 M24 M25 ++ (wLs g d k1 k10 k11 ++ (wF g fo b tr o1 ++ (wLs g tr t1 t10 t11 ++ (wT g tp p1 p20 p21 p22 p23 p24 ++ (wSs g sh m10 m11 m12)))))))) := D_perm (List.Perm.append_left _ (List.Perm.append_left _ (List.perm_append_comm_assoc _ _ _))) hD
  have hD : va_D (fun q : Nat => s.heap.size ≤ q) (wX g a b d fo tp sh (fb (fBtw x1 0 6) f1) f20 ++ (wM g am e1 k1 M3 M4 M5 f1 M7 M8 p1 m10 m11 m12 M13 f20 p20 M22 M23 M24 M25 ++ (wLs g b e1 e10 e11 ++ (wLs g d k1 k10 k11 ++ (wF g fo b tr o1 ++ (wLs g tr t1 t10 t11 ++ (wT g tp p1 p20 p21 p22 p23 p24 ++ (wSs g sh m10 m11 m12)))))))) := D_perm (List.Perm.append_left _ (List.perm_append_comm_assoc _ _ _)) hD
  have hD : va_D (fun q : Nat => s.heap.size ≤ q) (wM g am e1 k1 M3 M4 M5 f1 M7 M8 p1 m10 m11 m12 M13 f20 p20 M22 M23 M24 M25 ++ (wX g a b d fo tp sh (fb (fBtw x1 0 6) f1) f20 ++ (wLs g b e1 e10 e11 ++ (wLs g d k1 k10 k11 ++ (wF g fo b tr o1 ++ (wLs g tr t1 t10 t11 ++ (wT g tp p1 p20 p21 p22 p23 p24 ++ (wSs g sh m10 m11 m12)))))))) := D_perm (List.perm_append_comm_assoc _ _ _) hD
  have hP : va_P g.1 vwCl (wM g am e1 k1 M3 M4 M5 f1 M7 M8 p1 m10 m11 m12 M13 f20 p20 M22 M23 M24 M25 ++ (wX g a b d fo tp sh (fb (fBtw x1 0 6) f1) f20 ++ (wLs g b e1 e10 e11 ++ (wLs g d k1 k10 k11 ++ (wF g fo b tr o1 ++ (wLs g tr t1 t10 t11 ++ (wT g tp p1 p20 p21 p22 p23 p24 ++ (wSs g sh m10 m11 m12)))))))) H := va_P_app.mpr ⟨hP7, va_P_app.mpr ⟨hP0, va_P_app.mpr ⟨hP1, va_P_app.mpr ⟨hP2, va_P_app.mpr ⟨hP3, va_P_app.mpr ⟨hP4, va_P_app.mpr ⟨hP5, hP6⟩⟩⟩⟩⟩⟩⟩
  refine xmF_i (rV (rest := [.int (ab (fBtw x1 0 6) (aNow e1 x1))]) hx hb hml hown hts hK hl (c_X5_now l g am e1 k1 M3 M4 M5 f1 M7 M8 p1 m10 m11 m12 M13 f20 p20 M22 M23 M24 M25 x1 H.size (show InvK 0 e1 from hI) (show e1 0 ≤ 9999 from by omega) (show IR x1 from ⟨by omega, by omega⟩)) lk_L_67 ⟨rfl, hP7, (va_D_app hD).1.weaken (fun _ _ _ _ => trivial)⟩ (va_recv hK.1 hP7 (ci := 5) (q0 := 0) rfl rfl) rfl rfl rfl (Rm.of rfl) rfl rfl dL_law_617) hP hD hS hA (fun x9 _ H locs hw hP hD hS => ?_)
  obtain rfl : x9 = ab (fBtw x1 0 6) (aNow e1 x1) := hw
  have hP : va_P g.1 vwCl (wM g am e1 k1 M3 M4 M5 (fb (fBtw x1 0 6) f1) M7 M8 p1 m10 m11 m12 M13 f20 p20 M22 M23 M24 M25 ++ (wX g a b d fo tp sh (fb (fBtw x1 0 6) f1) f20 ++ (wLs g b e1 e10 e11 ++ (wLs g d k1 k10 k11 ++ (wF g fo b tr o1 ++ (wLs g tr t1 t10 t11 ++ (wT g tp p1 p20 p21 p22 p23 p24 ++ (wSs g sh m10 m11 m12)))))))) H := hP
  have hD : va_D (fun q : Nat => s.heap.size ≤ q) (wM g am e1 k1 M3 M4 M5 (fb (fBtw x1 0 6) f1) M7 M8 p1 m10 m11 m12 M13 f20 p20 M22 M23 M24 M25 ++ (wX g a b d fo tp sh (fb (fBtw x1 0 6) f1) f20 ++ (wLs g b e1 e10 e11 ++ (wLs g d k1 k10 k11 ++ (wF g fo b tr o1 ++ (wLs g tr t1 t10 t11 ++ (wT g tp p1 p20 p21 p22 p23 p24 ++ (wSs g sh m10 m11 m12)))))))) := hD
  obtain ⟨hP7, hPr0⟩ := va_P_app.mp hP
  obtain ⟨hP0, hPr1⟩ := va_P_app.mp hPr0
  obtain ⟨hP1, hPr2⟩ := va_P_app.mp hPr1
  obtain ⟨hP2, hPr3⟩ := va_P_app.mp hPr2
  obtain ⟨hP3, hPr4⟩ := va_P_app.mp hPr3
  obtain ⟨hP4, hPr5⟩ := va_P_app.mp hPr4
  obtain ⟨hP5, hP6⟩ := va_P_app.mp hPr5
  refine lv_icmp_eq (tgt := 1473) hx hb dL_law_620 (by decide) (fun _ => ?_) (fun z => absurd rfl z)
  have hD : va_D (fun q : Nat => s.heap.size ≤ q) (wX g a b d fo tp sh (fb (fBtw x1 0 6) f1) f20 ++ (wM g am e1 k1 M3 M4 M5 (fb (fBtw x1 0 6) f1) M7 M8 p1 m10 m11 m12 M13 f20 p20 M22 M23 M24 M25 ++ (wLs g b e1 e10 e11 ++ (wLs g d k1 k10 k11 ++ (wF g fo b tr o1 ++ (wLs g tr t1 t10 t11 ++ (wT g tp p1 p20 p21 p22 p23 p24 ++ (wSs g sh m10 m11 m12)))))))) := D_perm (List.perm_append_comm_assoc _ _ _) hD
  have hD : va_D (fun q : Nat => s.heap.size ≤ q) (wX g a b d fo tp sh (fb (fBtw x1 0 6) f1) f20 ++ (wLs g b e1 e10 e11 ++ (wM g am e1 k1 M3 M4 M5 (fb (fBtw x1 0 6) f1) M7 M8 p1 m10 m11 m12 M13 f20 p20 M22 M23 M24 M25 ++ (wLs g d k1 k10 k11 ++ (wF g fo b tr o1 ++ (wLs g tr t1 t10 t11 ++ (wT g tp p1 p20 p21 p22 p23 p24 ++ (wSs g sh m10 m11 m12)))))))) := D_perm (List.Perm.append_left _ (List.perm_append_comm_assoc _ _ _)) hD
  have hD : va_D (fun q : Nat => s.heap.size ≤ q) (wX g a b d fo tp sh (fb (fBtw x1 0 6) f1) f20 ++ (wLs g b e1 e10 e11 ++ (wLs g d k1 k10 k11 ++ (wM g am e1 k1 M3 M4 M5 (fb (fBtw x1 0 6) f1) M7 M8 p1 m10 m11 m12 M13 f20 p20 M22 M23 M24 M25 ++ (wF g fo b tr o1 ++ (wLs g tr t1 t10 t11 ++ (wT g tp p1 p20 p21 p22 p23 p24 ++ (wSs g sh m10 m11 m12)))))))) := D_perm (List.Perm.append_left _ (List.Perm.append_left _ (List.perm_append_comm_assoc _ _ _))) hD
  have hD : va_D (fun q : Nat => s.heap.size ≤ q) (wX g a b d fo tp sh (fb (fBtw x1 0 6) f1) f20 ++ (wLs g b e1 e10 e11 ++ (wLs g d k1 k10 k11 ++ (wF g fo b tr o1 ++ (wM g am e1 k1 M3 M4 M5 (fb (fBtw x1 0 6) f1) M7 M8 p1 m10 m11 m12 M13 f20 p20 M22 M23 M24 M25 ++ (wLs g tr t1 t10 t11 ++ (wT g tp p1 p20 p21 p22 p23 p24 ++ (wSs g sh m10 m11 m12)))))))) := D_perm (List.Perm.append_left _ (List.Perm.append_left _ (List.Perm.append_left _ (List.perm_append_comm_assoc _ _ _)))) hD
  have hD : va_D (fun q : Nat => s.heap.size ≤ q) (wX g a b d fo tp sh (fb (fBtw x1 0 6) f1) f20 ++ (wLs g b e1 e10 e11 ++ (wLs g d k1 k10 k11 ++ (wF g fo b tr o1 ++ (wLs g tr t1 t10 t11 ++ (wM g am e1 k1 M3 M4 M5 (fb (fBtw x1 0 6) f1) M7 M8 p1 m10 m11 m12 M13 f20 p20 M22 M23 M24 M25 ++ (wT g tp p1 p20 p21 p22 p23 p24 ++ (wSs g sh m10 m11 m12)))))))) := D_perm (List.Perm.append_left _ (List.Perm.append_left _ (List.Perm.append_left _ (List.Perm.append_left _ (List.perm_append_comm_assoc _ _ _))))) hD
  have hD : va_D (fun q : Nat => s.heap.size ≤ q) (wX g a b d fo tp sh (fb (fBtw x1 0 6) f1) f20 ++ (wLs g b e1 e10 e11 ++ (wLs g d k1 k10 k11 ++ (wF g fo b tr o1 ++ (wLs g tr t1 t10 t11 ++ (wT g tp p1 p20 p21 p22 p23 p24 ++ (wM g am e1 k1 M3 M4 M5 (fb (fBtw x1 0 6) f1) M7 M8 p1 m10 m11 m12 M13 f20 p20 M22 M23 M24 M25 ++ (wSs g sh m10 m11 m12)))))))) := D_perm (List.Perm.append_left _ (List.Perm.append_left _ (List.Perm.append_left _ (List.Perm.append_left _ (List.Perm.append_left _ (List.perm_append_comm_assoc _ _ _)))))) hD
  have hD : va_D (fun q : Nat => s.heap.size ≤ q) (wX g a b d fo tp sh (fb (fBtw x1 0 6) f1) f20 ++ (wLs g b e1 e10 e11 ++ (wLs g d k1 k10 k11 ++ (wF g fo b tr o1 ++ (wLs g tr t1 t10 t11 ++ (wT g tp p1 p20 p21 p22 p23 p24 ++ (wSs g sh m10 m11 m12 ++ (wM g am e1 k1 M3 M4 M5 (fb (fBtw x1 0 6) f1) M7 M8 p1 m10 m11 m12 M13 f20 p20 M22 M23 M24 M25)))))))) := D_perm (List.Perm.append_left _ (List.Perm.append_left _ (List.Perm.append_left _ (List.Perm.append_left _ (List.Perm.append_left _ (List.Perm.append_left _ (List.perm_append_comm))))))) hD
  have hP : va_P g.1 vwCl (wX g a b d fo tp sh (fb (fBtw x1 0 6) f1) f20 ++ (wLs g b e1 e10 e11 ++ (wLs g d k1 k10 k11 ++ (wF g fo b tr o1 ++ (wLs g tr t1 t10 t11 ++ (wT g tp p1 p20 p21 p22 p23 p24 ++ (wSs g sh m10 m11 m12 ++ (wM g am e1 k1 M3 M4 M5 (fb (fBtw x1 0 6) f1) M7 M8 p1 m10 m11 m12 M13 f20 p20 M22 M23 M24 M25)))))))) H := va_P_app.mpr ⟨hP0, va_P_app.mpr ⟨hP1, va_P_app.mpr ⟨hP2, va_P_app.mpr ⟨hP3, va_P_app.mpr ⟨hP4, va_P_app.mpr ⟨hP5, va_P_app.mpr ⟨hP6, hP7⟩⟩⟩⟩⟩⟩⟩
  exact K (fun k => ([(fb (fBtw x1 0 6) f1), (fun _ => f20), e1, e10, e11, k1, k10, k11, o1, t1, t10, t11, p1, (fun _ => p20), (fun _ => p21), (fun _ => p22), (fun _ => p23), (fun _ => p24), m10, m11, m12, M3, M4, M5, M7, M8, M13, (fun _ => M22), (fun _ => M23), (fun _ => M24), (fun _ => M25)] : List (Int → Int)).getD k z0) H locs (show LVx e1 k1 f20 p1 p20 m10 m11 m12 M24 from ⟨hIe, hIk, hkp, hHB, hpz, hSS, hLR, hvz⟩) hP hD hS

set_option maxRecDepth 100000 in
set_option maxHeartbeats 4000000 in
theorem lc_13 {p : Program} {l : Launch} {e : Env} {s : State} {m : MethodId} {below : List Frame} {meth : Method} {c : Code} {g : Gd} {σ : Sg} {bs L : Nat} {xs : Nat → Int32} {Q : State → Prop} (hL : L ≤ 3072) (hC : LCx g σ p s m c bs L xs) (a b d fo tr tp sh am : Nat → Nat) (f1 e1 e10 e11 k1 k10 k11 o1 t1 t10 t11 p1 m10 m11 m12 M3 M4 M5 M7 M8 M13 : Int → Int) (f20 p20 p21 p22 p23 p24 M22 M23 M24 M25 : Int) (hV : LVx e1 k1 f20 p1 p20 m10 m11 m12 M24) {i9 : Nat} (hi9 : i9 + 6 ≤ L) {ls : Array Slot} (hl : lv_has ls 4 [(3, .int (iI (i9 : Int))), (2, .ref (am 0)), (1, .ref (a 0)), (0, .ref bs)]) {H : Heap} {locs : List Loc} (hP : va_P g.1 vwCl (wX g a b d fo tp sh f1 f20 ++ (wLs g b e1 e10 e11 ++ (wLs g d k1 k10 k11 ++ (wF g fo b tr o1 ++ (wLs g tr t1 t10 t11 ++ (wT g tp p1 p20 p21 p22 p23 p24 ++ (wSs g sh m10 m11 m12 ++ (wM g am e1 k1 M3 M4 M5 f1 M7 M8 p1 m10 m11 m12 M13 f20 p20 M22 M23 M24 M25)))))))) H) (hD : va_D (fun q : Nat => s.heap.size ≤ q) (wX g a b d fo tp sh f1 f20 ++ (wLs g b e1 e10 e11 ++ (wLs g d k1 k10 k11 ++ (wF g fo b tr o1 ++ (wLs g tr t1 t10 t11 ++ (wT g tp p1 p20 p21 p22 p23 p24 ++ (wSs g sh m10 m11 m12 ++ (wM g am e1 k1 M3 M4 M5 f1 M7 M8 p1 m10 m11 m12 M13 f20 p20 M22 M23 M24 M25))))))))) (hS : va_S (fun q : Nat => s.heap.size ≤ q) s.heap H locs) (K : ∀ (u : Nat → Int → Int) (H : Heap) (locs : List Loc), LV u → va_P g.1 vwCl (LW g (fun k => ([a, b, d, fo, tr, tp, sh, am] : List (Nat → Nat)).getD k a) u) H → va_D (fun q : Nat => s.heap.size ≤ q) (LW g (fun k => ([a, b, d, fo, tr, tp, sh, am] : List (Nat → Nat)).getD k a) u) → va_S (fun q : Nat => s.heap.size ≤ q) s.heap H locs → W p l e room_1 s m #[Value.ref bs] below meth c H locs 65 1678 Q (F0 m 1473 ls [])) : W p l e room_1 s m #[Value.ref bs] below meth c H locs 65 1678 Q (F0 m 625 ls []) := by
  obtain ⟨hx, hb, hml, hown, hts, hK, hX, hbl, hSB⟩ := hC
  have hbA : ¬ (fun q : Nat => s.heap.size ≤ q) bs := Nat.not_le.mpr hbl
  have hA : ∀ q : Nat, s.heap.size ≤ q → (fun q : Nat => s.heap.size ≤ q) q := fun _ h => h
  obtain ⟨hIe, hIk, hkp, hHB, hpz, hSS, hLR, hvz⟩ := hV
  have hI := hIe.1
  have hs9 := hIe.2
  obtain ⟨x1, hx1⟩ : ∃ x : Int, x = (xs (i9 + 1)).toInt := ⟨_, rfl⟩
  have ha1a : -2147483648 ≤ x1 := by rw [hx1]; exact (IR_of _).1
  have ha1b : x1 ≤ 2147483647 := by rw [hx1]; exact (IR_of _).2
  obtain ⟨x2, hx2⟩ : ∃ x : Int, x = (xs (i9 + 2)).toInt := ⟨_, rfl⟩
  have ha2a : -2147483648 ≤ x2 := by rw [hx2]; exact (IR_of _).1
  have ha2b : x2 ≤ 2147483647 := by rw [hx2]; exact (IR_of _).2
  obtain ⟨x3, hx3⟩ : ∃ x : Int, x = (xs (i9 + 3)).toInt := ⟨_, rfl⟩
  have ha3a : -2147483648 ≤ x3 := by rw [hx3]; exact (IR_of _).1
  have ha3b : x3 ≤ 2147483647 := by rw [hx3]; exact (IR_of _).2
  obtain ⟨x4, hx4⟩ : ∃ x : Int, x = (xs (i9 + 4)).toInt := ⟨_, rfl⟩
  have ha4a : -2147483648 ≤ x4 := by rw [hx4]; exact (IR_of _).1
  have ha4b : x4 ≤ 2147483647 := by rw [hx4]; exact (IR_of _).2
  obtain ⟨x5, hx5⟩ : ∃ x : Int, x = (xs (i9 + 5)).toInt := ⟨_, rfl⟩
  have ha5a : -2147483648 ≤ x5 := by rw [hx5]; exact (IR_of _).1
  have ha5b : x5 ≤ 2147483647 := by rw [hx5]; exact (IR_of _).2
  obtain ⟨hP0, hPr0⟩ := va_P_app.mp hP
  obtain ⟨hP1, hPr1⟩ := va_P_app.mp hPr0
  obtain ⟨hP2, hPr2⟩ := va_P_app.mp hPr1
  obtain ⟨hP3, hPr3⟩ := va_P_app.mp hPr2
  obtain ⟨hP4, hPr4⟩ := va_P_app.mp hPr3
  obtain ⟨hP5, hPr5⟩ := va_P_app.mp hPr4
  obtain ⟨hP6, hP7⟩ := va_P_app.mp hPr5
  refine lv_aload_n hx hb dL_law_625 rfl (lv_at hl 2 rfl) ?_
  refine lv_aload_n hx hb dL_law_626 rfl (lv_at hl 3 rfl) ?_
  refine lv_iload_n hx hb dL_law_627 rfl (lv_at hl 0 rfl) ?_
  refine lv_iconst (v := iI (1)) hx hb dL_law_628 (by decide) ?_
  refine xi_add hx hb dL_law_629 ?_
  refine xs_ld (i := (i9 : Int) + 1) (j := i9 + 1) hx hb hX hbl hbA hS (by omega) (by omega) hL dL_law_630 ?_
  rw [← hx1]
  refine lv_aload_n hx hb dL_law_631 rfl (lv_at hl 3 rfl) ?_
  refine lv_iload_n hx hb dL_law_632 rfl (lv_at hl 0 rfl) ?_
  refine lv_iconst (v := iI (2)) hx hb dL_law_633 (by decide) ?_
  refine xi_add hx hb dL_law_634 ?_
  refine xs_ld (i := (i9 : Int) + 2) (j := i9 + 2) hx hb hX hbl hbA hS (by omega) (by omega) hL dL_law_635 ?_
  rw [← hx2]
  refine lv_aload_n hx hb dL_law_636 rfl (lv_at hl 3 rfl) ?_
  refine lv_iload_n hx hb dL_law_637 rfl (lv_at hl 0 rfl) ?_
  refine lv_iconst (v := iI (3)) hx hb dL_law_638 (by decide) ?_
  refine xi_add hx hb dL_law_639 ?_
  refine xs_ld (i := (i9 : Int) + 3) (j := i9 + 3) hx hb hX hbl hbA hS (by omega) (by omega) hL dL_law_640 ?_
  rw [← hx3]
  have hD : va_D (fun q : Nat => s.heap.size ≤ q) (wX g a b d fo tp sh f1 f20 ++ (wLs g b e1 e10 e11 ++ (wF g fo b tr o1 ++ (wLs g d k1 k10 k11 ++ (wLs g tr t1 t10 t11 ++ (wT g tp p1 p20 p21 p22 p23 p24 ++ (wSs g sh m10 m11 m12 ++ (wM g am e1 k1 M3 M4 M5 f1 M7 M8 p1 m10 m11 m12 M13 f20 p20 M22 M23 M24 M25)))))))) := D_perm (List.Perm.append_left _ (List.Perm.append_left _ (List.perm_append_comm_assoc _ _ _))) hD
  have hD : va_D (fun q : Nat => s.heap.size ≤ q) (wX g a b d fo tp sh f1 f20 ++ (wF g fo b tr o1 ++ (wLs g b e1 e10 e11 ++ (wLs g d k1 k10 k11 ++ (wLs g tr t1 t10 t11 ++ (wT g tp p1 p20 p21 p22 p23 p24 ++ (wSs g sh m10 m11 m12 ++ (wM g am e1 k1 M3 M4 M5 f1 M7 M8 p1 m10 m11 m12 M13 f20 p20 M22 M23 M24 M25)))))))) := D_perm (List.Perm.append_left _ (List.perm_append_comm_assoc _ _ _)) hD
  have hD : va_D (fun q : Nat => s.heap.size ≤ q) (wX g a b d fo tp sh f1 f20 ++ (wF g fo b tr o1 ++ (wLs g b e1 e10 e11 ++ (wLs g tr t1 t10 t11 ++ (wLs g d k1 k10 k11 ++ (wT g tp p1 p20 p21 p22 p23 p24 ++ (wSs g sh m10 m11 m12 ++ (wM g am e1 k1 M3 M4 M5 f1 M7 M8 p1 m10 m11 m12 M13 f20 p20 M22 M23 M24 M25)))))))) := D_perm (List.Perm.append_left _ (List.Perm.append_left _ (List.Perm.append_left _ (List.perm_append_comm_assoc _ _ _)))) hD
  have hP : va_P g.1 vwCl (wX g a b d fo tp sh f1 f20 ++ (wF g fo b tr o1 ++ (wLs g b e1 e10 e11 ++ (wLs g tr t1 t10 t11 ++ (wLs g d k1 k10 k11 ++ (wT g tp p1 p20 p21 p22 p23 p24 ++ (wSs g sh m10 m11 m12 ++ (wM g am e1 k1 M3 M4 M5 f1 M7 M8 p1 m10 m11 m12 M13 f20 p20 M22 M23 M24 M25)))))))) H := va_P_app.mpr ⟨hP0, va_P_app.mpr ⟨hP3, va_P_app.mpr ⟨hP1, va_P_app.mpr ⟨hP4, va_P_app.mpr ⟨hP2, va_P_app.mpr ⟨hP5, va_P_app.mpr ⟨hP6, hP7⟩⟩⟩⟩⟩⟩⟩
  have hP : va_P g.1 vwCl ((wX g a b d fo tp sh f1 f20 ++ (wF g fo b tr o1 ++ (wLs g b e1 e10 e11 ++ (wLs g tr t1 t10 t11)))) ++ (wLs g d k1 k10 k11 ++ (wT g tp p1 p20 p21 p22 p23 p24 ++ (wSs g sh m10 m11 m12 ++ (wM g am e1 k1 M3 M4 M5 f1 M7 M8 p1 m10 m11 m12 M13 f20 p20 M22 M23 M24 M25))))) H := by rw [List.append_assoc, List.append_assoc, List.append_assoc]; exact hP
  have hD : va_D (fun q : Nat => s.heap.size ≤ q) ((wX g a b d fo tp sh f1 f20 ++ (wF g fo b tr o1 ++ (wLs g b e1 e10 e11 ++ (wLs g tr t1 t10 t11)))) ++ (wLs g d k1 k10 k11 ++ (wT g tp p1 p20 p21 p22 p23 p24 ++ (wSs g sh m10 m11 m12 ++ (wM g am e1 k1 M3 M4 M5 f1 M7 M8 p1 m10 m11 m12 M13 f20 p20 M22 M23 M24 M25))))) := by rw [List.append_assoc, List.append_assoc, List.append_assoc]; exact hD
  refine xmF_i (rV (rest := []) hx hb hml hown hts hK hl (c_X4_on l g d tp sh a f1 f20 fo o1 b e1 e10 e11 tr t1 t10 t11 x1 x2 x3 H.size (show InvK 0 e1 from hI) (show e1 0 ≤ 9999 from by omega) (show IR x1 from ⟨by omega, by omega⟩) (show IR x2 from ⟨by omega, by omega⟩) (show IR x3 from ⟨by omega, by omega⟩)) lk_L_68 ⟨rfl, (va_P_app.mp hP).1, (va_D_app hD).1.weaken (fun _ _ _ _ => trivial)⟩ (va_recv hK.1 hP0 (ci := 4) (q0 := 0) rfl rfl) rfl rfl rfl (Rm.of rfl) rfl rfl dL_law_641) hP hD hS hA (fun x9 u1 H locs hw hP hD hS => ?_)
  have hP : va_P g.1 vwCl ((wX g a b d fo tp sh (fb (fOn e1 x1 x2 x3) f1) f20 ++ (wF g fo b tr o1 ++ (wLs g b e1 e10 e11 ++ (wLs g tr (u1 301) (u1 310) (u1 311))))) ++ (wLs g d k1 k10 k11 ++ (wT g tp p1 p20 p21 p22 p23 p24 ++ (wSs g sh m10 m11 m12 ++ (wM g am e1 k1 M3 M4 M5 f1 M7 M8 p1 m10 m11 m12 M13 f20 p20 M22 M23 M24 M25))))) H := hP
  have hD : va_D (fun q : Nat => s.heap.size ≤ q) ((wX g a b d fo tp sh (fb (fOn e1 x1 x2 x3) f1) f20 ++ (wF g fo b tr o1 ++ (wLs g b e1 e10 e11 ++ (wLs g tr (u1 301) (u1 310) (u1 311))))) ++ (wLs g d k1 k10 k11 ++ (wT g tp p1 p20 p21 p22 p23 p24 ++ (wSs g sh m10 m11 m12 ++ (wM g am e1 k1 M3 M4 M5 f1 M7 M8 p1 m10 m11 m12 M13 f20 p20 M22 M23 M24 M25))))) := hD
  rw [List.append_assoc, List.append_assoc, List.append_assoc] at hP hD
  obtain rfl : x9 = ab (fOn e1 x1 x2 x3) (iI (aOn e1 x1 x2 x3)) := hw
  have hP : va_P g.1 vwCl (wX g a b d fo tp sh (fb (fOn e1 x1 x2 x3) f1) f20 ++ (wF g fo b tr o1 ++ (wLs g b e1 e10 e11 ++ (wLs g tr (u1 301) (u1 310) (u1 311) ++ (wLs g d k1 k10 k11 ++ (wT g tp p1 p20 p21 p22 p23 p24 ++ (wSs g sh m10 m11 m12 ++ (wM g am e1 k1 M3 M4 M5 f1 M7 M8 p1 m10 m11 m12 M13 f20 p20 M22 M23 M24 M25)))))))) H := hP
  have hD : va_D (fun q : Nat => s.heap.size ≤ q) (wX g a b d fo tp sh (fb (fOn e1 x1 x2 x3) f1) f20 ++ (wF g fo b tr o1 ++ (wLs g b e1 e10 e11 ++ (wLs g tr (u1 301) (u1 310) (u1 311) ++ (wLs g d k1 k10 k11 ++ (wT g tp p1 p20 p21 p22 p23 p24 ++ (wSs g sh m10 m11 m12 ++ (wM g am e1 k1 M3 M4 M5 f1 M7 M8 p1 m10 m11 m12 M13 f20 p20 M22 M23 M24 M25)))))))) := hD
  obtain ⟨hP0, hPr0⟩ := va_P_app.mp hP
  obtain ⟨hP3, hPr1⟩ := va_P_app.mp hPr0
  obtain ⟨hP1, hPr2⟩ := va_P_app.mp hPr1
  obtain ⟨hP4, hPr3⟩ := va_P_app.mp hPr2
  obtain ⟨hP2, hPr4⟩ := va_P_app.mp hPr3
  obtain ⟨hP5, hPr5⟩ := va_P_app.mp hPr4
  obtain ⟨hP6, hP7⟩ := va_P_app.mp hPr5
  refine lv_aload_n hx hb dL_law_644 rfl (lv_at hl 1 rfl) ?_
  refine lv_aload_n hx hb dL_law_645 rfl (lv_at hl 3 rfl) ?_
  refine lv_iload_n hx hb dL_law_646 rfl (lv_at hl 0 rfl) ?_
  refine lv_iconst (v := iI (1)) hx hb dL_law_647 (by decide) ?_
  refine xi_add hx hb dL_law_648 ?_
  refine xs_ld (i := (i9 : Int) + 1) (j := i9 + 1) hx hb hX hbl hbA hS (by omega) (by omega) hL dL_law_649 ?_
  rw [← hx1]
  refine lv_aload_n hx hb dL_law_650 rfl (lv_at hl 3 rfl) ?_
  refine lv_iload_n hx hb dL_law_651 rfl (lv_at hl 0 rfl) ?_
  refine lv_iconst (v := iI (2)) hx hb dL_law_652 (by decide) ?_
  refine xi_add hx hb dL_law_653 ?_
  refine xs_ld (i := (i9 : Int) + 2) (j := i9 + 2) hx hb hX hbl hbA hS (by omega) (by omega) hL dL_law_654 ?_
  rw [← hx2]
  refine lv_aload_n hx hb dL_law_655 rfl (lv_at hl 3 rfl) ?_
  refine lv_iload_n hx hb dL_law_656 rfl (lv_at hl 0 rfl) ?_
  refine lv_iconst (v := iI (3)) hx hb dL_law_657 (by decide) ?_
  refine xi_add hx hb dL_law_658 ?_
  refine xs_ld (i := (i9 : Int) + 3) (j := i9 + 3) hx hb hX hbl hbA hS (by omega) (by omega) hL dL_law_659 ?_
  rw [← hx3]
  have hD : va_D (fun q : Nat => s.heap.size ≤ q) (wX g a b d fo tp sh (fb (fOn e1 x1 x2 x3) f1) f20 ++ (wF g fo b tr o1 ++ (wLs g b e1 e10 e11 ++ (wLs g tr (u1 301) (u1 310) (u1 311) ++ (wLs g d k1 k10 k11 ++ (wT g tp p1 p20 p21 p22 p23 p24 ++ (wM g am e1 k1 M3 M4 M5 f1 M7 M8 p1 m10 m11 m12 M13 f20 p20 M22 M23 M24 M25 ++ (wSs g sh m10 m11 m12)))))))) := D_perm (List.Perm.append_left _ (List.Perm.append_left _ (List.Perm.append_left _ (List.Perm.append_left _ (List.Perm.append_left _ (List.Perm.append_left _ (List.perm_append_comm))))))) hD
  have hD : va_D (fun q : Nat => s.heap.size ≤ q) (wX g a b d fo tp sh (fb (fOn e1 x1 x2 x3) f1) f20 ++ (wF g fo b tr o1 ++ (wLs g b e1 e10 e11 ++ (wLs g tr (u1 301) (u1 310) (u1 311) ++ (wLs g d k1 k10 k11 ++ (wM g am e1 k1 M3 M4 M5 f1 M7 M8 p1 m10 m11 m12 M13 f20 p20 M22 M23 M24 M25 ++ (wT g tp p1 p20 p21 p22 p23 p24 ++ (wSs g sh m10 m11 m12)))))))) := D_perm (List.Perm.append_left _ (List.Perm.append_left _ (List.Perm.append_left _ (List.Perm.append_left _ (List.Perm.append_left _ (List.perm_append_comm_assoc _ _ _)))))) hD
  have hD : va_D (fun q : Nat => s.heap.size ≤ q) (wX g a b d fo tp sh (fb (fOn e1 x1 x2 x3) f1) f20 ++ (wF g fo b tr o1 ++ (wLs g b e1 e10 e11 ++ (wLs g tr (u1 301) (u1 310) (u1 311) ++ (wM g am e1 k1 M3 M4 M5 f1 M7 M8 p1 m10 m11 m12 M13 f20 p20 M22 M23 M24 M25 ++ (wLs g d k1 k10 k11 ++ (wT g tp p1 p20 p21 p22 p23 p24 ++ (wSs g sh m10 m11 m12)))))))) := D_perm (List.Perm.append_left _ (List.Perm.append_left _ (List.Perm.append_left _ (List.Perm.append_left _ (List.perm_append_comm_assoc _ _ _))))) hD
  have hD : va_D (fun q : Nat => s.heap.size ≤ q) (wX g a b d fo tp sh (fb (fOn e1 x1 x2 x3) f1) f20 ++ (wF g fo b tr o1 ++ (wLs g b e1 e10 e11 ++ (wM g am e1 k1 M3 M4 M5 f1 M7 M8 p1 m10 m11 m12 M13 f20 p20 M22 M23 M24 M25 ++ (wLs g tr (u1 301) (u1 310) (u1 311) ++ (wLs g d k1 k10 k11 ++ (wT g tp p1 p20 p21 p22 p23 p24 ++ (wSs g sh m10 m11 m12)))))))) := D_perm (List.Perm.append_left _ (List.Perm.append_left _ (List.Perm.append_left _ (List.perm_append_comm_assoc _ _ _)))) hD
  have hD : va_D (fun q : Nat => s.heap.size ≤ q) (wX g a b d fo tp sh (fb (fOn e1 x1 x2 x3) f1) f20 ++ (wF g fo b tr o1 ++ (wM g am e1 k1 M3 M4 M5 f1 M7 M8 p1 m10 m11 m12 M13 f20 p20 M22 M23 M24 M25 ++ (wLs g b e1 e10 e11 ++ (wLs g tr (u1 301) (u1 310) (u1 311) ++ (wLs g d k1 k10 k11 ++ (wT g tp p1 p20 p21 p22 p23 p24 ++ (wSs g sh m10 m11 m12)))))))) := D_perm (List.Perm.append_left _ (List.Perm.append_left _ (List.perm_append_comm_assoc _ _ _))) hD
  have hD : va_D (fun q : Nat => s.heap.size ≤ q) (wX g a b d fo tp sh (fb (fOn e1 x1 x2 x3) f1) f20 ++ (wM g am e1 k1 M3 M4 M5 f1 M7 M8 p1 m10 m11 m12 M13 f20 p20 M22 M23 M24 M25 ++ (wF g fo b tr o1 ++ (wLs g b e1 e10 e11 ++ (wLs g tr (u1 301) (u1 310) (u1 311) ++ (wLs g d k1 k10 k11 ++ (wT g tp p1 p20 p21 p22 p23 p24 ++ (wSs g sh m10 m11 m12)))))))) := D_perm (List.Perm.append_left _ (List.perm_append_comm_assoc _ _ _)) hD
  have hD : va_D (fun q : Nat => s.heap.size ≤ q) (wM g am e1 k1 M3 M4 M5 f1 M7 M8 p1 m10 m11 m12 M13 f20 p20 M22 M23 M24 M25 ++ (wX g a b d fo tp sh (fb (fOn e1 x1 x2 x3) f1) f20 ++ (wF g fo b tr o1 ++ (wLs g b e1 e10 e11 ++ (wLs g tr (u1 301) (u1 310) (u1 311) ++ (wLs g d k1 k10 k11 ++ (wT g tp p1 p20 p21 p22 p23 p24 ++ (wSs g sh m10 m11 m12)))))))) := D_perm (List.perm_append_comm_assoc _ _ _) hD
  have hP : va_P g.1 vwCl (wM g am e1 k1 M3 M4 M5 f1 M7 M8 p1 m10 m11 m12 M13 f20 p20 M22 M23 M24 M25 ++ (wX g a b d fo tp sh (fb (fOn e1 x1 x2 x3) f1) f20 ++ (wF g fo b tr o1 ++ (wLs g b e1 e10 e11 ++ (wLs g tr (u1 301) (u1 310) (u1 311) ++ (wLs g d k1 k10 k11 ++ (wT g tp p1 p20 p21 p22 p23 p24 ++ (wSs g sh m10 m11 m12)))))))) H := va_P_app.mpr ⟨hP7, va_P_app.mpr ⟨hP0, va_P_app.mpr ⟨hP3, va_P_app.mpr ⟨hP1, va_P_app.mpr ⟨hP4, va_P_app.mpr ⟨hP2, va_P_app.mpr ⟨hP5, hP6⟩⟩⟩⟩⟩⟩⟩
  refine xmF_i (rV (rest := [.int (ab (fOn e1 x1 x2 x3) (iI (aOn e1 x1 x2 x3)))]) hx hb hml hown hts hK hl (c_X5_on l g am e1 k1 M3 M4 M5 f1 M7 M8 p1 m10 m11 m12 M13 f20 p20 M22 M23 M24 M25 x1 x2 x3 H.size (show InvK 0 e1 from hI) (show e1 0 ≤ 9999 from by omega) (show IR x1 from ⟨by omega, by omega⟩) (show IR x2 from ⟨by omega, by omega⟩) (show IR x3 from ⟨by omega, by omega⟩)) lk_L_71 ⟨rfl, hP7, (va_D_app hD).1.weaken (fun _ _ _ _ => trivial)⟩ (va_recv hK.1 hP7 (ci := 5) (q0 := 0) rfl rfl) rfl rfl rfl (Rm.of rfl) rfl rfl dL_law_660) hP hD hS hA (fun x9 u2 H locs hw hP hD hS => ?_)
  obtain rfl : x9 = ab (fOn e1 x1 x2 x3) (iI (aOn e1 x1 x2 x3)) := hw
  have hP : va_P g.1 vwCl (wM g am e1 k1 M3 (u2 4) M5 (fb (fOn e1 x1 x2 x3) f1) (u2 7) M8 p1 m10 m11 m12 M13 f20 p20 M22 M23 M24 M25 ++ (wX g a b d fo tp sh (fb (fOn e1 x1 x2 x3) f1) f20 ++ (wF g fo b tr o1 ++ (wLs g b e1 e10 e11 ++ (wLs g tr (u1 301) (u1 310) (u1 311) ++ (wLs g d k1 k10 k11 ++ (wT g tp p1 p20 p21 p22 p23 p24 ++ (wSs g sh m10 m11 m12)))))))) H := hP
  have hD : va_D (fun q : Nat => s.heap.size ≤ q) (wM g am e1 k1 M3 (u2 4) M5 (fb (fOn e1 x1 x2 x3) f1) (u2 7) M8 p1 m10 m11 m12 M13 f20 p20 M22 M23 M24 M25 ++ (wX g a b d fo tp sh (fb (fOn e1 x1 x2 x3) f1) f20 ++ (wF g fo b tr o1 ++ (wLs g b e1 e10 e11 ++ (wLs g tr (u1 301) (u1 310) (u1 311) ++ (wLs g d k1 k10 k11 ++ (wT g tp p1 p20 p21 p22 p23 p24 ++ (wSs g sh m10 m11 m12)))))))) := hD
  obtain ⟨hP7, hPr0⟩ := va_P_app.mp hP
  obtain ⟨hP0, hPr1⟩ := va_P_app.mp hPr0
  obtain ⟨hP3, hPr2⟩ := va_P_app.mp hPr1
  obtain ⟨hP1, hPr3⟩ := va_P_app.mp hPr2
  obtain ⟨hP4, hPr4⟩ := va_P_app.mp hPr3
  obtain ⟨hP2, hPr5⟩ := va_P_app.mp hPr4
  obtain ⟨hP5, hP6⟩ := va_P_app.mp hPr5
  refine lv_icmp_eq (tgt := 1473) hx hb dL_law_663 (by decide) (fun _ => ?_) (fun z => absurd rfl z)
  have hD : va_D (fun q : Nat => s.heap.size ≤ q) (wX g a b d fo tp sh (fb (fOn e1 x1 x2 x3) f1) f20 ++ (wM g am e1 k1 M3 (u2 4) M5 (fb (fOn e1 x1 x2 x3) f1) (u2 7) M8 p1 m10 m11 m12 M13 f20 p20 M22 M23 M24 M25 ++ (wF g fo b tr o1 ++ (wLs g b e1 e10 e11 ++ (wLs g tr (u1 301) (u1 310) (u1 311) ++ (wLs g d k1 k10 k11 ++ (wT g tp p1 p20 p21 p22 p23 p24 ++ (wSs g sh m10 m11 m12)))))))) := D_perm (List.perm_append_comm_assoc _ _ _) hD
  have hD : va_D (fun q : Nat => s.heap.size ≤ q) (wX g a b d fo tp sh (fb (fOn e1 x1 x2 x3) f1) f20 ++ (wM g am e1 k1 M3 (u2 4) M5 (fb (fOn e1 x1 x2 x3) f1) (u2 7) M8 p1 m10 m11 m12 M13 f20 p20 M22 M23 M24 M25 ++ (wLs g b e1 e10 e11 ++ (wF g fo b tr o1 ++ (wLs g tr (u1 301) (u1 310) (u1 311) ++ (wLs g d k1 k10 k11 ++ (wT g tp p1 p20 p21 p22 p23 p24 ++ (wSs g sh m10 m11 m12)))))))) := D_perm (List.Perm.append_left _ (List.Perm.append_left _ (List.perm_append_comm_assoc _ _ _))) hD
  have hD : va_D (fun q : Nat => s.heap.size ≤ q) (wX g a b d fo tp sh (fb (fOn e1 x1 x2 x3) f1) f20 ++ (wLs g b e1 e10 e11 ++ (wM g am e1 k1 M3 (u2 4) M5 (fb (fOn e1 x1 x2 x3) f1) (u2 7) M8 p1 m10 m11 m12 M13 f20 p20 M22 M23 M24 M25 ++ (wF g fo b tr o1 ++ (wLs g tr (u1 301) (u1 310) (u1 311) ++ (wLs g d k1 k10 k11 ++ (wT g tp p1 p20 p21 p22 p23 p24 ++ (wSs g sh m10 m11 m12)))))))) := D_perm (List.Perm.append_left _ (List.perm_append_comm_assoc _ _ _)) hD
  have hD : va_D (fun q : Nat => s.heap.size ≤ q) (wX g a b d fo tp sh (fb (fOn e1 x1 x2 x3) f1) f20 ++ (wLs g b e1 e10 e11 ++ (wM g am e1 k1 M3 (u2 4) M5 (fb (fOn e1 x1 x2 x3) f1) (u2 7) M8 p1 m10 m11 m12 M13 f20 p20 M22 M23 M24 M25 ++ (wF g fo b tr o1 ++ (wLs g d k1 k10 k11 ++ (wLs g tr (u1 301) (u1 310) (u1 311) ++ (wT g tp p1 p20 p21 p22 p23 p24 ++ (wSs g sh m10 m11 m12)))))))) := D_perm (List.Perm.append_left _ (List.Perm.append_left _ (List.Perm.append_left _ (List.Perm.append_left _ (List.perm_append_comm_assoc _ _ _))))) hD
  have hD : va_D (fun q : Nat => s.heap.size ≤ q) (wX g a b d fo tp sh (fb (fOn e1 x1 x2 x3) f1) f20 ++ (wLs g b e1 e10 e11 ++ (wM g am e1 k1 M3 (u2 4) M5 (fb (fOn e1 x1 x2 x3) f1) (u2 7) M8 p1 m10 m11 m12 M13 f20 p20 M22 M23 M24 M25 ++ (wLs g d k1 k10 k11 ++ (wF g fo b tr o1 ++ (wLs g tr (u1 301) (u1 310) (u1 311) ++ (wT g tp p1 p20 p21 p22 p23 p24 ++ (wSs g sh m10 m11 m12)))))))) := D_perm (List.Perm.append_left _ (List.Perm.append_left _ (List.Perm.append_left _ (List.perm_append_comm_assoc _ _ _)))) hD
  have hD : va_D (fun q : Nat => s.heap.size ≤ q) (wX g a b d fo tp sh (fb (fOn e1 x1 x2 x3) f1) f20 ++ (wLs g b e1 e10 e11 ++ (wLs g d k1 k10 k11 ++ (wM g am e1 k1 M3 (u2 4) M5 (fb (fOn e1 x1 x2 x3) f1) (u2 7) M8 p1 m10 m11 m12 M13 f20 p20 M22 M23 M24 M25 ++ (wF g fo b tr o1 ++ (wLs g tr (u1 301) (u1 310) (u1 311) ++ (wT g tp p1 p20 p21 p22 p23 p24 ++ (wSs g sh m10 m11 m12)))))))) := D_perm (List.Perm.append_left _ (List.Perm.append_left _ (List.perm_append_comm_assoc _ _ _))) hD
  have hD : va_D (fun q : Nat => s.heap.size ≤ q) (wX g a b d fo tp sh (fb (fOn e1 x1 x2 x3) f1) f20 ++ (wLs g b e1 e10 e11 ++ (wLs g d k1 k10 k11 ++ (wF g fo b tr o1 ++ (wM g am e1 k1 M3 (u2 4) M5 (fb (fOn e1 x1 x2 x3) f1) (u2 7) M8 p1 m10 m11 m12 M13 f20 p20 M22 M23 M24 M25 ++ (wLs g tr (u1 301) (u1 310) (u1 311) ++ (wT g tp p1 p20 p21 p22 p23 p24 ++ (wSs g sh m10 m11 m12)))))))) := D_perm (List.Perm.append_left _ (List.Perm.append_left _ (List.Perm.append_left _ (List.perm_append_comm_assoc _ _ _)))) hD
  have hD : va_D (fun q : Nat => s.heap.size ≤ q) (wX g a b d fo tp sh (fb (fOn e1 x1 x2 x3) f1) f20 ++ (wLs g b e1 e10 e11 ++ (wLs g d k1 k10 k11 ++ (wF g fo b tr o1 ++ (wLs g tr (u1 301) (u1 310) (u1 311) ++ (wM g am e1 k1 M3 (u2 4) M5 (fb (fOn e1 x1 x2 x3) f1) (u2 7) M8 p1 m10 m11 m12 M13 f20 p20 M22 M23 M24 M25 ++ (wT g tp p1 p20 p21 p22 p23 p24 ++ (wSs g sh m10 m11 m12)))))))) := D_perm (List.Perm.append_left _ (List.Perm.append_left _ (List.Perm.append_left _ (List.Perm.append_left _ (List.perm_append_comm_assoc _ _ _))))) hD
  have hD : va_D (fun q : Nat => s.heap.size ≤ q) (wX g a b d fo tp sh (fb (fOn e1 x1 x2 x3) f1) f20 ++ (wLs g b e1 e10 e11 ++ (wLs g d k1 k10 k11 ++ (wF g fo b tr o1 ++ (wLs g tr (u1 301) (u1 310) (u1 311) ++ (wT g tp p1 p20 p21 p22 p23 p24 ++ (wM g am e1 k1 M3 (u2 4) M5 (fb (fOn e1 x1 x2 x3) f1) (u2 7) M8 p1 m10 m11 m12 M13 f20 p20 M22 M23 M24 M25 ++ (wSs g sh m10 m11 m12)))))))) := D_perm (List.Perm.append_left _ (List.Perm.append_left _ (List.Perm.append_left _ (List.Perm.append_left _ (List.Perm.append_left _ (List.perm_append_comm_assoc _ _ _)))))) hD
  have hD : va_D (fun q : Nat => s.heap.size ≤ q) (wX g a b d fo tp sh (fb (fOn e1 x1 x2 x3) f1) f20 ++ (wLs g b e1 e10 e11 ++ (wLs g d k1 k10 k11 ++ (wF g fo b tr o1 ++ (wLs g tr (u1 301) (u1 310) (u1 311) ++ (wT g tp p1 p20 p21 p22 p23 p24 ++ (wSs g sh m10 m11 m12 ++ (wM g am e1 k1 M3 (u2 4) M5 (fb (fOn e1 x1 x2 x3) f1) (u2 7) M8 p1 m10 m11 m12 M13 f20 p20 M22 M23 M24 M25)))))))) := D_perm (List.Perm.append_left _ (List.Perm.append_left _ (List.Perm.append_left _ (List.Perm.append_left _ (List.Perm.append_left _ (List.Perm.append_left _ (List.perm_append_comm))))))) hD
  have hP : va_P g.1 vwCl (wX g a b d fo tp sh (fb (fOn e1 x1 x2 x3) f1) f20 ++ (wLs g b e1 e10 e11 ++ (wLs g d k1 k10 k11 ++ (wF g fo b tr o1 ++ (wLs g tr (u1 301) (u1 310) (u1 311) ++ (wT g tp p1 p20 p21 p22 p23 p24 ++ (wSs g sh m10 m11 m12 ++ (wM g am e1 k1 M3 (u2 4) M5 (fb (fOn e1 x1 x2 x3) f1) (u2 7) M8 p1 m10 m11 m12 M13 f20 p20 M22 M23 M24 M25)))))))) H := va_P_app.mpr ⟨hP0, va_P_app.mpr ⟨hP1, va_P_app.mpr ⟨hP2, va_P_app.mpr ⟨hP3, va_P_app.mpr ⟨hP4, va_P_app.mpr ⟨hP5, va_P_app.mpr ⟨hP6, hP7⟩⟩⟩⟩⟩⟩⟩
  exact K (fun k => ([(fb (fOn e1 x1 x2 x3) f1), (fun _ => f20), e1, e10, e11, k1, k10, k11, o1, (u1 301), (u1 310), (u1 311), p1, (fun _ => p20), (fun _ => p21), (fun _ => p22), (fun _ => p23), (fun _ => p24), m10, m11, m12, M3, (u2 4), M5, (u2 7), M8, M13, (fun _ => M22), (fun _ => M23), (fun _ => M24), (fun _ => M25)] : List (Int → Int)).getD k z0) H locs (show LVx e1 k1 f20 p1 p20 m10 m11 m12 M24 from ⟨hIe, hIk, hkp, hHB, hpz, hSS, hLR, hvz⟩) hP hD hS

set_option maxRecDepth 100000 in
set_option maxHeartbeats 4000000 in
theorem lc_14 {p : Program} {l : Launch} {e : Env} {s : State} {m : MethodId} {below : List Frame} {meth : Method} {c : Code} {g : Gd} {σ : Sg} {bs L : Nat} {xs : Nat → Int32} {Q : State → Prop} (hL : L ≤ 3072) (hC : LCx g σ p s m c bs L xs) (a b d fo tr tp sh am : Nat → Nat) (f1 e1 e10 e11 k1 k10 k11 o1 t1 t10 t11 p1 m10 m11 m12 M3 M4 M5 M7 M8 M13 : Int → Int) (f20 p20 p21 p22 p23 p24 M22 M23 M24 M25 : Int) (hV : LVx e1 k1 f20 p1 p20 m10 m11 m12 M24) {i9 : Nat} (hi9 : i9 + 6 ≤ L) {ls : Array Slot} (hl : lv_has ls 4 [(3, .int (iI (i9 : Int))), (2, .ref (am 0)), (1, .ref (a 0)), (0, .ref bs)]) {H : Heap} {locs : List Loc} (hP : va_P g.1 vwCl (wX g a b d fo tp sh f1 f20 ++ (wLs g b e1 e10 e11 ++ (wLs g d k1 k10 k11 ++ (wF g fo b tr o1 ++ (wLs g tr t1 t10 t11 ++ (wT g tp p1 p20 p21 p22 p23 p24 ++ (wSs g sh m10 m11 m12 ++ (wM g am e1 k1 M3 M4 M5 f1 M7 M8 p1 m10 m11 m12 M13 f20 p20 M22 M23 M24 M25)))))))) H) (hD : va_D (fun q : Nat => s.heap.size ≤ q) (wX g a b d fo tp sh f1 f20 ++ (wLs g b e1 e10 e11 ++ (wLs g d k1 k10 k11 ++ (wF g fo b tr o1 ++ (wLs g tr t1 t10 t11 ++ (wT g tp p1 p20 p21 p22 p23 p24 ++ (wSs g sh m10 m11 m12 ++ (wM g am e1 k1 M3 M4 M5 f1 M7 M8 p1 m10 m11 m12 M13 f20 p20 M22 M23 M24 M25))))))))) (hS : va_S (fun q : Nat => s.heap.size ≤ q) s.heap H locs) (K : ∀ (u : Nat → Int → Int) (H : Heap) (locs : List Loc), LV u → va_P g.1 vwCl (LW g (fun k => ([a, b, d, fo, tr, tp, sh, am] : List (Nat → Nat)).getD k a) u) H → va_D (fun q : Nat => s.heap.size ≤ q) (LW g (fun k => ([a, b, d, fo, tr, tp, sh, am] : List (Nat → Nat)).getD k a) u) → va_S (fun q : Nat => s.heap.size ≤ q) s.heap H locs → W p l e room_1 s m #[Value.ref bs] below meth c H locs 65 1678 Q (F0 m 1473 ls [])) : W p l e room_1 s m #[Value.ref bs] below meth c H locs 65 1678 Q (F0 m 668 ls []) := by
  obtain ⟨hx, hb, hml, hown, hts, hK, hX, hbl, hSB⟩ := hC
  have hbA : ¬ (fun q : Nat => s.heap.size ≤ q) bs := Nat.not_le.mpr hbl
  have hA : ∀ q : Nat, s.heap.size ≤ q → (fun q : Nat => s.heap.size ≤ q) q := fun _ h => h
  obtain ⟨hIe, hIk, hkp, hHB, hpz, hSS, hLR, hvz⟩ := hV
  have hI := hIe.1
  have hs9 := hIe.2
  obtain ⟨x1, hx1⟩ : ∃ x : Int, x = (xs (i9 + 1)).toInt := ⟨_, rfl⟩
  have ha1a : -2147483648 ≤ x1 := by rw [hx1]; exact (IR_of _).1
  have ha1b : x1 ≤ 2147483647 := by rw [hx1]; exact (IR_of _).2
  obtain ⟨x2, hx2⟩ : ∃ x : Int, x = (xs (i9 + 2)).toInt := ⟨_, rfl⟩
  have ha2a : -2147483648 ≤ x2 := by rw [hx2]; exact (IR_of _).1
  have ha2b : x2 ≤ 2147483647 := by rw [hx2]; exact (IR_of _).2
  obtain ⟨x3, hx3⟩ : ∃ x : Int, x = (xs (i9 + 3)).toInt := ⟨_, rfl⟩
  have ha3a : -2147483648 ≤ x3 := by rw [hx3]; exact (IR_of _).1
  have ha3b : x3 ≤ 2147483647 := by rw [hx3]; exact (IR_of _).2
  obtain ⟨x4, hx4⟩ : ∃ x : Int, x = (xs (i9 + 4)).toInt := ⟨_, rfl⟩
  have ha4a : -2147483648 ≤ x4 := by rw [hx4]; exact (IR_of _).1
  have ha4b : x4 ≤ 2147483647 := by rw [hx4]; exact (IR_of _).2
  obtain ⟨x5, hx5⟩ : ∃ x : Int, x = (xs (i9 + 5)).toInt := ⟨_, rfl⟩
  have ha5a : -2147483648 ≤ x5 := by rw [hx5]; exact (IR_of _).1
  have ha5b : x5 ≤ 2147483647 := by rw [hx5]; exact (IR_of _).2
  obtain ⟨hP0, hPr0⟩ := va_P_app.mp hP
  obtain ⟨hP1, hPr1⟩ := va_P_app.mp hPr0
  obtain ⟨hP2, hPr2⟩ := va_P_app.mp hPr1
  obtain ⟨hP3, hPr3⟩ := va_P_app.mp hPr2
  obtain ⟨hP4, hPr4⟩ := va_P_app.mp hPr3
  obtain ⟨hP5, hPr5⟩ := va_P_app.mp hPr4
  obtain ⟨hP6, hP7⟩ := va_P_app.mp hPr5
  refine lv_aload_n hx hb dL_law_668 rfl (lv_at hl 2 rfl) ?_
  refine lv_aload_n hx hb dL_law_669 rfl (lv_at hl 3 rfl) ?_
  refine lv_iload_n hx hb dL_law_670 rfl (lv_at hl 0 rfl) ?_
  refine lv_iconst (v := iI (1)) hx hb dL_law_671 (by decide) ?_
  refine xi_add hx hb dL_law_672 ?_
  refine xs_ld (i := (i9 : Int) + 1) (j := i9 + 1) hx hb hX hbl hbA hS (by omega) (by omega) hL dL_law_673 ?_
  rw [← hx1]
  refine lv_aload_n hx hb dL_law_674 rfl (lv_at hl 3 rfl) ?_
  refine lv_iload_n hx hb dL_law_675 rfl (lv_at hl 0 rfl) ?_
  refine lv_iconst (v := iI (2)) hx hb dL_law_676 (by decide) ?_
  refine xi_add hx hb dL_law_677 ?_
  refine xs_ld (i := (i9 : Int) + 2) (j := i9 + 2) hx hb hX hbl hbA hS (by omega) (by omega) hL dL_law_678 ?_
  rw [← hx2]
  have hD : va_D (fun q : Nat => s.heap.size ≤ q) (wX g a b d fo tp sh f1 f20 ++ (wLs g b e1 e10 e11 ++ (wF g fo b tr o1 ++ (wLs g d k1 k10 k11 ++ (wLs g tr t1 t10 t11 ++ (wT g tp p1 p20 p21 p22 p23 p24 ++ (wSs g sh m10 m11 m12 ++ (wM g am e1 k1 M3 M4 M5 f1 M7 M8 p1 m10 m11 m12 M13 f20 p20 M22 M23 M24 M25)))))))) := D_perm (List.Perm.append_left _ (List.Perm.append_left _ (List.perm_append_comm_assoc _ _ _))) hD
  have hD : va_D (fun q : Nat => s.heap.size ≤ q) (wX g a b d fo tp sh f1 f20 ++ (wF g fo b tr o1 ++ (wLs g b e1 e10 e11 ++ (wLs g d k1 k10 k11 ++ (wLs g tr t1 t10 t11 ++ (wT g tp p1 p20 p21 p22 p23 p24 ++ (wSs g sh m10 m11 m12 ++ (wM g am e1 k1 M3 M4 M5 f1 M7 M8 p1 m10 m11 m12 M13 f20 p20 M22 M23 M24 M25)))))))) := D_perm (List.Perm.append_left _ (List.perm_append_comm_assoc _ _ _)) hD
  have hD : va_D (fun q : Nat => s.heap.size ≤ q) (wX g a b d fo tp sh f1 f20 ++ (wF g fo b tr o1 ++ (wLs g b e1 e10 e11 ++ (wLs g tr t1 t10 t11 ++ (wLs g d k1 k10 k11 ++ (wT g tp p1 p20 p21 p22 p23 p24 ++ (wSs g sh m10 m11 m12 ++ (wM g am e1 k1 M3 M4 M5 f1 M7 M8 p1 m10 m11 m12 M13 f20 p20 M22 M23 M24 M25)))))))) := D_perm (List.Perm.append_left _ (List.Perm.append_left _ (List.Perm.append_left _ (List.perm_append_comm_assoc _ _ _)))) hD
  have hP : va_P g.1 vwCl (wX g a b d fo tp sh f1 f20 ++ (wF g fo b tr o1 ++ (wLs g b e1 e10 e11 ++ (wLs g tr t1 t10 t11 ++ (wLs g d k1 k10 k11 ++ (wT g tp p1 p20 p21 p22 p23 p24 ++ (wSs g sh m10 m11 m12 ++ (wM g am e1 k1 M3 M4 M5 f1 M7 M8 p1 m10 m11 m12 M13 f20 p20 M22 M23 M24 M25)))))))) H := va_P_app.mpr ⟨hP0, va_P_app.mpr ⟨hP3, va_P_app.mpr ⟨hP1, va_P_app.mpr ⟨hP4, va_P_app.mpr ⟨hP2, va_P_app.mpr ⟨hP5, va_P_app.mpr ⟨hP6, hP7⟩⟩⟩⟩⟩⟩⟩
  have hP : va_P g.1 vwCl ((wX g a b d fo tp sh f1 f20 ++ (wF g fo b tr o1 ++ (wLs g b e1 e10 e11 ++ (wLs g tr t1 t10 t11)))) ++ (wLs g d k1 k10 k11 ++ (wT g tp p1 p20 p21 p22 p23 p24 ++ (wSs g sh m10 m11 m12 ++ (wM g am e1 k1 M3 M4 M5 f1 M7 M8 p1 m10 m11 m12 M13 f20 p20 M22 M23 M24 M25))))) H := by rw [List.append_assoc, List.append_assoc, List.append_assoc]; exact hP
  have hD : va_D (fun q : Nat => s.heap.size ≤ q) ((wX g a b d fo tp sh f1 f20 ++ (wF g fo b tr o1 ++ (wLs g b e1 e10 e11 ++ (wLs g tr t1 t10 t11)))) ++ (wLs g d k1 k10 k11 ++ (wT g tp p1 p20 p21 p22 p23 p24 ++ (wSs g sh m10 m11 m12 ++ (wM g am e1 k1 M3 M4 M5 f1 M7 M8 p1 m10 m11 m12 M13 f20 p20 M22 M23 M24 M25))))) := by rw [List.append_assoc, List.append_assoc, List.append_assoc]; exact hD
  refine xmF_i (rV (rest := []) hx hb hml hown hts hK hl (c_X4_when l g d tp sh a f1 f20 fo o1 b e1 e10 e11 tr t1 t10 t11 x1 x2 H.size (show InvK 0 e1 from hI) (show e1 0 ≤ 9999 from by omega) (show IR x1 from ⟨by omega, by omega⟩) (show IR x2 from ⟨by omega, by omega⟩)) lk_L_72 ⟨rfl, (va_P_app.mp hP).1, (va_D_app hD).1.weaken (fun _ _ _ _ => trivial)⟩ (va_recv hK.1 hP0 (ci := 4) (q0 := 0) rfl rfl) rfl rfl rfl (Rm.of rfl) rfl rfl dL_law_679) hP hD hS hA (fun x9 u1 H locs hw hP hD hS => ?_)
  have hP : va_P g.1 vwCl ((wX g a b d fo tp sh (fb (fWhen e1 x1 x2) f1) f20 ++ (wF g fo b tr o1 ++ (wLs g b e1 e10 e11 ++ (wLs g tr (u1 301) (u1 310) (u1 311))))) ++ (wLs g d k1 k10 k11 ++ (wT g tp p1 p20 p21 p22 p23 p24 ++ (wSs g sh m10 m11 m12 ++ (wM g am e1 k1 M3 M4 M5 f1 M7 M8 p1 m10 m11 m12 M13 f20 p20 M22 M23 M24 M25))))) H := hP
  have hD : va_D (fun q : Nat => s.heap.size ≤ q) ((wX g a b d fo tp sh (fb (fWhen e1 x1 x2) f1) f20 ++ (wF g fo b tr o1 ++ (wLs g b e1 e10 e11 ++ (wLs g tr (u1 301) (u1 310) (u1 311))))) ++ (wLs g d k1 k10 k11 ++ (wT g tp p1 p20 p21 p22 p23 p24 ++ (wSs g sh m10 m11 m12 ++ (wM g am e1 k1 M3 M4 M5 f1 M7 M8 p1 m10 m11 m12 M13 f20 p20 M22 M23 M24 M25))))) := hD
  rw [List.append_assoc, List.append_assoc, List.append_assoc] at hP hD
  obtain rfl : x9 = ab (fWhen e1 x1 x2) (iI (fsT (whP e1 x1 x2) 81 0 : Int)) := hw
  have hP : va_P g.1 vwCl (wX g a b d fo tp sh (fb (fWhen e1 x1 x2) f1) f20 ++ (wF g fo b tr o1 ++ (wLs g b e1 e10 e11 ++ (wLs g tr (u1 301) (u1 310) (u1 311) ++ (wLs g d k1 k10 k11 ++ (wT g tp p1 p20 p21 p22 p23 p24 ++ (wSs g sh m10 m11 m12 ++ (wM g am e1 k1 M3 M4 M5 f1 M7 M8 p1 m10 m11 m12 M13 f20 p20 M22 M23 M24 M25)))))))) H := hP
  have hD : va_D (fun q : Nat => s.heap.size ≤ q) (wX g a b d fo tp sh (fb (fWhen e1 x1 x2) f1) f20 ++ (wF g fo b tr o1 ++ (wLs g b e1 e10 e11 ++ (wLs g tr (u1 301) (u1 310) (u1 311) ++ (wLs g d k1 k10 k11 ++ (wT g tp p1 p20 p21 p22 p23 p24 ++ (wSs g sh m10 m11 m12 ++ (wM g am e1 k1 M3 M4 M5 f1 M7 M8 p1 m10 m11 m12 M13 f20 p20 M22 M23 M24 M25)))))))) := hD
  obtain ⟨hP0, hPr0⟩ := va_P_app.mp hP
  obtain ⟨hP3, hPr1⟩ := va_P_app.mp hPr0
  obtain ⟨hP1, hPr2⟩ := va_P_app.mp hPr1
  obtain ⟨hP4, hPr3⟩ := va_P_app.mp hPr2
  obtain ⟨hP2, hPr4⟩ := va_P_app.mp hPr3
  obtain ⟨hP5, hPr5⟩ := va_P_app.mp hPr4
  obtain ⟨hP6, hP7⟩ := va_P_app.mp hPr5
  refine lv_aload_n hx hb dL_law_682 rfl (lv_at hl 1 rfl) ?_
  refine lv_aload_n hx hb dL_law_683 rfl (lv_at hl 3 rfl) ?_
  refine lv_iload_n hx hb dL_law_684 rfl (lv_at hl 0 rfl) ?_
  refine lv_iconst (v := iI (1)) hx hb dL_law_685 (by decide) ?_
  refine xi_add hx hb dL_law_686 ?_
  refine xs_ld (i := (i9 : Int) + 1) (j := i9 + 1) hx hb hX hbl hbA hS (by omega) (by omega) hL dL_law_687 ?_
  rw [← hx1]
  refine lv_aload_n hx hb dL_law_688 rfl (lv_at hl 3 rfl) ?_
  refine lv_iload_n hx hb dL_law_689 rfl (lv_at hl 0 rfl) ?_
  refine lv_iconst (v := iI (2)) hx hb dL_law_690 (by decide) ?_
  refine xi_add hx hb dL_law_691 ?_
  refine xs_ld (i := (i9 : Int) + 2) (j := i9 + 2) hx hb hX hbl hbA hS (by omega) (by omega) hL dL_law_692 ?_
  rw [← hx2]
  have hD : va_D (fun q : Nat => s.heap.size ≤ q) (wX g a b d fo tp sh (fb (fWhen e1 x1 x2) f1) f20 ++ (wF g fo b tr o1 ++ (wLs g b e1 e10 e11 ++ (wLs g tr (u1 301) (u1 310) (u1 311) ++ (wLs g d k1 k10 k11 ++ (wT g tp p1 p20 p21 p22 p23 p24 ++ (wM g am e1 k1 M3 M4 M5 f1 M7 M8 p1 m10 m11 m12 M13 f20 p20 M22 M23 M24 M25 ++ (wSs g sh m10 m11 m12)))))))) := D_perm (List.Perm.append_left _ (List.Perm.append_left _ (List.Perm.append_left _ (List.Perm.append_left _ (List.Perm.append_left _ (List.Perm.append_left _ (List.perm_append_comm))))))) hD
  have hD : va_D (fun q : Nat => s.heap.size ≤ q) (wX g a b d fo tp sh (fb (fWhen e1 x1 x2) f1) f20 ++ (wF g fo b tr o1 ++ (wLs g b e1 e10 e11 ++ (wLs g tr (u1 301) (u1 310) (u1 311) ++ (wLs g d k1 k10 k11 ++ (wM g am e1 k1 M3 M4 M5 f1 M7 M8 p1 m10 m11 m12 M13 f20 p20 M22 M23 M24 M25 ++ (wT g tp p1 p20 p21 p22 p23 p24 ++ (wSs g sh m10 m11 m12)))))))) := D_perm (List.Perm.append_left _ (List.Perm.append_left _ (List.Perm.append_left _ (List.Perm.append_left _ (List.Perm.append_left _ (List.perm_append_comm_assoc _ _ _)))))) hD
  have hD : va_D (fun q : Nat => s.heap.size ≤ q) (wX g a b d fo tp sh (fb (fWhen e1 x1 x2) f1) f20 ++ (wF g fo b tr o1 ++ (wLs g b e1 e10 e11 ++ (wLs g tr (u1 301) (u1 310) (u1 311) ++ (wM g am e1 k1 M3 M4 M5 f1 M7 M8 p1 m10 m11 m12 M13 f20 p20 M22 M23 M24 M25 ++ (wLs g d k1 k10 k11 ++ (wT g tp p1 p20 p21 p22 p23 p24 ++ (wSs g sh m10 m11 m12)))))))) := D_perm (List.Perm.append_left _ (List.Perm.append_left _ (List.Perm.append_left _ (List.Perm.append_left _ (List.perm_append_comm_assoc _ _ _))))) hD
  have hD : va_D (fun q : Nat => s.heap.size ≤ q) (wX g a b d fo tp sh (fb (fWhen e1 x1 x2) f1) f20 ++ (wF g fo b tr o1 ++ (wLs g b e1 e10 e11 ++ (wM g am e1 k1 M3 M4 M5 f1 M7 M8 p1 m10 m11 m12 M13 f20 p20 M22 M23 M24 M25 ++ (wLs g tr (u1 301) (u1 310) (u1 311) ++ (wLs g d k1 k10 k11 ++ (wT g tp p1 p20 p21 p22 p23 p24 ++ (wSs g sh m10 m11 m12)))))))) := D_perm (List.Perm.append_left _ (List.Perm.append_left _ (List.Perm.append_left _ (List.perm_append_comm_assoc _ _ _)))) hD
  have hD : va_D (fun q : Nat => s.heap.size ≤ q) (wX g a b d fo tp sh (fb (fWhen e1 x1 x2) f1) f20 ++ (wF g fo b tr o1 ++ (wM g am e1 k1 M3 M4 M5 f1 M7 M8 p1 m10 m11 m12 M13 f20 p20 M22 M23 M24 M25 ++ (wLs g b e1 e10 e11 ++ (wLs g tr (u1 301) (u1 310) (u1 311) ++ (wLs g d k1 k10 k11 ++ (wT g tp p1 p20 p21 p22 p23 p24 ++ (wSs g sh m10 m11 m12)))))))) := D_perm (List.Perm.append_left _ (List.Perm.append_left _ (List.perm_append_comm_assoc _ _ _))) hD
  have hD : va_D (fun q : Nat => s.heap.size ≤ q) (wX g a b d fo tp sh (fb (fWhen e1 x1 x2) f1) f20 ++ (wM g am e1 k1 M3 M4 M5 f1 M7 M8 p1 m10 m11 m12 M13 f20 p20 M22 M23 M24 M25 ++ (wF g fo b tr o1 ++ (wLs g b e1 e10 e11 ++ (wLs g tr (u1 301) (u1 310) (u1 311) ++ (wLs g d k1 k10 k11 ++ (wT g tp p1 p20 p21 p22 p23 p24 ++ (wSs g sh m10 m11 m12)))))))) := D_perm (List.Perm.append_left _ (List.perm_append_comm_assoc _ _ _)) hD
  have hD : va_D (fun q : Nat => s.heap.size ≤ q) (wM g am e1 k1 M3 M4 M5 f1 M7 M8 p1 m10 m11 m12 M13 f20 p20 M22 M23 M24 M25 ++ (wX g a b d fo tp sh (fb (fWhen e1 x1 x2) f1) f20 ++ (wF g fo b tr o1 ++ (wLs g b e1 e10 e11 ++ (wLs g tr (u1 301) (u1 310) (u1 311) ++ (wLs g d k1 k10 k11 ++ (wT g tp p1 p20 p21 p22 p23 p24 ++ (wSs g sh m10 m11 m12)))))))) := D_perm (List.perm_append_comm_assoc _ _ _) hD
  have hP : va_P g.1 vwCl (wM g am e1 k1 M3 M4 M5 f1 M7 M8 p1 m10 m11 m12 M13 f20 p20 M22 M23 M24 M25 ++ (wX g a b d fo tp sh (fb (fWhen e1 x1 x2) f1) f20 ++ (wF g fo b tr o1 ++ (wLs g b e1 e10 e11 ++ (wLs g tr (u1 301) (u1 310) (u1 311) ++ (wLs g d k1 k10 k11 ++ (wT g tp p1 p20 p21 p22 p23 p24 ++ (wSs g sh m10 m11 m12)))))))) H := va_P_app.mpr ⟨hP7, va_P_app.mpr ⟨hP0, va_P_app.mpr ⟨hP3, va_P_app.mpr ⟨hP1, va_P_app.mpr ⟨hP4, va_P_app.mpr ⟨hP2, va_P_app.mpr ⟨hP5, hP6⟩⟩⟩⟩⟩⟩⟩
  refine xmF_i (rV (rest := [.int (ab (fWhen e1 x1 x2) (iI (fsT (whP e1 x1 x2) 81 0 : Int)))]) hx hb hml hown hts hK hl (c_X5_when l g am e1 k1 M3 M4 M5 f1 M7 M8 p1 m10 m11 m12 M13 f20 p20 M22 M23 M24 M25 x1 x2 H.size (show InvK 0 e1 from hI) (show e1 0 ≤ 9999 from by omega) (show IR x1 from ⟨by omega, by omega⟩) (show IR x2 from ⟨by omega, by omega⟩)) lk_L_75 ⟨rfl, hP7, (va_D_app hD).1.weaken (fun _ _ _ _ => trivial)⟩ (va_recv hK.1 hP7 (ci := 5) (q0 := 0) rfl rfl) rfl rfl rfl (Rm.of rfl) rfl rfl dL_law_693) hP hD hS hA (fun x9 u2 H locs hw hP hD hS => ?_)
  obtain rfl : x9 = ab (fWhen e1 x1 x2) (iI (fsT (whP e1 x1 x2) 81 0 : Int)) := hw
  have hP : va_P g.1 vwCl (wM g am e1 k1 M3 (u2 4) M5 (fb (fWhen e1 x1 x2) f1) (u2 7) M8 p1 m10 m11 m12 M13 f20 p20 M22 M23 M24 M25 ++ (wX g a b d fo tp sh (fb (fWhen e1 x1 x2) f1) f20 ++ (wF g fo b tr o1 ++ (wLs g b e1 e10 e11 ++ (wLs g tr (u1 301) (u1 310) (u1 311) ++ (wLs g d k1 k10 k11 ++ (wT g tp p1 p20 p21 p22 p23 p24 ++ (wSs g sh m10 m11 m12)))))))) H := hP
  have hD : va_D (fun q : Nat => s.heap.size ≤ q) (wM g am e1 k1 M3 (u2 4) M5 (fb (fWhen e1 x1 x2) f1) (u2 7) M8 p1 m10 m11 m12 M13 f20 p20 M22 M23 M24 M25 ++ (wX g a b d fo tp sh (fb (fWhen e1 x1 x2) f1) f20 ++ (wF g fo b tr o1 ++ (wLs g b e1 e10 e11 ++ (wLs g tr (u1 301) (u1 310) (u1 311) ++ (wLs g d k1 k10 k11 ++ (wT g tp p1 p20 p21 p22 p23 p24 ++ (wSs g sh m10 m11 m12)))))))) := hD
  obtain ⟨hP7, hPr0⟩ := va_P_app.mp hP
  obtain ⟨hP0, hPr1⟩ := va_P_app.mp hPr0
  obtain ⟨hP3, hPr2⟩ := va_P_app.mp hPr1
  obtain ⟨hP1, hPr3⟩ := va_P_app.mp hPr2
  obtain ⟨hP4, hPr4⟩ := va_P_app.mp hPr3
  obtain ⟨hP2, hPr5⟩ := va_P_app.mp hPr4
  obtain ⟨hP5, hP6⟩ := va_P_app.mp hPr5
  refine lv_icmp_eq (tgt := 1473) hx hb dL_law_696 (by decide) (fun _ => ?_) (fun z => absurd rfl z)
  have hD : va_D (fun q : Nat => s.heap.size ≤ q) (wX g a b d fo tp sh (fb (fWhen e1 x1 x2) f1) f20 ++ (wM g am e1 k1 M3 (u2 4) M5 (fb (fWhen e1 x1 x2) f1) (u2 7) M8 p1 m10 m11 m12 M13 f20 p20 M22 M23 M24 M25 ++ (wF g fo b tr o1 ++ (wLs g b e1 e10 e11 ++ (wLs g tr (u1 301) (u1 310) (u1 311) ++ (wLs g d k1 k10 k11 ++ (wT g tp p1 p20 p21 p22 p23 p24 ++ (wSs g sh m10 m11 m12)))))))) := D_perm (List.perm_append_comm_assoc _ _ _) hD
  have hD : va_D (fun q : Nat => s.heap.size ≤ q) (wX g a b d fo tp sh (fb (fWhen e1 x1 x2) f1) f20 ++ (wM g am e1 k1 M3 (u2 4) M5 (fb (fWhen e1 x1 x2) f1) (u2 7) M8 p1 m10 m11 m12 M13 f20 p20 M22 M23 M24 M25 ++ (wLs g b e1 e10 e11 ++ (wF g fo b tr o1 ++ (wLs g tr (u1 301) (u1 310) (u1 311) ++ (wLs g d k1 k10 k11 ++ (wT g tp p1 p20 p21 p22 p23 p24 ++ (wSs g sh m10 m11 m12)))))))) := D_perm (List.Perm.append_left _ (List.Perm.append_left _ (List.perm_append_comm_assoc _ _ _))) hD
  have hD : va_D (fun q : Nat => s.heap.size ≤ q) (wX g a b d fo tp sh (fb (fWhen e1 x1 x2) f1) f20 ++ (wLs g b e1 e10 e11 ++ (wM g am e1 k1 M3 (u2 4) M5 (fb (fWhen e1 x1 x2) f1) (u2 7) M8 p1 m10 m11 m12 M13 f20 p20 M22 M23 M24 M25 ++ (wF g fo b tr o1 ++ (wLs g tr (u1 301) (u1 310) (u1 311) ++ (wLs g d k1 k10 k11 ++ (wT g tp p1 p20 p21 p22 p23 p24 ++ (wSs g sh m10 m11 m12)))))))) := D_perm (List.Perm.append_left _ (List.perm_append_comm_assoc _ _ _)) hD
  have hD : va_D (fun q : Nat => s.heap.size ≤ q) (wX g a b d fo tp sh (fb (fWhen e1 x1 x2) f1) f20 ++ (wLs g b e1 e10 e11 ++ (wM g am e1 k1 M3 (u2 4) M5 (fb (fWhen e1 x1 x2) f1) (u2 7) M8 p1 m10 m11 m12 M13 f20 p20 M22 M23 M24 M25 ++ (wF g fo b tr o1 ++ (wLs g d k1 k10 k11 ++ (wLs g tr (u1 301) (u1 310) (u1 311) ++ (wT g tp p1 p20 p21 p22 p23 p24 ++ (wSs g sh m10 m11 m12)))))))) := D_perm (List.Perm.append_left _ (List.Perm.append_left _ (List.Perm.append_left _ (List.Perm.append_left _ (List.perm_append_comm_assoc _ _ _))))) hD
  have hD : va_D (fun q : Nat => s.heap.size ≤ q) (wX g a b d fo tp sh (fb (fWhen e1 x1 x2) f1) f20 ++ (wLs g b e1 e10 e11 ++ (wM g am e1 k1 M3 (u2 4) M5 (fb (fWhen e1 x1 x2) f1) (u2 7) M8 p1 m10 m11 m12 M13 f20 p20 M22 M23 M24 M25 ++ (wLs g d k1 k10 k11 ++ (wF g fo b tr o1 ++ (wLs g tr (u1 301) (u1 310) (u1 311) ++ (wT g tp p1 p20 p21 p22 p23 p24 ++ (wSs g sh m10 m11 m12)))))))) := D_perm (List.Perm.append_left _ (List.Perm.append_left _ (List.Perm.append_left _ (List.perm_append_comm_assoc _ _ _)))) hD
  have hD : va_D (fun q : Nat => s.heap.size ≤ q) (wX g a b d fo tp sh (fb (fWhen e1 x1 x2) f1) f20 ++ (wLs g b e1 e10 e11 ++ (wLs g d k1 k10 k11 ++ (wM g am e1 k1 M3 (u2 4) M5 (fb (fWhen e1 x1 x2) f1) (u2 7) M8 p1 m10 m11 m12 M13 f20 p20 M22 M23 M24 M25 ++ (wF g fo b tr o1 ++ (wLs g tr (u1 301) (u1 310) (u1 311) ++ (wT g tp p1 p20 p21 p22 p23 p24 ++ (wSs g sh m10 m11 m12)))))))) := D_perm (List.Perm.append_left _ (List.Perm.append_left _ (List.perm_append_comm_assoc _ _ _))) hD
  have hD : va_D (fun q : Nat => s.heap.size ≤ q) (wX g a b d fo tp sh (fb (fWhen e1 x1 x2) f1) f20 ++ (wLs g b e1 e10 e11 ++ (wLs g d k1 k10 k11 ++ (wF g fo b tr o1 ++ (wM g am e1 k1 M3 (u2 4) M5 (fb (fWhen e1 x1 x2) f1) (u2 7) M8 p1 m10 m11 m12 M13 f20 p20 M22 M23 M24 M25 ++ (wLs g tr (u1 301) (u1 310) (u1 311) ++ (wT g tp p1 p20 p21 p22 p23 p24 ++ (wSs g sh m10 m11 m12)))))))) := D_perm (List.Perm.append_left _ (List.Perm.append_left _ (List.Perm.append_left _ (List.perm_append_comm_assoc _ _ _)))) hD
  have hD : va_D (fun q : Nat => s.heap.size ≤ q) (wX g a b d fo tp sh (fb (fWhen e1 x1 x2) f1) f20 ++ (wLs g b e1 e10 e11 ++ (wLs g d k1 k10 k11 ++ (wF g fo b tr o1 ++ (wLs g tr (u1 301) (u1 310) (u1 311) ++ (wM g am e1 k1 M3 (u2 4) M5 (fb (fWhen e1 x1 x2) f1) (u2 7) M8 p1 m10 m11 m12 M13 f20 p20 M22 M23 M24 M25 ++ (wT g tp p1 p20 p21 p22 p23 p24 ++ (wSs g sh m10 m11 m12)))))))) := D_perm (List.Perm.append_left _ (List.Perm.append_left _ (List.Perm.append_left _ (List.Perm.append_left _ (List.perm_append_comm_assoc _ _ _))))) hD
  have hD : va_D (fun q : Nat => s.heap.size ≤ q) (wX g a b d fo tp sh (fb (fWhen e1 x1 x2) f1) f20 ++ (wLs g b e1 e10 e11 ++ (wLs g d k1 k10 k11 ++ (wF g fo b tr o1 ++ (wLs g tr (u1 301) (u1 310) (u1 311) ++ (wT g tp p1 p20 p21 p22 p23 p24 ++ (wM g am e1 k1 M3 (u2 4) M5 (fb (fWhen e1 x1 x2) f1) (u2 7) M8 p1 m10 m11 m12 M13 f20 p20 M22 M23 M24 M25 ++ (wSs g sh m10 m11 m12)))))))) := D_perm (List.Perm.append_left _ (List.Perm.append_left _ (List.Perm.append_left _ (List.Perm.append_left _ (List.Perm.append_left _ (List.perm_append_comm_assoc _ _ _)))))) hD
  have hD : va_D (fun q : Nat => s.heap.size ≤ q) (wX g a b d fo tp sh (fb (fWhen e1 x1 x2) f1) f20 ++ (wLs g b e1 e10 e11 ++ (wLs g d k1 k10 k11 ++ (wF g fo b tr o1 ++ (wLs g tr (u1 301) (u1 310) (u1 311) ++ (wT g tp p1 p20 p21 p22 p23 p24 ++ (wSs g sh m10 m11 m12 ++ (wM g am e1 k1 M3 (u2 4) M5 (fb (fWhen e1 x1 x2) f1) (u2 7) M8 p1 m10 m11 m12 M13 f20 p20 M22 M23 M24 M25)))))))) := D_perm (List.Perm.append_left _ (List.Perm.append_left _ (List.Perm.append_left _ (List.Perm.append_left _ (List.Perm.append_left _ (List.Perm.append_left _ (List.perm_append_comm))))))) hD
  have hP : va_P g.1 vwCl (wX g a b d fo tp sh (fb (fWhen e1 x1 x2) f1) f20 ++ (wLs g b e1 e10 e11 ++ (wLs g d k1 k10 k11 ++ (wF g fo b tr o1 ++ (wLs g tr (u1 301) (u1 310) (u1 311) ++ (wT g tp p1 p20 p21 p22 p23 p24 ++ (wSs g sh m10 m11 m12 ++ (wM g am e1 k1 M3 (u2 4) M5 (fb (fWhen e1 x1 x2) f1) (u2 7) M8 p1 m10 m11 m12 M13 f20 p20 M22 M23 M24 M25)))))))) H := va_P_app.mpr ⟨hP0, va_P_app.mpr ⟨hP1, va_P_app.mpr ⟨hP2, va_P_app.mpr ⟨hP3, va_P_app.mpr ⟨hP4, va_P_app.mpr ⟨hP5, va_P_app.mpr ⟨hP6, hP7⟩⟩⟩⟩⟩⟩⟩
  exact K (fun k => ([(fb (fWhen e1 x1 x2) f1), (fun _ => f20), e1, e10, e11, k1, k10, k11, o1, (u1 301), (u1 310), (u1 311), p1, (fun _ => p20), (fun _ => p21), (fun _ => p22), (fun _ => p23), (fun _ => p24), m10, m11, m12, M3, (u2 4), M5, (u2 7), M8, M13, (fun _ => M22), (fun _ => M23), (fun _ => M24), (fun _ => M25)] : List (Int → Int)).getD k z0) H locs (show LVx e1 k1 f20 p1 p20 m10 m11 m12 M24 from ⟨hIe, hIk, hkp, hHB, hpz, hSS, hLR, hvz⟩) hP hD hS

set_option maxRecDepth 100000 in
set_option maxHeartbeats 4000000 in
theorem lc_15 {p : Program} {l : Launch} {e : Env} {s : State} {m : MethodId} {below : List Frame} {meth : Method} {c : Code} {g : Gd} {σ : Sg} {bs L : Nat} {xs : Nat → Int32} {Q : State → Prop} (hL : L ≤ 3072) (hC : LCx g σ p s m c bs L xs) (a b d fo tr tp sh am : Nat → Nat) (f1 e1 e10 e11 k1 k10 k11 o1 t1 t10 t11 p1 m10 m11 m12 M3 M4 M5 M7 M8 M13 : Int → Int) (f20 p20 p21 p22 p23 p24 M22 M23 M24 M25 : Int) (hV : LVx e1 k1 f20 p1 p20 m10 m11 m12 M24) {i9 : Nat} (hi9 : i9 + 6 ≤ L) {ls : Array Slot} (hl : lv_has ls 4 [(3, .int (iI (i9 : Int))), (2, .ref (am 0)), (1, .ref (a 0)), (0, .ref bs)]) {H : Heap} {locs : List Loc} (hP : va_P g.1 vwCl (wX g a b d fo tp sh f1 f20 ++ (wLs g b e1 e10 e11 ++ (wLs g d k1 k10 k11 ++ (wF g fo b tr o1 ++ (wLs g tr t1 t10 t11 ++ (wT g tp p1 p20 p21 p22 p23 p24 ++ (wSs g sh m10 m11 m12 ++ (wM g am e1 k1 M3 M4 M5 f1 M7 M8 p1 m10 m11 m12 M13 f20 p20 M22 M23 M24 M25)))))))) H) (hD : va_D (fun q : Nat => s.heap.size ≤ q) (wX g a b d fo tp sh f1 f20 ++ (wLs g b e1 e10 e11 ++ (wLs g d k1 k10 k11 ++ (wF g fo b tr o1 ++ (wLs g tr t1 t10 t11 ++ (wT g tp p1 p20 p21 p22 p23 p24 ++ (wSs g sh m10 m11 m12 ++ (wM g am e1 k1 M3 M4 M5 f1 M7 M8 p1 m10 m11 m12 M13 f20 p20 M22 M23 M24 M25))))))))) (hS : va_S (fun q : Nat => s.heap.size ≤ q) s.heap H locs) (K : ∀ (u : Nat → Int → Int) (H : Heap) (locs : List Loc), LV u → va_P g.1 vwCl (LW g (fun k => ([a, b, d, fo, tr, tp, sh, am] : List (Nat → Nat)).getD k a) u) H → va_D (fun q : Nat => s.heap.size ≤ q) (LW g (fun k => ([a, b, d, fo, tr, tp, sh, am] : List (Nat → Nat)).getD k a) u) → va_S (fun q : Nat => s.heap.size ≤ q) s.heap H locs → W p l e room_1 s m #[Value.ref bs] below meth c H locs 65 1678 Q (F0 m 1473 ls [])) : W p l e room_1 s m #[Value.ref bs] below meth c H locs 65 1678 Q (F0 m 701 ls []) := by
  obtain ⟨hx, hb, hml, hown, hts, hK, hX, hbl, hSB⟩ := hC
  have hbA : ¬ (fun q : Nat => s.heap.size ≤ q) bs := Nat.not_le.mpr hbl
  have hA : ∀ q : Nat, s.heap.size ≤ q → (fun q : Nat => s.heap.size ≤ q) q := fun _ h => h
  obtain ⟨hIe, hIk, hkp, hHB, hpz, hSS, hLR, hvz⟩ := hV
  have hI := hIe.1
  have hs9 := hIe.2
  obtain ⟨x1, hx1⟩ : ∃ x : Int, x = (xs (i9 + 1)).toInt := ⟨_, rfl⟩
  have ha1a : -2147483648 ≤ x1 := by rw [hx1]; exact (IR_of _).1
  have ha1b : x1 ≤ 2147483647 := by rw [hx1]; exact (IR_of _).2
  obtain ⟨x2, hx2⟩ : ∃ x : Int, x = (xs (i9 + 2)).toInt := ⟨_, rfl⟩
  have ha2a : -2147483648 ≤ x2 := by rw [hx2]; exact (IR_of _).1
  have ha2b : x2 ≤ 2147483647 := by rw [hx2]; exact (IR_of _).2
  obtain ⟨x3, hx3⟩ : ∃ x : Int, x = (xs (i9 + 3)).toInt := ⟨_, rfl⟩
  have ha3a : -2147483648 ≤ x3 := by rw [hx3]; exact (IR_of _).1
  have ha3b : x3 ≤ 2147483647 := by rw [hx3]; exact (IR_of _).2
  obtain ⟨x4, hx4⟩ : ∃ x : Int, x = (xs (i9 + 4)).toInt := ⟨_, rfl⟩
  have ha4a : -2147483648 ≤ x4 := by rw [hx4]; exact (IR_of _).1
  have ha4b : x4 ≤ 2147483647 := by rw [hx4]; exact (IR_of _).2
  obtain ⟨x5, hx5⟩ : ∃ x : Int, x = (xs (i9 + 5)).toInt := ⟨_, rfl⟩
  have ha5a : -2147483648 ≤ x5 := by rw [hx5]; exact (IR_of _).1
  have ha5b : x5 ≤ 2147483647 := by rw [hx5]; exact (IR_of _).2
  obtain ⟨hP0, hPr0⟩ := va_P_app.mp hP
  obtain ⟨hP1, hPr1⟩ := va_P_app.mp hPr0
  obtain ⟨hP2, hPr2⟩ := va_P_app.mp hPr1
  obtain ⟨hP3, hPr3⟩ := va_P_app.mp hPr2
  obtain ⟨hP4, hPr4⟩ := va_P_app.mp hPr3
  obtain ⟨hP5, hPr5⟩ := va_P_app.mp hPr4
  obtain ⟨hP6, hP7⟩ := va_P_app.mp hPr5
  refine lv_aload_n hx hb dL_law_701 rfl (lv_at hl 2 rfl) ?_
  refine lv_aload_n hx hb dL_law_702 rfl (lv_at hl 3 rfl) ?_
  refine lv_iload_n hx hb dL_law_703 rfl (lv_at hl 0 rfl) ?_
  refine lv_iconst (v := iI (1)) hx hb dL_law_704 (by decide) ?_
  refine xi_add hx hb dL_law_705 ?_
  refine xs_ld (i := (i9 : Int) + 1) (j := i9 + 1) hx hb hX hbl hbA hS (by omega) (by omega) hL dL_law_706 ?_
  rw [← hx1]
  have hD : va_D (fun q : Nat => s.heap.size ≤ q) (wX g a b d fo tp sh f1 f20 ++ (wLs g b e1 e10 e11 ++ (wF g fo b tr o1 ++ (wLs g d k1 k10 k11 ++ (wLs g tr t1 t10 t11 ++ (wT g tp p1 p20 p21 p22 p23 p24 ++ (wSs g sh m10 m11 m12 ++ (wM g am e1 k1 M3 M4 M5 f1 M7 M8 p1 m10 m11 m12 M13 f20 p20 M22 M23 M24 M25)))))))) := D_perm (List.Perm.append_left _ (List.Perm.append_left _ (List.perm_append_comm_assoc _ _ _))) hD
  have hD : va_D (fun q : Nat => s.heap.size ≤ q) (wX g a b d fo tp sh f1 f20 ++ (wF g fo b tr o1 ++ (wLs g b e1 e10 e11 ++ (wLs g d k1 k10 k11 ++ (wLs g tr t1 t10 t11 ++ (wT g tp p1 p20 p21 p22 p23 p24 ++ (wSs g sh m10 m11 m12 ++ (wM g am e1 k1 M3 M4 M5 f1 M7 M8 p1 m10 m11 m12 M13 f20 p20 M22 M23 M24 M25)))))))) := D_perm (List.Perm.append_left _ (List.perm_append_comm_assoc _ _ _)) hD
  have hD : va_D (fun q : Nat => s.heap.size ≤ q) (wX g a b d fo tp sh f1 f20 ++ (wF g fo b tr o1 ++ (wLs g b e1 e10 e11 ++ (wLs g tr t1 t10 t11 ++ (wLs g d k1 k10 k11 ++ (wT g tp p1 p20 p21 p22 p23 p24 ++ (wSs g sh m10 m11 m12 ++ (wM g am e1 k1 M3 M4 M5 f1 M7 M8 p1 m10 m11 m12 M13 f20 p20 M22 M23 M24 M25)))))))) := D_perm (List.Perm.append_left _ (List.Perm.append_left _ (List.Perm.append_left _ (List.perm_append_comm_assoc _ _ _)))) hD
  have hP : va_P g.1 vwCl (wX g a b d fo tp sh f1 f20 ++ (wF g fo b tr o1 ++ (wLs g b e1 e10 e11 ++ (wLs g tr t1 t10 t11 ++ (wLs g d k1 k10 k11 ++ (wT g tp p1 p20 p21 p22 p23 p24 ++ (wSs g sh m10 m11 m12 ++ (wM g am e1 k1 M3 M4 M5 f1 M7 M8 p1 m10 m11 m12 M13 f20 p20 M22 M23 M24 M25)))))))) H := va_P_app.mpr ⟨hP0, va_P_app.mpr ⟨hP3, va_P_app.mpr ⟨hP1, va_P_app.mpr ⟨hP4, va_P_app.mpr ⟨hP2, va_P_app.mpr ⟨hP5, va_P_app.mpr ⟨hP6, hP7⟩⟩⟩⟩⟩⟩⟩
  have hP : va_P g.1 vwCl ((wX g a b d fo tp sh f1 f20 ++ (wF g fo b tr o1 ++ (wLs g b e1 e10 e11 ++ (wLs g tr t1 t10 t11)))) ++ (wLs g d k1 k10 k11 ++ (wT g tp p1 p20 p21 p22 p23 p24 ++ (wSs g sh m10 m11 m12 ++ (wM g am e1 k1 M3 M4 M5 f1 M7 M8 p1 m10 m11 m12 M13 f20 p20 M22 M23 M24 M25))))) H := by rw [List.append_assoc, List.append_assoc, List.append_assoc]; exact hP
  have hD : va_D (fun q : Nat => s.heap.size ≤ q) ((wX g a b d fo tp sh f1 f20 ++ (wF g fo b tr o1 ++ (wLs g b e1 e10 e11 ++ (wLs g tr t1 t10 t11)))) ++ (wLs g d k1 k10 k11 ++ (wT g tp p1 p20 p21 p22 p23 p24 ++ (wSs g sh m10 m11 m12 ++ (wM g am e1 k1 M3 M4 M5 f1 M7 M8 p1 m10 m11 m12 M13 f20 p20 M22 M23 M24 M25))))) := by rw [List.append_assoc, List.append_assoc, List.append_assoc]; exact hD
  refine xmF_i (rV (rest := []) hx hb hml hown hts hK hl (c_X4_lit l g d tp sh a f1 f20 fo o1 b e1 e10 e11 tr t1 t10 t11 x1 H.size (show InvK 0 e1 from hI) (show e1 0 ≤ 9999 from by omega) (show IR x1 from ⟨by omega, by omega⟩)) lk_L_76 ⟨rfl, (va_P_app.mp hP).1, (va_D_app hD).1.weaken (fun _ _ _ _ => trivial)⟩ (va_recv hK.1 hP0 (ci := 4) (q0 := 0) rfl rfl) rfl rfl rfl (Rm.of rfl) rfl rfl dL_law_707) hP hD hS hA (fun x9 u1 H locs hw hP hD hS => ?_)
  have hP : va_P g.1 vwCl ((wX g a b d fo tp sh (fb (fLit e1 x1) f1) f20 ++ (wF g fo b tr o1 ++ (wLs g b e1 e10 e11 ++ (wLs g tr (u1 301) (u1 310) (u1 311))))) ++ (wLs g d k1 k10 k11 ++ (wT g tp p1 p20 p21 p22 p23 p24 ++ (wSs g sh m10 m11 m12 ++ (wM g am e1 k1 M3 M4 M5 f1 M7 M8 p1 m10 m11 m12 M13 f20 p20 M22 M23 M24 M25))))) H := hP
  have hD : va_D (fun q : Nat => s.heap.size ≤ q) ((wX g a b d fo tp sh (fb (fLit e1 x1) f1) f20 ++ (wF g fo b tr o1 ++ (wLs g b e1 e10 e11 ++ (wLs g tr (u1 301) (u1 310) (u1 311))))) ++ (wLs g d k1 k10 k11 ++ (wT g tp p1 p20 p21 p22 p23 p24 ++ (wSs g sh m10 m11 m12 ++ (wM g am e1 k1 M3 M4 M5 f1 M7 M8 p1 m10 m11 m12 M13 f20 p20 M22 M23 M24 M25))))) := hD
  rw [List.append_assoc, List.append_assoc, List.append_assoc] at hP hD
  obtain rfl : x9 = ab (fLit e1 x1) (iI (fsT (ltP e1 x1) 81 0 : Int)) := hw
  have hP : va_P g.1 vwCl (wX g a b d fo tp sh (fb (fLit e1 x1) f1) f20 ++ (wF g fo b tr o1 ++ (wLs g b e1 e10 e11 ++ (wLs g tr (u1 301) (u1 310) (u1 311) ++ (wLs g d k1 k10 k11 ++ (wT g tp p1 p20 p21 p22 p23 p24 ++ (wSs g sh m10 m11 m12 ++ (wM g am e1 k1 M3 M4 M5 f1 M7 M8 p1 m10 m11 m12 M13 f20 p20 M22 M23 M24 M25)))))))) H := hP
  have hD : va_D (fun q : Nat => s.heap.size ≤ q) (wX g a b d fo tp sh (fb (fLit e1 x1) f1) f20 ++ (wF g fo b tr o1 ++ (wLs g b e1 e10 e11 ++ (wLs g tr (u1 301) (u1 310) (u1 311) ++ (wLs g d k1 k10 k11 ++ (wT g tp p1 p20 p21 p22 p23 p24 ++ (wSs g sh m10 m11 m12 ++ (wM g am e1 k1 M3 M4 M5 f1 M7 M8 p1 m10 m11 m12 M13 f20 p20 M22 M23 M24 M25)))))))) := hD
  obtain ⟨hP0, hPr0⟩ := va_P_app.mp hP
  obtain ⟨hP3, hPr1⟩ := va_P_app.mp hPr0
  obtain ⟨hP1, hPr2⟩ := va_P_app.mp hPr1
  obtain ⟨hP4, hPr3⟩ := va_P_app.mp hPr2
  obtain ⟨hP2, hPr4⟩ := va_P_app.mp hPr3
  obtain ⟨hP5, hPr5⟩ := va_P_app.mp hPr4
  obtain ⟨hP6, hP7⟩ := va_P_app.mp hPr5
  refine lv_aload_n hx hb dL_law_710 rfl (lv_at hl 1 rfl) ?_
  refine lv_aload_n hx hb dL_law_711 rfl (lv_at hl 3 rfl) ?_
  refine lv_iload_n hx hb dL_law_712 rfl (lv_at hl 0 rfl) ?_
  refine lv_iconst (v := iI (1)) hx hb dL_law_713 (by decide) ?_
  refine xi_add hx hb dL_law_714 ?_
  refine xs_ld (i := (i9 : Int) + 1) (j := i9 + 1) hx hb hX hbl hbA hS (by omega) (by omega) hL dL_law_715 ?_
  rw [← hx1]
  have hD : va_D (fun q : Nat => s.heap.size ≤ q) (wX g a b d fo tp sh (fb (fLit e1 x1) f1) f20 ++ (wF g fo b tr o1 ++ (wLs g b e1 e10 e11 ++ (wLs g tr (u1 301) (u1 310) (u1 311) ++ (wLs g d k1 k10 k11 ++ (wT g tp p1 p20 p21 p22 p23 p24 ++ (wM g am e1 k1 M3 M4 M5 f1 M7 M8 p1 m10 m11 m12 M13 f20 p20 M22 M23 M24 M25 ++ (wSs g sh m10 m11 m12)))))))) := D_perm (List.Perm.append_left _ (List.Perm.append_left _ (List.Perm.append_left _ (List.Perm.append_left _ (List.Perm.append_left _ (List.Perm.append_left _ (List.perm_append_comm))))))) hD
  have hD : va_D (fun q : Nat => s.heap.size ≤ q) (wX g a b d fo tp sh (fb (fLit e1 x1) f1) f20 ++ (wF g fo b tr o1 ++ (wLs g b e1 e10 e11 ++ (wLs g tr (u1 301) (u1 310) (u1 311) ++ (wLs g d k1 k10 k11 ++ (wM g am e1 k1 M3 M4 M5 f1 M7 M8 p1 m10 m11 m12 M13 f20 p20 M22 M23 M24 M25 ++ (wT g tp p1 p20 p21 p22 p23 p24 ++ (wSs g sh m10 m11 m12)))))))) := D_perm (List.Perm.append_left _ (List.Perm.append_left _ (List.Perm.append_left _ (List.Perm.append_left _ (List.Perm.append_left _ (List.perm_append_comm_assoc _ _ _)))))) hD
  have hD : va_D (fun q : Nat => s.heap.size ≤ q) (wX g a b d fo tp sh (fb (fLit e1 x1) f1) f20 ++ (wF g fo b tr o1 ++ (wLs g b e1 e10 e11 ++ (wLs g tr (u1 301) (u1 310) (u1 311) ++ (wM g am e1 k1 M3 M4 M5 f1 M7 M8 p1 m10 m11 m12 M13 f20 p20 M22 M23 M24 M25 ++ (wLs g d k1 k10 k11 ++ (wT g tp p1 p20 p21 p22 p23 p24 ++ (wSs g sh m10 m11 m12)))))))) := D_perm (List.Perm.append_left _ (List.Perm.append_left _ (List.Perm.append_left _ (List.Perm.append_left _ (List.perm_append_comm_assoc _ _ _))))) hD
  have hD : va_D (fun q : Nat => s.heap.size ≤ q) (wX g a b d fo tp sh (fb (fLit e1 x1) f1) f20 ++ (wF g fo b tr o1 ++ (wLs g b e1 e10 e11 ++ (wM g am e1 k1 M3 M4 M5 f1 M7 M8 p1 m10 m11 m12 M13 f20 p20 M22 M23 M24 M25 ++ (wLs g tr (u1 301) (u1 310) (u1 311) ++ (wLs g d k1 k10 k11 ++ (wT g tp p1 p20 p21 p22 p23 p24 ++ (wSs g sh m10 m11 m12)))))))) := D_perm (List.Perm.append_left _ (List.Perm.append_left _ (List.Perm.append_left _ (List.perm_append_comm_assoc _ _ _)))) hD
  have hD : va_D (fun q : Nat => s.heap.size ≤ q) (wX g a b d fo tp sh (fb (fLit e1 x1) f1) f20 ++ (wF g fo b tr o1 ++ (wM g am e1 k1 M3 M4 M5 f1 M7 M8 p1 m10 m11 m12 M13 f20 p20 M22 M23 M24 M25 ++ (wLs g b e1 e10 e11 ++ (wLs g tr (u1 301) (u1 310) (u1 311) ++ (wLs g d k1 k10 k11 ++ (wT g tp p1 p20 p21 p22 p23 p24 ++ (wSs g sh m10 m11 m12)))))))) := D_perm (List.Perm.append_left _ (List.Perm.append_left _ (List.perm_append_comm_assoc _ _ _))) hD
  have hD : va_D (fun q : Nat => s.heap.size ≤ q) (wX g a b d fo tp sh (fb (fLit e1 x1) f1) f20 ++ (wM g am e1 k1 M3 M4 M5 f1 M7 M8 p1 m10 m11 m12 M13 f20 p20 M22 M23 M24 M25 ++ (wF g fo b tr o1 ++ (wLs g b e1 e10 e11 ++ (wLs g tr (u1 301) (u1 310) (u1 311) ++ (wLs g d k1 k10 k11 ++ (wT g tp p1 p20 p21 p22 p23 p24 ++ (wSs g sh m10 m11 m12)))))))) := D_perm (List.Perm.append_left _ (List.perm_append_comm_assoc _ _ _)) hD
  have hD : va_D (fun q : Nat => s.heap.size ≤ q) (wM g am e1 k1 M3 M4 M5 f1 M7 M8 p1 m10 m11 m12 M13 f20 p20 M22 M23 M24 M25 ++ (wX g a b d fo tp sh (fb (fLit e1 x1) f1) f20 ++ (wF g fo b tr o1 ++ (wLs g b e1 e10 e11 ++ (wLs g tr (u1 301) (u1 310) (u1 311) ++ (wLs g d k1 k10 k11 ++ (wT g tp p1 p20 p21 p22 p23 p24 ++ (wSs g sh m10 m11 m12)))))))) := D_perm (List.perm_append_comm_assoc _ _ _) hD
  have hP : va_P g.1 vwCl (wM g am e1 k1 M3 M4 M5 f1 M7 M8 p1 m10 m11 m12 M13 f20 p20 M22 M23 M24 M25 ++ (wX g a b d fo tp sh (fb (fLit e1 x1) f1) f20 ++ (wF g fo b tr o1 ++ (wLs g b e1 e10 e11 ++ (wLs g tr (u1 301) (u1 310) (u1 311) ++ (wLs g d k1 k10 k11 ++ (wT g tp p1 p20 p21 p22 p23 p24 ++ (wSs g sh m10 m11 m12)))))))) H := va_P_app.mpr ⟨hP7, va_P_app.mpr ⟨hP0, va_P_app.mpr ⟨hP3, va_P_app.mpr ⟨hP1, va_P_app.mpr ⟨hP4, va_P_app.mpr ⟨hP2, va_P_app.mpr ⟨hP5, hP6⟩⟩⟩⟩⟩⟩⟩
  refine xmF_i (rV (rest := [.int (ab (fLit e1 x1) (iI (fsT (ltP e1 x1) 81 0 : Int)))]) hx hb hml hown hts hK hl (c_X5_lit l g am e1 k1 M3 M4 M5 f1 M7 M8 p1 m10 m11 m12 M13 f20 p20 M22 M23 M24 M25 x1 H.size (show InvK 0 e1 from hI) (show e1 0 ≤ 9999 from by omega) (show IR x1 from ⟨by omega, by omega⟩)) lk_L_79 ⟨rfl, hP7, (va_D_app hD).1.weaken (fun _ _ _ _ => trivial)⟩ (va_recv hK.1 hP7 (ci := 5) (q0 := 0) rfl rfl) rfl rfl rfl (Rm.of rfl) rfl rfl dL_law_716) hP hD hS hA (fun x9 u2 H locs hw hP hD hS => ?_)
  obtain rfl : x9 = ab (fLit e1 x1) (iI (fsT (ltP e1 x1) 81 0 : Int)) := hw
  have hP : va_P g.1 vwCl (wM g am e1 k1 M3 (u2 4) M5 (fb (fLit e1 x1) f1) (u2 7) M8 p1 m10 m11 m12 M13 f20 p20 M22 M23 M24 M25 ++ (wX g a b d fo tp sh (fb (fLit e1 x1) f1) f20 ++ (wF g fo b tr o1 ++ (wLs g b e1 e10 e11 ++ (wLs g tr (u1 301) (u1 310) (u1 311) ++ (wLs g d k1 k10 k11 ++ (wT g tp p1 p20 p21 p22 p23 p24 ++ (wSs g sh m10 m11 m12)))))))) H := hP
  have hD : va_D (fun q : Nat => s.heap.size ≤ q) (wM g am e1 k1 M3 (u2 4) M5 (fb (fLit e1 x1) f1) (u2 7) M8 p1 m10 m11 m12 M13 f20 p20 M22 M23 M24 M25 ++ (wX g a b d fo tp sh (fb (fLit e1 x1) f1) f20 ++ (wF g fo b tr o1 ++ (wLs g b e1 e10 e11 ++ (wLs g tr (u1 301) (u1 310) (u1 311) ++ (wLs g d k1 k10 k11 ++ (wT g tp p1 p20 p21 p22 p23 p24 ++ (wSs g sh m10 m11 m12)))))))) := hD
  obtain ⟨hP7, hPr0⟩ := va_P_app.mp hP
  obtain ⟨hP0, hPr1⟩ := va_P_app.mp hPr0
  obtain ⟨hP3, hPr2⟩ := va_P_app.mp hPr1
  obtain ⟨hP1, hPr3⟩ := va_P_app.mp hPr2
  obtain ⟨hP4, hPr4⟩ := va_P_app.mp hPr3
  obtain ⟨hP2, hPr5⟩ := va_P_app.mp hPr4
  obtain ⟨hP5, hP6⟩ := va_P_app.mp hPr5
  refine lv_icmp_eq (tgt := 1473) hx hb dL_law_719 (by decide) (fun _ => ?_) (fun z => absurd rfl z)
  have hD : va_D (fun q : Nat => s.heap.size ≤ q) (wX g a b d fo tp sh (fb (fLit e1 x1) f1) f20 ++ (wM g am e1 k1 M3 (u2 4) M5 (fb (fLit e1 x1) f1) (u2 7) M8 p1 m10 m11 m12 M13 f20 p20 M22 M23 M24 M25 ++ (wF g fo b tr o1 ++ (wLs g b e1 e10 e11 ++ (wLs g tr (u1 301) (u1 310) (u1 311) ++ (wLs g d k1 k10 k11 ++ (wT g tp p1 p20 p21 p22 p23 p24 ++ (wSs g sh m10 m11 m12)))))))) := D_perm (List.perm_append_comm_assoc _ _ _) hD
  have hD : va_D (fun q : Nat => s.heap.size ≤ q) (wX g a b d fo tp sh (fb (fLit e1 x1) f1) f20 ++ (wM g am e1 k1 M3 (u2 4) M5 (fb (fLit e1 x1) f1) (u2 7) M8 p1 m10 m11 m12 M13 f20 p20 M22 M23 M24 M25 ++ (wLs g b e1 e10 e11 ++ (wF g fo b tr o1 ++ (wLs g tr (u1 301) (u1 310) (u1 311) ++ (wLs g d k1 k10 k11 ++ (wT g tp p1 p20 p21 p22 p23 p24 ++ (wSs g sh m10 m11 m12)))))))) := D_perm (List.Perm.append_left _ (List.Perm.append_left _ (List.perm_append_comm_assoc _ _ _))) hD
  have hD : va_D (fun q : Nat => s.heap.size ≤ q) (wX g a b d fo tp sh (fb (fLit e1 x1) f1) f20 ++ (wLs g b e1 e10 e11 ++ (wM g am e1 k1 M3 (u2 4) M5 (fb (fLit e1 x1) f1) (u2 7) M8 p1 m10 m11 m12 M13 f20 p20 M22 M23 M24 M25 ++ (wF g fo b tr o1 ++ (wLs g tr (u1 301) (u1 310) (u1 311) ++ (wLs g d k1 k10 k11 ++ (wT g tp p1 p20 p21 p22 p23 p24 ++ (wSs g sh m10 m11 m12)))))))) := D_perm (List.Perm.append_left _ (List.perm_append_comm_assoc _ _ _)) hD
  have hD : va_D (fun q : Nat => s.heap.size ≤ q) (wX g a b d fo tp sh (fb (fLit e1 x1) f1) f20 ++ (wLs g b e1 e10 e11 ++ (wM g am e1 k1 M3 (u2 4) M5 (fb (fLit e1 x1) f1) (u2 7) M8 p1 m10 m11 m12 M13 f20 p20 M22 M23 M24 M25 ++ (wF g fo b tr o1 ++ (wLs g d k1 k10 k11 ++ (wLs g tr (u1 301) (u1 310) (u1 311) ++ (wT g tp p1 p20 p21 p22 p23 p24 ++ (wSs g sh m10 m11 m12)))))))) := D_perm (List.Perm.append_left _ (List.Perm.append_left _ (List.Perm.append_left _ (List.Perm.append_left _ (List.perm_append_comm_assoc _ _ _))))) hD
  have hD : va_D (fun q : Nat => s.heap.size ≤ q) (wX g a b d fo tp sh (fb (fLit e1 x1) f1) f20 ++ (wLs g b e1 e10 e11 ++ (wM g am e1 k1 M3 (u2 4) M5 (fb (fLit e1 x1) f1) (u2 7) M8 p1 m10 m11 m12 M13 f20 p20 M22 M23 M24 M25 ++ (wLs g d k1 k10 k11 ++ (wF g fo b tr o1 ++ (wLs g tr (u1 301) (u1 310) (u1 311) ++ (wT g tp p1 p20 p21 p22 p23 p24 ++ (wSs g sh m10 m11 m12)))))))) := D_perm (List.Perm.append_left _ (List.Perm.append_left _ (List.Perm.append_left _ (List.perm_append_comm_assoc _ _ _)))) hD
  have hD : va_D (fun q : Nat => s.heap.size ≤ q) (wX g a b d fo tp sh (fb (fLit e1 x1) f1) f20 ++ (wLs g b e1 e10 e11 ++ (wLs g d k1 k10 k11 ++ (wM g am e1 k1 M3 (u2 4) M5 (fb (fLit e1 x1) f1) (u2 7) M8 p1 m10 m11 m12 M13 f20 p20 M22 M23 M24 M25 ++ (wF g fo b tr o1 ++ (wLs g tr (u1 301) (u1 310) (u1 311) ++ (wT g tp p1 p20 p21 p22 p23 p24 ++ (wSs g sh m10 m11 m12)))))))) := D_perm (List.Perm.append_left _ (List.Perm.append_left _ (List.perm_append_comm_assoc _ _ _))) hD
  have hD : va_D (fun q : Nat => s.heap.size ≤ q) (wX g a b d fo tp sh (fb (fLit e1 x1) f1) f20 ++ (wLs g b e1 e10 e11 ++ (wLs g d k1 k10 k11 ++ (wF g fo b tr o1 ++ (wM g am e1 k1 M3 (u2 4) M5 (fb (fLit e1 x1) f1) (u2 7) M8 p1 m10 m11 m12 M13 f20 p20 M22 M23 M24 M25 ++ (wLs g tr (u1 301) (u1 310) (u1 311) ++ (wT g tp p1 p20 p21 p22 p23 p24 ++ (wSs g sh m10 m11 m12)))))))) := D_perm (List.Perm.append_left _ (List.Perm.append_left _ (List.Perm.append_left _ (List.perm_append_comm_assoc _ _ _)))) hD
  have hD : va_D (fun q : Nat => s.heap.size ≤ q) (wX g a b d fo tp sh (fb (fLit e1 x1) f1) f20 ++ (wLs g b e1 e10 e11 ++ (wLs g d k1 k10 k11 ++ (wF g fo b tr o1 ++ (wLs g tr (u1 301) (u1 310) (u1 311) ++ (wM g am e1 k1 M3 (u2 4) M5 (fb (fLit e1 x1) f1) (u2 7) M8 p1 m10 m11 m12 M13 f20 p20 M22 M23 M24 M25 ++ (wT g tp p1 p20 p21 p22 p23 p24 ++ (wSs g sh m10 m11 m12)))))))) := D_perm (List.Perm.append_left _ (List.Perm.append_left _ (List.Perm.append_left _ (List.Perm.append_left _ (List.perm_append_comm_assoc _ _ _))))) hD
  have hD : va_D (fun q : Nat => s.heap.size ≤ q) (wX g a b d fo tp sh (fb (fLit e1 x1) f1) f20 ++ (wLs g b e1 e10 e11 ++ (wLs g d k1 k10 k11 ++ (wF g fo b tr o1 ++ (wLs g tr (u1 301) (u1 310) (u1 311) ++ (wT g tp p1 p20 p21 p22 p23 p24 ++ (wM g am e1 k1 M3 (u2 4) M5 (fb (fLit e1 x1) f1) (u2 7) M8 p1 m10 m11 m12 M13 f20 p20 M22 M23 M24 M25 ++ (wSs g sh m10 m11 m12)))))))) := D_perm (List.Perm.append_left _ (List.Perm.append_left _ (List.Perm.append_left _ (List.Perm.append_left _ (List.Perm.append_left _ (List.perm_append_comm_assoc _ _ _)))))) hD
  have hD : va_D (fun q : Nat => s.heap.size ≤ q) (wX g a b d fo tp sh (fb (fLit e1 x1) f1) f20 ++ (wLs g b e1 e10 e11 ++ (wLs g d k1 k10 k11 ++ (wF g fo b tr o1 ++ (wLs g tr (u1 301) (u1 310) (u1 311) ++ (wT g tp p1 p20 p21 p22 p23 p24 ++ (wSs g sh m10 m11 m12 ++ (wM g am e1 k1 M3 (u2 4) M5 (fb (fLit e1 x1) f1) (u2 7) M8 p1 m10 m11 m12 M13 f20 p20 M22 M23 M24 M25)))))))) := D_perm (List.Perm.append_left _ (List.Perm.append_left _ (List.Perm.append_left _ (List.Perm.append_left _ (List.Perm.append_left _ (List.Perm.append_left _ (List.perm_append_comm))))))) hD
  have hP : va_P g.1 vwCl (wX g a b d fo tp sh (fb (fLit e1 x1) f1) f20 ++ (wLs g b e1 e10 e11 ++ (wLs g d k1 k10 k11 ++ (wF g fo b tr o1 ++ (wLs g tr (u1 301) (u1 310) (u1 311) ++ (wT g tp p1 p20 p21 p22 p23 p24 ++ (wSs g sh m10 m11 m12 ++ (wM g am e1 k1 M3 (u2 4) M5 (fb (fLit e1 x1) f1) (u2 7) M8 p1 m10 m11 m12 M13 f20 p20 M22 M23 M24 M25)))))))) H := va_P_app.mpr ⟨hP0, va_P_app.mpr ⟨hP1, va_P_app.mpr ⟨hP2, va_P_app.mpr ⟨hP3, va_P_app.mpr ⟨hP4, va_P_app.mpr ⟨hP5, va_P_app.mpr ⟨hP6, hP7⟩⟩⟩⟩⟩⟩⟩
  exact K (fun k => ([(fb (fLit e1 x1) f1), (fun _ => f20), e1, e10, e11, k1, k10, k11, o1, (u1 301), (u1 310), (u1 311), p1, (fun _ => p20), (fun _ => p21), (fun _ => p22), (fun _ => p23), (fun _ => p24), m10, m11, m12, M3, (u2 4), M5, (u2 7), M8, M13, (fun _ => M22), (fun _ => M23), (fun _ => M24), (fun _ => M25)] : List (Int → Int)).getD k z0) H locs (show LVx e1 k1 f20 p1 p20 m10 m11 m12 M24 from ⟨hIe, hIk, hkp, hHB, hpz, hSS, hLR, hvz⟩) hP hD hS

set_option maxRecDepth 100000 in
set_option maxHeartbeats 4000000 in
theorem lc_16 {p : Program} {l : Launch} {e : Env} {s : State} {m : MethodId} {below : List Frame} {meth : Method} {c : Code} {g : Gd} {σ : Sg} {bs L : Nat} {xs : Nat → Int32} {Q : State → Prop} (hL : L ≤ 3072) (hC : LCx g σ p s m c bs L xs) (a b d fo tr tp sh am : Nat → Nat) (f1 e1 e10 e11 k1 k10 k11 o1 t1 t10 t11 p1 m10 m11 m12 M3 M4 M5 M7 M8 M13 : Int → Int) (f20 p20 p21 p22 p23 p24 M22 M23 M24 M25 : Int) (hV : LVx e1 k1 f20 p1 p20 m10 m11 m12 M24) {i9 : Nat} (hi9 : i9 + 6 ≤ L) {ls : Array Slot} (hl : lv_has ls 4 [(3, .int (iI (i9 : Int))), (2, .ref (am 0)), (1, .ref (a 0)), (0, .ref bs)]) {H : Heap} {locs : List Loc} (hP : va_P g.1 vwCl (wX g a b d fo tp sh f1 f20 ++ (wLs g b e1 e10 e11 ++ (wLs g d k1 k10 k11 ++ (wF g fo b tr o1 ++ (wLs g tr t1 t10 t11 ++ (wT g tp p1 p20 p21 p22 p23 p24 ++ (wSs g sh m10 m11 m12 ++ (wM g am e1 k1 M3 M4 M5 f1 M7 M8 p1 m10 m11 m12 M13 f20 p20 M22 M23 M24 M25)))))))) H) (hD : va_D (fun q : Nat => s.heap.size ≤ q) (wX g a b d fo tp sh f1 f20 ++ (wLs g b e1 e10 e11 ++ (wLs g d k1 k10 k11 ++ (wF g fo b tr o1 ++ (wLs g tr t1 t10 t11 ++ (wT g tp p1 p20 p21 p22 p23 p24 ++ (wSs g sh m10 m11 m12 ++ (wM g am e1 k1 M3 M4 M5 f1 M7 M8 p1 m10 m11 m12 M13 f20 p20 M22 M23 M24 M25))))))))) (hS : va_S (fun q : Nat => s.heap.size ≤ q) s.heap H locs) (K : ∀ (u : Nat → Int → Int) (H : Heap) (locs : List Loc), LV u → va_P g.1 vwCl (LW g (fun k => ([a, b, d, fo, tr, tp, sh, am] : List (Nat → Nat)).getD k a) u) H → va_D (fun q : Nat => s.heap.size ≤ q) (LW g (fun k => ([a, b, d, fo, tr, tp, sh, am] : List (Nat → Nat)).getD k a) u) → va_S (fun q : Nat => s.heap.size ≤ q) s.heap H locs → W p l e room_1 s m #[Value.ref bs] below meth c H locs 65 1678 Q (F0 m 1473 ls [])) : W p l e room_1 s m #[Value.ref bs] below meth c H locs 65 1678 Q (F0 m 724 ls []) := by
  obtain ⟨hx, hb, hml, hown, hts, hK, hX, hbl, hSB⟩ := hC
  have hbA : ¬ (fun q : Nat => s.heap.size ≤ q) bs := Nat.not_le.mpr hbl
  have hA : ∀ q : Nat, s.heap.size ≤ q → (fun q : Nat => s.heap.size ≤ q) q := fun _ h => h
  obtain ⟨hIe, hIk, hkp, hHB, hpz, hSS, hLR, hvz⟩ := hV
  have hI := hIe.1
  have hs9 := hIe.2
  obtain ⟨x1, hx1⟩ : ∃ x : Int, x = (xs (i9 + 1)).toInt := ⟨_, rfl⟩
  have ha1a : -2147483648 ≤ x1 := by rw [hx1]; exact (IR_of _).1
  have ha1b : x1 ≤ 2147483647 := by rw [hx1]; exact (IR_of _).2
  obtain ⟨x2, hx2⟩ : ∃ x : Int, x = (xs (i9 + 2)).toInt := ⟨_, rfl⟩
  have ha2a : -2147483648 ≤ x2 := by rw [hx2]; exact (IR_of _).1
  have ha2b : x2 ≤ 2147483647 := by rw [hx2]; exact (IR_of _).2
  obtain ⟨x3, hx3⟩ : ∃ x : Int, x = (xs (i9 + 3)).toInt := ⟨_, rfl⟩
  have ha3a : -2147483648 ≤ x3 := by rw [hx3]; exact (IR_of _).1
  have ha3b : x3 ≤ 2147483647 := by rw [hx3]; exact (IR_of _).2
  obtain ⟨x4, hx4⟩ : ∃ x : Int, x = (xs (i9 + 4)).toInt := ⟨_, rfl⟩
  have ha4a : -2147483648 ≤ x4 := by rw [hx4]; exact (IR_of _).1
  have ha4b : x4 ≤ 2147483647 := by rw [hx4]; exact (IR_of _).2
  obtain ⟨x5, hx5⟩ : ∃ x : Int, x = (xs (i9 + 5)).toInt := ⟨_, rfl⟩
  have ha5a : -2147483648 ≤ x5 := by rw [hx5]; exact (IR_of _).1
  have ha5b : x5 ≤ 2147483647 := by rw [hx5]; exact (IR_of _).2
  obtain ⟨hP0, hPr0⟩ := va_P_app.mp hP
  obtain ⟨hP1, hPr1⟩ := va_P_app.mp hPr0
  obtain ⟨hP2, hPr2⟩ := va_P_app.mp hPr1
  obtain ⟨hP3, hPr3⟩ := va_P_app.mp hPr2
  obtain ⟨hP4, hPr4⟩ := va_P_app.mp hPr3
  obtain ⟨hP5, hPr5⟩ := va_P_app.mp hPr4
  obtain ⟨hP6, hP7⟩ := va_P_app.mp hPr5
  refine lv_aload_n hx hb dL_law_724 rfl (lv_at hl 2 rfl) ?_
  refine lv_aload_n hx hb dL_law_725 rfl (lv_at hl 3 rfl) ?_
  refine lv_iload_n hx hb dL_law_726 rfl (lv_at hl 0 rfl) ?_
  refine lv_iconst (v := iI (1)) hx hb dL_law_727 (by decide) ?_
  refine xi_add hx hb dL_law_728 ?_
  refine xs_ld (i := (i9 : Int) + 1) (j := i9 + 1) hx hb hX hbl hbA hS (by omega) (by omega) hL dL_law_729 ?_
  rw [← hx1]
  refine lv_aload_n hx hb dL_law_730 rfl (lv_at hl 3 rfl) ?_
  refine lv_iload_n hx hb dL_law_731 rfl (lv_at hl 0 rfl) ?_
  refine lv_iconst (v := iI (2)) hx hb dL_law_732 (by decide) ?_
  refine xi_add hx hb dL_law_733 ?_
  refine xs_ld (i := (i9 : Int) + 2) (j := i9 + 2) hx hb hX hbl hbA hS (by omega) (by omega) hL dL_law_734 ?_
  rw [← hx2]
  have hD : va_D (fun q : Nat => s.heap.size ≤ q) (wX g a b d fo tp sh f1 f20 ++ (wLs g b e1 e10 e11 ++ (wF g fo b tr o1 ++ (wLs g d k1 k10 k11 ++ (wLs g tr t1 t10 t11 ++ (wT g tp p1 p20 p21 p22 p23 p24 ++ (wSs g sh m10 m11 m12 ++ (wM g am e1 k1 M3 M4 M5 f1 M7 M8 p1 m10 m11 m12 M13 f20 p20 M22 M23 M24 M25)))))))) := D_perm (List.Perm.append_left _ (List.Perm.append_left _ (List.perm_append_comm_assoc _ _ _))) hD
  have hD : va_D (fun q : Nat => s.heap.size ≤ q) (wX g a b d fo tp sh f1 f20 ++ (wF g fo b tr o1 ++ (wLs g b e1 e10 e11 ++ (wLs g d k1 k10 k11 ++ (wLs g tr t1 t10 t11 ++ (wT g tp p1 p20 p21 p22 p23 p24 ++ (wSs g sh m10 m11 m12 ++ (wM g am e1 k1 M3 M4 M5 f1 M7 M8 p1 m10 m11 m12 M13 f20 p20 M22 M23 M24 M25)))))))) := D_perm (List.Perm.append_left _ (List.perm_append_comm_assoc _ _ _)) hD
  have hD : va_D (fun q : Nat => s.heap.size ≤ q) (wX g a b d fo tp sh f1 f20 ++ (wF g fo b tr o1 ++ (wLs g b e1 e10 e11 ++ (wLs g tr t1 t10 t11 ++ (wLs g d k1 k10 k11 ++ (wT g tp p1 p20 p21 p22 p23 p24 ++ (wSs g sh m10 m11 m12 ++ (wM g am e1 k1 M3 M4 M5 f1 M7 M8 p1 m10 m11 m12 M13 f20 p20 M22 M23 M24 M25)))))))) := D_perm (List.Perm.append_left _ (List.Perm.append_left _ (List.Perm.append_left _ (List.perm_append_comm_assoc _ _ _)))) hD
  have hP : va_P g.1 vwCl (wX g a b d fo tp sh f1 f20 ++ (wF g fo b tr o1 ++ (wLs g b e1 e10 e11 ++ (wLs g tr t1 t10 t11 ++ (wLs g d k1 k10 k11 ++ (wT g tp p1 p20 p21 p22 p23 p24 ++ (wSs g sh m10 m11 m12 ++ (wM g am e1 k1 M3 M4 M5 f1 M7 M8 p1 m10 m11 m12 M13 f20 p20 M22 M23 M24 M25)))))))) H := va_P_app.mpr ⟨hP0, va_P_app.mpr ⟨hP3, va_P_app.mpr ⟨hP1, va_P_app.mpr ⟨hP4, va_P_app.mpr ⟨hP2, va_P_app.mpr ⟨hP5, va_P_app.mpr ⟨hP6, hP7⟩⟩⟩⟩⟩⟩⟩
  have hP : va_P g.1 vwCl ((wX g a b d fo tp sh f1 f20 ++ (wF g fo b tr o1 ++ (wLs g b e1 e10 e11 ++ (wLs g tr t1 t10 t11)))) ++ (wLs g d k1 k10 k11 ++ (wT g tp p1 p20 p21 p22 p23 p24 ++ (wSs g sh m10 m11 m12 ++ (wM g am e1 k1 M3 M4 M5 f1 M7 M8 p1 m10 m11 m12 M13 f20 p20 M22 M23 M24 M25))))) H := by rw [List.append_assoc, List.append_assoc, List.append_assoc]; exact hP
  have hD : va_D (fun q : Nat => s.heap.size ≤ q) ((wX g a b d fo tp sh f1 f20 ++ (wF g fo b tr o1 ++ (wLs g b e1 e10 e11 ++ (wLs g tr t1 t10 t11)))) ++ (wLs g d k1 k10 k11 ++ (wT g tp p1 p20 p21 p22 p23 p24 ++ (wSs g sh m10 m11 m12 ++ (wM g am e1 k1 M3 M4 M5 f1 M7 M8 p1 m10 m11 m12 M13 f20 p20 M22 M23 M24 M25))))) := by rw [List.append_assoc, List.append_assoc, List.append_assoc]; exact hD
  refine xmF_i (rV (rest := []) hx hb hml hown hts hK hl (c_X4_sun l g d tp sh a f1 f20 fo o1 b e1 e10 e11 tr t1 t10 t11 x1 x2 H.size (show InvK 0 e1 from hI) (show e1 0 ≤ 9999 from by omega) (show IR x1 from ⟨by omega, by omega⟩) (show IR x2 from ⟨by omega, by omega⟩)) lk_L_80 ⟨rfl, (va_P_app.mp hP).1, (va_D_app hD).1.weaken (fun _ _ _ _ => trivial)⟩ (va_recv hK.1 hP0 (ci := 4) (q0 := 0) rfl rfl) rfl rfl rfl (Rm.of rfl) rfl rfl dL_law_735) hP hD hS hA (fun x9 u1 H locs hw hP hD hS => ?_)
  have hP : va_P g.1 vwCl ((wX g a b d fo tp sh (fb (fSun e1 x1 x2) f1) f20 ++ (wF g fo b tr o1 ++ (wLs g b e1 e10 e11 ++ (wLs g tr (u1 301) (u1 310) (u1 311))))) ++ (wLs g d k1 k10 k11 ++ (wT g tp p1 p20 p21 p22 p23 p24 ++ (wSs g sh m10 m11 m12 ++ (wM g am e1 k1 M3 M4 M5 f1 M7 M8 p1 m10 m11 m12 M13 f20 p20 M22 M23 M24 M25))))) H := hP
  have hD : va_D (fun q : Nat => s.heap.size ≤ q) ((wX g a b d fo tp sh (fb (fSun e1 x1 x2) f1) f20 ++ (wF g fo b tr o1 ++ (wLs g b e1 e10 e11 ++ (wLs g tr (u1 301) (u1 310) (u1 311))))) ++ (wLs g d k1 k10 k11 ++ (wT g tp p1 p20 p21 p22 p23 p24 ++ (wSs g sh m10 m11 m12 ++ (wM g am e1 k1 M3 M4 M5 f1 M7 M8 p1 m10 m11 m12 M13 f20 p20 M22 M23 M24 M25))))) := hD
  rw [List.append_assoc, List.append_assoc, List.append_assoc] at hP hD
  obtain rfl : x9 = ab (fSun e1 x1 x2) (iI (snT e1 x1 (Int.toNat x2))) := hw
  have hP : va_P g.1 vwCl (wX g a b d fo tp sh (fb (fSun e1 x1 x2) f1) f20 ++ (wF g fo b tr o1 ++ (wLs g b e1 e10 e11 ++ (wLs g tr (u1 301) (u1 310) (u1 311) ++ (wLs g d k1 k10 k11 ++ (wT g tp p1 p20 p21 p22 p23 p24 ++ (wSs g sh m10 m11 m12 ++ (wM g am e1 k1 M3 M4 M5 f1 M7 M8 p1 m10 m11 m12 M13 f20 p20 M22 M23 M24 M25)))))))) H := hP
  have hD : va_D (fun q : Nat => s.heap.size ≤ q) (wX g a b d fo tp sh (fb (fSun e1 x1 x2) f1) f20 ++ (wF g fo b tr o1 ++ (wLs g b e1 e10 e11 ++ (wLs g tr (u1 301) (u1 310) (u1 311) ++ (wLs g d k1 k10 k11 ++ (wT g tp p1 p20 p21 p22 p23 p24 ++ (wSs g sh m10 m11 m12 ++ (wM g am e1 k1 M3 M4 M5 f1 M7 M8 p1 m10 m11 m12 M13 f20 p20 M22 M23 M24 M25)))))))) := hD
  obtain ⟨hP0, hPr0⟩ := va_P_app.mp hP
  obtain ⟨hP3, hPr1⟩ := va_P_app.mp hPr0
  obtain ⟨hP1, hPr2⟩ := va_P_app.mp hPr1
  obtain ⟨hP4, hPr3⟩ := va_P_app.mp hPr2
  obtain ⟨hP2, hPr4⟩ := va_P_app.mp hPr3
  obtain ⟨hP5, hPr5⟩ := va_P_app.mp hPr4
  obtain ⟨hP6, hP7⟩ := va_P_app.mp hPr5
  refine lv_aload_n hx hb dL_law_738 rfl (lv_at hl 1 rfl) ?_
  refine lv_aload_n hx hb dL_law_739 rfl (lv_at hl 3 rfl) ?_
  refine lv_iload_n hx hb dL_law_740 rfl (lv_at hl 0 rfl) ?_
  refine lv_iconst (v := iI (1)) hx hb dL_law_741 (by decide) ?_
  refine xi_add hx hb dL_law_742 ?_
  refine xs_ld (i := (i9 : Int) + 1) (j := i9 + 1) hx hb hX hbl hbA hS (by omega) (by omega) hL dL_law_743 ?_
  rw [← hx1]
  refine lv_aload_n hx hb dL_law_744 rfl (lv_at hl 3 rfl) ?_
  refine lv_iload_n hx hb dL_law_745 rfl (lv_at hl 0 rfl) ?_
  refine lv_iconst (v := iI (2)) hx hb dL_law_746 (by decide) ?_
  refine xi_add hx hb dL_law_747 ?_
  refine xs_ld (i := (i9 : Int) + 2) (j := i9 + 2) hx hb hX hbl hbA hS (by omega) (by omega) hL dL_law_748 ?_
  rw [← hx2]
  have hD : va_D (fun q : Nat => s.heap.size ≤ q) (wX g a b d fo tp sh (fb (fSun e1 x1 x2) f1) f20 ++ (wF g fo b tr o1 ++ (wLs g b e1 e10 e11 ++ (wLs g tr (u1 301) (u1 310) (u1 311) ++ (wLs g d k1 k10 k11 ++ (wT g tp p1 p20 p21 p22 p23 p24 ++ (wM g am e1 k1 M3 M4 M5 f1 M7 M8 p1 m10 m11 m12 M13 f20 p20 M22 M23 M24 M25 ++ (wSs g sh m10 m11 m12)))))))) := D_perm (List.Perm.append_left _ (List.Perm.append_left _ (List.Perm.append_left _ (List.Perm.append_left _ (List.Perm.append_left _ (List.Perm.append_left _ (List.perm_append_comm))))))) hD
  have hD : va_D (fun q : Nat => s.heap.size ≤ q) (wX g a b d fo tp sh (fb (fSun e1 x1 x2) f1) f20 ++ (wF g fo b tr o1 ++ (wLs g b e1 e10 e11 ++ (wLs g tr (u1 301) (u1 310) (u1 311) ++ (wLs g d k1 k10 k11 ++ (wM g am e1 k1 M3 M4 M5 f1 M7 M8 p1 m10 m11 m12 M13 f20 p20 M22 M23 M24 M25 ++ (wT g tp p1 p20 p21 p22 p23 p24 ++ (wSs g sh m10 m11 m12)))))))) := D_perm (List.Perm.append_left _ (List.Perm.append_left _ (List.Perm.append_left _ (List.Perm.append_left _ (List.Perm.append_left _ (List.perm_append_comm_assoc _ _ _)))))) hD
  have hD : va_D (fun q : Nat => s.heap.size ≤ q) (wX g a b d fo tp sh (fb (fSun e1 x1 x2) f1) f20 ++ (wF g fo b tr o1 ++ (wLs g b e1 e10 e11 ++ (wLs g tr (u1 301) (u1 310) (u1 311) ++ (wM g am e1 k1 M3 M4 M5 f1 M7 M8 p1 m10 m11 m12 M13 f20 p20 M22 M23 M24 M25 ++ (wLs g d k1 k10 k11 ++ (wT g tp p1 p20 p21 p22 p23 p24 ++ (wSs g sh m10 m11 m12)))))))) := D_perm (List.Perm.append_left _ (List.Perm.append_left _ (List.Perm.append_left _ (List.Perm.append_left _ (List.perm_append_comm_assoc _ _ _))))) hD
  have hD : va_D (fun q : Nat => s.heap.size ≤ q) (wX g a b d fo tp sh (fb (fSun e1 x1 x2) f1) f20 ++ (wF g fo b tr o1 ++ (wLs g b e1 e10 e11 ++ (wM g am e1 k1 M3 M4 M5 f1 M7 M8 p1 m10 m11 m12 M13 f20 p20 M22 M23 M24 M25 ++ (wLs g tr (u1 301) (u1 310) (u1 311) ++ (wLs g d k1 k10 k11 ++ (wT g tp p1 p20 p21 p22 p23 p24 ++ (wSs g sh m10 m11 m12)))))))) := D_perm (List.Perm.append_left _ (List.Perm.append_left _ (List.Perm.append_left _ (List.perm_append_comm_assoc _ _ _)))) hD
  have hD : va_D (fun q : Nat => s.heap.size ≤ q) (wX g a b d fo tp sh (fb (fSun e1 x1 x2) f1) f20 ++ (wF g fo b tr o1 ++ (wM g am e1 k1 M3 M4 M5 f1 M7 M8 p1 m10 m11 m12 M13 f20 p20 M22 M23 M24 M25 ++ (wLs g b e1 e10 e11 ++ (wLs g tr (u1 301) (u1 310) (u1 311) ++ (wLs g d k1 k10 k11 ++ (wT g tp p1 p20 p21 p22 p23 p24 ++ (wSs g sh m10 m11 m12)))))))) := D_perm (List.Perm.append_left _ (List.Perm.append_left _ (List.perm_append_comm_assoc _ _ _))) hD
  have hD : va_D (fun q : Nat => s.heap.size ≤ q) (wX g a b d fo tp sh (fb (fSun e1 x1 x2) f1) f20 ++ (wM g am e1 k1 M3 M4 M5 f1 M7 M8 p1 m10 m11 m12 M13 f20 p20 M22 M23 M24 M25 ++ (wF g fo b tr o1 ++ (wLs g b e1 e10 e11 ++ (wLs g tr (u1 301) (u1 310) (u1 311) ++ (wLs g d k1 k10 k11 ++ (wT g tp p1 p20 p21 p22 p23 p24 ++ (wSs g sh m10 m11 m12)))))))) := D_perm (List.Perm.append_left _ (List.perm_append_comm_assoc _ _ _)) hD
  have hD : va_D (fun q : Nat => s.heap.size ≤ q) (wM g am e1 k1 M3 M4 M5 f1 M7 M8 p1 m10 m11 m12 M13 f20 p20 M22 M23 M24 M25 ++ (wX g a b d fo tp sh (fb (fSun e1 x1 x2) f1) f20 ++ (wF g fo b tr o1 ++ (wLs g b e1 e10 e11 ++ (wLs g tr (u1 301) (u1 310) (u1 311) ++ (wLs g d k1 k10 k11 ++ (wT g tp p1 p20 p21 p22 p23 p24 ++ (wSs g sh m10 m11 m12)))))))) := D_perm (List.perm_append_comm_assoc _ _ _) hD
  have hP : va_P g.1 vwCl (wM g am e1 k1 M3 M4 M5 f1 M7 M8 p1 m10 m11 m12 M13 f20 p20 M22 M23 M24 M25 ++ (wX g a b d fo tp sh (fb (fSun e1 x1 x2) f1) f20 ++ (wF g fo b tr o1 ++ (wLs g b e1 e10 e11 ++ (wLs g tr (u1 301) (u1 310) (u1 311) ++ (wLs g d k1 k10 k11 ++ (wT g tp p1 p20 p21 p22 p23 p24 ++ (wSs g sh m10 m11 m12)))))))) H := va_P_app.mpr ⟨hP7, va_P_app.mpr ⟨hP0, va_P_app.mpr ⟨hP3, va_P_app.mpr ⟨hP1, va_P_app.mpr ⟨hP4, va_P_app.mpr ⟨hP2, va_P_app.mpr ⟨hP5, hP6⟩⟩⟩⟩⟩⟩⟩
  refine xmF_i (rV (rest := [.int (ab (fSun e1 x1 x2) (iI (snT e1 x1 (Int.toNat x2))))]) hx hb hml hown hts hK hl (c_X5_sun l g am e1 k1 M3 M4 M5 f1 M7 M8 p1 m10 m11 m12 M13 f20 p20 M22 M23 M24 M25 x1 x2 H.size (show InvK 0 e1 from hI) (show e1 0 ≤ 9999 from by omega) (show IR x1 from ⟨by omega, by omega⟩) (show IR x2 from ⟨by omega, by omega⟩)) lk_L_83 ⟨rfl, hP7, (va_D_app hD).1.weaken (fun _ _ _ _ => trivial)⟩ (va_recv hK.1 hP7 (ci := 5) (q0 := 0) rfl rfl) rfl rfl rfl (Rm.of rfl) rfl rfl dL_law_749) hP hD hS hA (fun x9 u2 H locs hw hP hD hS => ?_)
  obtain rfl : x9 = ab (fSun e1 x1 x2) (iI (snT e1 x1 (Int.toNat x2))) := hw
  have hP : va_P g.1 vwCl (wM g am e1 k1 M3 (u2 4) M5 (fb (fSun e1 x1 x2) f1) (u2 7) M8 p1 m10 m11 m12 M13 f20 p20 M22 M23 M24 M25 ++ (wX g a b d fo tp sh (fb (fSun e1 x1 x2) f1) f20 ++ (wF g fo b tr o1 ++ (wLs g b e1 e10 e11 ++ (wLs g tr (u1 301) (u1 310) (u1 311) ++ (wLs g d k1 k10 k11 ++ (wT g tp p1 p20 p21 p22 p23 p24 ++ (wSs g sh m10 m11 m12)))))))) H := hP
  have hD : va_D (fun q : Nat => s.heap.size ≤ q) (wM g am e1 k1 M3 (u2 4) M5 (fb (fSun e1 x1 x2) f1) (u2 7) M8 p1 m10 m11 m12 M13 f20 p20 M22 M23 M24 M25 ++ (wX g a b d fo tp sh (fb (fSun e1 x1 x2) f1) f20 ++ (wF g fo b tr o1 ++ (wLs g b e1 e10 e11 ++ (wLs g tr (u1 301) (u1 310) (u1 311) ++ (wLs g d k1 k10 k11 ++ (wT g tp p1 p20 p21 p22 p23 p24 ++ (wSs g sh m10 m11 m12)))))))) := hD
  obtain ⟨hP7, hPr0⟩ := va_P_app.mp hP
  obtain ⟨hP0, hPr1⟩ := va_P_app.mp hPr0
  obtain ⟨hP3, hPr2⟩ := va_P_app.mp hPr1
  obtain ⟨hP1, hPr3⟩ := va_P_app.mp hPr2
  obtain ⟨hP4, hPr4⟩ := va_P_app.mp hPr3
  obtain ⟨hP2, hPr5⟩ := va_P_app.mp hPr4
  obtain ⟨hP5, hP6⟩ := va_P_app.mp hPr5
  refine lv_icmp_eq (tgt := 1473) hx hb dL_law_752 (by decide) (fun _ => ?_) (fun z => absurd rfl z)
  have hD : va_D (fun q : Nat => s.heap.size ≤ q) (wX g a b d fo tp sh (fb (fSun e1 x1 x2) f1) f20 ++ (wM g am e1 k1 M3 (u2 4) M5 (fb (fSun e1 x1 x2) f1) (u2 7) M8 p1 m10 m11 m12 M13 f20 p20 M22 M23 M24 M25 ++ (wF g fo b tr o1 ++ (wLs g b e1 e10 e11 ++ (wLs g tr (u1 301) (u1 310) (u1 311) ++ (wLs g d k1 k10 k11 ++ (wT g tp p1 p20 p21 p22 p23 p24 ++ (wSs g sh m10 m11 m12)))))))) := D_perm (List.perm_append_comm_assoc _ _ _) hD
  have hD : va_D (fun q : Nat => s.heap.size ≤ q) (wX g a b d fo tp sh (fb (fSun e1 x1 x2) f1) f20 ++ (wM g am e1 k1 M3 (u2 4) M5 (fb (fSun e1 x1 x2) f1) (u2 7) M8 p1 m10 m11 m12 M13 f20 p20 M22 M23 M24 M25 ++ (wLs g b e1 e10 e11 ++ (wF g fo b tr o1 ++ (wLs g tr (u1 301) (u1 310) (u1 311) ++ (wLs g d k1 k10 k11 ++ (wT g tp p1 p20 p21 p22 p23 p24 ++ (wSs g sh m10 m11 m12)))))))) := D_perm (List.Perm.append_left _ (List.Perm.append_left _ (List.perm_append_comm_assoc _ _ _))) hD
  have hD : va_D (fun q : Nat => s.heap.size ≤ q) (wX g a b d fo tp sh (fb (fSun e1 x1 x2) f1) f20 ++ (wLs g b e1 e10 e11 ++ (wM g am e1 k1 M3 (u2 4) M5 (fb (fSun e1 x1 x2) f1) (u2 7) M8 p1 m10 m11 m12 M13 f20 p20 M22 M23 M24 M25 ++ (wF g fo b tr o1 ++ (wLs g tr (u1 301) (u1 310) (u1 311) ++ (wLs g d k1 k10 k11 ++ (wT g tp p1 p20 p21 p22 p23 p24 ++ (wSs g sh m10 m11 m12)))))))) := D_perm (List.Perm.append_left _ (List.perm_append_comm_assoc _ _ _)) hD
  have hD : va_D (fun q : Nat => s.heap.size ≤ q) (wX g a b d fo tp sh (fb (fSun e1 x1 x2) f1) f20 ++ (wLs g b e1 e10 e11 ++ (wM g am e1 k1 M3 (u2 4) M5 (fb (fSun e1 x1 x2) f1) (u2 7) M8 p1 m10 m11 m12 M13 f20 p20 M22 M23 M24 M25 ++ (wF g fo b tr o1 ++ (wLs g d k1 k10 k11 ++ (wLs g tr (u1 301) (u1 310) (u1 311) ++ (wT g tp p1 p20 p21 p22 p23 p24 ++ (wSs g sh m10 m11 m12)))))))) := D_perm (List.Perm.append_left _ (List.Perm.append_left _ (List.Perm.append_left _ (List.Perm.append_left _ (List.perm_append_comm_assoc _ _ _))))) hD
  have hD : va_D (fun q : Nat => s.heap.size ≤ q) (wX g a b d fo tp sh (fb (fSun e1 x1 x2) f1) f20 ++ (wLs g b e1 e10 e11 ++ (wM g am e1 k1 M3 (u2 4) M5 (fb (fSun e1 x1 x2) f1) (u2 7) M8 p1 m10 m11 m12 M13 f20 p20 M22 M23 M24 M25 ++ (wLs g d k1 k10 k11 ++ (wF g fo b tr o1 ++ (wLs g tr (u1 301) (u1 310) (u1 311) ++ (wT g tp p1 p20 p21 p22 p23 p24 ++ (wSs g sh m10 m11 m12)))))))) := D_perm (List.Perm.append_left _ (List.Perm.append_left _ (List.Perm.append_left _ (List.perm_append_comm_assoc _ _ _)))) hD
  have hD : va_D (fun q : Nat => s.heap.size ≤ q) (wX g a b d fo tp sh (fb (fSun e1 x1 x2) f1) f20 ++ (wLs g b e1 e10 e11 ++ (wLs g d k1 k10 k11 ++ (wM g am e1 k1 M3 (u2 4) M5 (fb (fSun e1 x1 x2) f1) (u2 7) M8 p1 m10 m11 m12 M13 f20 p20 M22 M23 M24 M25 ++ (wF g fo b tr o1 ++ (wLs g tr (u1 301) (u1 310) (u1 311) ++ (wT g tp p1 p20 p21 p22 p23 p24 ++ (wSs g sh m10 m11 m12)))))))) := D_perm (List.Perm.append_left _ (List.Perm.append_left _ (List.perm_append_comm_assoc _ _ _))) hD
  have hD : va_D (fun q : Nat => s.heap.size ≤ q) (wX g a b d fo tp sh (fb (fSun e1 x1 x2) f1) f20 ++ (wLs g b e1 e10 e11 ++ (wLs g d k1 k10 k11 ++ (wF g fo b tr o1 ++ (wM g am e1 k1 M3 (u2 4) M5 (fb (fSun e1 x1 x2) f1) (u2 7) M8 p1 m10 m11 m12 M13 f20 p20 M22 M23 M24 M25 ++ (wLs g tr (u1 301) (u1 310) (u1 311) ++ (wT g tp p1 p20 p21 p22 p23 p24 ++ (wSs g sh m10 m11 m12)))))))) := D_perm (List.Perm.append_left _ (List.Perm.append_left _ (List.Perm.append_left _ (List.perm_append_comm_assoc _ _ _)))) hD
  have hD : va_D (fun q : Nat => s.heap.size ≤ q) (wX g a b d fo tp sh (fb (fSun e1 x1 x2) f1) f20 ++ (wLs g b e1 e10 e11 ++ (wLs g d k1 k10 k11 ++ (wF g fo b tr o1 ++ (wLs g tr (u1 301) (u1 310) (u1 311) ++ (wM g am e1 k1 M3 (u2 4) M5 (fb (fSun e1 x1 x2) f1) (u2 7) M8 p1 m10 m11 m12 M13 f20 p20 M22 M23 M24 M25 ++ (wT g tp p1 p20 p21 p22 p23 p24 ++ (wSs g sh m10 m11 m12)))))))) := D_perm (List.Perm.append_left _ (List.Perm.append_left _ (List.Perm.append_left _ (List.Perm.append_left _ (List.perm_append_comm_assoc _ _ _))))) hD
  have hD : va_D (fun q : Nat => s.heap.size ≤ q) (wX g a b d fo tp sh (fb (fSun e1 x1 x2) f1) f20 ++ (wLs g b e1 e10 e11 ++ (wLs g d k1 k10 k11 ++ (wF g fo b tr o1 ++ (wLs g tr (u1 301) (u1 310) (u1 311) ++ (wT g tp p1 p20 p21 p22 p23 p24 ++ (wM g am e1 k1 M3 (u2 4) M5 (fb (fSun e1 x1 x2) f1) (u2 7) M8 p1 m10 m11 m12 M13 f20 p20 M22 M23 M24 M25 ++ (wSs g sh m10 m11 m12)))))))) := D_perm (List.Perm.append_left _ (List.Perm.append_left _ (List.Perm.append_left _ (List.Perm.append_left _ (List.Perm.append_left _ (List.perm_append_comm_assoc _ _ _)))))) hD
  have hD : va_D (fun q : Nat => s.heap.size ≤ q) (wX g a b d fo tp sh (fb (fSun e1 x1 x2) f1) f20 ++ (wLs g b e1 e10 e11 ++ (wLs g d k1 k10 k11 ++ (wF g fo b tr o1 ++ (wLs g tr (u1 301) (u1 310) (u1 311) ++ (wT g tp p1 p20 p21 p22 p23 p24 ++ (wSs g sh m10 m11 m12 ++ (wM g am e1 k1 M3 (u2 4) M5 (fb (fSun e1 x1 x2) f1) (u2 7) M8 p1 m10 m11 m12 M13 f20 p20 M22 M23 M24 M25)))))))) := D_perm (List.Perm.append_left _ (List.Perm.append_left _ (List.Perm.append_left _ (List.Perm.append_left _ (List.Perm.append_left _ (List.Perm.append_left _ (List.perm_append_comm))))))) hD
  have hP : va_P g.1 vwCl (wX g a b d fo tp sh (fb (fSun e1 x1 x2) f1) f20 ++ (wLs g b e1 e10 e11 ++ (wLs g d k1 k10 k11 ++ (wF g fo b tr o1 ++ (wLs g tr (u1 301) (u1 310) (u1 311) ++ (wT g tp p1 p20 p21 p22 p23 p24 ++ (wSs g sh m10 m11 m12 ++ (wM g am e1 k1 M3 (u2 4) M5 (fb (fSun e1 x1 x2) f1) (u2 7) M8 p1 m10 m11 m12 M13 f20 p20 M22 M23 M24 M25)))))))) H := va_P_app.mpr ⟨hP0, va_P_app.mpr ⟨hP1, va_P_app.mpr ⟨hP2, va_P_app.mpr ⟨hP3, va_P_app.mpr ⟨hP4, va_P_app.mpr ⟨hP5, va_P_app.mpr ⟨hP6, hP7⟩⟩⟩⟩⟩⟩⟩
  exact K (fun k => ([(fb (fSun e1 x1 x2) f1), (fun _ => f20), e1, e10, e11, k1, k10, k11, o1, (u1 301), (u1 310), (u1 311), p1, (fun _ => p20), (fun _ => p21), (fun _ => p22), (fun _ => p23), (fun _ => p24), m10, m11, m12, M3, (u2 4), M5, (u2 7), M8, M13, (fun _ => M22), (fun _ => M23), (fun _ => M24), (fun _ => M25)] : List (Int → Int)).getD k z0) H locs (show LVx e1 k1 f20 p1 p20 m10 m11 m12 M24 from ⟨hIe, hIk, hkp, hHB, hpz, hSS, hLR, hvz⟩) hP hD hS

set_option maxRecDepth 100000 in
set_option maxHeartbeats 4000000 in
theorem lc_17 {p : Program} {l : Launch} {e : Env} {s : State} {m : MethodId} {below : List Frame} {meth : Method} {c : Code} {g : Gd} {σ : Sg} {bs L : Nat} {xs : Nat → Int32} {Q : State → Prop} (hL : L ≤ 3072) (hC : LCx g σ p s m c bs L xs) (a b d fo tr tp sh am : Nat → Nat) (f1 e1 e10 e11 k1 k10 k11 o1 t1 t10 t11 p1 m10 m11 m12 M3 M4 M5 M7 M8 M13 : Int → Int) (f20 p20 p21 p22 p23 p24 M22 M23 M24 M25 : Int) (hV : LVx e1 k1 f20 p1 p20 m10 m11 m12 M24) {i9 : Nat} (hi9 : i9 + 6 ≤ L) {ls : Array Slot} (hl : lv_has ls 4 [(3, .int (iI (i9 : Int))), (2, .ref (am 0)), (1, .ref (a 0)), (0, .ref bs)]) {H : Heap} {locs : List Loc} (hP : va_P g.1 vwCl (wX g a b d fo tp sh f1 f20 ++ (wLs g b e1 e10 e11 ++ (wLs g d k1 k10 k11 ++ (wF g fo b tr o1 ++ (wLs g tr t1 t10 t11 ++ (wT g tp p1 p20 p21 p22 p23 p24 ++ (wSs g sh m10 m11 m12 ++ (wM g am e1 k1 M3 M4 M5 f1 M7 M8 p1 m10 m11 m12 M13 f20 p20 M22 M23 M24 M25)))))))) H) (hD : va_D (fun q : Nat => s.heap.size ≤ q) (wX g a b d fo tp sh f1 f20 ++ (wLs g b e1 e10 e11 ++ (wLs g d k1 k10 k11 ++ (wF g fo b tr o1 ++ (wLs g tr t1 t10 t11 ++ (wT g tp p1 p20 p21 p22 p23 p24 ++ (wSs g sh m10 m11 m12 ++ (wM g am e1 k1 M3 M4 M5 f1 M7 M8 p1 m10 m11 m12 M13 f20 p20 M22 M23 M24 M25))))))))) (hS : va_S (fun q : Nat => s.heap.size ≤ q) s.heap H locs) (K : ∀ (u : Nat → Int → Int) (H : Heap) (locs : List Loc), LV u → va_P g.1 vwCl (LW g (fun k => ([a, b, d, fo, tr, tp, sh, am] : List (Nat → Nat)).getD k a) u) H → va_D (fun q : Nat => s.heap.size ≤ q) (LW g (fun k => ([a, b, d, fo, tr, tp, sh, am] : List (Nat → Nat)).getD k a) u) → va_S (fun q : Nat => s.heap.size ≤ q) s.heap H locs → W p l e room_1 s m #[Value.ref bs] below meth c H locs 65 1678 Q (F0 m 1473 ls [])) : W p l e room_1 s m #[Value.ref bs] below meth c H locs 65 1678 Q (F0 m 757 ls []) := by
  obtain ⟨hx, hb, hml, hown, hts, hK, hX, hbl, hSB⟩ := hC
  have hbA : ¬ (fun q : Nat => s.heap.size ≤ q) bs := Nat.not_le.mpr hbl
  have hA : ∀ q : Nat, s.heap.size ≤ q → (fun q : Nat => s.heap.size ≤ q) q := fun _ h => h
  obtain ⟨hIe, hIk, hkp, hHB, hpz, hSS, hLR, hvz⟩ := hV
  have hI := hIe.1
  have hs9 := hIe.2
  obtain ⟨x1, hx1⟩ : ∃ x : Int, x = (xs (i9 + 1)).toInt := ⟨_, rfl⟩
  have ha1a : -2147483648 ≤ x1 := by rw [hx1]; exact (IR_of _).1
  have ha1b : x1 ≤ 2147483647 := by rw [hx1]; exact (IR_of _).2
  obtain ⟨x2, hx2⟩ : ∃ x : Int, x = (xs (i9 + 2)).toInt := ⟨_, rfl⟩
  have ha2a : -2147483648 ≤ x2 := by rw [hx2]; exact (IR_of _).1
  have ha2b : x2 ≤ 2147483647 := by rw [hx2]; exact (IR_of _).2
  obtain ⟨x3, hx3⟩ : ∃ x : Int, x = (xs (i9 + 3)).toInt := ⟨_, rfl⟩
  have ha3a : -2147483648 ≤ x3 := by rw [hx3]; exact (IR_of _).1
  have ha3b : x3 ≤ 2147483647 := by rw [hx3]; exact (IR_of _).2
  obtain ⟨x4, hx4⟩ : ∃ x : Int, x = (xs (i9 + 4)).toInt := ⟨_, rfl⟩
  have ha4a : -2147483648 ≤ x4 := by rw [hx4]; exact (IR_of _).1
  have ha4b : x4 ≤ 2147483647 := by rw [hx4]; exact (IR_of _).2
  obtain ⟨x5, hx5⟩ : ∃ x : Int, x = (xs (i9 + 5)).toInt := ⟨_, rfl⟩
  have ha5a : -2147483648 ≤ x5 := by rw [hx5]; exact (IR_of _).1
  have ha5b : x5 ≤ 2147483647 := by rw [hx5]; exact (IR_of _).2
  obtain ⟨hP0, hPr0⟩ := va_P_app.mp hP
  obtain ⟨hP1, hPr1⟩ := va_P_app.mp hPr0
  obtain ⟨hP2, hPr2⟩ := va_P_app.mp hPr1
  obtain ⟨hP3, hPr3⟩ := va_P_app.mp hPr2
  obtain ⟨hP4, hPr4⟩ := va_P_app.mp hPr3
  obtain ⟨hP5, hPr5⟩ := va_P_app.mp hPr4
  obtain ⟨hP6, hP7⟩ := va_P_app.mp hPr5
  refine lv_aload_n hx hb dL_law_757 rfl (lv_at hl 2 rfl) ?_
  have hD : va_D (fun q : Nat => s.heap.size ≤ q) (wX g a b d fo tp sh f1 f20 ++ (wLs g b e1 e10 e11 ++ (wF g fo b tr o1 ++ (wLs g d k1 k10 k11 ++ (wLs g tr t1 t10 t11 ++ (wT g tp p1 p20 p21 p22 p23 p24 ++ (wSs g sh m10 m11 m12 ++ (wM g am e1 k1 M3 M4 M5 f1 M7 M8 p1 m10 m11 m12 M13 f20 p20 M22 M23 M24 M25)))))))) := D_perm (List.Perm.append_left _ (List.Perm.append_left _ (List.perm_append_comm_assoc _ _ _))) hD
  have hD : va_D (fun q : Nat => s.heap.size ≤ q) (wX g a b d fo tp sh f1 f20 ++ (wF g fo b tr o1 ++ (wLs g b e1 e10 e11 ++ (wLs g d k1 k10 k11 ++ (wLs g tr t1 t10 t11 ++ (wT g tp p1 p20 p21 p22 p23 p24 ++ (wSs g sh m10 m11 m12 ++ (wM g am e1 k1 M3 M4 M5 f1 M7 M8 p1 m10 m11 m12 M13 f20 p20 M22 M23 M24 M25)))))))) := D_perm (List.Perm.append_left _ (List.perm_append_comm_assoc _ _ _)) hD
  have hD : va_D (fun q : Nat => s.heap.size ≤ q) (wX g a b d fo tp sh f1 f20 ++ (wF g fo b tr o1 ++ (wLs g b e1 e10 e11 ++ (wLs g tr t1 t10 t11 ++ (wLs g d k1 k10 k11 ++ (wT g tp p1 p20 p21 p22 p23 p24 ++ (wSs g sh m10 m11 m12 ++ (wM g am e1 k1 M3 M4 M5 f1 M7 M8 p1 m10 m11 m12 M13 f20 p20 M22 M23 M24 M25)))))))) := D_perm (List.Perm.append_left _ (List.Perm.append_left _ (List.Perm.append_left _ (List.perm_append_comm_assoc _ _ _)))) hD
  have hP : va_P g.1 vwCl (wX g a b d fo tp sh f1 f20 ++ (wF g fo b tr o1 ++ (wLs g b e1 e10 e11 ++ (wLs g tr t1 t10 t11 ++ (wLs g d k1 k10 k11 ++ (wT g tp p1 p20 p21 p22 p23 p24 ++ (wSs g sh m10 m11 m12 ++ (wM g am e1 k1 M3 M4 M5 f1 M7 M8 p1 m10 m11 m12 M13 f20 p20 M22 M23 M24 M25)))))))) H := va_P_app.mpr ⟨hP0, va_P_app.mpr ⟨hP3, va_P_app.mpr ⟨hP1, va_P_app.mpr ⟨hP4, va_P_app.mpr ⟨hP2, va_P_app.mpr ⟨hP5, va_P_app.mpr ⟨hP6, hP7⟩⟩⟩⟩⟩⟩⟩
  have hP : va_P g.1 vwCl ((wX g a b d fo tp sh f1 f20 ++ (wF g fo b tr o1 ++ (wLs g b e1 e10 e11 ++ (wLs g tr t1 t10 t11)))) ++ (wLs g d k1 k10 k11 ++ (wT g tp p1 p20 p21 p22 p23 p24 ++ (wSs g sh m10 m11 m12 ++ (wM g am e1 k1 M3 M4 M5 f1 M7 M8 p1 m10 m11 m12 M13 f20 p20 M22 M23 M24 M25))))) H := by rw [List.append_assoc, List.append_assoc, List.append_assoc]; exact hP
  have hD : va_D (fun q : Nat => s.heap.size ≤ q) ((wX g a b d fo tp sh f1 f20 ++ (wF g fo b tr o1 ++ (wLs g b e1 e10 e11 ++ (wLs g tr t1 t10 t11)))) ++ (wLs g d k1 k10 k11 ++ (wT g tp p1 p20 p21 p22 p23 p24 ++ (wSs g sh m10 m11 m12 ++ (wM g am e1 k1 M3 M4 M5 f1 M7 M8 p1 m10 m11 m12 M13 f20 p20 M22 M23 M24 M25))))) := by rw [List.append_assoc, List.append_assoc, List.append_assoc]; exact hD
  refine xmF_i (rV (rest := []) hx hb hml hown hts hK hl (c_X4_stands l g d tp sh a f1 f20 fo o1 b e1 e10 e11 tr t1 t10 t11 H.size (show InvK 0 e1 from hI) (show e1 0 ≤ 9999 from by omega)) lk_L_84 ⟨rfl, (va_P_app.mp hP).1, (va_D_app hD).1.weaken (fun _ _ _ _ => trivial)⟩ (va_recv hK.1 hP0 (ci := 4) (q0 := 0) rfl rfl) rfl rfl rfl (Rm.of rfl) rfl rfl dL_law_758) hP hD hS hA (fun x9 u1 H locs hw hP hD hS => ?_)
  have hP : va_P g.1 vwCl ((wX g a b d fo tp sh f1 f20 ++ (wF g fo b tr o1 ++ (wLs g b e1 e10 e11 ++ (wLs g tr (u1 301) (u1 310) (u1 311))))) ++ (wLs g d k1 k10 k11 ++ (wT g tp p1 p20 p21 p22 p23 p24 ++ (wSs g sh m10 m11 m12 ++ (wM g am e1 k1 M3 M4 M5 f1 M7 M8 p1 m10 m11 m12 M13 f20 p20 M22 M23 M24 M25))))) H := hP
  have hD : va_D (fun q : Nat => s.heap.size ≤ q) ((wX g a b d fo tp sh f1 f20 ++ (wF g fo b tr o1 ++ (wLs g b e1 e10 e11 ++ (wLs g tr (u1 301) (u1 310) (u1 311))))) ++ (wLs g d k1 k10 k11 ++ (wT g tp p1 p20 p21 p22 p23 p24 ++ (wSs g sh m10 m11 m12 ++ (wM g am e1 k1 M3 M4 M5 f1 M7 M8 p1 m10 m11 m12 M13 f20 p20 M22 M23 M24 M25))))) := hD
  rw [List.append_assoc, List.append_assoc, List.append_assoc] at hP hD
  obtain rfl : x9 = stdS e1 := hw
  have hP : va_P g.1 vwCl (wX g a b d fo tp sh f1 f20 ++ (wF g fo b tr o1 ++ (wLs g b e1 e10 e11 ++ (wLs g tr (u1 301) (u1 310) (u1 311) ++ (wLs g d k1 k10 k11 ++ (wT g tp p1 p20 p21 p22 p23 p24 ++ (wSs g sh m10 m11 m12 ++ (wM g am e1 k1 M3 M4 M5 f1 M7 M8 p1 m10 m11 m12 M13 f20 p20 M22 M23 M24 M25)))))))) H := hP
  have hD : va_D (fun q : Nat => s.heap.size ≤ q) (wX g a b d fo tp sh f1 f20 ++ (wF g fo b tr o1 ++ (wLs g b e1 e10 e11 ++ (wLs g tr (u1 301) (u1 310) (u1 311) ++ (wLs g d k1 k10 k11 ++ (wT g tp p1 p20 p21 p22 p23 p24 ++ (wSs g sh m10 m11 m12 ++ (wM g am e1 k1 M3 M4 M5 f1 M7 M8 p1 m10 m11 m12 M13 f20 p20 M22 M23 M24 M25)))))))) := hD
  obtain ⟨hP0, hPr0⟩ := va_P_app.mp hP
  obtain ⟨hP3, hPr1⟩ := va_P_app.mp hPr0
  obtain ⟨hP1, hPr2⟩ := va_P_app.mp hPr1
  obtain ⟨hP4, hPr3⟩ := va_P_app.mp hPr2
  obtain ⟨hP2, hPr4⟩ := va_P_app.mp hPr3
  obtain ⟨hP5, hPr5⟩ := va_P_app.mp hPr4
  obtain ⟨hP6, hP7⟩ := va_P_app.mp hPr5
  refine lv_aload_n hx hb dL_law_761 rfl (lv_at hl 1 rfl) ?_
  have hD : va_D (fun q : Nat => s.heap.size ≤ q) (wX g a b d fo tp sh f1 f20 ++ (wF g fo b tr o1 ++ (wLs g b e1 e10 e11 ++ (wLs g tr (u1 301) (u1 310) (u1 311) ++ (wLs g d k1 k10 k11 ++ (wT g tp p1 p20 p21 p22 p23 p24 ++ (wM g am e1 k1 M3 M4 M5 f1 M7 M8 p1 m10 m11 m12 M13 f20 p20 M22 M23 M24 M25 ++ (wSs g sh m10 m11 m12)))))))) := D_perm (List.Perm.append_left _ (List.Perm.append_left _ (List.Perm.append_left _ (List.Perm.append_left _ (List.Perm.append_left _ (List.Perm.append_left _ (List.perm_append_comm))))))) hD
  have hD : va_D (fun q : Nat => s.heap.size ≤ q) (wX g a b d fo tp sh f1 f20 ++ (wF g fo b tr o1 ++ (wLs g b e1 e10 e11 ++ (wLs g tr (u1 301) (u1 310) (u1 311) ++ (wLs g d k1 k10 k11 ++ (wM g am e1 k1 M3 M4 M5 f1 M7 M8 p1 m10 m11 m12 M13 f20 p20 M22 M23 M24 M25 ++ (wT g tp p1 p20 p21 p22 p23 p24 ++ (wSs g sh m10 m11 m12)))))))) := D_perm (List.Perm.append_left _ (List.Perm.append_left _ (List.Perm.append_left _ (List.Perm.append_left _ (List.Perm.append_left _ (List.perm_append_comm_assoc _ _ _)))))) hD
  have hD : va_D (fun q : Nat => s.heap.size ≤ q) (wX g a b d fo tp sh f1 f20 ++ (wF g fo b tr o1 ++ (wLs g b e1 e10 e11 ++ (wLs g tr (u1 301) (u1 310) (u1 311) ++ (wM g am e1 k1 M3 M4 M5 f1 M7 M8 p1 m10 m11 m12 M13 f20 p20 M22 M23 M24 M25 ++ (wLs g d k1 k10 k11 ++ (wT g tp p1 p20 p21 p22 p23 p24 ++ (wSs g sh m10 m11 m12)))))))) := D_perm (List.Perm.append_left _ (List.Perm.append_left _ (List.Perm.append_left _ (List.Perm.append_left _ (List.perm_append_comm_assoc _ _ _))))) hD
  have hD : va_D (fun q : Nat => s.heap.size ≤ q) (wX g a b d fo tp sh f1 f20 ++ (wF g fo b tr o1 ++ (wLs g b e1 e10 e11 ++ (wM g am e1 k1 M3 M4 M5 f1 M7 M8 p1 m10 m11 m12 M13 f20 p20 M22 M23 M24 M25 ++ (wLs g tr (u1 301) (u1 310) (u1 311) ++ (wLs g d k1 k10 k11 ++ (wT g tp p1 p20 p21 p22 p23 p24 ++ (wSs g sh m10 m11 m12)))))))) := D_perm (List.Perm.append_left _ (List.Perm.append_left _ (List.Perm.append_left _ (List.perm_append_comm_assoc _ _ _)))) hD
  have hD : va_D (fun q : Nat => s.heap.size ≤ q) (wX g a b d fo tp sh f1 f20 ++ (wF g fo b tr o1 ++ (wM g am e1 k1 M3 M4 M5 f1 M7 M8 p1 m10 m11 m12 M13 f20 p20 M22 M23 M24 M25 ++ (wLs g b e1 e10 e11 ++ (wLs g tr (u1 301) (u1 310) (u1 311) ++ (wLs g d k1 k10 k11 ++ (wT g tp p1 p20 p21 p22 p23 p24 ++ (wSs g sh m10 m11 m12)))))))) := D_perm (List.Perm.append_left _ (List.Perm.append_left _ (List.perm_append_comm_assoc _ _ _))) hD
  have hD : va_D (fun q : Nat => s.heap.size ≤ q) (wX g a b d fo tp sh f1 f20 ++ (wM g am e1 k1 M3 M4 M5 f1 M7 M8 p1 m10 m11 m12 M13 f20 p20 M22 M23 M24 M25 ++ (wF g fo b tr o1 ++ (wLs g b e1 e10 e11 ++ (wLs g tr (u1 301) (u1 310) (u1 311) ++ (wLs g d k1 k10 k11 ++ (wT g tp p1 p20 p21 p22 p23 p24 ++ (wSs g sh m10 m11 m12)))))))) := D_perm (List.Perm.append_left _ (List.perm_append_comm_assoc _ _ _)) hD
  have hD : va_D (fun q : Nat => s.heap.size ≤ q) (wM g am e1 k1 M3 M4 M5 f1 M7 M8 p1 m10 m11 m12 M13 f20 p20 M22 M23 M24 M25 ++ (wX g a b d fo tp sh f1 f20 ++ (wF g fo b tr o1 ++ (wLs g b e1 e10 e11 ++ (wLs g tr (u1 301) (u1 310) (u1 311) ++ (wLs g d k1 k10 k11 ++ (wT g tp p1 p20 p21 p22 p23 p24 ++ (wSs g sh m10 m11 m12)))))))) := D_perm (List.perm_append_comm_assoc _ _ _) hD
  have hP : va_P g.1 vwCl (wM g am e1 k1 M3 M4 M5 f1 M7 M8 p1 m10 m11 m12 M13 f20 p20 M22 M23 M24 M25 ++ (wX g a b d fo tp sh f1 f20 ++ (wF g fo b tr o1 ++ (wLs g b e1 e10 e11 ++ (wLs g tr (u1 301) (u1 310) (u1 311) ++ (wLs g d k1 k10 k11 ++ (wT g tp p1 p20 p21 p22 p23 p24 ++ (wSs g sh m10 m11 m12)))))))) H := va_P_app.mpr ⟨hP7, va_P_app.mpr ⟨hP0, va_P_app.mpr ⟨hP3, va_P_app.mpr ⟨hP1, va_P_app.mpr ⟨hP4, va_P_app.mpr ⟨hP2, va_P_app.mpr ⟨hP5, hP6⟩⟩⟩⟩⟩⟩⟩
  refine xmF_i (rV (rest := [.int (stdS e1)]) hx hb hml hown hts hK hl (c_X5_stands l g am e1 k1 M3 M4 M5 f1 M7 M8 p1 m10 m11 m12 M13 f20 p20 M22 M23 M24 M25 H.size (show InvK 0 e1 from hI) (show e1 0 ≤ 9999 from by omega)) lk_L_88 ⟨rfl, hP7, (va_D_app hD).1.weaken (fun _ _ _ _ => trivial)⟩ (va_recv hK.1 hP7 (ci := 5) (q0 := 0) rfl rfl) rfl rfl rfl (Rm.of rfl) rfl rfl dL_law_762) hP hD hS hA (fun x9 u2 H locs hw hP hD hS => ?_)
  obtain rfl : x9 = stdS e1 := hw
  have hP : va_P g.1 vwCl (wM g am e1 k1 M3 (u2 4) M5 f1 (u2 7) (u2 8) p1 m10 m11 m12 M13 f20 p20 M22 M23 M24 M25 ++ (wX g a b d fo tp sh f1 f20 ++ (wF g fo b tr o1 ++ (wLs g b e1 e10 e11 ++ (wLs g tr (u1 301) (u1 310) (u1 311) ++ (wLs g d k1 k10 k11 ++ (wT g tp p1 p20 p21 p22 p23 p24 ++ (wSs g sh m10 m11 m12)))))))) H := hP
  have hD : va_D (fun q : Nat => s.heap.size ≤ q) (wM g am e1 k1 M3 (u2 4) M5 f1 (u2 7) (u2 8) p1 m10 m11 m12 M13 f20 p20 M22 M23 M24 M25 ++ (wX g a b d fo tp sh f1 f20 ++ (wF g fo b tr o1 ++ (wLs g b e1 e10 e11 ++ (wLs g tr (u1 301) (u1 310) (u1 311) ++ (wLs g d k1 k10 k11 ++ (wT g tp p1 p20 p21 p22 p23 p24 ++ (wSs g sh m10 m11 m12)))))))) := hD
  obtain ⟨hP7, hPr0⟩ := va_P_app.mp hP
  obtain ⟨hP0, hPr1⟩ := va_P_app.mp hPr0
  obtain ⟨hP3, hPr2⟩ := va_P_app.mp hPr1
  obtain ⟨hP1, hPr3⟩ := va_P_app.mp hPr2
  obtain ⟨hP4, hPr4⟩ := va_P_app.mp hPr3
  obtain ⟨hP2, hPr5⟩ := va_P_app.mp hPr4
  obtain ⟨hP5, hP6⟩ := va_P_app.mp hPr5
  refine lv_icmp_eq (tgt := 1473) hx hb dL_law_765 (by decide) (fun _ => ?_) (fun z => absurd rfl z)
  have hD : va_D (fun q : Nat => s.heap.size ≤ q) (wX g a b d fo tp sh f1 f20 ++ (wM g am e1 k1 M3 (u2 4) M5 f1 (u2 7) (u2 8) p1 m10 m11 m12 M13 f20 p20 M22 M23 M24 M25 ++ (wF g fo b tr o1 ++ (wLs g b e1 e10 e11 ++ (wLs g tr (u1 301) (u1 310) (u1 311) ++ (wLs g d k1 k10 k11 ++ (wT g tp p1 p20 p21 p22 p23 p24 ++ (wSs g sh m10 m11 m12)))))))) := D_perm (List.perm_append_comm_assoc _ _ _) hD
  have hD : va_D (fun q : Nat => s.heap.size ≤ q) (wX g a b d fo tp sh f1 f20 ++ (wM g am e1 k1 M3 (u2 4) M5 f1 (u2 7) (u2 8) p1 m10 m11 m12 M13 f20 p20 M22 M23 M24 M25 ++ (wLs g b e1 e10 e11 ++ (wF g fo b tr o1 ++ (wLs g tr (u1 301) (u1 310) (u1 311) ++ (wLs g d k1 k10 k11 ++ (wT g tp p1 p20 p21 p22 p23 p24 ++ (wSs g sh m10 m11 m12)))))))) := D_perm (List.Perm.append_left _ (List.Perm.append_left _ (List.perm_append_comm_assoc _ _ _))) hD
  have hD : va_D (fun q : Nat => s.heap.size ≤ q) (wX g a b d fo tp sh f1 f20 ++ (wLs g b e1 e10 e11 ++ (wM g am e1 k1 M3 (u2 4) M5 f1 (u2 7) (u2 8) p1 m10 m11 m12 M13 f20 p20 M22 M23 M24 M25 ++ (wF g fo b tr o1 ++ (wLs g tr (u1 301) (u1 310) (u1 311) ++ (wLs g d k1 k10 k11 ++ (wT g tp p1 p20 p21 p22 p23 p24 ++ (wSs g sh m10 m11 m12)))))))) := D_perm (List.Perm.append_left _ (List.perm_append_comm_assoc _ _ _)) hD
  have hD : va_D (fun q : Nat => s.heap.size ≤ q) (wX g a b d fo tp sh f1 f20 ++ (wLs g b e1 e10 e11 ++ (wM g am e1 k1 M3 (u2 4) M5 f1 (u2 7) (u2 8) p1 m10 m11 m12 M13 f20 p20 M22 M23 M24 M25 ++ (wF g fo b tr o1 ++ (wLs g d k1 k10 k11 ++ (wLs g tr (u1 301) (u1 310) (u1 311) ++ (wT g tp p1 p20 p21 p22 p23 p24 ++ (wSs g sh m10 m11 m12)))))))) := D_perm (List.Perm.append_left _ (List.Perm.append_left _ (List.Perm.append_left _ (List.Perm.append_left _ (List.perm_append_comm_assoc _ _ _))))) hD
  have hD : va_D (fun q : Nat => s.heap.size ≤ q) (wX g a b d fo tp sh f1 f20 ++ (wLs g b e1 e10 e11 ++ (wM g am e1 k1 M3 (u2 4) M5 f1 (u2 7) (u2 8) p1 m10 m11 m12 M13 f20 p20 M22 M23 M24 M25 ++ (wLs g d k1 k10 k11 ++ (wF g fo b tr o1 ++ (wLs g tr (u1 301) (u1 310) (u1 311) ++ (wT g tp p1 p20 p21 p22 p23 p24 ++ (wSs g sh m10 m11 m12)))))))) := D_perm (List.Perm.append_left _ (List.Perm.append_left _ (List.Perm.append_left _ (List.perm_append_comm_assoc _ _ _)))) hD
  have hD : va_D (fun q : Nat => s.heap.size ≤ q) (wX g a b d fo tp sh f1 f20 ++ (wLs g b e1 e10 e11 ++ (wLs g d k1 k10 k11 ++ (wM g am e1 k1 M3 (u2 4) M5 f1 (u2 7) (u2 8) p1 m10 m11 m12 M13 f20 p20 M22 M23 M24 M25 ++ (wF g fo b tr o1 ++ (wLs g tr (u1 301) (u1 310) (u1 311) ++ (wT g tp p1 p20 p21 p22 p23 p24 ++ (wSs g sh m10 m11 m12)))))))) := D_perm (List.Perm.append_left _ (List.Perm.append_left _ (List.perm_append_comm_assoc _ _ _))) hD
  have hD : va_D (fun q : Nat => s.heap.size ≤ q) (wX g a b d fo tp sh f1 f20 ++ (wLs g b e1 e10 e11 ++ (wLs g d k1 k10 k11 ++ (wF g fo b tr o1 ++ (wM g am e1 k1 M3 (u2 4) M5 f1 (u2 7) (u2 8) p1 m10 m11 m12 M13 f20 p20 M22 M23 M24 M25 ++ (wLs g tr (u1 301) (u1 310) (u1 311) ++ (wT g tp p1 p20 p21 p22 p23 p24 ++ (wSs g sh m10 m11 m12)))))))) := D_perm (List.Perm.append_left _ (List.Perm.append_left _ (List.Perm.append_left _ (List.perm_append_comm_assoc _ _ _)))) hD
  have hD : va_D (fun q : Nat => s.heap.size ≤ q) (wX g a b d fo tp sh f1 f20 ++ (wLs g b e1 e10 e11 ++ (wLs g d k1 k10 k11 ++ (wF g fo b tr o1 ++ (wLs g tr (u1 301) (u1 310) (u1 311) ++ (wM g am e1 k1 M3 (u2 4) M5 f1 (u2 7) (u2 8) p1 m10 m11 m12 M13 f20 p20 M22 M23 M24 M25 ++ (wT g tp p1 p20 p21 p22 p23 p24 ++ (wSs g sh m10 m11 m12)))))))) := D_perm (List.Perm.append_left _ (List.Perm.append_left _ (List.Perm.append_left _ (List.Perm.append_left _ (List.perm_append_comm_assoc _ _ _))))) hD
  have hD : va_D (fun q : Nat => s.heap.size ≤ q) (wX g a b d fo tp sh f1 f20 ++ (wLs g b e1 e10 e11 ++ (wLs g d k1 k10 k11 ++ (wF g fo b tr o1 ++ (wLs g tr (u1 301) (u1 310) (u1 311) ++ (wT g tp p1 p20 p21 p22 p23 p24 ++ (wM g am e1 k1 M3 (u2 4) M5 f1 (u2 7) (u2 8) p1 m10 m11 m12 M13 f20 p20 M22 M23 M24 M25 ++ (wSs g sh m10 m11 m12)))))))) := D_perm (List.Perm.append_left _ (List.Perm.append_left _ (List.Perm.append_left _ (List.Perm.append_left _ (List.Perm.append_left _ (List.perm_append_comm_assoc _ _ _)))))) hD
  have hD : va_D (fun q : Nat => s.heap.size ≤ q) (wX g a b d fo tp sh f1 f20 ++ (wLs g b e1 e10 e11 ++ (wLs g d k1 k10 k11 ++ (wF g fo b tr o1 ++ (wLs g tr (u1 301) (u1 310) (u1 311) ++ (wT g tp p1 p20 p21 p22 p23 p24 ++ (wSs g sh m10 m11 m12 ++ (wM g am e1 k1 M3 (u2 4) M5 f1 (u2 7) (u2 8) p1 m10 m11 m12 M13 f20 p20 M22 M23 M24 M25)))))))) := D_perm (List.Perm.append_left _ (List.Perm.append_left _ (List.Perm.append_left _ (List.Perm.append_left _ (List.Perm.append_left _ (List.Perm.append_left _ (List.perm_append_comm))))))) hD
  have hP : va_P g.1 vwCl (wX g a b d fo tp sh f1 f20 ++ (wLs g b e1 e10 e11 ++ (wLs g d k1 k10 k11 ++ (wF g fo b tr o1 ++ (wLs g tr (u1 301) (u1 310) (u1 311) ++ (wT g tp p1 p20 p21 p22 p23 p24 ++ (wSs g sh m10 m11 m12 ++ (wM g am e1 k1 M3 (u2 4) M5 f1 (u2 7) (u2 8) p1 m10 m11 m12 M13 f20 p20 M22 M23 M24 M25)))))))) H := va_P_app.mpr ⟨hP0, va_P_app.mpr ⟨hP1, va_P_app.mpr ⟨hP2, va_P_app.mpr ⟨hP3, va_P_app.mpr ⟨hP4, va_P_app.mpr ⟨hP5, va_P_app.mpr ⟨hP6, hP7⟩⟩⟩⟩⟩⟩⟩
  exact K (fun k => ([f1, (fun _ => f20), e1, e10, e11, k1, k10, k11, o1, (u1 301), (u1 310), (u1 311), p1, (fun _ => p20), (fun _ => p21), (fun _ => p22), (fun _ => p23), (fun _ => p24), m10, m11, m12, M3, (u2 4), M5, (u2 7), (u2 8), M13, (fun _ => M22), (fun _ => M23), (fun _ => M24), (fun _ => M25)] : List (Int → Int)).getD k z0) H locs (show LVx e1 k1 f20 p1 p20 m10 m11 m12 M24 from ⟨hIe, hIk, hkp, hHB, hpz, hSS, hLR, hvz⟩) hP hD hS

set_option maxRecDepth 100000 in
set_option maxHeartbeats 4000000 in
theorem lc_18 {p : Program} {l : Launch} {e : Env} {s : State} {m : MethodId} {below : List Frame} {meth : Method} {c : Code} {g : Gd} {σ : Sg} {bs L : Nat} {xs : Nat → Int32} {Q : State → Prop} (hL : L ≤ 3072) (hC : LCx g σ p s m c bs L xs) (a b d fo tr tp sh am : Nat → Nat) (f1 e1 e10 e11 k1 k10 k11 o1 t1 t10 t11 p1 m10 m11 m12 M3 M4 M5 M7 M8 M13 : Int → Int) (f20 p20 p21 p22 p23 p24 M22 M23 M24 M25 : Int) (hV : LVx e1 k1 f20 p1 p20 m10 m11 m12 M24) {i9 : Nat} (hi9 : i9 + 6 ≤ L) {ls : Array Slot} (hl : lv_has ls 4 [(3, .int (iI (i9 : Int))), (2, .ref (am 0)), (1, .ref (a 0)), (0, .ref bs)]) {H : Heap} {locs : List Loc} (hP : va_P g.1 vwCl (wX g a b d fo tp sh f1 f20 ++ (wLs g b e1 e10 e11 ++ (wLs g d k1 k10 k11 ++ (wF g fo b tr o1 ++ (wLs g tr t1 t10 t11 ++ (wT g tp p1 p20 p21 p22 p23 p24 ++ (wSs g sh m10 m11 m12 ++ (wM g am e1 k1 M3 M4 M5 f1 M7 M8 p1 m10 m11 m12 M13 f20 p20 M22 M23 M24 M25)))))))) H) (hD : va_D (fun q : Nat => s.heap.size ≤ q) (wX g a b d fo tp sh f1 f20 ++ (wLs g b e1 e10 e11 ++ (wLs g d k1 k10 k11 ++ (wF g fo b tr o1 ++ (wLs g tr t1 t10 t11 ++ (wT g tp p1 p20 p21 p22 p23 p24 ++ (wSs g sh m10 m11 m12 ++ (wM g am e1 k1 M3 M4 M5 f1 M7 M8 p1 m10 m11 m12 M13 f20 p20 M22 M23 M24 M25))))))))) (hS : va_S (fun q : Nat => s.heap.size ≤ q) s.heap H locs) (K : ∀ (u : Nat → Int → Int) (H : Heap) (locs : List Loc), LV u → va_P g.1 vwCl (LW g (fun k => ([a, b, d, fo, tr, tp, sh, am] : List (Nat → Nat)).getD k a) u) H → va_D (fun q : Nat => s.heap.size ≤ q) (LW g (fun k => ([a, b, d, fo, tr, tp, sh, am] : List (Nat → Nat)).getD k a) u) → va_S (fun q : Nat => s.heap.size ≤ q) s.heap H locs → W p l e room_1 s m #[Value.ref bs] below meth c H locs 65 1678 Q (F0 m 1473 ls [])) : W p l e room_1 s m #[Value.ref bs] below meth c H locs 65 1678 Q (F0 m 770 ls []) := by
  obtain ⟨hx, hb, hml, hown, hts, hK, hX, hbl, hSB⟩ := hC
  have hbA : ¬ (fun q : Nat => s.heap.size ≤ q) bs := Nat.not_le.mpr hbl
  have hA : ∀ q : Nat, s.heap.size ≤ q → (fun q : Nat => s.heap.size ≤ q) q := fun _ h => h
  obtain ⟨hIe, hIk, hkp, hHB, hpz, hSS, hLR, hvz⟩ := hV
  have hI := hIe.1
  have hs9 := hIe.2
  obtain ⟨x1, hx1⟩ : ∃ x : Int, x = (xs (i9 + 1)).toInt := ⟨_, rfl⟩
  have ha1a : -2147483648 ≤ x1 := by rw [hx1]; exact (IR_of _).1
  have ha1b : x1 ≤ 2147483647 := by rw [hx1]; exact (IR_of _).2
  obtain ⟨x2, hx2⟩ : ∃ x : Int, x = (xs (i9 + 2)).toInt := ⟨_, rfl⟩
  have ha2a : -2147483648 ≤ x2 := by rw [hx2]; exact (IR_of _).1
  have ha2b : x2 ≤ 2147483647 := by rw [hx2]; exact (IR_of _).2
  obtain ⟨x3, hx3⟩ : ∃ x : Int, x = (xs (i9 + 3)).toInt := ⟨_, rfl⟩
  have ha3a : -2147483648 ≤ x3 := by rw [hx3]; exact (IR_of _).1
  have ha3b : x3 ≤ 2147483647 := by rw [hx3]; exact (IR_of _).2
  obtain ⟨x4, hx4⟩ : ∃ x : Int, x = (xs (i9 + 4)).toInt := ⟨_, rfl⟩
  have ha4a : -2147483648 ≤ x4 := by rw [hx4]; exact (IR_of _).1
  have ha4b : x4 ≤ 2147483647 := by rw [hx4]; exact (IR_of _).2
  obtain ⟨x5, hx5⟩ : ∃ x : Int, x = (xs (i9 + 5)).toInt := ⟨_, rfl⟩
  have ha5a : -2147483648 ≤ x5 := by rw [hx5]; exact (IR_of _).1
  have ha5b : x5 ≤ 2147483647 := by rw [hx5]; exact (IR_of _).2
  obtain ⟨hP0, hPr0⟩ := va_P_app.mp hP
  obtain ⟨hP1, hPr1⟩ := va_P_app.mp hPr0
  obtain ⟨hP2, hPr2⟩ := va_P_app.mp hPr1
  obtain ⟨hP3, hPr3⟩ := va_P_app.mp hPr2
  obtain ⟨hP4, hPr4⟩ := va_P_app.mp hPr3
  obtain ⟨hP5, hPr5⟩ := va_P_app.mp hPr4
  obtain ⟨hP6, hP7⟩ := va_P_app.mp hPr5
  refine lv_aload_n hx hb dL_law_770 rfl (lv_at hl 2 rfl) ?_
  refine lv_aload_n hx hb dL_law_771 rfl (lv_at hl 3 rfl) ?_
  refine lv_iload_n hx hb dL_law_772 rfl (lv_at hl 0 rfl) ?_
  refine lv_iconst (v := iI (1)) hx hb dL_law_773 (by decide) ?_
  refine xi_add hx hb dL_law_774 ?_
  refine xs_ld (i := (i9 : Int) + 1) (j := i9 + 1) hx hb hX hbl hbA hS (by omega) (by omega) hL dL_law_775 ?_
  rw [← hx1]
  have hP : va_P g.1 vwCl ((wX g a b d fo tp sh f1 f20 ++ (wLs g b e1 e10 e11)) ++ (wLs g d k1 k10 k11 ++ (wF g fo b tr o1 ++ (wLs g tr t1 t10 t11 ++ (wT g tp p1 p20 p21 p22 p23 p24 ++ (wSs g sh m10 m11 m12 ++ (wM g am e1 k1 M3 M4 M5 f1 M7 M8 p1 m10 m11 m12 M13 f20 p20 M22 M23 M24 M25))))))) H := by rw [List.append_assoc]; exact hP
  have hD : va_D (fun q : Nat => s.heap.size ≤ q) ((wX g a b d fo tp sh f1 f20 ++ (wLs g b e1 e10 e11)) ++ (wLs g d k1 k10 k11 ++ (wF g fo b tr o1 ++ (wLs g tr t1 t10 t11 ++ (wT g tp p1 p20 p21 p22 p23 p24 ++ (wSs g sh m10 m11 m12 ++ (wM g am e1 k1 M3 M4 M5 f1 M7 M8 p1 m10 m11 m12 M13 f20 p20 M22 M23 M24 M25))))))) := by rw [List.append_assoc]; exact hD
  refine xmF_i (rV (rest := []) hx hb hml hown hts hK hl (c_X4_ahead l g d fo tp sh a f1 f20 b e1 e10 e11 x1 H.size (show InvK 0 e1 from hI) (show e1 0 ≤ 9999 from by omega) (show IR x1 from ⟨by omega, by omega⟩)) lk_L_89 ⟨rfl, (va_P_app.mp hP).1, (va_D_app hD).1.weaken (fun _ _ _ _ => trivial)⟩ (va_recv hK.1 hP0 (ci := 4) (q0 := 0) rfl rfl) rfl rfl rfl (Rm.of rfl) rfl rfl dL_law_776) hP hD hS hA (fun x9 _ H locs hw hP hD hS => ?_)
  have hP : va_P g.1 vwCl ((wX g a b d fo tp sh (fb (fLev e1 x1) f1) f20 ++ (wLs g b e1 e10 e11)) ++ (wLs g d k1 k10 k11 ++ (wF g fo b tr o1 ++ (wLs g tr t1 t10 t11 ++ (wT g tp p1 p20 p21 p22 p23 p24 ++ (wSs g sh m10 m11 m12 ++ (wM g am e1 k1 M3 M4 M5 f1 M7 M8 p1 m10 m11 m12 M13 f20 p20 M22 M23 M24 M25))))))) H := hP
  have hD : va_D (fun q : Nat => s.heap.size ≤ q) ((wX g a b d fo tp sh (fb (fLev e1 x1) f1) f20 ++ (wLs g b e1 e10 e11)) ++ (wLs g d k1 k10 k11 ++ (wF g fo b tr o1 ++ (wLs g tr t1 t10 t11 ++ (wT g tp p1 p20 p21 p22 p23 p24 ++ (wSs g sh m10 m11 m12 ++ (wM g am e1 k1 M3 M4 M5 f1 M7 M8 p1 m10 m11 m12 M13 f20 p20 M22 M23 M24 M25))))))) := hD
  rw [List.append_assoc] at hP hD
  obtain rfl : x9 = ab (fLev e1 x1) (iI (ahd e1 x1)) := hw
  have hP : va_P g.1 vwCl (wX g a b d fo tp sh (fb (fLev e1 x1) f1) f20 ++ (wLs g b e1 e10 e11 ++ (wLs g d k1 k10 k11 ++ (wF g fo b tr o1 ++ (wLs g tr t1 t10 t11 ++ (wT g tp p1 p20 p21 p22 p23 p24 ++ (wSs g sh m10 m11 m12 ++ (wM g am e1 k1 M3 M4 M5 f1 M7 M8 p1 m10 m11 m12 M13 f20 p20 M22 M23 M24 M25)))))))) H := hP
  have hD : va_D (fun q : Nat => s.heap.size ≤ q) (wX g a b d fo tp sh (fb (fLev e1 x1) f1) f20 ++ (wLs g b e1 e10 e11 ++ (wLs g d k1 k10 k11 ++ (wF g fo b tr o1 ++ (wLs g tr t1 t10 t11 ++ (wT g tp p1 p20 p21 p22 p23 p24 ++ (wSs g sh m10 m11 m12 ++ (wM g am e1 k1 M3 M4 M5 f1 M7 M8 p1 m10 m11 m12 M13 f20 p20 M22 M23 M24 M25)))))))) := hD
  obtain ⟨hP0, hPr0⟩ := va_P_app.mp hP
  obtain ⟨hP1, hPr1⟩ := va_P_app.mp hPr0
  obtain ⟨hP2, hPr2⟩ := va_P_app.mp hPr1
  obtain ⟨hP3, hPr3⟩ := va_P_app.mp hPr2
  obtain ⟨hP4, hPr4⟩ := va_P_app.mp hPr3
  obtain ⟨hP5, hPr5⟩ := va_P_app.mp hPr4
  obtain ⟨hP6, hP7⟩ := va_P_app.mp hPr5
  refine lv_aload_n hx hb dL_law_779 rfl (lv_at hl 1 rfl) ?_
  refine lv_aload_n hx hb dL_law_780 rfl (lv_at hl 3 rfl) ?_
  refine lv_iload_n hx hb dL_law_781 rfl (lv_at hl 0 rfl) ?_
  refine lv_iconst (v := iI (1)) hx hb dL_law_782 (by decide) ?_
  refine xi_add hx hb dL_law_783 ?_
  refine xs_ld (i := (i9 : Int) + 1) (j := i9 + 1) hx hb hX hbl hbA hS (by omega) (by omega) hL dL_law_784 ?_
  rw [← hx1]
  have hD : va_D (fun q : Nat => s.heap.size ≤ q) (wX g a b d fo tp sh (fb (fLev e1 x1) f1) f20 ++ (wLs g b e1 e10 e11 ++ (wLs g d k1 k10 k11 ++ (wF g fo b tr o1 ++ (wLs g tr t1 t10 t11 ++ (wT g tp p1 p20 p21 p22 p23 p24 ++ (wM g am e1 k1 M3 M4 M5 f1 M7 M8 p1 m10 m11 m12 M13 f20 p20 M22 M23 M24 M25 ++ (wSs g sh m10 m11 m12)))))))) := D_perm (List.Perm.append_left _ (List.Perm.append_left _ (List.Perm.append_left _ (List.Perm.append_left _ (List.Perm.append_left _ (List.Perm.append_left _ (List.perm_append_comm))))))) hD
  have hD : va_D (fun q : Nat => s.heap.size ≤ q) (wX g a b d fo tp sh (fb (fLev e1 x1) f1) f20 ++ (wLs g b e1 e10 e11 ++ (wLs g d k1 k10 k11 ++ (wF g fo b tr o1 ++ (wLs g tr t1 t10 t11 ++ (wM g am e1 k1 M3 M4 M5 f1 M7 M8 p1 m10 m11 m12 M13 f20 p20 M22 M23 M24 M25 ++ (wT g tp p1 p20 p21 p22 p23 p24 ++ (wSs g sh m10 m11 m12)))))))) := D_perm (List.Perm.append_left _ (List.Perm.append_left _ (List.Perm.append_left _ (List.Perm.append_left _ (List.Perm.append_left _ (List.perm_append_comm_assoc _ _ _)))))) hD
  have hD : va_D (fun q : Nat => s.heap.size ≤ q) (wX g a b d fo tp sh (fb (fLev e1 x1) f1) f20 ++ (wLs g b e1 e10 e11 ++ (wLs g d k1 k10 k11 ++ (wF g fo b tr o1 ++ (wM g am e1 k1 M3 M4 M5 f1 M7 M8 p1 m10 m11 m12 M13 f20 p20 M22 M23 M24 M25 ++ (wLs g tr t1 t10 t11 ++ (wT g tp p1 p20 p21 p22 p23 p24 ++ (wSs g sh m10 m11 m12)))))))) := D_perm (List.Perm.append_left _ (List.Perm.append_left _ (List.Perm.append_left _ (List.Perm.append_left _ (List.perm_append_comm_assoc _ _ _))))) hD
  have hD : va_D (fun q : Nat => s.heap.size ≤ q) (wX g a b d fo tp sh (fb (fLev e1 x1) f1) f20 ++ (wLs g b e1 e10 e11 ++ (wLs g d k1 k10 k11 ++ (wM g am e1 k1 M3 M4 M5 f1 M7 M8 p1 m10 m11 m12 M13 f20 p20 M22 M23 M24 M25 ++ (wF g fo b tr o1 ++ (wLs g tr t1 t10 t11 ++ (wT g tp p1 p20 p21 p22 p23 p24 ++ (wSs g sh m10 m11 m12)))))))) := D_perm (List.Perm.append_left _ (List.Perm.append_left _ (List.Perm.append_left _ (List.perm_append_comm_assoc _ _ _)))) hD
  have hD : va_D (fun q : Nat => s.heap.size ≤ q) (wX g a b d fo tp sh (fb (fLev e1 x1) f1) f20 ++ (wLs g b e1 e10 e11 ++ (wM g am e1 k1 M3 M4 M5 f1 M7 M8 p1 m10 m11 m12 M13 f20 p20 M22 M23 M24 M25 ++ (wLs g d k1 k10 k11 ++ (wF g fo b tr o1 ++ (wLs g tr t1 t10 t11 ++ (wT g tp p1 p20 p21 p22 p23 p24 ++ (wSs g sh m10 m11 m12)))))))) := D_perm (List.Perm.append_left _ (List.Perm.append_left _ (List.perm_append_comm_assoc _ _ _))) hD
  have hD : va_D (fun q : Nat => s.heap.size ≤ q) (wX g a b d fo tp sh (fb (fLev e1 x1) f1) f20 ++ (wM g am e1 k1 M3 M4 M5 f1 M7 M8 p1 m10 m11 m12 M13 f20 p20 M22 M23 M24 M25 ++ (wLs g b e1 e10 e11 ++ (wLs g d k1 k10 k11 ++ (wF g fo b tr o1 ++ (wLs g tr t1 t10 t11 ++ (wT g tp p1 p20 p21 p22 p23 p24 ++ (wSs g sh m10 m11 m12)))))))) := D_perm (List.Perm.append_left _ (List.perm_append_comm_assoc _ _ _)) hD
  have hD : va_D (fun q : Nat => s.heap.size ≤ q) (wM g am e1 k1 M3 M4 M5 f1 M7 M8 p1 m10 m11 m12 M13 f20 p20 M22 M23 M24 M25 ++ (wX g a b d fo tp sh (fb (fLev e1 x1) f1) f20 ++ (wLs g b e1 e10 e11 ++ (wLs g d k1 k10 k11 ++ (wF g fo b tr o1 ++ (wLs g tr t1 t10 t11 ++ (wT g tp p1 p20 p21 p22 p23 p24 ++ (wSs g sh m10 m11 m12)))))))) := D_perm (List.perm_append_comm_assoc _ _ _) hD
  have hP : va_P g.1 vwCl (wM g am e1 k1 M3 M4 M5 f1 M7 M8 p1 m10 m11 m12 M13 f20 p20 M22 M23 M24 M25 ++ (wX g a b d fo tp sh (fb (fLev e1 x1) f1) f20 ++ (wLs g b e1 e10 e11 ++ (wLs g d k1 k10 k11 ++ (wF g fo b tr o1 ++ (wLs g tr t1 t10 t11 ++ (wT g tp p1 p20 p21 p22 p23 p24 ++ (wSs g sh m10 m11 m12)))))))) H := va_P_app.mpr ⟨hP7, va_P_app.mpr ⟨hP0, va_P_app.mpr ⟨hP1, va_P_app.mpr ⟨hP2, va_P_app.mpr ⟨hP3, va_P_app.mpr ⟨hP4, va_P_app.mpr ⟨hP5, hP6⟩⟩⟩⟩⟩⟩⟩
  refine xmF_i (rV (rest := [.int (ab (fLev e1 x1) (iI (ahd e1 x1)))]) hx hb hml hown hts hK hl (c_X5_ahead l g am e1 k1 M3 M4 M5 f1 M7 M8 p1 m10 m11 m12 M13 f20 p20 M22 M23 M24 M25 x1 H.size (show InvK 0 e1 from hI) (show e1 0 ≤ 9999 from by omega) (show IR x1 from ⟨by omega, by omega⟩)) lk_L_92 ⟨rfl, hP7, (va_D_app hD).1.weaken (fun _ _ _ _ => trivial)⟩ (va_recv hK.1 hP7 (ci := 5) (q0 := 0) rfl rfl) rfl rfl rfl (Rm.of rfl) rfl rfl dL_law_785) hP hD hS hA (fun x9 _ H locs hw hP hD hS => ?_)
  obtain rfl : x9 = ab (fLev e1 x1) (iI (ahd e1 x1)) := hw
  have hP : va_P g.1 vwCl (wM g am e1 k1 M3 M4 M5 (fb (fLev e1 x1) f1) M7 M8 p1 m10 m11 m12 M13 f20 p20 M22 M23 M24 M25 ++ (wX g a b d fo tp sh (fb (fLev e1 x1) f1) f20 ++ (wLs g b e1 e10 e11 ++ (wLs g d k1 k10 k11 ++ (wF g fo b tr o1 ++ (wLs g tr t1 t10 t11 ++ (wT g tp p1 p20 p21 p22 p23 p24 ++ (wSs g sh m10 m11 m12)))))))) H := hP
  have hD : va_D (fun q : Nat => s.heap.size ≤ q) (wM g am e1 k1 M3 M4 M5 (fb (fLev e1 x1) f1) M7 M8 p1 m10 m11 m12 M13 f20 p20 M22 M23 M24 M25 ++ (wX g a b d fo tp sh (fb (fLev e1 x1) f1) f20 ++ (wLs g b e1 e10 e11 ++ (wLs g d k1 k10 k11 ++ (wF g fo b tr o1 ++ (wLs g tr t1 t10 t11 ++ (wT g tp p1 p20 p21 p22 p23 p24 ++ (wSs g sh m10 m11 m12)))))))) := hD
  obtain ⟨hP7, hPr0⟩ := va_P_app.mp hP
  obtain ⟨hP0, hPr1⟩ := va_P_app.mp hPr0
  obtain ⟨hP1, hPr2⟩ := va_P_app.mp hPr1
  obtain ⟨hP2, hPr3⟩ := va_P_app.mp hPr2
  obtain ⟨hP3, hPr4⟩ := va_P_app.mp hPr3
  obtain ⟨hP4, hPr5⟩ := va_P_app.mp hPr4
  obtain ⟨hP5, hP6⟩ := va_P_app.mp hPr5
  refine lv_icmp_eq (tgt := 1473) hx hb dL_law_788 (by decide) (fun _ => ?_) (fun z => absurd rfl z)
  have hD : va_D (fun q : Nat => s.heap.size ≤ q) (wX g a b d fo tp sh (fb (fLev e1 x1) f1) f20 ++ (wM g am e1 k1 M3 M4 M5 (fb (fLev e1 x1) f1) M7 M8 p1 m10 m11 m12 M13 f20 p20 M22 M23 M24 M25 ++ (wLs g b e1 e10 e11 ++ (wLs g d k1 k10 k11 ++ (wF g fo b tr o1 ++ (wLs g tr t1 t10 t11 ++ (wT g tp p1 p20 p21 p22 p23 p24 ++ (wSs g sh m10 m11 m12)))))))) := D_perm (List.perm_append_comm_assoc _ _ _) hD
  have hD : va_D (fun q : Nat => s.heap.size ≤ q) (wX g a b d fo tp sh (fb (fLev e1 x1) f1) f20 ++ (wLs g b e1 e10 e11 ++ (wM g am e1 k1 M3 M4 M5 (fb (fLev e1 x1) f1) M7 M8 p1 m10 m11 m12 M13 f20 p20 M22 M23 M24 M25 ++ (wLs g d k1 k10 k11 ++ (wF g fo b tr o1 ++ (wLs g tr t1 t10 t11 ++ (wT g tp p1 p20 p21 p22 p23 p24 ++ (wSs g sh m10 m11 m12)))))))) := D_perm (List.Perm.append_left _ (List.perm_append_comm_assoc _ _ _)) hD
  have hD : va_D (fun q : Nat => s.heap.size ≤ q) (wX g a b d fo tp sh (fb (fLev e1 x1) f1) f20 ++ (wLs g b e1 e10 e11 ++ (wLs g d k1 k10 k11 ++ (wM g am e1 k1 M3 M4 M5 (fb (fLev e1 x1) f1) M7 M8 p1 m10 m11 m12 M13 f20 p20 M22 M23 M24 M25 ++ (wF g fo b tr o1 ++ (wLs g tr t1 t10 t11 ++ (wT g tp p1 p20 p21 p22 p23 p24 ++ (wSs g sh m10 m11 m12)))))))) := D_perm (List.Perm.append_left _ (List.Perm.append_left _ (List.perm_append_comm_assoc _ _ _))) hD
  have hD : va_D (fun q : Nat => s.heap.size ≤ q) (wX g a b d fo tp sh (fb (fLev e1 x1) f1) f20 ++ (wLs g b e1 e10 e11 ++ (wLs g d k1 k10 k11 ++ (wF g fo b tr o1 ++ (wM g am e1 k1 M3 M4 M5 (fb (fLev e1 x1) f1) M7 M8 p1 m10 m11 m12 M13 f20 p20 M22 M23 M24 M25 ++ (wLs g tr t1 t10 t11 ++ (wT g tp p1 p20 p21 p22 p23 p24 ++ (wSs g sh m10 m11 m12)))))))) := D_perm (List.Perm.append_left _ (List.Perm.append_left _ (List.Perm.append_left _ (List.perm_append_comm_assoc _ _ _)))) hD
  have hD : va_D (fun q : Nat => s.heap.size ≤ q) (wX g a b d fo tp sh (fb (fLev e1 x1) f1) f20 ++ (wLs g b e1 e10 e11 ++ (wLs g d k1 k10 k11 ++ (wF g fo b tr o1 ++ (wLs g tr t1 t10 t11 ++ (wM g am e1 k1 M3 M4 M5 (fb (fLev e1 x1) f1) M7 M8 p1 m10 m11 m12 M13 f20 p20 M22 M23 M24 M25 ++ (wT g tp p1 p20 p21 p22 p23 p24 ++ (wSs g sh m10 m11 m12)))))))) := D_perm (List.Perm.append_left _ (List.Perm.append_left _ (List.Perm.append_left _ (List.Perm.append_left _ (List.perm_append_comm_assoc _ _ _))))) hD
  have hD : va_D (fun q : Nat => s.heap.size ≤ q) (wX g a b d fo tp sh (fb (fLev e1 x1) f1) f20 ++ (wLs g b e1 e10 e11 ++ (wLs g d k1 k10 k11 ++ (wF g fo b tr o1 ++ (wLs g tr t1 t10 t11 ++ (wT g tp p1 p20 p21 p22 p23 p24 ++ (wM g am e1 k1 M3 M4 M5 (fb (fLev e1 x1) f1) M7 M8 p1 m10 m11 m12 M13 f20 p20 M22 M23 M24 M25 ++ (wSs g sh m10 m11 m12)))))))) := D_perm (List.Perm.append_left _ (List.Perm.append_left _ (List.Perm.append_left _ (List.Perm.append_left _ (List.Perm.append_left _ (List.perm_append_comm_assoc _ _ _)))))) hD
  have hD : va_D (fun q : Nat => s.heap.size ≤ q) (wX g a b d fo tp sh (fb (fLev e1 x1) f1) f20 ++ (wLs g b e1 e10 e11 ++ (wLs g d k1 k10 k11 ++ (wF g fo b tr o1 ++ (wLs g tr t1 t10 t11 ++ (wT g tp p1 p20 p21 p22 p23 p24 ++ (wSs g sh m10 m11 m12 ++ (wM g am e1 k1 M3 M4 M5 (fb (fLev e1 x1) f1) M7 M8 p1 m10 m11 m12 M13 f20 p20 M22 M23 M24 M25)))))))) := D_perm (List.Perm.append_left _ (List.Perm.append_left _ (List.Perm.append_left _ (List.Perm.append_left _ (List.Perm.append_left _ (List.Perm.append_left _ (List.perm_append_comm))))))) hD
  have hP : va_P g.1 vwCl (wX g a b d fo tp sh (fb (fLev e1 x1) f1) f20 ++ (wLs g b e1 e10 e11 ++ (wLs g d k1 k10 k11 ++ (wF g fo b tr o1 ++ (wLs g tr t1 t10 t11 ++ (wT g tp p1 p20 p21 p22 p23 p24 ++ (wSs g sh m10 m11 m12 ++ (wM g am e1 k1 M3 M4 M5 (fb (fLev e1 x1) f1) M7 M8 p1 m10 m11 m12 M13 f20 p20 M22 M23 M24 M25)))))))) H := va_P_app.mpr ⟨hP0, va_P_app.mpr ⟨hP1, va_P_app.mpr ⟨hP2, va_P_app.mpr ⟨hP3, va_P_app.mpr ⟨hP4, va_P_app.mpr ⟨hP5, va_P_app.mpr ⟨hP6, hP7⟩⟩⟩⟩⟩⟩⟩
  exact K (fun k => ([(fb (fLev e1 x1) f1), (fun _ => f20), e1, e10, e11, k1, k10, k11, o1, t1, t10, t11, p1, (fun _ => p20), (fun _ => p21), (fun _ => p22), (fun _ => p23), (fun _ => p24), m10, m11, m12, M3, M4, M5, M7, M8, M13, (fun _ => M22), (fun _ => M23), (fun _ => M24), (fun _ => M25)] : List (Int → Int)).getD k z0) H locs (show LVx e1 k1 f20 p1 p20 m10 m11 m12 M24 from ⟨hIe, hIk, hkp, hHB, hpz, hSS, hLR, hvz⟩) hP hD hS

set_option maxRecDepth 100000 in
set_option maxHeartbeats 4000000 in
theorem lc_19 {p : Program} {l : Launch} {e : Env} {s : State} {m : MethodId} {below : List Frame} {meth : Method} {c : Code} {g : Gd} {σ : Sg} {bs L : Nat} {xs : Nat → Int32} {Q : State → Prop} (hL : L ≤ 3072) (hC : LCx g σ p s m c bs L xs) (a b d fo tr tp sh am : Nat → Nat) (f1 e1 e10 e11 k1 k10 k11 o1 t1 t10 t11 p1 m10 m11 m12 M3 M4 M5 M7 M8 M13 : Int → Int) (f20 p20 p21 p22 p23 p24 M22 M23 M24 M25 : Int) (hV : LVx e1 k1 f20 p1 p20 m10 m11 m12 M24) {i9 : Nat} (hi9 : i9 + 6 ≤ L) {ls : Array Slot} (hl : lv_has ls 4 [(3, .int (iI (i9 : Int))), (2, .ref (am 0)), (1, .ref (a 0)), (0, .ref bs)]) {H : Heap} {locs : List Loc} (hP : va_P g.1 vwCl (wX g a b d fo tp sh f1 f20 ++ (wLs g b e1 e10 e11 ++ (wLs g d k1 k10 k11 ++ (wF g fo b tr o1 ++ (wLs g tr t1 t10 t11 ++ (wT g tp p1 p20 p21 p22 p23 p24 ++ (wSs g sh m10 m11 m12 ++ (wM g am e1 k1 M3 M4 M5 f1 M7 M8 p1 m10 m11 m12 M13 f20 p20 M22 M23 M24 M25)))))))) H) (hD : va_D (fun q : Nat => s.heap.size ≤ q) (wX g a b d fo tp sh f1 f20 ++ (wLs g b e1 e10 e11 ++ (wLs g d k1 k10 k11 ++ (wF g fo b tr o1 ++ (wLs g tr t1 t10 t11 ++ (wT g tp p1 p20 p21 p22 p23 p24 ++ (wSs g sh m10 m11 m12 ++ (wM g am e1 k1 M3 M4 M5 f1 M7 M8 p1 m10 m11 m12 M13 f20 p20 M22 M23 M24 M25))))))))) (hS : va_S (fun q : Nat => s.heap.size ≤ q) s.heap H locs) (K : ∀ (u : Nat → Int → Int) (H : Heap) (locs : List Loc), LV u → va_P g.1 vwCl (LW g (fun k => ([a, b, d, fo, tr, tp, sh, am] : List (Nat → Nat)).getD k a) u) H → va_D (fun q : Nat => s.heap.size ≤ q) (LW g (fun k => ([a, b, d, fo, tr, tp, sh, am] : List (Nat → Nat)).getD k a) u) → va_S (fun q : Nat => s.heap.size ≤ q) s.heap H locs → W p l e room_1 s m #[Value.ref bs] below meth c H locs 65 1678 Q (F0 m 1473 ls [])) : W p l e room_1 s m #[Value.ref bs] below meth c H locs 65 1678 Q (F0 m 793 ls []) := by
  obtain ⟨hx, hb, hml, hown, hts, hK, hX, hbl, hSB⟩ := hC
  have hbA : ¬ (fun q : Nat => s.heap.size ≤ q) bs := Nat.not_le.mpr hbl
  have hA : ∀ q : Nat, s.heap.size ≤ q → (fun q : Nat => s.heap.size ≤ q) q := fun _ h => h
  obtain ⟨hIe, hIk, hkp, hHB, hpz, hSS, hLR, hvz⟩ := hV
  have hI := hIe.1
  have hs9 := hIe.2
  obtain ⟨x1, hx1⟩ : ∃ x : Int, x = (xs (i9 + 1)).toInt := ⟨_, rfl⟩
  have ha1a : -2147483648 ≤ x1 := by rw [hx1]; exact (IR_of _).1
  have ha1b : x1 ≤ 2147483647 := by rw [hx1]; exact (IR_of _).2
  obtain ⟨x2, hx2⟩ : ∃ x : Int, x = (xs (i9 + 2)).toInt := ⟨_, rfl⟩
  have ha2a : -2147483648 ≤ x2 := by rw [hx2]; exact (IR_of _).1
  have ha2b : x2 ≤ 2147483647 := by rw [hx2]; exact (IR_of _).2
  obtain ⟨x3, hx3⟩ : ∃ x : Int, x = (xs (i9 + 3)).toInt := ⟨_, rfl⟩
  have ha3a : -2147483648 ≤ x3 := by rw [hx3]; exact (IR_of _).1
  have ha3b : x3 ≤ 2147483647 := by rw [hx3]; exact (IR_of _).2
  obtain ⟨x4, hx4⟩ : ∃ x : Int, x = (xs (i9 + 4)).toInt := ⟨_, rfl⟩
  have ha4a : -2147483648 ≤ x4 := by rw [hx4]; exact (IR_of _).1
  have ha4b : x4 ≤ 2147483647 := by rw [hx4]; exact (IR_of _).2
  obtain ⟨x5, hx5⟩ : ∃ x : Int, x = (xs (i9 + 5)).toInt := ⟨_, rfl⟩
  have ha5a : -2147483648 ≤ x5 := by rw [hx5]; exact (IR_of _).1
  have ha5b : x5 ≤ 2147483647 := by rw [hx5]; exact (IR_of _).2
  obtain ⟨hP0, hPr0⟩ := va_P_app.mp hP
  obtain ⟨hP1, hPr1⟩ := va_P_app.mp hPr0
  obtain ⟨hP2, hPr2⟩ := va_P_app.mp hPr1
  obtain ⟨hP3, hPr3⟩ := va_P_app.mp hPr2
  obtain ⟨hP4, hPr4⟩ := va_P_app.mp hPr3
  obtain ⟨hP5, hPr5⟩ := va_P_app.mp hPr4
  obtain ⟨hP6, hP7⟩ := va_P_app.mp hPr5
  refine lv_aload_n hx hb dL_law_793 rfl (lv_at hl 2 rfl) ?_
  refine lv_aload_n hx hb dL_law_794 rfl (lv_at hl 3 rfl) ?_
  refine lv_iload_n hx hb dL_law_795 rfl (lv_at hl 0 rfl) ?_
  refine lv_iconst (v := iI (1)) hx hb dL_law_796 (by decide) ?_
  refine xi_add hx hb dL_law_797 ?_
  refine xs_ld (i := (i9 : Int) + 1) (j := i9 + 1) hx hb hX hbl hbA hS (by omega) (by omega) hL dL_law_798 ?_
  rw [← hx1]
  have hP : va_P g.1 vwCl ((wX g a b d fo tp sh f1 f20 ++ (wLs g b e1 e10 e11)) ++ (wLs g d k1 k10 k11 ++ (wF g fo b tr o1 ++ (wLs g tr t1 t10 t11 ++ (wT g tp p1 p20 p21 p22 p23 p24 ++ (wSs g sh m10 m11 m12 ++ (wM g am e1 k1 M3 M4 M5 f1 M7 M8 p1 m10 m11 m12 M13 f20 p20 M22 M23 M24 M25))))))) H := by rw [List.append_assoc]; exact hP
  have hD : va_D (fun q : Nat => s.heap.size ≤ q) ((wX g a b d fo tp sh f1 f20 ++ (wLs g b e1 e10 e11)) ++ (wLs g d k1 k10 k11 ++ (wF g fo b tr o1 ++ (wLs g tr t1 t10 t11 ++ (wT g tp p1 p20 p21 p22 p23 p24 ++ (wSs g sh m10 m11 m12 ++ (wM g am e1 k1 M3 M4 M5 f1 M7 M8 p1 m10 m11 m12 M13 f20 p20 M22 M23 M24 M25))))))) := by rw [List.append_assoc]; exact hD
  refine xmF_i (rV (rest := []) hx hb hml hown hts hK hl (c_X4_file l g d fo tp sh a f1 f20 b e1 e10 e11 x1 H.size (show InvK 0 e1 from hI) (show e1 0 ≤ 9999 from by omega) (show IR x1 from ⟨by omega, by omega⟩)) lk_L_93 ⟨rfl, (va_P_app.mp hP).1, (va_D_app hD).1.weaken (fun _ _ _ _ => trivial)⟩ (va_recv hK.1 hP0 (ci := 4) (q0 := 0) rfl rfl) rfl rfl rfl (Rm.of rfl) rfl rfl dL_law_799) hP hD hS hA (fun x9 _ H locs hw hP hD hS => ?_)
  have hP : va_P g.1 vwCl ((wX g a b d fo tp sh (fb (fLev e1 x1) f1) f20 ++ (wLs g b e1 e10 e11)) ++ (wLs g d k1 k10 k11 ++ (wF g fo b tr o1 ++ (wLs g tr t1 t10 t11 ++ (wT g tp p1 p20 p21 p22 p23 p24 ++ (wSs g sh m10 m11 m12 ++ (wM g am e1 k1 M3 M4 M5 f1 M7 M8 p1 m10 m11 m12 M13 f20 p20 M22 M23 M24 M25))))))) H := hP
  have hD : va_D (fun q : Nat => s.heap.size ≤ q) ((wX g a b d fo tp sh (fb (fLev e1 x1) f1) f20 ++ (wLs g b e1 e10 e11)) ++ (wLs g d k1 k10 k11 ++ (wF g fo b tr o1 ++ (wLs g tr t1 t10 t11 ++ (wT g tp p1 p20 p21 p22 p23 p24 ++ (wSs g sh m10 m11 m12 ++ (wM g am e1 k1 M3 M4 M5 f1 M7 M8 p1 m10 m11 m12 M13 f20 p20 M22 M23 M24 M25))))))) := hD
  rw [List.append_assoc] at hP hD
  obtain rfl : x9 = ab (fLev e1 x1) (flT e1 256 (iI 0) x1) := hw
  have hP : va_P g.1 vwCl (wX g a b d fo tp sh (fb (fLev e1 x1) f1) f20 ++ (wLs g b e1 e10 e11 ++ (wLs g d k1 k10 k11 ++ (wF g fo b tr o1 ++ (wLs g tr t1 t10 t11 ++ (wT g tp p1 p20 p21 p22 p23 p24 ++ (wSs g sh m10 m11 m12 ++ (wM g am e1 k1 M3 M4 M5 f1 M7 M8 p1 m10 m11 m12 M13 f20 p20 M22 M23 M24 M25)))))))) H := hP
  have hD : va_D (fun q : Nat => s.heap.size ≤ q) (wX g a b d fo tp sh (fb (fLev e1 x1) f1) f20 ++ (wLs g b e1 e10 e11 ++ (wLs g d k1 k10 k11 ++ (wF g fo b tr o1 ++ (wLs g tr t1 t10 t11 ++ (wT g tp p1 p20 p21 p22 p23 p24 ++ (wSs g sh m10 m11 m12 ++ (wM g am e1 k1 M3 M4 M5 f1 M7 M8 p1 m10 m11 m12 M13 f20 p20 M22 M23 M24 M25)))))))) := hD
  obtain ⟨hP0, hPr0⟩ := va_P_app.mp hP
  obtain ⟨hP1, hPr1⟩ := va_P_app.mp hPr0
  obtain ⟨hP2, hPr2⟩ := va_P_app.mp hPr1
  obtain ⟨hP3, hPr3⟩ := va_P_app.mp hPr2
  obtain ⟨hP4, hPr4⟩ := va_P_app.mp hPr3
  obtain ⟨hP5, hPr5⟩ := va_P_app.mp hPr4
  obtain ⟨hP6, hP7⟩ := va_P_app.mp hPr5
  refine lv_aload_n hx hb dL_law_802 rfl (lv_at hl 1 rfl) ?_
  refine lv_aload_n hx hb dL_law_803 rfl (lv_at hl 3 rfl) ?_
  refine lv_iload_n hx hb dL_law_804 rfl (lv_at hl 0 rfl) ?_
  refine lv_iconst (v := iI (1)) hx hb dL_law_805 (by decide) ?_
  refine xi_add hx hb dL_law_806 ?_
  refine xs_ld (i := (i9 : Int) + 1) (j := i9 + 1) hx hb hX hbl hbA hS (by omega) (by omega) hL dL_law_807 ?_
  rw [← hx1]
  have hD : va_D (fun q : Nat => s.heap.size ≤ q) (wX g a b d fo tp sh (fb (fLev e1 x1) f1) f20 ++ (wLs g b e1 e10 e11 ++ (wLs g d k1 k10 k11 ++ (wF g fo b tr o1 ++ (wLs g tr t1 t10 t11 ++ (wT g tp p1 p20 p21 p22 p23 p24 ++ (wM g am e1 k1 M3 M4 M5 f1 M7 M8 p1 m10 m11 m12 M13 f20 p20 M22 M23 M24 M25 ++ (wSs g sh m10 m11 m12)))))))) := D_perm (List.Perm.append_left _ (List.Perm.append_left _ (List.Perm.append_left _ (List.Perm.append_left _ (List.Perm.append_left _ (List.Perm.append_left _ (List.perm_append_comm))))))) hD
  have hD : va_D (fun q : Nat => s.heap.size ≤ q) (wX g a b d fo tp sh (fb (fLev e1 x1) f1) f20 ++ (wLs g b e1 e10 e11 ++ (wLs g d k1 k10 k11 ++ (wF g fo b tr o1 ++ (wLs g tr t1 t10 t11 ++ (wM g am e1 k1 M3 M4 M5 f1 M7 M8 p1 m10 m11 m12 M13 f20 p20 M22 M23 M24 M25 ++ (wT g tp p1 p20 p21 p22 p23 p24 ++ (wSs g sh m10 m11 m12)))))))) := D_perm (List.Perm.append_left _ (List.Perm.append_left _ (List.Perm.append_left _ (List.Perm.append_left _ (List.Perm.append_left _ (List.perm_append_comm_assoc _ _ _)))))) hD
  have hD : va_D (fun q : Nat => s.heap.size ≤ q) (wX g a b d fo tp sh (fb (fLev e1 x1) f1) f20 ++ (wLs g b e1 e10 e11 ++ (wLs g d k1 k10 k11 ++ (wF g fo b tr o1 ++ (wM g am e1 k1 M3 M4 M5 f1 M7 M8 p1 m10 m11 m12 M13 f20 p20 M22 M23 M24 M25 ++ (wLs g tr t1 t10 t11 ++ (wT g tp p1 p20 p21 p22 p23 p24 ++ (wSs g sh m10 m11 m12)))))))) := D_perm (List.Perm.append_left _ (List.Perm.append_left _ (List.Perm.append_left _ (List.Perm.append_left _ (List.perm_append_comm_assoc _ _ _))))) hD
  have hD : va_D (fun q : Nat => s.heap.size ≤ q) (wX g a b d fo tp sh (fb (fLev e1 x1) f1) f20 ++ (wLs g b e1 e10 e11 ++ (wLs g d k1 k10 k11 ++ (wM g am e1 k1 M3 M4 M5 f1 M7 M8 p1 m10 m11 m12 M13 f20 p20 M22 M23 M24 M25 ++ (wF g fo b tr o1 ++ (wLs g tr t1 t10 t11 ++ (wT g tp p1 p20 p21 p22 p23 p24 ++ (wSs g sh m10 m11 m12)))))))) := D_perm (List.Perm.append_left _ (List.Perm.append_left _ (List.Perm.append_left _ (List.perm_append_comm_assoc _ _ _)))) hD
  have hD : va_D (fun q : Nat => s.heap.size ≤ q) (wX g a b d fo tp sh (fb (fLev e1 x1) f1) f20 ++ (wLs g b e1 e10 e11 ++ (wM g am e1 k1 M3 M4 M5 f1 M7 M8 p1 m10 m11 m12 M13 f20 p20 M22 M23 M24 M25 ++ (wLs g d k1 k10 k11 ++ (wF g fo b tr o1 ++ (wLs g tr t1 t10 t11 ++ (wT g tp p1 p20 p21 p22 p23 p24 ++ (wSs g sh m10 m11 m12)))))))) := D_perm (List.Perm.append_left _ (List.Perm.append_left _ (List.perm_append_comm_assoc _ _ _))) hD
  have hD : va_D (fun q : Nat => s.heap.size ≤ q) (wX g a b d fo tp sh (fb (fLev e1 x1) f1) f20 ++ (wM g am e1 k1 M3 M4 M5 f1 M7 M8 p1 m10 m11 m12 M13 f20 p20 M22 M23 M24 M25 ++ (wLs g b e1 e10 e11 ++ (wLs g d k1 k10 k11 ++ (wF g fo b tr o1 ++ (wLs g tr t1 t10 t11 ++ (wT g tp p1 p20 p21 p22 p23 p24 ++ (wSs g sh m10 m11 m12)))))))) := D_perm (List.Perm.append_left _ (List.perm_append_comm_assoc _ _ _)) hD
  have hD : va_D (fun q : Nat => s.heap.size ≤ q) (wM g am e1 k1 M3 M4 M5 f1 M7 M8 p1 m10 m11 m12 M13 f20 p20 M22 M23 M24 M25 ++ (wX g a b d fo tp sh (fb (fLev e1 x1) f1) f20 ++ (wLs g b e1 e10 e11 ++ (wLs g d k1 k10 k11 ++ (wF g fo b tr o1 ++ (wLs g tr t1 t10 t11 ++ (wT g tp p1 p20 p21 p22 p23 p24 ++ (wSs g sh m10 m11 m12)))))))) := D_perm (List.perm_append_comm_assoc _ _ _) hD
  have hP : va_P g.1 vwCl (wM g am e1 k1 M3 M4 M5 f1 M7 M8 p1 m10 m11 m12 M13 f20 p20 M22 M23 M24 M25 ++ (wX g a b d fo tp sh (fb (fLev e1 x1) f1) f20 ++ (wLs g b e1 e10 e11 ++ (wLs g d k1 k10 k11 ++ (wF g fo b tr o1 ++ (wLs g tr t1 t10 t11 ++ (wT g tp p1 p20 p21 p22 p23 p24 ++ (wSs g sh m10 m11 m12)))))))) H := va_P_app.mpr ⟨hP7, va_P_app.mpr ⟨hP0, va_P_app.mpr ⟨hP1, va_P_app.mpr ⟨hP2, va_P_app.mpr ⟨hP3, va_P_app.mpr ⟨hP4, va_P_app.mpr ⟨hP5, hP6⟩⟩⟩⟩⟩⟩⟩
  refine xmF_i (rV (rest := [.int (ab (fLev e1 x1) (flT e1 256 (iI 0) x1))]) hx hb hml hown hts hK hl (c_X5_file l g am e1 k1 M3 M4 M5 f1 M7 M8 p1 m10 m11 m12 M13 f20 p20 M22 M23 M24 M25 x1 H.size (show InvK 0 e1 from hI) (show e1 0 ≤ 9999 from by omega) (show IR x1 from ⟨by omega, by omega⟩)) lk_L_96 ⟨rfl, hP7, (va_D_app hD).1.weaken (fun _ _ _ _ => trivial)⟩ (va_recv hK.1 hP7 (ci := 5) (q0 := 0) rfl rfl) rfl rfl rfl (Rm.of rfl) rfl rfl dL_law_808) hP hD hS hA (fun x9 _ H locs hw hP hD hS => ?_)
  obtain rfl : x9 = ab (fLev e1 x1) (flT e1 256 (iI 0) x1) := hw
  have hP : va_P g.1 vwCl (wM g am e1 k1 M3 M4 M5 (fb (fLev e1 x1) f1) M7 M8 p1 m10 m11 m12 M13 f20 p20 M22 M23 M24 M25 ++ (wX g a b d fo tp sh (fb (fLev e1 x1) f1) f20 ++ (wLs g b e1 e10 e11 ++ (wLs g d k1 k10 k11 ++ (wF g fo b tr o1 ++ (wLs g tr t1 t10 t11 ++ (wT g tp p1 p20 p21 p22 p23 p24 ++ (wSs g sh m10 m11 m12)))))))) H := hP
  have hD : va_D (fun q : Nat => s.heap.size ≤ q) (wM g am e1 k1 M3 M4 M5 (fb (fLev e1 x1) f1) M7 M8 p1 m10 m11 m12 M13 f20 p20 M22 M23 M24 M25 ++ (wX g a b d fo tp sh (fb (fLev e1 x1) f1) f20 ++ (wLs g b e1 e10 e11 ++ (wLs g d k1 k10 k11 ++ (wF g fo b tr o1 ++ (wLs g tr t1 t10 t11 ++ (wT g tp p1 p20 p21 p22 p23 p24 ++ (wSs g sh m10 m11 m12)))))))) := hD
  obtain ⟨hP7, hPr0⟩ := va_P_app.mp hP
  obtain ⟨hP0, hPr1⟩ := va_P_app.mp hPr0
  obtain ⟨hP1, hPr2⟩ := va_P_app.mp hPr1
  obtain ⟨hP2, hPr3⟩ := va_P_app.mp hPr2
  obtain ⟨hP3, hPr4⟩ := va_P_app.mp hPr3
  obtain ⟨hP4, hPr5⟩ := va_P_app.mp hPr4
  obtain ⟨hP5, hP6⟩ := va_P_app.mp hPr5
  refine lv_icmp_eq (tgt := 1473) hx hb dL_law_811 (by decide) (fun _ => ?_) (fun z => absurd rfl z)
  have hD : va_D (fun q : Nat => s.heap.size ≤ q) (wX g a b d fo tp sh (fb (fLev e1 x1) f1) f20 ++ (wM g am e1 k1 M3 M4 M5 (fb (fLev e1 x1) f1) M7 M8 p1 m10 m11 m12 M13 f20 p20 M22 M23 M24 M25 ++ (wLs g b e1 e10 e11 ++ (wLs g d k1 k10 k11 ++ (wF g fo b tr o1 ++ (wLs g tr t1 t10 t11 ++ (wT g tp p1 p20 p21 p22 p23 p24 ++ (wSs g sh m10 m11 m12)))))))) := D_perm (List.perm_append_comm_assoc _ _ _) hD
  have hD : va_D (fun q : Nat => s.heap.size ≤ q) (wX g a b d fo tp sh (fb (fLev e1 x1) f1) f20 ++ (wLs g b e1 e10 e11 ++ (wM g am e1 k1 M3 M4 M5 (fb (fLev e1 x1) f1) M7 M8 p1 m10 m11 m12 M13 f20 p20 M22 M23 M24 M25 ++ (wLs g d k1 k10 k11 ++ (wF g fo b tr o1 ++ (wLs g tr t1 t10 t11 ++ (wT g tp p1 p20 p21 p22 p23 p24 ++ (wSs g sh m10 m11 m12)))))))) := D_perm (List.Perm.append_left _ (List.perm_append_comm_assoc _ _ _)) hD
  have hD : va_D (fun q : Nat => s.heap.size ≤ q) (wX g a b d fo tp sh (fb (fLev e1 x1) f1) f20 ++ (wLs g b e1 e10 e11 ++ (wLs g d k1 k10 k11 ++ (wM g am e1 k1 M3 M4 M5 (fb (fLev e1 x1) f1) M7 M8 p1 m10 m11 m12 M13 f20 p20 M22 M23 M24 M25 ++ (wF g fo b tr o1 ++ (wLs g tr t1 t10 t11 ++ (wT g tp p1 p20 p21 p22 p23 p24 ++ (wSs g sh m10 m11 m12)))))))) := D_perm (List.Perm.append_left _ (List.Perm.append_left _ (List.perm_append_comm_assoc _ _ _))) hD
  have hD : va_D (fun q : Nat => s.heap.size ≤ q) (wX g a b d fo tp sh (fb (fLev e1 x1) f1) f20 ++ (wLs g b e1 e10 e11 ++ (wLs g d k1 k10 k11 ++ (wF g fo b tr o1 ++ (wM g am e1 k1 M3 M4 M5 (fb (fLev e1 x1) f1) M7 M8 p1 m10 m11 m12 M13 f20 p20 M22 M23 M24 M25 ++ (wLs g tr t1 t10 t11 ++ (wT g tp p1 p20 p21 p22 p23 p24 ++ (wSs g sh m10 m11 m12)))))))) := D_perm (List.Perm.append_left _ (List.Perm.append_left _ (List.Perm.append_left _ (List.perm_append_comm_assoc _ _ _)))) hD
  have hD : va_D (fun q : Nat => s.heap.size ≤ q) (wX g a b d fo tp sh (fb (fLev e1 x1) f1) f20 ++ (wLs g b e1 e10 e11 ++ (wLs g d k1 k10 k11 ++ (wF g fo b tr o1 ++ (wLs g tr t1 t10 t11 ++ (wM g am e1 k1 M3 M4 M5 (fb (fLev e1 x1) f1) M7 M8 p1 m10 m11 m12 M13 f20 p20 M22 M23 M24 M25 ++ (wT g tp p1 p20 p21 p22 p23 p24 ++ (wSs g sh m10 m11 m12)))))))) := D_perm (List.Perm.append_left _ (List.Perm.append_left _ (List.Perm.append_left _ (List.Perm.append_left _ (List.perm_append_comm_assoc _ _ _))))) hD
  have hD : va_D (fun q : Nat => s.heap.size ≤ q) (wX g a b d fo tp sh (fb (fLev e1 x1) f1) f20 ++ (wLs g b e1 e10 e11 ++ (wLs g d k1 k10 k11 ++ (wF g fo b tr o1 ++ (wLs g tr t1 t10 t11 ++ (wT g tp p1 p20 p21 p22 p23 p24 ++ (wM g am e1 k1 M3 M4 M5 (fb (fLev e1 x1) f1) M7 M8 p1 m10 m11 m12 M13 f20 p20 M22 M23 M24 M25 ++ (wSs g sh m10 m11 m12)))))))) := D_perm (List.Perm.append_left _ (List.Perm.append_left _ (List.Perm.append_left _ (List.Perm.append_left _ (List.Perm.append_left _ (List.perm_append_comm_assoc _ _ _)))))) hD
  have hD : va_D (fun q : Nat => s.heap.size ≤ q) (wX g a b d fo tp sh (fb (fLev e1 x1) f1) f20 ++ (wLs g b e1 e10 e11 ++ (wLs g d k1 k10 k11 ++ (wF g fo b tr o1 ++ (wLs g tr t1 t10 t11 ++ (wT g tp p1 p20 p21 p22 p23 p24 ++ (wSs g sh m10 m11 m12 ++ (wM g am e1 k1 M3 M4 M5 (fb (fLev e1 x1) f1) M7 M8 p1 m10 m11 m12 M13 f20 p20 M22 M23 M24 M25)))))))) := D_perm (List.Perm.append_left _ (List.Perm.append_left _ (List.Perm.append_left _ (List.Perm.append_left _ (List.Perm.append_left _ (List.Perm.append_left _ (List.perm_append_comm))))))) hD
  have hP : va_P g.1 vwCl (wX g a b d fo tp sh (fb (fLev e1 x1) f1) f20 ++ (wLs g b e1 e10 e11 ++ (wLs g d k1 k10 k11 ++ (wF g fo b tr o1 ++ (wLs g tr t1 t10 t11 ++ (wT g tp p1 p20 p21 p22 p23 p24 ++ (wSs g sh m10 m11 m12 ++ (wM g am e1 k1 M3 M4 M5 (fb (fLev e1 x1) f1) M7 M8 p1 m10 m11 m12 M13 f20 p20 M22 M23 M24 M25)))))))) H := va_P_app.mpr ⟨hP0, va_P_app.mpr ⟨hP1, va_P_app.mpr ⟨hP2, va_P_app.mpr ⟨hP3, va_P_app.mpr ⟨hP4, va_P_app.mpr ⟨hP5, va_P_app.mpr ⟨hP6, hP7⟩⟩⟩⟩⟩⟩⟩
  exact K (fun k => ([(fb (fLev e1 x1) f1), (fun _ => f20), e1, e10, e11, k1, k10, k11, o1, t1, t10, t11, p1, (fun _ => p20), (fun _ => p21), (fun _ => p22), (fun _ => p23), (fun _ => p24), m10, m11, m12, M3, M4, M5, M7, M8, M13, (fun _ => M22), (fun _ => M23), (fun _ => M24), (fun _ => M25)] : List (Int → Int)).getD k z0) H locs (show LVx e1 k1 f20 p1 p20 m10 m11 m12 M24 from ⟨hIe, hIk, hkp, hHB, hpz, hSS, hLR, hvz⟩) hP hD hS

set_option maxRecDepth 100000 in
set_option maxHeartbeats 4000000 in
theorem lc_20 {p : Program} {l : Launch} {e : Env} {s : State} {m : MethodId} {below : List Frame} {meth : Method} {c : Code} {g : Gd} {σ : Sg} {bs L : Nat} {xs : Nat → Int32} {Q : State → Prop} (hL : L ≤ 3072) (hC : LCx g σ p s m c bs L xs) (a b d fo tr tp sh am : Nat → Nat) (f1 e1 e10 e11 k1 k10 k11 o1 t1 t10 t11 p1 m10 m11 m12 M3 M4 M5 M7 M8 M13 : Int → Int) (f20 p20 p21 p22 p23 p24 M22 M23 M24 M25 : Int) (hV : LVx e1 k1 f20 p1 p20 m10 m11 m12 M24) {i9 : Nat} (hi9 : i9 + 6 ≤ L) {ls : Array Slot} (hl : lv_has ls 4 [(3, .int (iI (i9 : Int))), (2, .ref (am 0)), (1, .ref (a 0)), (0, .ref bs)]) {H : Heap} {locs : List Loc} (hP : va_P g.1 vwCl (wX g a b d fo tp sh f1 f20 ++ (wLs g b e1 e10 e11 ++ (wLs g d k1 k10 k11 ++ (wF g fo b tr o1 ++ (wLs g tr t1 t10 t11 ++ (wT g tp p1 p20 p21 p22 p23 p24 ++ (wSs g sh m10 m11 m12 ++ (wM g am e1 k1 M3 M4 M5 f1 M7 M8 p1 m10 m11 m12 M13 f20 p20 M22 M23 M24 M25)))))))) H) (hD : va_D (fun q : Nat => s.heap.size ≤ q) (wX g a b d fo tp sh f1 f20 ++ (wLs g b e1 e10 e11 ++ (wLs g d k1 k10 k11 ++ (wF g fo b tr o1 ++ (wLs g tr t1 t10 t11 ++ (wT g tp p1 p20 p21 p22 p23 p24 ++ (wSs g sh m10 m11 m12 ++ (wM g am e1 k1 M3 M4 M5 f1 M7 M8 p1 m10 m11 m12 M13 f20 p20 M22 M23 M24 M25))))))))) (hS : va_S (fun q : Nat => s.heap.size ≤ q) s.heap H locs) (K : ∀ (u : Nat → Int → Int) (H : Heap) (locs : List Loc), LV u → va_P g.1 vwCl (LW g (fun k => ([a, b, d, fo, tr, tp, sh, am] : List (Nat → Nat)).getD k a) u) H → va_D (fun q : Nat => s.heap.size ≤ q) (LW g (fun k => ([a, b, d, fo, tr, tp, sh, am] : List (Nat → Nat)).getD k a) u) → va_S (fun q : Nat => s.heap.size ≤ q) s.heap H locs → W p l e room_1 s m #[Value.ref bs] below meth c H locs 65 1678 Q (F0 m 1473 ls [])) : W p l e room_1 s m #[Value.ref bs] below meth c H locs 65 1678 Q (F0 m 816 ls []) := by
  obtain ⟨hx, hb, hml, hown, hts, hK, hX, hbl, hSB⟩ := hC
  have hbA : ¬ (fun q : Nat => s.heap.size ≤ q) bs := Nat.not_le.mpr hbl
  have hA : ∀ q : Nat, s.heap.size ≤ q → (fun q : Nat => s.heap.size ≤ q) q := fun _ h => h
  obtain ⟨hIe, hIk, hkp, hHB, hpz, hSS, hLR, hvz⟩ := hV
  have hI := hIe.1
  have hs9 := hIe.2
  obtain ⟨x1, hx1⟩ : ∃ x : Int, x = (xs (i9 + 1)).toInt := ⟨_, rfl⟩
  have ha1a : -2147483648 ≤ x1 := by rw [hx1]; exact (IR_of _).1
  have ha1b : x1 ≤ 2147483647 := by rw [hx1]; exact (IR_of _).2
  obtain ⟨x2, hx2⟩ : ∃ x : Int, x = (xs (i9 + 2)).toInt := ⟨_, rfl⟩
  have ha2a : -2147483648 ≤ x2 := by rw [hx2]; exact (IR_of _).1
  have ha2b : x2 ≤ 2147483647 := by rw [hx2]; exact (IR_of _).2
  obtain ⟨x3, hx3⟩ : ∃ x : Int, x = (xs (i9 + 3)).toInt := ⟨_, rfl⟩
  have ha3a : -2147483648 ≤ x3 := by rw [hx3]; exact (IR_of _).1
  have ha3b : x3 ≤ 2147483647 := by rw [hx3]; exact (IR_of _).2
  obtain ⟨x4, hx4⟩ : ∃ x : Int, x = (xs (i9 + 4)).toInt := ⟨_, rfl⟩
  have ha4a : -2147483648 ≤ x4 := by rw [hx4]; exact (IR_of _).1
  have ha4b : x4 ≤ 2147483647 := by rw [hx4]; exact (IR_of _).2
  obtain ⟨x5, hx5⟩ : ∃ x : Int, x = (xs (i9 + 5)).toInt := ⟨_, rfl⟩
  have ha5a : -2147483648 ≤ x5 := by rw [hx5]; exact (IR_of _).1
  have ha5b : x5 ≤ 2147483647 := by rw [hx5]; exact (IR_of _).2
  obtain ⟨hP0, hPr0⟩ := va_P_app.mp hP
  obtain ⟨hP1, hPr1⟩ := va_P_app.mp hPr0
  obtain ⟨hP2, hPr2⟩ := va_P_app.mp hPr1
  obtain ⟨hP3, hPr3⟩ := va_P_app.mp hPr2
  obtain ⟨hP4, hPr4⟩ := va_P_app.mp hPr3
  obtain ⟨hP5, hPr5⟩ := va_P_app.mp hPr4
  obtain ⟨hP6, hP7⟩ := va_P_app.mp hPr5
  refine lv_aload_n hx hb dL_law_816 rfl (lv_at hl 2 rfl) ?_
  have hD : va_D (fun q : Nat => s.heap.size ≤ q) (wX g a b d fo tp sh f1 f20 ++ (wLs g b e1 e10 e11 ++ (wF g fo b tr o1 ++ (wLs g d k1 k10 k11 ++ (wLs g tr t1 t10 t11 ++ (wT g tp p1 p20 p21 p22 p23 p24 ++ (wSs g sh m10 m11 m12 ++ (wM g am e1 k1 M3 M4 M5 f1 M7 M8 p1 m10 m11 m12 M13 f20 p20 M22 M23 M24 M25)))))))) := D_perm (List.Perm.append_left _ (List.Perm.append_left _ (List.perm_append_comm_assoc _ _ _))) hD
  have hD : va_D (fun q : Nat => s.heap.size ≤ q) (wX g a b d fo tp sh f1 f20 ++ (wF g fo b tr o1 ++ (wLs g b e1 e10 e11 ++ (wLs g d k1 k10 k11 ++ (wLs g tr t1 t10 t11 ++ (wT g tp p1 p20 p21 p22 p23 p24 ++ (wSs g sh m10 m11 m12 ++ (wM g am e1 k1 M3 M4 M5 f1 M7 M8 p1 m10 m11 m12 M13 f20 p20 M22 M23 M24 M25)))))))) := D_perm (List.Perm.append_left _ (List.perm_append_comm_assoc _ _ _)) hD
  have hD : va_D (fun q : Nat => s.heap.size ≤ q) (wX g a b d fo tp sh f1 f20 ++ (wF g fo b tr o1 ++ (wLs g b e1 e10 e11 ++ (wLs g tr t1 t10 t11 ++ (wLs g d k1 k10 k11 ++ (wT g tp p1 p20 p21 p22 p23 p24 ++ (wSs g sh m10 m11 m12 ++ (wM g am e1 k1 M3 M4 M5 f1 M7 M8 p1 m10 m11 m12 M13 f20 p20 M22 M23 M24 M25)))))))) := D_perm (List.Perm.append_left _ (List.Perm.append_left _ (List.Perm.append_left _ (List.perm_append_comm_assoc _ _ _)))) hD
  have hP : va_P g.1 vwCl (wX g a b d fo tp sh f1 f20 ++ (wF g fo b tr o1 ++ (wLs g b e1 e10 e11 ++ (wLs g tr t1 t10 t11 ++ (wLs g d k1 k10 k11 ++ (wT g tp p1 p20 p21 p22 p23 p24 ++ (wSs g sh m10 m11 m12 ++ (wM g am e1 k1 M3 M4 M5 f1 M7 M8 p1 m10 m11 m12 M13 f20 p20 M22 M23 M24 M25)))))))) H := va_P_app.mpr ⟨hP0, va_P_app.mpr ⟨hP3, va_P_app.mpr ⟨hP1, va_P_app.mpr ⟨hP4, va_P_app.mpr ⟨hP2, va_P_app.mpr ⟨hP5, va_P_app.mpr ⟨hP6, hP7⟩⟩⟩⟩⟩⟩⟩
  have hP : va_P g.1 vwCl ((wX g a b d fo tp sh f1 f20 ++ (wF g fo b tr o1 ++ (wLs g b e1 e10 e11 ++ (wLs g tr t1 t10 t11)))) ++ (wLs g d k1 k10 k11 ++ (wT g tp p1 p20 p21 p22 p23 p24 ++ (wSs g sh m10 m11 m12 ++ (wM g am e1 k1 M3 M4 M5 f1 M7 M8 p1 m10 m11 m12 M13 f20 p20 M22 M23 M24 M25))))) H := by rw [List.append_assoc, List.append_assoc, List.append_assoc]; exact hP
  have hD : va_D (fun q : Nat => s.heap.size ≤ q) ((wX g a b d fo tp sh f1 f20 ++ (wF g fo b tr o1 ++ (wLs g b e1 e10 e11 ++ (wLs g tr t1 t10 t11)))) ++ (wLs g d k1 k10 k11 ++ (wT g tp p1 p20 p21 p22 p23 p24 ++ (wSs g sh m10 m11 m12 ++ (wM g am e1 k1 M3 M4 M5 f1 M7 M8 p1 m10 m11 m12 M13 f20 p20 M22 M23 M24 M25))))) := by rw [List.append_assoc, List.append_assoc, List.append_assoc]; exact hD
  refine xmF_i (rV (rest := []) hx hb hml hown hts hK hl (c_X4_frees l g d tp sh a f1 f20 fo o1 b e1 e10 e11 tr t1 t10 t11 H.size (show InvK 0 e1 from hI) (show e1 0 ≤ 9999 from by omega)) lk_L_97 ⟨rfl, (va_P_app.mp hP).1, (va_D_app hD).1.weaken (fun _ _ _ _ => trivial)⟩ (va_recv hK.1 hP0 (ci := 4) (q0 := 0) rfl rfl) rfl rfl rfl (Rm.of rfl) rfl rfl dL_law_817) hP hD hS hA (fun x9 u1 H locs hw hP hD hS => ?_)
  have hP : va_P g.1 vwCl ((wX g a b d fo tp sh (fb (fFre e1) f1) f20 ++ (wF g fo b tr o1 ++ (wLs g b e1 e10 e11 ++ (wLs g tr (u1 301) (u1 310) (u1 311))))) ++ (wLs g d k1 k10 k11 ++ (wT g tp p1 p20 p21 p22 p23 p24 ++ (wSs g sh m10 m11 m12 ++ (wM g am e1 k1 M3 M4 M5 f1 M7 M8 p1 m10 m11 m12 M13 f20 p20 M22 M23 M24 M25))))) H := hP
  have hD : va_D (fun q : Nat => s.heap.size ≤ q) ((wX g a b d fo tp sh (fb (fFre e1) f1) f20 ++ (wF g fo b tr o1 ++ (wLs g b e1 e10 e11 ++ (wLs g tr (u1 301) (u1 310) (u1 311))))) ++ (wLs g d k1 k10 k11 ++ (wT g tp p1 p20 p21 p22 p23 p24 ++ (wSs g sh m10 m11 m12 ++ (wM g am e1 k1 M3 M4 M5 f1 M7 M8 p1 m10 m11 m12 M13 f20 p20 M22 M23 M24 M25))))) := hD
  rw [List.append_assoc, List.append_assoc, List.append_assoc] at hP hD
  obtain rfl : x9 = ab (fFre e1) (iI (frS e1)) := hw
  have hP : va_P g.1 vwCl (wX g a b d fo tp sh (fb (fFre e1) f1) f20 ++ (wF g fo b tr o1 ++ (wLs g b e1 e10 e11 ++ (wLs g tr (u1 301) (u1 310) (u1 311) ++ (wLs g d k1 k10 k11 ++ (wT g tp p1 p20 p21 p22 p23 p24 ++ (wSs g sh m10 m11 m12 ++ (wM g am e1 k1 M3 M4 M5 f1 M7 M8 p1 m10 m11 m12 M13 f20 p20 M22 M23 M24 M25)))))))) H := hP
  have hD : va_D (fun q : Nat => s.heap.size ≤ q) (wX g a b d fo tp sh (fb (fFre e1) f1) f20 ++ (wF g fo b tr o1 ++ (wLs g b e1 e10 e11 ++ (wLs g tr (u1 301) (u1 310) (u1 311) ++ (wLs g d k1 k10 k11 ++ (wT g tp p1 p20 p21 p22 p23 p24 ++ (wSs g sh m10 m11 m12 ++ (wM g am e1 k1 M3 M4 M5 f1 M7 M8 p1 m10 m11 m12 M13 f20 p20 M22 M23 M24 M25)))))))) := hD
  obtain ⟨hP0, hPr0⟩ := va_P_app.mp hP
  obtain ⟨hP3, hPr1⟩ := va_P_app.mp hPr0
  obtain ⟨hP1, hPr2⟩ := va_P_app.mp hPr1
  obtain ⟨hP4, hPr3⟩ := va_P_app.mp hPr2
  obtain ⟨hP2, hPr4⟩ := va_P_app.mp hPr3
  obtain ⟨hP5, hPr5⟩ := va_P_app.mp hPr4
  obtain ⟨hP6, hP7⟩ := va_P_app.mp hPr5
  refine lv_aload_n hx hb dL_law_820 rfl (lv_at hl 1 rfl) ?_
  have hD : va_D (fun q : Nat => s.heap.size ≤ q) (wX g a b d fo tp sh (fb (fFre e1) f1) f20 ++ (wF g fo b tr o1 ++ (wLs g b e1 e10 e11 ++ (wLs g tr (u1 301) (u1 310) (u1 311) ++ (wLs g d k1 k10 k11 ++ (wT g tp p1 p20 p21 p22 p23 p24 ++ (wM g am e1 k1 M3 M4 M5 f1 M7 M8 p1 m10 m11 m12 M13 f20 p20 M22 M23 M24 M25 ++ (wSs g sh m10 m11 m12)))))))) := D_perm (List.Perm.append_left _ (List.Perm.append_left _ (List.Perm.append_left _ (List.Perm.append_left _ (List.Perm.append_left _ (List.Perm.append_left _ (List.perm_append_comm))))))) hD
  have hD : va_D (fun q : Nat => s.heap.size ≤ q) (wX g a b d fo tp sh (fb (fFre e1) f1) f20 ++ (wF g fo b tr o1 ++ (wLs g b e1 e10 e11 ++ (wLs g tr (u1 301) (u1 310) (u1 311) ++ (wLs g d k1 k10 k11 ++ (wM g am e1 k1 M3 M4 M5 f1 M7 M8 p1 m10 m11 m12 M13 f20 p20 M22 M23 M24 M25 ++ (wT g tp p1 p20 p21 p22 p23 p24 ++ (wSs g sh m10 m11 m12)))))))) := D_perm (List.Perm.append_left _ (List.Perm.append_left _ (List.Perm.append_left _ (List.Perm.append_left _ (List.Perm.append_left _ (List.perm_append_comm_assoc _ _ _)))))) hD
  have hD : va_D (fun q : Nat => s.heap.size ≤ q) (wX g a b d fo tp sh (fb (fFre e1) f1) f20 ++ (wF g fo b tr o1 ++ (wLs g b e1 e10 e11 ++ (wLs g tr (u1 301) (u1 310) (u1 311) ++ (wM g am e1 k1 M3 M4 M5 f1 M7 M8 p1 m10 m11 m12 M13 f20 p20 M22 M23 M24 M25 ++ (wLs g d k1 k10 k11 ++ (wT g tp p1 p20 p21 p22 p23 p24 ++ (wSs g sh m10 m11 m12)))))))) := D_perm (List.Perm.append_left _ (List.Perm.append_left _ (List.Perm.append_left _ (List.Perm.append_left _ (List.perm_append_comm_assoc _ _ _))))) hD
  have hD : va_D (fun q : Nat => s.heap.size ≤ q) (wX g a b d fo tp sh (fb (fFre e1) f1) f20 ++ (wF g fo b tr o1 ++ (wLs g b e1 e10 e11 ++ (wM g am e1 k1 M3 M4 M5 f1 M7 M8 p1 m10 m11 m12 M13 f20 p20 M22 M23 M24 M25 ++ (wLs g tr (u1 301) (u1 310) (u1 311) ++ (wLs g d k1 k10 k11 ++ (wT g tp p1 p20 p21 p22 p23 p24 ++ (wSs g sh m10 m11 m12)))))))) := D_perm (List.Perm.append_left _ (List.Perm.append_left _ (List.Perm.append_left _ (List.perm_append_comm_assoc _ _ _)))) hD
  have hD : va_D (fun q : Nat => s.heap.size ≤ q) (wX g a b d fo tp sh (fb (fFre e1) f1) f20 ++ (wF g fo b tr o1 ++ (wM g am e1 k1 M3 M4 M5 f1 M7 M8 p1 m10 m11 m12 M13 f20 p20 M22 M23 M24 M25 ++ (wLs g b e1 e10 e11 ++ (wLs g tr (u1 301) (u1 310) (u1 311) ++ (wLs g d k1 k10 k11 ++ (wT g tp p1 p20 p21 p22 p23 p24 ++ (wSs g sh m10 m11 m12)))))))) := D_perm (List.Perm.append_left _ (List.Perm.append_left _ (List.perm_append_comm_assoc _ _ _))) hD
  have hD : va_D (fun q : Nat => s.heap.size ≤ q) (wX g a b d fo tp sh (fb (fFre e1) f1) f20 ++ (wM g am e1 k1 M3 M4 M5 f1 M7 M8 p1 m10 m11 m12 M13 f20 p20 M22 M23 M24 M25 ++ (wF g fo b tr o1 ++ (wLs g b e1 e10 e11 ++ (wLs g tr (u1 301) (u1 310) (u1 311) ++ (wLs g d k1 k10 k11 ++ (wT g tp p1 p20 p21 p22 p23 p24 ++ (wSs g sh m10 m11 m12)))))))) := D_perm (List.Perm.append_left _ (List.perm_append_comm_assoc _ _ _)) hD
  have hD : va_D (fun q : Nat => s.heap.size ≤ q) (wM g am e1 k1 M3 M4 M5 f1 M7 M8 p1 m10 m11 m12 M13 f20 p20 M22 M23 M24 M25 ++ (wX g a b d fo tp sh (fb (fFre e1) f1) f20 ++ (wF g fo b tr o1 ++ (wLs g b e1 e10 e11 ++ (wLs g tr (u1 301) (u1 310) (u1 311) ++ (wLs g d k1 k10 k11 ++ (wT g tp p1 p20 p21 p22 p23 p24 ++ (wSs g sh m10 m11 m12)))))))) := D_perm (List.perm_append_comm_assoc _ _ _) hD
  have hP : va_P g.1 vwCl (wM g am e1 k1 M3 M4 M5 f1 M7 M8 p1 m10 m11 m12 M13 f20 p20 M22 M23 M24 M25 ++ (wX g a b d fo tp sh (fb (fFre e1) f1) f20 ++ (wF g fo b tr o1 ++ (wLs g b e1 e10 e11 ++ (wLs g tr (u1 301) (u1 310) (u1 311) ++ (wLs g d k1 k10 k11 ++ (wT g tp p1 p20 p21 p22 p23 p24 ++ (wSs g sh m10 m11 m12)))))))) H := va_P_app.mpr ⟨hP7, va_P_app.mpr ⟨hP0, va_P_app.mpr ⟨hP3, va_P_app.mpr ⟨hP1, va_P_app.mpr ⟨hP4, va_P_app.mpr ⟨hP2, va_P_app.mpr ⟨hP5, hP6⟩⟩⟩⟩⟩⟩⟩
  refine xmF_i (rV (rest := [.int (ab (fFre e1) (iI (frS e1)))]) hx hb hml hown hts hK hl (c_X5_frees l g am e1 k1 M3 M4 M5 f1 M7 M8 p1 m10 m11 m12 M13 f20 p20 M22 M23 M24 M25 H.size (show InvK 0 e1 from hI) (show e1 0 ≤ 9999 from by omega)) lk_L_100 ⟨rfl, hP7, (va_D_app hD).1.weaken (fun _ _ _ _ => trivial)⟩ (va_recv hK.1 hP7 (ci := 5) (q0 := 0) rfl rfl) rfl rfl rfl (Rm.of rfl) rfl rfl dL_law_821) hP hD hS hA (fun x9 u2 H locs hw hP hD hS => ?_)
  obtain rfl : x9 = ab (fFre e1) (iI (frS e1)) := hw
  have hP : va_P g.1 vwCl (wM g am e1 k1 M3 (u2 4) M5 (fb (fFre e1) f1) (u2 7) (u2 8) p1 m10 m11 m12 M13 f20 p20 M22 M23 M24 M25 ++ (wX g a b d fo tp sh (fb (fFre e1) f1) f20 ++ (wF g fo b tr o1 ++ (wLs g b e1 e10 e11 ++ (wLs g tr (u1 301) (u1 310) (u1 311) ++ (wLs g d k1 k10 k11 ++ (wT g tp p1 p20 p21 p22 p23 p24 ++ (wSs g sh m10 m11 m12)))))))) H := hP
  have hD : va_D (fun q : Nat => s.heap.size ≤ q) (wM g am e1 k1 M3 (u2 4) M5 (fb (fFre e1) f1) (u2 7) (u2 8) p1 m10 m11 m12 M13 f20 p20 M22 M23 M24 M25 ++ (wX g a b d fo tp sh (fb (fFre e1) f1) f20 ++ (wF g fo b tr o1 ++ (wLs g b e1 e10 e11 ++ (wLs g tr (u1 301) (u1 310) (u1 311) ++ (wLs g d k1 k10 k11 ++ (wT g tp p1 p20 p21 p22 p23 p24 ++ (wSs g sh m10 m11 m12)))))))) := hD
  obtain ⟨hP7, hPr0⟩ := va_P_app.mp hP
  obtain ⟨hP0, hPr1⟩ := va_P_app.mp hPr0
  obtain ⟨hP3, hPr2⟩ := va_P_app.mp hPr1
  obtain ⟨hP1, hPr3⟩ := va_P_app.mp hPr2
  obtain ⟨hP4, hPr4⟩ := va_P_app.mp hPr3
  obtain ⟨hP2, hPr5⟩ := va_P_app.mp hPr4
  obtain ⟨hP5, hP6⟩ := va_P_app.mp hPr5
  refine lv_icmp_eq (tgt := 1473) hx hb dL_law_824 (by decide) (fun _ => ?_) (fun z => absurd rfl z)
  have hD : va_D (fun q : Nat => s.heap.size ≤ q) (wX g a b d fo tp sh (fb (fFre e1) f1) f20 ++ (wM g am e1 k1 M3 (u2 4) M5 (fb (fFre e1) f1) (u2 7) (u2 8) p1 m10 m11 m12 M13 f20 p20 M22 M23 M24 M25 ++ (wF g fo b tr o1 ++ (wLs g b e1 e10 e11 ++ (wLs g tr (u1 301) (u1 310) (u1 311) ++ (wLs g d k1 k10 k11 ++ (wT g tp p1 p20 p21 p22 p23 p24 ++ (wSs g sh m10 m11 m12)))))))) := D_perm (List.perm_append_comm_assoc _ _ _) hD
  have hD : va_D (fun q : Nat => s.heap.size ≤ q) (wX g a b d fo tp sh (fb (fFre e1) f1) f20 ++ (wM g am e1 k1 M3 (u2 4) M5 (fb (fFre e1) f1) (u2 7) (u2 8) p1 m10 m11 m12 M13 f20 p20 M22 M23 M24 M25 ++ (wLs g b e1 e10 e11 ++ (wF g fo b tr o1 ++ (wLs g tr (u1 301) (u1 310) (u1 311) ++ (wLs g d k1 k10 k11 ++ (wT g tp p1 p20 p21 p22 p23 p24 ++ (wSs g sh m10 m11 m12)))))))) := D_perm (List.Perm.append_left _ (List.Perm.append_left _ (List.perm_append_comm_assoc _ _ _))) hD
  have hD : va_D (fun q : Nat => s.heap.size ≤ q) (wX g a b d fo tp sh (fb (fFre e1) f1) f20 ++ (wLs g b e1 e10 e11 ++ (wM g am e1 k1 M3 (u2 4) M5 (fb (fFre e1) f1) (u2 7) (u2 8) p1 m10 m11 m12 M13 f20 p20 M22 M23 M24 M25 ++ (wF g fo b tr o1 ++ (wLs g tr (u1 301) (u1 310) (u1 311) ++ (wLs g d k1 k10 k11 ++ (wT g tp p1 p20 p21 p22 p23 p24 ++ (wSs g sh m10 m11 m12)))))))) := D_perm (List.Perm.append_left _ (List.perm_append_comm_assoc _ _ _)) hD
  have hD : va_D (fun q : Nat => s.heap.size ≤ q) (wX g a b d fo tp sh (fb (fFre e1) f1) f20 ++ (wLs g b e1 e10 e11 ++ (wM g am e1 k1 M3 (u2 4) M5 (fb (fFre e1) f1) (u2 7) (u2 8) p1 m10 m11 m12 M13 f20 p20 M22 M23 M24 M25 ++ (wF g fo b tr o1 ++ (wLs g d k1 k10 k11 ++ (wLs g tr (u1 301) (u1 310) (u1 311) ++ (wT g tp p1 p20 p21 p22 p23 p24 ++ (wSs g sh m10 m11 m12)))))))) := D_perm (List.Perm.append_left _ (List.Perm.append_left _ (List.Perm.append_left _ (List.Perm.append_left _ (List.perm_append_comm_assoc _ _ _))))) hD
  have hD : va_D (fun q : Nat => s.heap.size ≤ q) (wX g a b d fo tp sh (fb (fFre e1) f1) f20 ++ (wLs g b e1 e10 e11 ++ (wM g am e1 k1 M3 (u2 4) M5 (fb (fFre e1) f1) (u2 7) (u2 8) p1 m10 m11 m12 M13 f20 p20 M22 M23 M24 M25 ++ (wLs g d k1 k10 k11 ++ (wF g fo b tr o1 ++ (wLs g tr (u1 301) (u1 310) (u1 311) ++ (wT g tp p1 p20 p21 p22 p23 p24 ++ (wSs g sh m10 m11 m12)))))))) := D_perm (List.Perm.append_left _ (List.Perm.append_left _ (List.Perm.append_left _ (List.perm_append_comm_assoc _ _ _)))) hD
  have hD : va_D (fun q : Nat => s.heap.size ≤ q) (wX g a b d fo tp sh (fb (fFre e1) f1) f20 ++ (wLs g b e1 e10 e11 ++ (wLs g d k1 k10 k11 ++ (wM g am e1 k1 M3 (u2 4) M5 (fb (fFre e1) f1) (u2 7) (u2 8) p1 m10 m11 m12 M13 f20 p20 M22 M23 M24 M25 ++ (wF g fo b tr o1 ++ (wLs g tr (u1 301) (u1 310) (u1 311) ++ (wT g tp p1 p20 p21 p22 p23 p24 ++ (wSs g sh m10 m11 m12)))))))) := D_perm (List.Perm.append_left _ (List.Perm.append_left _ (List.perm_append_comm_assoc _ _ _))) hD
  have hD : va_D (fun q : Nat => s.heap.size ≤ q) (wX g a b d fo tp sh (fb (fFre e1) f1) f20 ++ (wLs g b e1 e10 e11 ++ (wLs g d k1 k10 k11 ++ (wF g fo b tr o1 ++ (wM g am e1 k1 M3 (u2 4) M5 (fb (fFre e1) f1) (u2 7) (u2 8) p1 m10 m11 m12 M13 f20 p20 M22 M23 M24 M25 ++ (wLs g tr (u1 301) (u1 310) (u1 311) ++ (wT g tp p1 p20 p21 p22 p23 p24 ++ (wSs g sh m10 m11 m12)))))))) := D_perm (List.Perm.append_left _ (List.Perm.append_left _ (List.Perm.append_left _ (List.perm_append_comm_assoc _ _ _)))) hD
  have hD : va_D (fun q : Nat => s.heap.size ≤ q) (wX g a b d fo tp sh (fb (fFre e1) f1) f20 ++ (wLs g b e1 e10 e11 ++ (wLs g d k1 k10 k11 ++ (wF g fo b tr o1 ++ (wLs g tr (u1 301) (u1 310) (u1 311) ++ (wM g am e1 k1 M3 (u2 4) M5 (fb (fFre e1) f1) (u2 7) (u2 8) p1 m10 m11 m12 M13 f20 p20 M22 M23 M24 M25 ++ (wT g tp p1 p20 p21 p22 p23 p24 ++ (wSs g sh m10 m11 m12)))))))) := D_perm (List.Perm.append_left _ (List.Perm.append_left _ (List.Perm.append_left _ (List.Perm.append_left _ (List.perm_append_comm_assoc _ _ _))))) hD
  have hD : va_D (fun q : Nat => s.heap.size ≤ q) (wX g a b d fo tp sh (fb (fFre e1) f1) f20 ++ (wLs g b e1 e10 e11 ++ (wLs g d k1 k10 k11 ++ (wF g fo b tr o1 ++ (wLs g tr (u1 301) (u1 310) (u1 311) ++ (wT g tp p1 p20 p21 p22 p23 p24 ++ (wM g am e1 k1 M3 (u2 4) M5 (fb (fFre e1) f1) (u2 7) (u2 8) p1 m10 m11 m12 M13 f20 p20 M22 M23 M24 M25 ++ (wSs g sh m10 m11 m12)))))))) := D_perm (List.Perm.append_left _ (List.Perm.append_left _ (List.Perm.append_left _ (List.Perm.append_left _ (List.Perm.append_left _ (List.perm_append_comm_assoc _ _ _)))))) hD
  have hD : va_D (fun q : Nat => s.heap.size ≤ q) (wX g a b d fo tp sh (fb (fFre e1) f1) f20 ++ (wLs g b e1 e10 e11 ++ (wLs g d k1 k10 k11 ++ (wF g fo b tr o1 ++ (wLs g tr (u1 301) (u1 310) (u1 311) ++ (wT g tp p1 p20 p21 p22 p23 p24 ++ (wSs g sh m10 m11 m12 ++ (wM g am e1 k1 M3 (u2 4) M5 (fb (fFre e1) f1) (u2 7) (u2 8) p1 m10 m11 m12 M13 f20 p20 M22 M23 M24 M25)))))))) := D_perm (List.Perm.append_left _ (List.Perm.append_left _ (List.Perm.append_left _ (List.Perm.append_left _ (List.Perm.append_left _ (List.Perm.append_left _ (List.perm_append_comm))))))) hD
  have hP : va_P g.1 vwCl (wX g a b d fo tp sh (fb (fFre e1) f1) f20 ++ (wLs g b e1 e10 e11 ++ (wLs g d k1 k10 k11 ++ (wF g fo b tr o1 ++ (wLs g tr (u1 301) (u1 310) (u1 311) ++ (wT g tp p1 p20 p21 p22 p23 p24 ++ (wSs g sh m10 m11 m12 ++ (wM g am e1 k1 M3 (u2 4) M5 (fb (fFre e1) f1) (u2 7) (u2 8) p1 m10 m11 m12 M13 f20 p20 M22 M23 M24 M25)))))))) H := va_P_app.mpr ⟨hP0, va_P_app.mpr ⟨hP1, va_P_app.mpr ⟨hP2, va_P_app.mpr ⟨hP3, va_P_app.mpr ⟨hP4, va_P_app.mpr ⟨hP5, va_P_app.mpr ⟨hP6, hP7⟩⟩⟩⟩⟩⟩⟩
  exact K (fun k => ([(fb (fFre e1) f1), (fun _ => f20), e1, e10, e11, k1, k10, k11, o1, (u1 301), (u1 310), (u1 311), p1, (fun _ => p20), (fun _ => p21), (fun _ => p22), (fun _ => p23), (fun _ => p24), m10, m11, m12, M3, (u2 4), M5, (u2 7), (u2 8), M13, (fun _ => M22), (fun _ => M23), (fun _ => M24), (fun _ => M25)] : List (Int → Int)).getD k z0) H locs (show LVx e1 k1 f20 p1 p20 m10 m11 m12 M24 from ⟨hIe, hIk, hkp, hHB, hpz, hSS, hLR, hvz⟩) hP hD hS

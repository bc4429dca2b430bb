set_option maxRecDepth 100000 in
set_option maxHeartbeats 8000000 in
theorem whole_start {p : Program} {e : Env} {s : State} {m : MethodId} {below : List Frame} {meth : Method} {c : Code} (l : Launch) (hflags : l.flags = flags0) {b L : Nat} {xs : Nat → Int32} (hL : L ≤ 3072) (C0 : lw_At p s m meth c b L xs) : W p l e room_1 s m #[Value.ref b] below meth c s.heap [] 0 0 (lw_Z below #[Value.ref b] s) (entryFrame m ([Value.ref b] : List Value).toArray 4) := by
  obtain ⟨hx, hb, hr, hml, hown, htl, hX, hbl, hlocks, hgv⟩ := id C0
  have hb : c.code = cL_law := hb
  have hown : s.vm.findClass RL = some m.cls := hown
  have hts : ∀ w ∈ T0, w.before #[Value.ref b] s = true := fun w hw => htl w (List.mem_filter.mp hw).1
  obtain ⟨σ, hSB⟩ := sb_start htl hgv
  obtain ⟨g, hK⟩ := kx_start htl
  have hao : va_AO RX2 s := va_AO.of (htl (Cond.arrayOver (.object RX2)) (List.mem_append_right _ (mT (List.mem_append_left _ (List.mem_of_getElem? (i := 138) (by decide +kernel))))))
  have hA : ∀ q : Nat, s.heap.size ≤ q → (fun q : Nat => s.heap.size ≤ q) q := fun _ h => h
  have hS : va_S (fun q : Nat => s.heap.size ≤ q) s.heap s.heap [] := va_S.rf
  have hP : va_P g.1 vwCl [] s.heap := fun k q h => by simp at h
  have hD : va_D (fun q : Nat => s.heap.size ≤ q) [] := ⟨fun i j p q h => by simp at h, fun k q h => by simp at h⟩
  have hl := lv_entry ([.ref b]) (n := 4) (Nat.le_of_ble_eq_true rfl)
  rw [lg_entry_eq]
  generalize (lg_sl ([.ref b]) ++ List.replicate (4 - (lg_sl ([.ref b])).length) Slot.unset).toArray = ls at hl ⊢
  have hl : lv_has ls 4 [(0, .ref b)] := hl
  refine va_new (ci := 4) (fs := [.null, .null, .null, .null, .null, .null, .int (iI 0)]) (C := RX4) (T := TX4) (N := 7) hx hb hts uw_X4 tyX4 tyX4_ok hown (hts _ ck_L_7) (hts _ in_X4) (hts _ iz_X4) hK.1 hP hD hS hA rfl (fun j hj => by rcases (show j = 0 ∨ j = 1 ∨ j = 2 ∨ j = 3 ∨ j = 4 ∨ j = 5 ∨ j = 6 by omega) with rfl | rfl | rfl | rfl | rfl | rfl | rfl <;> rfl) (Nat.le_of_ble_eq_true rfl) (Nat.le_of_ble_eq_true rfl) dL_law_0 (fun v1 H hP hD hS => ?_)
  have hP : va_P g.1 vwCl [(v1, .inr (4, [.null, .null, .null, .null, .null, .null, .int (iI 0)]))] H := hP
  have hD : va_D (fun q : Nat => s.heap.size ≤ q) [(v1, .inr (4, [.null, .null, .null, .null, .null, .null, .int (iI 0)]))] := hD
  refine lv_dup hx hb dL_law_3 rfl ?_
  refine xm_v (rIa (rest := [.ref v1]) hx hb hml hown hts hK hl hao (c_X4_init l g v1 H.size) lk_L_9 my_X4_init rfl ⟨rfl, hP, hD.weaken (fun _ _ _ _ => trivial)⟩ rfl rfl rfl (Rm.of rfl) rfl rfl dL_law_4) hD hS hA (fun u1 H locs hw1 hP hD hS => ?_)
  have hP : va_P g.1 vwCl (wX g u1.1 u1.2.1 u1.2.2.1 u1.2.2.2.1 u1.2.2.2.2.2.1 u1.2.2.2.2.2.2 z0 0 ++ ((wLs g u1.2.1 z0 z0 z0) ++ ((wLs g u1.2.2.1 z0 z0 z0) ++ (wF g u1.2.2.2.1 u1.2.1 u1.2.2.2.2.1 z0 ++ ((wLs g u1.2.2.2.2.1 z0 z0 z0) ++ (wT g u1.2.2.2.2.2.1 z0 0 0 0 0 0 ++ wSs g u1.2.2.2.2.2.2 z0 z0 z0)))))) H := hP
  have hD : va_D (fun q : Nat => s.heap.size ≤ q) (wX g u1.1 u1.2.1 u1.2.2.1 u1.2.2.2.1 u1.2.2.2.2.2.1 u1.2.2.2.2.2.2 z0 0 ++ ((wLs g u1.2.1 z0 z0 z0) ++ ((wLs g u1.2.2.1 z0 z0 z0) ++ (wF g u1.2.2.2.1 u1.2.1 u1.2.2.2.2.1 z0 ++ ((wLs g u1.2.2.2.2.1 z0 z0 z0) ++ (wT g u1.2.2.2.2.2.1 z0 0 0 0 0 0 ++ wSs g u1.2.2.2.2.2.2 z0 z0 z0)))))) := hD
  have hw1 : u1.1 0 = v1 := hw1
  rw [← hw1]
  refine lv_astore_n (lv' := [(1, .ref (u1.1 0)), (0, .ref b)]) hx hb dL_law_7 rfl hl (by decide) rfl (fun ls hl => ?_)
  refine va_new (ci := 5) (fs := [.null, .null, .null, .null, .null, .null, .int (iI 0), .null, .null, .null, .int (iI 0), .int (iI 0), .int (iI 0), .int (iI 0), .int (iI 0), .null, .null, .null, .null]) (C := RX5) (T := TX5) (N := 19) hx hb hts uw_X5 tyX5 tyX5_ok hown (hts _ ck_L_10) (hts _ in_X5) (hts _ iz_X5) hK.1 hP hD hS hA rfl (fun j hj => by rcases (show j = 0 ∨ j = 1 ∨ j = 2 ∨ j = 3 ∨ j = 4 ∨ j = 5 ∨ j = 6 ∨ j = 7 ∨ j = 8 ∨ j = 9 ∨ j = 10 ∨ j = 11 ∨ j = 12 ∨ j = 13 ∨ j = 14 ∨ j = 15 ∨ j = 16 ∨ j = 17 ∨ j = 18 by omega) with rfl | rfl | rfl | rfl | rfl | rfl | rfl | rfl | rfl | rfl | rfl | rfl | rfl | rfl | rfl | rfl | rfl | rfl | rfl <;> rfl) (Nat.le_of_ble_eq_true rfl) (Nat.le_of_ble_eq_true rfl) dL_law_8 (fun v2 H hP hD hS => ?_)
  have hP : va_P g.1 vwCl ((wX g u1.1 u1.2.1 u1.2.2.1 u1.2.2.2.1 u1.2.2.2.2.2.1 u1.2.2.2.2.2.2 z0 0 ++ ((wLs g u1.2.1 z0 z0 z0) ++ ((wLs g u1.2.2.1 z0 z0 z0) ++ (wF g u1.2.2.2.1 u1.2.1 u1.2.2.2.2.1 z0 ++ ((wLs g u1.2.2.2.2.1 z0 z0 z0) ++ (wT g u1.2.2.2.2.2.1 z0 0 0 0 0 0 ++ wSs g u1.2.2.2.2.2.2 z0 z0 z0)))))) ++ ([(v2, .inr (5, [.null, .null, .null, .null, .null, .null, .int (iI 0), .null, .null, .null, .int (iI 0), .int (iI 0), .int (iI 0), .int (iI 0), .int (iI 0), .null, .null, .null, .null]))] ++ [])) H := hP
  have hD : va_D (fun q : Nat => s.heap.size ≤ q) ((wX g u1.1 u1.2.1 u1.2.2.1 u1.2.2.2.1 u1.2.2.2.2.2.1 u1.2.2.2.2.2.2 z0 0 ++ ((wLs g u1.2.1 z0 z0 z0) ++ ((wLs g u1.2.2.1 z0 z0 z0) ++ (wF g u1.2.2.2.1 u1.2.1 u1.2.2.2.2.1 z0 ++ ((wLs g u1.2.2.2.2.1 z0 z0 z0) ++ (wT g u1.2.2.2.2.2.1 z0 0 0 0 0 0 ++ wSs g u1.2.2.2.2.2.2 z0 z0 z0)))))) ++ ([(v2, .inr (5, [.null, .null, .null, .null, .null, .null, .int (iI 0), .null, .null, .null, .int (iI 0), .int (iI 0), .int (iI 0), .int (iI 0), .int (iI 0), .null, .null, .null, .null]))] ++ [])) := hD
  refine lv_dup hx hb dL_law_11 rfl ?_
  refine xmB_v (w1 := wX g u1.1 u1.2.1 u1.2.2.1 u1.2.2.2.1 u1.2.2.2.2.2.1 u1.2.2.2.2.2.2 z0 0 ++ ((wLs g u1.2.1 z0 z0 z0) ++ ((wLs g u1.2.2.1 z0 z0 z0) ++ (wF g u1.2.2.2.1 u1.2.1 u1.2.2.2.2.1 z0 ++ ((wLs g u1.2.2.2.2.1 z0 z0 z0) ++ (wT g u1.2.2.2.2.2.1 z0 0 0 0 0 0 ++ wSs g u1.2.2.2.2.2.2 z0 z0 z0)))))) (w0 := [(v2, .inr (5, [.null, .null, .null, .null, .null, .null, .int (iI 0), .null, .null, .null, .int (iI 0), .int (iI 0), .int (iI 0), .int (iI 0), .int (iI 0), .null, .null, .null, .null]))]) (w2 := []) (rI (rest := [.ref v2]) hx hb hml hown hts hK hl (c_X5_init l g v2 H.size) lk_L_12 my_X5_init rfl ⟨rfl, (va_P_app.mp (va_P_app.mp hP).2).1, (va_D_app (va_D_app hD).2.1).1.weaken (fun _ _ _ _ => trivial)⟩ rfl rfl rfl (Rm.of rfl) rfl rfl dL_law_12) hP hD hS hA (fun u2 H locs hw2 hP hD hS => ?_)
  rw [List.append_nil] at hP hD
  have hw2 : u2 0 = v2 := hw2
  rw [← hw2]
  have hP : va_P g.1 vwCl ((wX g u1.1 u1.2.1 u1.2.2.1 u1.2.2.2.1 u1.2.2.2.2.2.1 u1.2.2.2.2.2.2 z0 0 ++ ((wLs g u1.2.1 z0 z0 z0) ++ ((wLs g u1.2.2.1 z0 z0 z0) ++ (wF g u1.2.2.2.1 u1.2.1 u1.2.2.2.2.1 z0 ++ ((wLs g u1.2.2.2.2.1 z0 z0 z0) ++ (wT g u1.2.2.2.2.2.1 z0 0 0 0 0 0 ++ wSs g u1.2.2.2.2.2.2 z0 z0 z0)))))) ++ wM g u2 z0 z0 z0 z0 z0 z0 z0 z0 z0 z0 z0 z0 z0 0 0 0 0 0 0) H := hP
  have hD : va_D (fun q : Nat => s.heap.size ≤ q) ((wX g u1.1 u1.2.1 u1.2.2.1 u1.2.2.2.1 u1.2.2.2.2.2.1 u1.2.2.2.2.2.2 z0 0 ++ ((wLs g u1.2.1 z0 z0 z0) ++ ((wLs g u1.2.2.1 z0 z0 z0) ++ (wF g u1.2.2.2.1 u1.2.1 u1.2.2.2.2.1 z0 ++ ((wLs g u1.2.2.2.2.1 z0 z0 z0) ++ (wT g u1.2.2.2.2.2.1 z0 0 0 0 0 0 ++ wSs g u1.2.2.2.2.2.2 z0 z0 z0)))))) ++ wM g u2 z0 z0 z0 z0 z0 z0 z0 z0 z0 z0 z0 z0 z0 0 0 0 0 0 0) := hD
  rw [List.append_assoc, List.append_assoc, List.append_assoc, List.append_assoc, List.append_assoc, List.append_assoc] at hP hD
  refine lv_astore_n (lv' := [(2, .ref (u2 0)), (1, .ref (u1.1 0)), (0, .ref b)]) hx hb dL_law_15 rfl hl (by decide) rfl (fun ls hl => ?_)
  refine lv_iconst (v := iI (0)) hx hb dL_law_16 (by decide) ?_
  refine lv_istore_n (lv' := [(3, .int (iI (0))), (2, .ref (u2 0)), (1, .ref (u1.1 0)), (0, .ref b)]) hx hb dL_law_17 rfl hl (by decide) rfl (fun ls hl => ?_)
  exact law_loop hL ⟨hx, hb, hml, hown, hts, hK, hX, hbl, hSB⟩ hr hlocks (fun k => ([u1.1, u1.2.1, u1.2.2.1, u1.2.2.2.1, u1.2.2.2.2.1, u1.2.2.2.2.2.1, u1.2.2.2.2.2.2, u2] : List (Nat → Nat)).getD k u1.1) 5001 0 (by omega) (by omega) (fun _ => z0) H locs ls lv_00 hl hP hD hS
set_option maxHeartbeats 4000000 in
theorem lw_walk (l : Launch) (hflags : l.flags = flags0) (b : Addr) (xs : List Int32) : MetFree l x (headSpec (Jvm.Cond.code x code maxLocals ret :: tables_1) room_1) (lw_P b xs) (fun _ _ _ _ _ => True) lw_Q := by
  refine MetFree.of_bodyS (code := code) (maxLocals := maxLocals) (ret := ret) (by decide) ?_ ?_
  · intro args s m h hn
    obtain ⟨meth, c, h1, h2, h3, h4, h5, h6, -, -⟩ := Cond.code_spec hn (atoms_spec (ws := Jvm.Cond.code x code maxLocals ret :: tables_1) h _ List.mem_cons_self)
    exact ⟨meth, c, h1, h2, h3, h4, h5, h6⟩
  · intro p e s m args below meth c s₁ B hml0 hP _
    obtain ⟨rfl, hx, hbd, hgv⟩ := hP
    obtain ⟨scr, harrAt, hlist, hof, hsmall⟩ := hx
    obtain ⟨hcb, hkn, -, -⟩ := State.arrayAt?_spec harrAt
    have hown : s.vm.findClass R_law = some m.cls := findClass_of_methodNamed B.named
    have hts0 : ∀ c ∈ (Jvm.Cond.code x code maxLocals ret :: tables_1), c.before #[Value.ref b] s = true := atoms_spec (ws := Jvm.Cond.code x code maxLocals ret :: tables_1) B.pre
    have hts : ∀ w ∈ lw_tbl, w.before #[Value.ref b] s = true := k2_hts_sels lw_privs (fun w hw => hts0 w (List.mem_cons_of_mem _ hw)) lw_privs_ok
    have hml : c.maxLocals = 4 := B.maxLocals_eq (hts0 _ List.mem_cons_self)
    have X₀ : Stand p l e room_1 s m #[Value.ref b] below meth c s₁ [] 0 0 := Stand.of_body B
    have hh0 : s₁.heap = s.heap := by rw [B.state]; rfl
    have hsz : scr.slots.size = xs.length := by rw [← Array.length_toList, hlist, List.length_map]
    have hval : ∀ j : Nat, j < xs.length → scr.slots[j]? = some (.int (xs.getD j 0)) := fun j hj => by
      rw [← Array.getElem?_toList, hlist]
      simp [hj]
    have hbl : b < s.heap.size := (Array.getElem?_eq_some_iff.mp hcb).1
    have hX : va_X b xs.length (fun j => xs.getD j 0) s s.heap := ⟨scr, hcb, hof, hkn, hsz, hval⟩
    have K : W p l e room_1 s m #[Value.ref b] below meth c s₁.heap [] 0 0 (lw_Z below #[Value.ref b] s) (entryFrame m ([Value.ref b] : List Value).toArray 4) := by
      rw [hh0]
      exact whole_start l hflags hbd ⟨B.exec, B.bytes, B.returns, hml, hown, hts, hX, hbl, B.notSynchronized, hgv⟩
    obtain ⟨t, a1, o, b1, b2, b3⟩ := K s₁ rfl X₀
    exact ⟨t, o, a1, b1, b2, b3⟩
theorem lw_pre_spec {args : Array Value} {s : State} (h : (Jvm.Cond.and given_1 narrow_1).before args s = true) (hr : rest_1_c.before args s = true) : ∃ (b : Addr) (xs : List Int32), lw_P b xs args s := by
  have hs := flat_of_before _ h
  have hq := flat_of_before _ hr
  have hc : (Cond.count 1).before args s = true := hs _ (by decide +kernel)
  have harr : (Cond.arrayOf (.arg 0) .int).before args s = true := hs _ (by decide +kernel)
  have hle : (Cond.le (.length (.arg 0)) (.int 3072)).before args s = true := hs _ (by decide +kernel)
  have hlen : (Cond.isInt (.length (.arg 0))).before args s = true := hq _ (by decide +kernel)
  have hall : (Cond.all (.arg 0) (.isInt (.elem (.arg 0) (.index 0)))).before args s = true := hq _ (by decide +kernel)
  obtain ⟨b, xs, hb, hx⟩ := State.ints_of_pre rfl harr hlen hall
  have hsm : xs.length < 2 ^ 31 := hx.choose_spec.2.2.2
  have hev : (Term.length (.arg 0)).eval args s none [] s = some (.int xs.length.toInt32) := hx.length_eval hb
  have hv := Cond.le_ints hev (show (Term.int 3072).eval args s none [] s = some (.int 3072) from rfl)
  have hd : xs.length.toInt32 ≤ 3072 := by
    simpa [Cond.before, Cond.holds, hv] using hle
  have hN : xs.length ≤ 3072 := (Int32.ofNat_le_ofNat hsm (by decide)).mp (show Int32.ofNat xs.length ≤ Int32.ofNat 3072 from hd)
  exact ⟨b, xs, Cond.one_arg hc (show args[0]? = some (.ref b) from hb), hx, hN, h⟩
theorem lw_comes (l : Launch) (hflags : l.flags = flags0) : Comes l x (Jvm.Cond.code x code maxLocals ret :: tables_1) room_1 (fun tb e args s => Calls_1 tb e args s ∧ rest_1 tb e args s ∧ Pre_1 tb e args s)
    (fun _ _ args s o t => lw_Q args s o t) := by
  intro p e ha hc hk s m args below hf hfit hheap happ hpre
  obtain ⟨b, xs, hP⟩ := lw_pre_spec hpre.2.2 hpre.2.1
  obtain ⟨k, o, h1, h2, h3, hQ⟩ := lw_walk l hflags b xs p e ha hc hk s m args below hf ((Spec.applies_iff_loose hf).mp happ).1 hP trivial
  exact ⟨k, o, h1, h2, h3, hQ⟩
theorem lw_frame {s t : State} {o : Outcome} {args : Array Value} (h : Framed s o t [] 600000 7302250) :
    Framed s o t (fieldLocs frame_1_writes args s ++ arrayLocs frame_1_arrays args s ++ staticLocs frame_1_statics s) 600000 7302250 := h
theorem lw_limb (L : Cond) (hL : ∀ (args : Array Value) (s t : State), L.after args s (.returned (some (.int 1))) t = true) :
    ArmFor flags0 classFile x code maxLocals ret World_1 tables_1 room_1 Calls_1 rest_1 Pre_1
      (fun tb e a s o t => postC L tb e a s o t ∧ Framed s o t (fieldLocs frame_1_writes a s ++ arrayLocs frame_1_arrays a s ++ staticLocs frame_1_statics s) 600000 7302250) := by
  intro l hflags _ _ p e ha hc hk s m args below hf hfit hheap happ hpre
  obtain ⟨k, o, h1, h2, h3, rfl, hF⟩ := lw_comes l hflags p e ha hc hk s m args below hf hfit hheap happ hpre
  exact ⟨k, _, h1, h2, h3, hL args s _, lw_frame hF⟩
theorem i_vc : Claimed_1_1 ∧ Claimed_1_2 := ⟨lw_limb limb_1_1 (fun args s t => by simp [limb_1_1, Cond.after, Cond.holds, Cond.value]), lw_limb limb_1_2 (fun args s t => Cond.after_iff.mpr (by
  first | (rw [show limb_1_2 = Cond.eq .result (.int 1) from rfl, Cond.eq_ints (x := 1) (y := 1) rfl rfl]; simp; done) | (simp [limb_1_2, Cond.value, Term.eval]; done)))⟩

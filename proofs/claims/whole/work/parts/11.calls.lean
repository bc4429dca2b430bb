def PX (g : Gd) (P : Heap → Prop) (av : List Value) : Array Value → State → Prop := va_Pc av (fun U => KX g U ∧ P U.heap)
def wP (g : Gd) (ws : va_W) (sz : Nat) : Heap → Prop := fun H => H.size = sz ∧ va_P g.1 vwCl ws H ∧ va_D (fun _ => True) ws
theorem PX.blind {g : Gd} {P : Heap → Prop} {av : List Value} : FrameBlind (PX g P av) := fun a U f mk q => ⟨q.1, q.2.1.calling, q.2.2⟩
abbrev QMv {S : Type} (g : Gd) (w : S → va_W) (post : S → Prop) (A : Nat → Prop) : Array Value → State → Outcome → State → Prop := va_Qv post (fun (u : S) (t : State) => va_P g.1 vwCl (w u) t.heap ∧ va_D A (w u)) A
abbrev QMi {S : Type} (g : Gd) (w : S → va_W) (post : Int32 → S → Prop) (A : Nat → Prop) : Array Value → State → Outcome → State → Prop := va_Qi post (fun (u : S) (t : State) => va_P g.1 vwCl (w u) t.heap ∧ va_D A (w u)) A
abbrev QMl {S : Type} (g : Gd) (w : S → va_W) (post : Int64 → S → Prop) (A : Nat → Prop) : Array Value → State → Outcome → State → Prop := va_Ql post (fun (u : S) (t : State) => va_P g.1 vwCl (w u) t.heap ∧ va_D A (w u)) A
abbrev QMr {S : Type} (g : Gd) (w : S → va_W) (b : Nat) (post : S → Prop) (A : Nat → Prop) : Array Value → State → Outcome → State → Prop := va_Qr post (fun (u : S) (a : Nat) (t : State) => a = b ∧ va_P g.1 vwCl (w u) t.heap ∧ va_D A (w u)) A
theorem va_P_app {D : va_G} {cl : List vw_C} {a b : va_W} {H : Heap} : va_P D cl (a ++ b) H ↔ va_P D cl a H ∧ va_P D cl b H := by
  refine ⟨fun h => ⟨fun k q hk => ?_, fun k q hk => ?_⟩, fun h => va_P.app h.1 h.2⟩
  · obtain ⟨i, hi⟩ := List.getElem?_of_mem (List.mem_append_left b (List.mem_of_getElem? hk))
    exact h i q hi
  · obtain ⟨i, hi⟩ := List.getElem?_of_mem (List.mem_append_right a (List.mem_of_getElem? hk))
    exact h i q hi
theorem va_D_app {A : Nat → Prop} {a b : va_W} (h : va_D A (a ++ b)) : va_D A a ∧ va_D A b ∧ ∀ (i j : Nat) (p q : Nat × va_E), a[i]? = some p → b[j]? = some q → p.1 ≠ q.1 := by
  have ha : ∀ (k : Nat) (q : Nat × va_E), a[k]? = some q → (a ++ b)[k]? = some q := fun k q hk => by rw [List.getElem?_append_left (List.getElem?_eq_some_iff.mp hk).1]; exact hk
  have hb : ∀ (k : Nat) (q : Nat × va_E), b[k]? = some q → (a ++ b)[a.length + k]? = some q := fun k q hk => by rw [List.getElem?_append_right (by omega), Nat.add_sub_cancel_left]; exact hk
  refine ⟨⟨fun i j x y hi hj e => h.1 i j x y (ha i x hi) (ha j y hj) e, fun k q hk => h.2 k q (ha k q hk)⟩, ⟨fun i j x y hi hj e => ?_, fun k q hk => h.2 _ q (hb k q hk)⟩, fun i j x y hi hj e => ?_⟩
  · have := h.1 _ _ x y (hb i x hi) (hb j y hj) e
    omega
  · have := h.1 _ _ x y (ha i x hi) (hb j y hj) e
    have h3 := (List.getElem?_eq_some_iff.mp hi).1
    omega
theorem bl_join {A0 : Nat → Prop} {D : va_G} {cl : List vw_C} {w1 wc w2 wn : va_W} {H H1 : Heap} (hP : va_P D cl (w1 ++ (wc ++ w2)) H) (hD : va_D A0 (w1 ++ (wc ++ w2)))
    (hk : ∀ q : Nat, q < H.size → ¬ va_A wc H.size q → H1[q]? = H[q]?) (hF : ∀ q, va_A wc H.size q → A0 q) (hP1 : va_P D cl wn H1) (hD1 : va_D (va_A wc H.size) wn) : va_P D cl (w1 ++ (wn ++ w2)) H1 ∧ va_D A0 (w1 ++ (wn ++ w2)) := by
  obtain ⟨p1, p23⟩ := va_P_app.mp hP
  obtain ⟨pc, p2⟩ := va_P_app.mp p23
  obtain ⟨d1, d23, x1⟩ := va_D_app hD
  obtain ⟨dc, d2, x2⟩ := va_D_app d23
  have n1 : ∀ (i : Nat) (q : Nat × va_E), w1[i]? = some q → ¬ va_A wc H.size q.1 := by
    intro i q hq h
    rcases h with ⟨k, e, h⟩ | h
    · obtain ⟨j, hj⟩ := List.getElem?_of_mem (List.mem_append_left w2 (List.mem_of_getElem? h))
      exact x1 i j q (q.1, e) hq hj rfl
    · have := (p1 i q hq).lt
      omega
  have n2 : ∀ (i : Nat) (q : Nat × va_E), w2[i]? = some q → ¬ va_A wc H.size q.1 := by
    intro i q hq h
    rcases h with ⟨k, e, h⟩ | h
    · exact x2 k i (q.1, e) q h hq rfl
    · have := (p2 i q hq).lt
      omega
  have q1 : va_P D cl w1 H1 := fun i q hq => (p1 i q hq).kept (hk q.1 (p1 i q hq).lt (n1 i q hq))
  have q2 : va_P D cl w2 H1 := fun i q hq => (p2 i q hq).kept (hk q.1 (p2 i q hq).lt (n2 i q hq))
  have dn : va_D A0 wn := hD1.weaken (fun k q _ h => hF q.1 h)
  refine ⟨va_P.app q1 (va_P.app hP1 q2), va_D.app d1 (va_D.app dn d2 (fun i j x y hx hy e => ?_)) (fun i j x y hx hy e => ?_)⟩
  · exact n2 j y hy (by rw [← e]; exact hD1.2 i x hx)
  · rcases List.mem_append.mp (List.mem_of_getElem? hy) with h | h
    · obtain ⟨j2, hj2⟩ := List.getElem?_of_mem h
      exact n1 i x hx (by rw [e]; exact hD1.2 j2 y hj2)
    · obtain ⟨j2, hj2⟩ := List.getElem?_of_mem h
      obtain ⟨j3, hj3⟩ := List.getElem?_of_mem (List.mem_append_right wc h)
      exact x1 i j3 x y hx hj3 e
/-- a row of numbers: what stands behind its end counts nothing -/
theorem ar_cong {cA : ClassId} {n : Nat} {f f2 : Int → Int} (h : ∀ j : Int, 0 ≤ j → j < n → f j = f2 j) : vp_cell cA (n, .inl (ar f)) = vp_cell cA (n, .inl (ar f2)) := by
  rw [vp_cell_i, vp_cell_i]
  unfold arrV
  congr 1
  apply Array.ext
  · simp
  · intro i h1 h2
    simp only [Array.getElem_ofFn]
    have h3 : i < n := by simpa using h1
    simp only [ar]
    rw [h i (by omega) (by omega)]
theorem la_cong {cA : ClassId} {n : Nat} {f f2 : Int → Int} (h : ∀ j : Int, 0 ≤ j → j < n → f j = f2 j) : vp_cell cA (n, .inr (.inl (la f))) = vp_cell cA (n, .inr (.inl (la f2))) := by
  rw [vp_cell_l, vp_cell_l]
  unfold arrV
  congr 1
  apply Array.ext
  · simp
  · intro i h1 h2
    simp only [Array.getElem_ofFn]
    have h3 : i < n := by simpa using h1
    simp only [la]
    rw [h i (by omega) (by omega)]
theorem P_cong {D : va_G} {cl : List vw_C} {ws : va_W} {H : Heap} (hP : va_P D cl ws H) (q0 : Nat) {a : Nat} {cA : ClassId} {x y : vp_A} (hq : ws[q0]? = some (a, .inl (cA, x))) (h : vp_cell cA x = vp_cell cA y) : va_P D cl (ws.set q0 (a, .inl (cA, y))) H := by
  have hl := (List.getElem?_eq_some_iff.mp hq).1
  intro k q hk
  by_cases hkp : k = q0
  · subst hkp
    rw [List.getElem?_set_self hl] at hk
    cases hk
    show H[a]? = some (vp_cell cA y)
    rw [← h]
    exact hP _ _ hq
  · rw [List.getElem?_set_ne (Ne.symm hkp)] at hk
    exact hP k q hk
section XC
variable {p : Program} {l : Launch} {e : Env} {R : Room} {s : State} {m : MethodId} {args : Array Value} {below : List Frame} {meth : Method} {c : Code} {H : Heap} {locs : List Loc} {cells slots : Nat} {Q : State → Prop} {cc : ByteArray} {pc : Nat} {ls : Array Slot} {rest st : List Value} {g : Gd}
  {y : MethodName} {c2 : ByteArray} {n nL k mc ms index : Nat} {r : Option FieldType} {rm : Room} {P : Heap → Prop} {av As : List Value} {Qc : Array Value → State → Outcome → State → Prop} {free : Addr → Prop} {own host : String} {lv : List (Nat × Value)} {b : Addr}

theorem rS (hx : p.tables.exec = Jvm.exec) (hb : c.code = cc) (hml : c.maxLocals = nL) (hown : s.vm.findClass own = some m.cls) (hts : ∀ w ∈ T0, w.before args s = true) (hK : KX g s) (hl : lv_has ls nL lv) (hM : Met l y (wsOf y c2 n r) rm (PX g P av) Qc mc ms free) (lk : LkS own index y c2 n r k) (hPH : P H) (hlen : av.length = k) (hst : st = av.reverse ++ rest) (hro : Nat.ble (rest.map fun v => v.category).sum 8 = true) (hrm : Rm rm R n cells slots) (hrc : rm.cells = mc) (hrs : rm.slots = ms) (d : decode cc pc = .ok (.invokestatic index, 3)) : va_Run p l e R s m args below meth c H locs cells slots mc ms (F0 m pc ls st) rest (Qc (av).toArray) free := by
  subst hrc hrs hst
  obtain ⟨k1, k2, k3, k4, k5, k6⟩ := lk
  exact va_runS (g := F0 m pc ls (av.reverse ++ rest)) (As := av) (rest := rest) (Ts := T0) ⟨hx, hb, hml, hown, hts⟩ hM ⟨callB_of k hts (gT k4 (fun _ h => h)) rfl rfl rfl (hts _ k3) (hts _ k1) ⟨k5.1, k5.2, k6⟩ ⟨hrm.1, hrm.2.1⟩, hts _ k2⟩ ⟨PX.blind, fun U hU hW => ⟨rfl, hK.warm hW, by rw [hU]; exact hPH⟩⟩ rfl hlen hl.1 rfl (lv_room (Nat.le_of_ble_eq_true hro)) d ⟨hrm.2.2.1, hrm.2.2.2⟩
theorem rSN (hx : p.tables.exec = Jvm.exec) (hb : c.code = cc) (hml : c.maxLocals = nL) (hown : s.vm.findClass own = some m.cls) (hts : ∀ w ∈ T0, w.before args s = true) (hK : KX g s) (hl : lv_has ls nL lv) (hM : Met l y (wsOf y c2 n r) rm (PX g P av) Qc mc ms free) (lk : LkSN own index host y c2 n r k) (hPH : P H) (hlen : av.length = k) (hst : st = av.reverse ++ rest) (hro : Nat.ble (rest.map fun v => v.category).sum 8 = true) (hrm : Rm rm R n cells slots) (hrc : rm.cells = mc) (hrs : rm.slots = ms) (d : decode cc pc = .ok (.invokestatic index, 3)) : va_Run p l e R s m args below meth c H locs cells slots mc ms (F0 m pc ls st) rest (Qc (av).toArray) free := by
  subst hrc hrs hst
  obtain ⟨k1, k2, k3, k4, k5, k6⟩ := lk
  exact va_runSN (g := F0 m pc ls (av.reverse ++ rest)) (As := av) (rest := rest) (Ts := T0) ⟨hx, hb, hml, hown, hts⟩ hM ⟨va_cnB k hts (gT k4 (fun _ h => h)) rfl rfl rfl (hK.2 _ k1) (hts _ k3) ⟨k5.1, k5.2, k6⟩ ⟨hrm.1, hrm.2.1⟩, hts _ k2, trivial⟩ ⟨PX.blind, fun U hU hW => ⟨rfl, hK.warm hW, by rw [hU]; exact hPH⟩⟩ rfl hlen hl.1 rfl (lv_room (Nat.le_of_ble_eq_true hro)) d ⟨hrm.2.2.1, hrm.2.2.2⟩
theorem rV (hx : p.tables.exec = Jvm.exec) (hb : c.code = cc) (hml : c.maxLocals = nL) (hown : s.vm.findClass own = some m.cls) (hts : ∀ w ∈ T0, w.before args s = true) (hK : KX g s) (hl : lv_has ls nL lv) (hM : Met l y (wsOf y c2 n r) rm (PX g P (.ref b :: As)) Qc mc ms free) (lk : LkV own index y c2 n r k) (hPH : P H) (hrv : ∃ cellB : Cell, H[b]? = some cellB ∧ cellB.vm.isStatics = false ∧ s.vm.findClass y.cls = some cellB.cls) (hlen : As.length = k) (hst : st = As.reverse ++ .ref b :: rest) (hro : Nat.ble (rest.map fun v => v.category).sum 8 = true) (hrm : Rm rm R n cells slots) (hrc : rm.cells = mc) (hrs : rm.slots = ms) (d : decode cc pc = .ok (.invokevirtual index, 3)) : va_Run p l e R s m args below meth c H locs cells slots mc ms (F0 m pc ls st) rest (Qc (.ref b :: As).toArray) free := by
  subst hrc hrs hst
  obtain ⟨k1, k2, k7, k3, k4, k5, k6⟩ := lk
  exact va_runV (g := F0 m pc ls (As.reverse ++ .ref b :: rest)) (C := y.cls) (As := As) (rest := rest) (Ts := T0) ⟨hx, hb, hml, hown, hts⟩ hM ⟨callB_of k hts (gT k4 (fun _ h => h)) rfl rfl rfl (hts _ k3) (hts _ k1) ⟨k5.1, k5.2, k6⟩ ⟨hrm.1, hrm.2.1⟩, hts _ k2, hts _ k7⟩ ⟨PX.blind, hrv, fun U hU hW => ⟨rfl, hK.warm hW, by rw [hU]; exact hPH⟩⟩ rfl hlen hl.1 rfl (lv_room (Nat.le_of_ble_eq_true hro)) d ⟨hrm.2.2.1, hrm.2.2.2⟩
theorem rVN (hx : p.tables.exec = Jvm.exec) (hb : c.code = cc) (hml : c.maxLocals = nL) (hown : s.vm.findClass own = some m.cls) (hts : ∀ w ∈ T0, w.before args s = true) (hK : KX g s) (hl : lv_has ls nL lv) (hM : Met l y (wsOf y c2 n r) rm (PX g P (.ref b :: As)) Qc mc ms free) (lk : LkVN own index host y c2 n r k) (hPH : P H) (hrv : ∃ cellB : Cell, H[b]? = some cellB ∧ cellB.vm.isStatics = false ∧ s.vm.findClass y.cls = some cellB.cls) (hlen : As.length = k) (hst : st = As.reverse ++ .ref b :: rest) (hro : Nat.ble (rest.map fun v => v.category).sum 8 = true) (hrm : Rm rm R n cells slots) (hrc : rm.cells = mc) (hrs : rm.slots = ms) (d : decode cc pc = .ok (.invokevirtual index, 3)) : va_Run p l e R s m args below meth c H locs cells slots mc ms (F0 m pc ls st) rest (Qc (.ref b :: As).toArray) free := by
  subst hrc hrs hst
  obtain ⟨k1, k2, k7, k3, k4, k5, k6⟩ := lk
  exact va_runVN (g := F0 m pc ls (As.reverse ++ .ref b :: rest)) (C := y.cls) (As := As) (rest := rest) (Ts := T0) ⟨hx, hb, hml, hown, hts⟩ hM ⟨va_cnB k hts (gT k4 (fun _ h => h)) rfl rfl rfl (hK.2 _ k1) (hts _ k3) ⟨k5.1, k5.2, k6⟩ ⟨hrm.1, hrm.2.1⟩, hts _ k2, hts _ k7⟩ ⟨PX.blind, hrv, fun U hU hW => ⟨rfl, hK.warm hW, by rw [hU]; exact hPH⟩⟩ rfl hlen hl.1 rfl (lv_room (Nat.le_of_ble_eq_true hro)) d ⟨hrm.2.2.1, hrm.2.2.2⟩
theorem xu_i {a : Array Value} {x : Int32} (run : va_Run p l e R s m args below meth c H locs cells slots 0 0 (F0 m pc ls st) rest (vp_Si (fun r => r = x) a) (fun _ => False)) (kk : W p l e R s m args below meth c H locs cells slots Q (F0 m (pc + 3) ls (.int x :: rest))) : W p l e R s m args below meth c H locs cells slots Q (F0 m pc ls st) := vp_callSi run.run (fun r hr => by subst hr; exact kk)
theorem xu_l {a : Array Value} {x : Int64} (run : va_Run p l e R s m args below meth c H locs cells slots 0 0 (F0 m pc ls st) rest (vp_Sl (fun r => r = x) a) (fun _ => False)) (kk : W p l e R s m args below meth c H locs cells slots Q (F0 m (pc + 3) ls (.long x :: rest))) : W p l e R s m args below meth c H locs cells slots Q (F0 m pc ls st) := vp_callSl run.run (fun r hr => by subst hr; exact kk)
theorem xu_p {a : Array Value} {post : Int32 → Prop} (run : va_Run p l e R s m args below meth c H locs cells slots 0 0 (F0 m pc ls st) rest (vp_Si post a) (fun _ => False)) (kk : ∀ x : Int32, post x → W p l e R s m args below meth c H locs cells slots Q (F0 m (pc + 3) ls (.int x :: rest))) : W p l e R s m args below meth c H locs cells slots Q (F0 m pc ls st) := vp_callSi run.run kk
theorem fr_all {w0 : va_W} {A0 : Nat → Prop} {H0 : Heap} (hD : va_D A0 w0) (hS : va_S A0 H0 H locs) (hA : ∀ q, H0.size ≤ q → A0 q) : ∀ q, va_A w0 H.size q → A0 q := by
  intro q h
  rcases h with ⟨k, e, h⟩ | h
  · exact hD.2 k (q, e) h
  · exact hA q (Nat.le_trans hS.1 h)
theorem fr_blk {w0 w1 w2 : va_W} {A0 : Nat → Prop} {H0 : Heap} (hD : va_D A0 (w1 ++ (w0 ++ w2))) (hS : va_S A0 H0 H locs) (hA : ∀ q, H0.size ≤ q → A0 q) : ∀ q, va_A w0 H.size q → A0 q := fr_all (va_D_app (va_D_app hD).2.1).1 hS hA

theorem xm_v {S : Type} {w : S → va_W} {w0 : va_W} {post : S → Prop} {a : Array Value} {A0 : Nat → Prop} {H0 : Heap} (run : va_Run p l e R s m args below meth c H locs cells slots mc ms (F0 m pc ls st) rest (QMv g w post (va_A w0 H.size) a) (va_A w0 H.size)) (hD : va_D A0 w0) (hS : va_S A0 H0 H locs) (hA : ∀ q, H0.size ≤ q → A0 q) (kk : ∀ (u : S) (H1 : Heap) (locs1 : List Loc), post u → va_P g.1 vwCl (w u) H1 → va_D A0 (w u) → va_S A0 H0 H1 locs1 → W p l e R s m args below meth c H1 locs1 (cells + mc) (slots + ms) Q (F0 m (pc + 3) ls (rest))) : W p l e R s m args below meth c H locs cells slots Q (F0 m pc ls st) := by
  have hF := fr_all hD hS hA
  refine va_callv run hS (fun q _ h => hF q h) hF (fun u t H1 locs1 ht hvm hw hB hz1 hk1 hS1 => ?_)
  obtain ⟨hP1, hD1⟩ := hB
  rw [ht] at hP1
  exact kk u H1 locs1 hw hP1 (hD1.weaken (fun k q _ h => hF q.1 h)) hS1
theorem xmB_v {S : Type} {w : S → va_W} {w0 w1 w2 : va_W} {post : S → Prop} {a : Array Value} {A0 : Nat → Prop} {H0 : Heap} (run : va_Run p l e R s m args below meth c H locs cells slots mc ms (F0 m pc ls st) rest (QMv g w post (va_A w0 H.size) a) (va_A w0 H.size)) (hP : va_P g.1 vwCl (w1 ++ (w0 ++ w2)) H) (hD : va_D A0 (w1 ++ (w0 ++ w2))) (hS : va_S A0 H0 H locs) (hA : ∀ q, H0.size ≤ q → A0 q) (kk : ∀ (u : S) (H1 : Heap) (locs1 : List Loc), post u → va_P g.1 vwCl (w1 ++ (w u ++ w2)) H1 → va_D A0 (w1 ++ (w u ++ w2)) → va_S A0 H0 H1 locs1 → W p l e R s m args below meth c H1 locs1 (cells + mc) (slots + ms) Q (F0 m (pc + 3) ls (rest))) : W p l e R s m args below meth c H locs cells slots Q (F0 m pc ls st) := by
  have hF := fr_blk hD hS hA
  refine va_callv run hS (fun q _ h => hF q h) hF (fun u t H1 locs1 ht hvm hw hB hz1 hk1 hS1 => ?_)
  obtain ⟨hP1, hD1⟩ := hB
  rw [ht] at hP1
  obtain ⟨h2, h3⟩ := bl_join hP hD hk1 hF hP1 hD1
  exact kk u H1 locs1 hw h2 h3 hS1
theorem xm_i {S : Type} {w : S → va_W} {w0 : va_W} {post : Int32 → S → Prop} {a : Array Value} {A0 : Nat → Prop} {H0 : Heap} (run : va_Run p l e R s m args below meth c H locs cells slots mc ms (F0 m pc ls st) rest (QMi g w post (va_A w0 H.size) a) (va_A w0 H.size)) (hD : va_D A0 w0) (hS : va_S A0 H0 H locs) (hA : ∀ q, H0.size ≤ q → A0 q) (kk : ∀ (x : Int32) (u : S) (H1 : Heap) (locs1 : List Loc), post x u → va_P g.1 vwCl (w u) H1 → va_D A0 (w u) → va_S A0 H0 H1 locs1 → W p l e R s m args below meth c H1 locs1 (cells + mc) (slots + ms) Q (F0 m (pc + 3) ls (.int x :: rest))) : W p l e R s m args below meth c H locs cells slots Q (F0 m pc ls st) := by
  have hF := fr_all hD hS hA
  refine va_calli run hS (fun q _ h => hF q h) hF (fun x u t H1 locs1 ht hvm hw hB hz1 hk1 hS1 => ?_)
  obtain ⟨hP1, hD1⟩ := hB
  rw [ht] at hP1
  exact kk x u H1 locs1 hw hP1 (hD1.weaken (fun k q _ h => hF q.1 h)) hS1
theorem xmB_i {S : Type} {w : S → va_W} {w0 w1 w2 : va_W} {post : Int32 → S → Prop} {a : Array Value} {A0 : Nat → Prop} {H0 : Heap} (run : va_Run p l e R s m args below meth c H locs cells slots mc ms (F0 m pc ls st) rest (QMi g w post (va_A w0 H.size) a) (va_A w0 H.size)) (hP : va_P g.1 vwCl (w1 ++ (w0 ++ w2)) H) (hD : va_D A0 (w1 ++ (w0 ++ w2))) (hS : va_S A0 H0 H locs) (hA : ∀ q, H0.size ≤ q → A0 q) (kk : ∀ (x : Int32) (u : S) (H1 : Heap) (locs1 : List Loc), post x u → va_P g.1 vwCl (w1 ++ (w u ++ w2)) H1 → va_D A0 (w1 ++ (w u ++ w2)) → va_S A0 H0 H1 locs1 → W p l e R s m args below meth c H1 locs1 (cells + mc) (slots + ms) Q (F0 m (pc + 3) ls (.int x :: rest))) : W p l e R s m args below meth c H locs cells slots Q (F0 m pc ls st) := by
  have hF := fr_blk hD hS hA
  refine va_calli run hS (fun q _ h => hF q h) hF (fun x u t H1 locs1 ht hvm hw hB hz1 hk1 hS1 => ?_)
  obtain ⟨hP1, hD1⟩ := hB
  rw [ht] at hP1
  obtain ⟨h2, h3⟩ := bl_join hP hD hk1 hF hP1 hD1
  exact kk x u H1 locs1 hw h2 h3 hS1
theorem xm_l {S : Type} {w : S → va_W} {w0 : va_W} {post : Int64 → S → Prop} {a : Array Value} {A0 : Nat → Prop} {H0 : Heap} (run : va_Run p l e R s m args below meth c H locs cells slots mc ms (F0 m pc ls st) rest (QMl g w post (va_A w0 H.size) a) (va_A w0 H.size)) (hD : va_D A0 w0) (hS : va_S A0 H0 H locs) (hA : ∀ q, H0.size ≤ q → A0 q) (kk : ∀ (x : Int64) (u : S) (H1 : Heap) (locs1 : List Loc), post x u → va_P g.1 vwCl (w u) H1 → va_D A0 (w u) → va_S A0 H0 H1 locs1 → W p l e R s m args below meth c H1 locs1 (cells + mc) (slots + ms) Q (F0 m (pc + 3) ls (.long x :: rest))) : W p l e R s m args below meth c H locs cells slots Q (F0 m pc ls st) := by
  have hF := fr_all hD hS hA
  refine va_calll run hS (fun q _ h => hF q h) hF (fun x u t H1 locs1 ht hvm hw hB hz1 hk1 hS1 => ?_)
  obtain ⟨hP1, hD1⟩ := hB
  rw [ht] at hP1
  exact kk x u H1 locs1 hw hP1 (hD1.weaken (fun k q _ h => hF q.1 h)) hS1
theorem xmB_l {S : Type} {w : S → va_W} {w0 w1 w2 : va_W} {post : Int64 → S → Prop} {a : Array Value} {A0 : Nat → Prop} {H0 : Heap} (run : va_Run p l e R s m args below meth c H locs cells slots mc ms (F0 m pc ls st) rest (QMl g w post (va_A w0 H.size) a) (va_A w0 H.size)) (hP : va_P g.1 vwCl (w1 ++ (w0 ++ w2)) H) (hD : va_D A0 (w1 ++ (w0 ++ w2))) (hS : va_S A0 H0 H locs) (hA : ∀ q, H0.size ≤ q → A0 q) (kk : ∀ (x : Int64) (u : S) (H1 : Heap) (locs1 : List Loc), post x u → va_P g.1 vwCl (w1 ++ (w u ++ w2)) H1 → va_D A0 (w1 ++ (w u ++ w2)) → va_S A0 H0 H1 locs1 → W p l e R s m args below meth c H1 locs1 (cells + mc) (slots + ms) Q (F0 m (pc + 3) ls (.long x :: rest))) : W p l e R s m args below meth c H locs cells slots Q (F0 m pc ls st) := by
  have hF := fr_blk hD hS hA
  refine va_calll run hS (fun q _ h => hF q h) hF (fun x u t H1 locs1 ht hvm hw hB hz1 hk1 hS1 => ?_)
  obtain ⟨hP1, hD1⟩ := hB
  rw [ht] at hP1
  obtain ⟨h2, h3⟩ := bl_join hP hD hk1 hF hP1 hD1
  exact kk x u H1 locs1 hw h2 h3 hS1
theorem xmB_r {S : Type} {w : S → va_W} {w0 w1 w2 : va_W} {post : S → Prop} {ba : Nat} {a : Array Value} {A0 : Nat → Prop} {H0 : Heap} (run : va_Run p l e R s m args below meth c H locs cells slots mc ms (F0 m pc ls st) rest (QMr g w ba post (va_A w0 H.size) a) (va_A w0 H.size)) (hP : va_P g.1 vwCl (w1 ++ (w0 ++ w2)) H) (hD : va_D A0 (w1 ++ (w0 ++ w2))) (hS : va_S A0 H0 H locs) (hA : ∀ q, H0.size ≤ q → A0 q) (kk : ∀ (u : S) (H1 : Heap) (locs1 : List Loc), post u → va_P g.1 vwCl (w1 ++ (w u ++ w2)) H1 → va_D A0 (w1 ++ (w u ++ w2)) → va_S A0 H0 H1 locs1 → W p l e R s m args below meth c H1 locs1 (cells + mc) (slots + ms) Q (F0 m (pc + 3) ls (.ref ba :: rest))) : W p l e R s m args below meth c H locs cells slots Q (F0 m pc ls st) := by
  have hF := fr_blk hD hS hA
  refine va_callr run hS (fun q _ h => hF q h) hF (fun u ra t H1 locs1 ht hvm hw hB hz1 hk1 hS1 => ?_)
  obtain ⟨rfl, hP1, hD1⟩ := hB
  rw [ht] at hP1
  obtain ⟨h2, h3⟩ := bl_join hP hD hk1 hF hP1 hD1
  exact kk u H1 locs1 hw h2 h3 hS1
end XC

/-! CONSTRUCTORS: contracts that make cells; calls with a part of the world -/
def CN (l : Launch) (D : va_G) (tys : List (ClassId × FieldType)) (y : MethodName) (w : List Cond) (rm : Room) (av : List Value) (ws : va_W) (X : Type) (post : X → va_W) (mc ms : Nat) : Prop :=
  ∀ sz : Nat, Met l y w rm (va_Pc av (lhPre D tys ws sz)) (va_Qv (fun (_ : X) => True) (fun x => lhAt D tys (va_A ws sz) (post x)) (va_A ws sz)) mc ms (va_A ws sz)
def QN (below : List Frame) (D : va_G) (tys : List (ClassId × FieldType)) (A : Nat → Prop) (X : Type) (post : X → va_W) (args : Array Value) (s : State) (mc ms : Nat) : State → Prop := MQ below (va_Qv (fun (_ : X) => True) (fun x => lhAt D tys A (post x)) A) args s mc ms A
theorem lh_CNof {l : Launch} {D : va_G} {tys : List (ClassId × FieldType)} {y : MethodName} {w w' : List Cond} {rm : Room} {av : List Value} {ws : va_W} {X : Type} {post : X → va_W} {mc ms : Nat} {cc : ByteArray} {maxL : Nat} {own : String}
    (hy : plainName y.cls = true) (hw : w = Cond.code y cc maxL none :: w') (hown : y.cls = own) (hnm : y.name = "<init>") (hlen : (lg_sl av).length ≤ maxL)
    (body : ∀ (p : Program) (e : Env) (s : State) (m : MethodId) (below : List Frame) (meth : Method) (c : Code) (A : Nat → Prop) (ls : Array Slot), p.tables.exec = Jvm.exec → c.code = cc → meth.sig.returnType = none → meth.locks = false → meth.name = "<init>" → (∀ q ∈ w, q.before av.toArray s = true) → s.vm.findClass own = some m.cls → c.maxLocals = maxL → va_K D vwCl tys s → lhN s → (∀ q, s.heap.size ≤ q → A q) → va_P D vwCl ws s.heap → va_D A ws → va_S A s.heap s.heap [] → lv_has ls maxL (lv_args 0 av) →
      W p l e rm s m av.toArray below meth c s.heap [] 0 0 (QN below D tys A X post av.toArray s mc ms) (F0 m 0 ls [])) : CN l D tys y w rm av ws X post mc ms := by
  intro sz
  refine Met.ofW (cc := cc) (maxL := maxL) (ret := none) hy hw ?_
  intro p e s m args below meth c s₁ B hml hv
  obtain ⟨rfl, hsz, hP, hK, hN, hD0⟩ := hv
  have hts := atoms_spec (ws := w) B.pre
  have hfc : s.vm.findClass own = some m.cls := by rw [← hown]; exact findClass_of_methodNamed B.named
  have hin : meth.name = "<init>" := (name_of_methodNamed B.named B.method).1.trans hnm
  subst hsz
  rw [lg_entry_eq]
  exact body p e s m below meth c _ _ B.exec B.bytes B.returns B.notSynchronized hin hts hfc hml hK hN (fun q h => Or.inr h) hP hD0.self va_S.rf (lv_entry av hlen)
theorem lh_RA {s : State} {cA cI : ClassId} {ty : FieldType} (ht : ty = .int ∨ ty = .boolean) (h : va_RA s cA ty) (h2 : va_RA s cI ty) : cA = cI := by
  rcases ht with rfl | rfl
  · exact Option.some.inj (Eq.trans (Eq.symm (show s.vm.findClass _ = some cA from h)) (show s.vm.findClass _ = some cI from h2))
  · exact Option.some.inj (Eq.trans (Eq.symm (show s.vm.findClass _ = some cA from h)) (show s.vm.findClass _ = some cI from h2))
theorem lh_cls {args : Array Value} {s : State} {ty : FieldType} (ht : ty = .int ∨ ty = .boolean) (h : (Cond.arrayClass ty).before args s = true) : ∃ cA : ClassId, ArrOfT s cA ty ∧ va_RA s cA ty := by
  obtain ⟨cA, kA, comp, h1, h2, h3⟩ := Cond.arrayClass_spec h
  refine ⟨cA, fun n z => ⟨fun k h => (by cases h), kA, h2, comp, h3⟩, ?_⟩
  rcases ht with rfl | rfl
  · exact h1
  · exact h1
section LHI
variable {p : Program} {l : Launch} {e : Env} {R : Room} {s : State} {m : MethodId} {args : Array Value} {below : List Frame} {meth : Method} {c : Code} {H : Heap} {locs : List Loc} {cells slots : Nat} {Q : State → Prop}
variable {cc : ByteArray} {pc : Nat} {ls : Array Slot} {rest st0 : List Value} {D : va_G} {tys : List (ClassId × FieldType)} {A : Nat → Prop} {ws ws' wc wr : va_W} {H0 : Heap}
theorem lh_rn {X : Type} {post : X → va_W} (x : X) (hx : p.tables.exec = Jvm.exec) (hb : c.code = cc) (hr : meth.sig.returnType = none) (hlk : meth.locks = false) (hK : va_K D vwCl tys s) (hP : va_P D vwCl ws H) (hD : va_D A ws) (hS : va_S A s.heap H locs) (hw : ws = post x) (hdg : decode cc pc = .ok (.return_, 1)) :
    W p l e R s m args below meth c H locs cells slots (QN below D tys A X post args s cells slots) (F0 m pc ls []) := by
  subst hw
  exact W.vret hx hb hr (fun t ht hW => ⟨⟨x, rfl, trivial, by rw [ht]; exact hP, va_K.moved hW.alike hK, hD⟩, hS.F ht⟩) hS.2.2 hdg hlk
theorem lh_newi {cI : ClassId} (hx : p.tables.exec = Jvm.exec) (hb : c.code = cc) (harr : (Cond.arrayClass .int).before args s = true) (hK : va_K D vwCl tys s) (hP : va_P D vwCl ws H) (hD : va_D A ws) (hS : va_S A H0 H locs) (hA : ∀ q, H0.size ≤ q → A q) (t0 : Nat) (ht : tys[t0]? = some (cI, .int)) {N : Nat} (hN : N < 10000) (hcells : cells + 1 ≤ R.cells) (hslots : slots + N ≤ R.slots) (hdg : decode cc pc = .ok (.newarray .int, 2))
    (kk : ∀ (q : Nat) (H1 : Heap), va_P D vwCl (ws ++ [(q, .inl (cI, N, .inl (fun _ => 0)))]) H1 → va_D A (ws ++ [(q, .inl (cI, N, .inl (fun _ => 0)))]) → va_S A H0 H1 locs → W p l e R s m args below meth c H1 locs (cells + 1) (slots + N) Q (F0 m (pc + 2) ls (.ref q :: rest))) : W p l e R s m args below meth c H locs cells slots Q (F0 m pc ls (.int (nI N) :: rest)) := by
  refine va_newa (atype := .int) (ty := .int) hx hb harr rfl hK hP hD hS hA (N' := N) (a0 := (N, .inl (fun _ => 0))) (fun _ => rfl) (nI_pos (by omega)) (nI_clamp (by omega)) (by show N * 4 ≤ _; omega) hcells hslots hdg (fun q cA H1 hK1 hP1 hD1 hS1 => ?_)
  have e1 := (hK1.2 tys.length (cA, .int) (by rw [List.getElem?_append_right (Nat.le_refl _), Nat.sub_self]; rfl)).2
  have e2 := (hK.2 t0 _ ht).2
  have e3 := lh_RA (Or.inl rfl) e1 e2
  subst e3
  exact kk q H1 hP1 hD1 hS1
theorem lh_newz {cZ : ClassId} (hx : p.tables.exec = Jvm.exec) (hb : c.code = cc) (harr : (Cond.arrayClass .boolean).before args s = true) (hK : va_K D vwCl tys s) (hP : va_P D vwCl ws H) (hD : va_D A ws) (hS : va_S A H0 H locs) (hA : ∀ q, H0.size ≤ q → A q) (t0 : Nat) (ht : tys[t0]? = some (cZ, .boolean)) {N : Nat} (hN : N < 10000) (hcells : cells + 1 ≤ R.cells) (hslots : slots + N ≤ R.slots) (hdg : decode cc pc = .ok (.newarray .boolean, 2))
    (kk : ∀ (q : Nat) (H1 : Heap), va_P D vwCl (ws ++ [(q, .inl (cZ, N, .inl (fun _ => 0)))]) H1 → va_D A (ws ++ [(q, .inl (cZ, N, .inl (fun _ => 0)))]) → va_S A H0 H1 locs → W p l e R s m args below meth c H1 locs (cells + 1) (slots + N) Q (F0 m (pc + 2) ls (.ref q :: rest))) : W p l e R s m args below meth c H locs cells slots Q (F0 m pc ls (.int (nI N) :: rest)) := by
  refine va_newa (atype := .boolean) (ty := .boolean) hx hb harr rfl hK hP hD hS hA (N' := N) (a0 := (N, .inl (fun _ => 0))) (fun _ => rfl) (nI_pos (by omega)) (nI_clamp (by omega)) (by show N * 1 ≤ _; omega) hcells hslots hdg (fun q cA H1 hK1 hP1 hD1 hS1 => ?_)
  have e1 := (hK1.2 tys.length (cA, .boolean) (by rw [List.getElem?_append_right (Nat.le_refl _), Nat.sub_self]; rfl)).2
  have e2 := (hK.2 t0 _ ht).2
  have e3 := lh_RA (Or.inr rfl) e1 e2
  subst e3
  exact kk q H1 hP1 hD1 hS1
variable {y : MethodName} {w : List Cond} {rm : Room} {As : List Value} {b : Nat} {r : Int32} {nL n index maxL mc ms : Nat} {ret : Option FieldType} {Ts : List Cond} {own C : String} {bytes : ByteArray}
theorem lh_cSv (S : CallFix p m c cc nL s args Ts own) (hM : CV l D tys y w rm As ws ws') (cw : CallB R s args own index y bytes maxL ret w rm 0 0 n ∧ (Cond.static y).before args s = true) (hK : va_K D vwCl tys s) (hN : lhN s) (hP : va_P D vwCl ws H) (hD : va_D A ws) (hS : va_S A s.heap H locs) (hA : ∀ q, s.heap.size ≤ q → A q)
    (hn : As.length = n) (hl : ls.size = nL) (hst : st0 = As.reverse ++ rest) (hW : (rest.map fun v => v.category).sum ≤ 8) (hf : cells + 0 ≤ R.cells ∧ slots + 0 ≤ R.slots) (hdg : decode cc pc = .ok (.invokestatic index, 3))
    (kk : ∀ (H1 : Heap) (locs1 : List Loc), va_P D vwCl ws' H1 → va_D A ws' → va_S A s.heap H1 locs1 → W p l e R s m args below meth c H1 locs1 cells slots Q (F0 m (pc + 3) ls rest)) : W p l e R s m args below meth c H locs cells slots Q (F0 m pc ls st0) := by
  have hF := va_free hD hS hA (List.range ws.length) (lh_rng ws)
  refine va_callv (va_runS S (hM H.size) cw ⟨lh_blind, fun U hU hW => ⟨rfl, by rw [hU], by rw [hU]; exact hP, va_K.moved hW.alike hK, lhN_warm hW hN, hD.weaken (fun _ _ _ _ => trivial)⟩⟩ rfl hn hl hst (lv_room hW) hdg hf) hS (fun q _ h => hF q h) hF (fun u t H1 locs1 ht hvm hw hB hz1 hk1 hS1 => ?_)
  obtain ⟨hP1, hK1, hD1⟩ := hB
  rw [ht] at hP1
  obtain ⟨hP2, hD2⟩ := va_join (wr := []) hP hD (List.range ws.length) [] (lh_rng ws) rfl rfl (fun _ h => absurd h List.not_mem_nil) hk1 hF hP1 hD1
  exact kk H1 locs1 hP2 hD2 hS1
theorem lh_cN {X : Type} {post : X → va_W} (S : CallFix p m c cc nL s args Ts own) (hM : CN l D tys y w rm (.ref b :: As) wc X post mc ms) (cw : CallB R s args own index y bytes maxL none w rm mc ms n ∧ y.name = "<init>" ∧ (Cond.instanceMethod y).before args s = true) (hK : va_K D vwCl tys s) (hN : lhN s) (hP : va_P D vwCl ws H) (hD : va_D A ws) (hS : va_S A s.heap H locs) (hA : ∀ q, s.heap.size ≤ q → A q)
    (isC isR : List Nat) (hC2 : isC.filterMap (fun i => ws[i]?) = wc) (hC : isC.map (fun i => ws[i]?) = wc.map some) (hR : isR.map (fun i => ws[i]?) = wr.map some) (hnC : va_nd isC = true) (hnR : va_nd isR = true) (hdis : ∀ i ∈ isR, i ∉ isC)
    (hn : As.length = n) (hl : ls.size = nL) (hst : st0 = As.reverse ++ .ref b :: rest) (hW : (rest.map fun v => v.category).sum ≤ 8) (hf : cells + mc ≤ R.cells ∧ slots + ms ≤ R.slots) (hdg : decode cc pc = .ok (.invokespecial index, 3))
    (kk : ∀ (x : X) (H1 : Heap) (locs1 : List Loc), va_P D vwCl (wr ++ post x) H1 → va_D A (wr ++ post x) → va_S A s.heap H1 locs1 → W p l e R s m args below meth c H1 locs1 (cells + mc) (slots + ms) Q (F0 m (pc + 3) ls rest)) : W p l e R s m args below meth c H locs cells slots Q (F0 m pc ls st0) := by
  have hF := va_free hD hS hA isC hC
  have hPc := hP.sub isC hC2
  have hDc := hD.sub isC hnC hC
  refine va_callv (va_runI S (hM H.size) cw ⟨lh_blind, fun U hU hW => ⟨rfl, by rw [hU], by rw [hU]; exact hPc, va_K.moved hW.alike hK, lhN_warm hW hN, hDc.weaken (fun _ _ _ _ => trivial)⟩⟩ rfl hn hl hst (lv_room hW) hdg hf) hS (fun q _ h => hF q h) hF (fun x t H1 locs1 ht hvm hw hB hz1 hk1 hS1 => ?_)
  obtain ⟨hP1, hK1, hD1⟩ := hB
  rw [ht] at hP1
  obtain ⟨hP2, hD2⟩ := va_join hP hD isC isR hC hR hnR hdis hk1 hF hP1 hD1
  exact kk x H1 locs1 hP2 hD2 hS1
theorem lh_pVi (S : CallFix p m c cc nL s args Ts own) (hM : CI l D tys y w rm (.ref b :: As) wc ws' r) (hK0 : va_K D vwCl tys s) (cw : CallW R s args own C index y bytes maxL ret w rm 0 0 n) (hN : lhN s) (hP : va_P D vwCl ws H) (hD : va_D A ws) (hS : va_S A s.heap H locs) (hA : ∀ q, s.heap.size ≤ q → A q)
    (isC isR : List Nat) (hC2 : isC.filterMap (fun i => ws[i]?) = wc) (hC : isC.map (fun i => ws[i]?) = wc.map some) (hR : isR.map (fun i => ws[i]?) = wr.map some) (hnC : va_nd isC = true) (hnR : va_nd isR = true) (hdis : ∀ i ∈ isR, i ∉ isC)
    (q0 ci : Nat) {fs : List Value} {qc : vw_C} (he : ws[q0]? = some (b, .inr (ci, fs))) (hc : vwCl[ci]? = some qc) (hC3 : qc.1 = C) (hn : As.length = n) (hl : ls.size = nL) (hst : st0 = As.reverse ++ .ref b :: rest) (hW : (rest.map fun v => v.category).sum ≤ 8) (hf : cells + 0 ≤ R.cells ∧ slots + 0 ≤ R.slots) (hdg : decode cc pc = .ok (.invokevirtual index, 3))
    (kk : ∀ (H1 : Heap) (locs1 : List Loc), va_P D vwCl (wr ++ ws') H1 → va_D A (wr ++ ws') → va_S A s.heap H1 locs1 → W p l e R s m args below meth c H1 locs1 cells slots Q (F0 m (pc + 3) ls (.int r :: rest))) : W p l e R s m args below meth c H locs cells slots Q (F0 m pc ls st0) := by
  have hF := va_free hD hS hA isC hC
  have hPc := hP.sub isC hC2
  have hDc := hD.sub isC hnC hC
  subst hC3
  refine va_calli (va_runV S (hM H.size) cw ⟨lh_blind, va_recv hK0 hP hc he, fun U hU hW => ⟨rfl, by rw [hU], by rw [hU]; exact hPc, va_K.moved hW.alike hK0, lhN_warm hW hN, hDc.weaken (fun _ _ _ _ => trivial)⟩⟩ rfl hn hl hst (lv_room hW) hdg hf) hS (fun q _ h => hF q h) hF (fun r1 u t H1 locs1 ht hvm hw hB hz1 hk1 hS1 => ?_)
  obtain ⟨hP1, hK1, hD1⟩ := hB
  rw [ht] at hP1
  rw [hw]
  obtain ⟨hP2, hD2⟩ := va_join hP hD isC isR hC hR hnR hdis hk1 hF hP1 hD1
  exact kk H1 locs1 hP2 hD2 hS1
end LHI
/-- the array that fill leaves -/
def fil (f : Nat → Int32) (v : Int32) (n : Nat) : Nat → Int32 := fun k => if k < n then v else f k
theorem fil_0 (f : Nat → Int32) (v : Int32) : fil f v 0 = f := by funext k; unfold fil; rw [if_neg (Nat.not_lt_zero k)]
theorem fil_s (f : Nat → Int32) (v : Int32) (n : Nat) : upd (fil f v n) n v = fil f v (n + 1) := by
  funext k; unfold upd fil
  by_cases e : k = n
  · rw [if_pos e, if_pos (by omega)]
  · rw [if_neg e]
    by_cases q : k < n
    · rw [if_pos q, if_pos (by omega)]
    · rw [if_neg q, if_neg (by omega)]
theorem set_set {α : Type} (l : List α) (i : Nat) (a b : α) : (l.set i a).set i b = l.set i b := by rw [List.set_set]
theorem set_at {α : Type} {l : List α} {i : Nat} {a b : α} (h : l[i]? = some a) : (l.set i b)[i]? = some b := List.getElem?_set_self (List.getElem?_eq_some_iff.mp h).1
theorem set_id {α : Type} {l : List α} {i : Nat} {a : α} (h : l[i]? = some a) : l.set i a = l := by
  obtain ⟨h1, h2⟩ := List.getElem?_eq_some_iff.mp h
  rw [← h2]; exact List.set_getElem_self h1
/-- the state at first -/
def u0 : XS := (0, 0, 0, 0, 0, 0, fun _ => 0, fun _ => 0, fun _ => 0, fil (fun _ => 0) (-9) 100, fun _ => 0, fun _ => 0, fun _ => 0)
/-! ROWS LAID BY PROGRAM: the constructors -/
set_option maxRecDepth 100000 in
set_option maxHeartbeats 4000000 in
theorem kJ7_fill (l : Launch) (D : va_G) (tys : List (ClassId × FieldType)) (ws : va_W) (q0 t0 : Nat) {cI : ClassId} {N : Nat} {f : Nat → Int32} {a : Nat} (v : Int32) (ha : ws[q0]? = some (a, .inl (cI, N, .inl f))) (ht : tys[t0]? = some (cI, .int)) (hN : N < 10000) : CV l D tys yJ7_fill_53178 wsJ7_fill_53178 ({ frames := 0, cells := 0, slots := 0, locals := 0 }) [.ref a, .int v] ws (ws.set q0 (a, .inl (cI, N, .inl (fil f v N)))) := by
  refine lh_CVof (cc := cJ7_fill_53178) (maxL := 4) (ret := none) (own := RJ7) (by decide) rfl rfl (Nat.le_of_ble_eq_true rfl) ?_
  intro p e s m below meth c A ls hx hb hr hlk hts hown hml hK hN9 hA hP hD hS hl
  have hl : lv_has ls 4 [(0, .ref a), (1, .int v)] := hl
  have L : ∀ (n i : Nat), N - i < n → i ≤ N → ∀ (H : Heap) (locs : List Loc), va_P D vwCl (ws.set q0 (a, .inl (cI, N, .inl (fil f v i)))) H → va_D A (ws.set q0 (a, .inl (cI, N, .inl (fil f v i)))) → va_S A s.heap H locs → ∀ (ls : Array Slot), lv_has ls 4 [(2, .int (nI i)), (3, .int (nI N)), (0, .ref a), (1, .int v)] → W p l e ({ frames := 0, cells := 0, slots := 0, locals := 0 }) s m [Value.ref a, Value.int v].toArray below meth c H locs 0 0 (QV below D tys A (ws.set q0 (a, .inl (cI, N, .inl (fil f v N)))) [Value.ref a, Value.int v].toArray s) (F0 m 5 ls []) := by
    intro n
    induction n with
    | zero => intro i h; exact absurd h (Nat.not_lt_zero _)
    | succ n ih =>
      intro i hmu hi H locs hP hD hS ls hl
      refine lv_iload_n hx hb dJ7_fill_53178_5 rfl (lv_at hl 0 rfl) ?_
      refine lv_iload_n hx hb dJ7_fill_53178_6 rfl (lv_at hl 1 rfl) ?_
      refine lv_icmp_ge (tgt := 20) hx hb dJ7_fill_53178_7 (by decide) (fun c_1 => ?_) (fun c_1 => ?_)
      · have c_1 : N ≤ i := (nI_leI (by omega) (by omega)).mp c_1
        obtain rfl : i = N := by omega
        exact lh_rv hx hb hr hlk hK hP hD hS rfl dJ7_fill_53178_20
      · have c_1 : i < N := Nat.lt_of_not_le (fun h => c_1 ((nI_leI (by omega) (by omega)).mpr h))
        refine lv_aload_n hx hb dJ7_fill_53178_10 rfl (lv_at hl 2 rfl) ?_
        refine lv_iload_n hx hb dJ7_fill_53178_11 rfl (lv_at hl 0 rfl) ?_
        refine lv_iload_n hx hb dJ7_fill_53178_12 rfl (lv_at hl 3 rfl) ?_
        refine lh_ist (k := i) (N := N) (f2 := fil f v (i + 1)) hx hb hK hP hD hS q0 t0 (set_at ha) ht c_1 (by omega) (fil_s f v i) dJ7_fill_53178_13 (fun H locs hP hD hS => ?_)
        rw [set_set] at hP hD
        refine lv_iinc (v := nI (i + 1)) (lv' := [(2, .int (nI (i + 1))), (3, .int (nI N)), (0, .ref a), (1, .int v)]) hx hb dJ7_fill_53178_14 hl (k := 0) rfl (lh_inc _) (by decide) rfl (fun ls hl => ?_)
        refine lv_goto (tgt := 5) hx hb dJ7_fill_53178_17 (by decide) ?_
        exact ih (i + 1) (by omega) c_1 _ _ hP hD hS ls hl
  refine lv_iconst (v := nI 0) hx hb dJ7_fill_53178_0 (by decide) ?_
  refine lv_istore_n (lv' := [(2, .int (nI 0)), (0, .ref a), (1, .int v)]) hx hb dJ7_fill_53178_1 rfl hl (by decide) rfl (fun ls hl => ?_)
  refine lv_aload_n hx hb dJ7_fill_53178_2 rfl (lv_at hl 1 rfl) ?_
  refine va_alen (v := nI N) hx hb hK hP q0 t0 ha ht rfl dJ7_fill_53178_3 ?_
  refine lv_istore_n (lv' := [(3, .int (nI N)), (2, .int (nI 0)), (0, .ref a), (1, .int v)]) hx hb dJ7_fill_53178_4 rfl hl (by decide) rfl (fun ls hl => ?_)
  have e0 : ws = ws.set q0 (a, .inl (cI, N, .inl (fil f v 0))) := by rw [fil_0]; exact (set_id ha).symm
  exact L _ 0 (Nat.lt_succ_self _) (Nat.zero_le _) _ _ (by rw [← e0]; exact hP) (by rw [← e0]; exact hD) hS ls (lv_sub hl [1, 0, 2, 3] rfl)
set_option maxRecDepth 100000 in
set_option maxHeartbeats 4000000 in
theorem kX0_init (l : Launch) (D : va_G) (cI cZ : ClassId) (h5 : Nat) : CN l D [(cI, .int), (cZ, .boolean)] yX0_init wsX0_init ({ frames := 1, cells := 3, slots := 450, locals := 12 }) [.ref h5] [(h5, .inr (0, [.null, .null, .null, .int 0]))] (Nat × Nat × Nat) (fun x => [(h5, .inr (0, [.ref x.1, .ref x.2.1, .ref x.2.2, .int (nI 0)])), (x.1, .inl (cI, 150, .inl (fun _ => 0))), (x.2.1, .inl (cI, 150, .inl (fun _ => 0))), (x.2.2, .inl (cI, 150, .inl (fun _ => 0)))]) 3 450 := by
  refine lh_CNof (cc := cX0_init) (maxL := 1) (own := RX0) (by decide) rfl rfl rfl (Nat.le_of_ble_eq_true rfl) ?_
  intro p e s m below meth c A ls hx hb hr hlk hin hts hown hml hK hN hA hP hD hS hl
  have hl : lv_has ls 1 [(0, .ref h5)] := hl
  have hinX0 : ∀ w ∈ u_ws RX0 TX0 4, w ∈ wsX0_init := by decide +kernel
  refine lv_aload_n hx hb dX0_init_0 rfl (lv_at hl 0 rfl) ?_
  refine W.objInit hx hb hown (hts (.methodLink RX0 3 objectInit) (by decide +kernel)) (hts (.instanceMethod objectInit) (by decide +kernel)) (hts (.code objectInit ⟨#[0xb1]⟩ 1 none) (by decide +kernel)) rfl (by rw [hml]; exact hl.1) rfl dX0_init_1 (Nat.le_of_ble_eq_true rfl) (Nat.le_of_ble_eq_true rfl) ?_
  refine W.eq (g2 := F0 m 4 ls []) rfl ?_
  refine lv_aload_n hx hb dX0_init_4 rfl (lv_at hl 0 rfl) ?_
  refine lv_sipush (v := nI 150) hx hb dX0_init_5 (by decide) ?_
  refine lh_newi (N := 150) hx hb (hts (.arrayClass .int) (by decide +kernel)) hK hP hD hS hA 0 rfl (by decide) (Nat.le_of_ble_eq_true rfl) (Nat.le_of_ble_eq_true rfl) dX0_init_8 (fun q6 H hP hD hS => ?_)
  have hP : va_P D vwCl [(h5, .inr (0, [.null, .null, .null, .int 0])), (q6, .inl (cI, 150, .inl (fun _ => 0)))] H := hP
  have hD : va_D A [(h5, .inr (0, [.null, .null, .null, .int 0])), (q6, .inl (cI, 150, .inl (fun _ => 0)))] := hD
  refine W.widen (k := 1) (n := 150) (by decide) (by decide) ?_
  refine va_putF (D := D) (ci := 0) (v := .ref q6) (ty := .array .int) (C := RX0) (T := TX0) (N := 4) hx hb hts hinX0 tyX0 tyX0_ok nmX0 hown hK hP hD hS 0 rfl rfl 0 (by decide) (hts (.fieldLink RX0 9 "LostHosts$Letters" "about" "[I") (by decide +kernel)) (fun _ h9 => h9) rfl hin rfl (by decide +kernel) rfl rfl (Nat.le_of_ble_eq_true rfl) dX0_init_10 (fun H locs hP hD hS => ?_)
  have hP : va_P D vwCl [(h5, .inr (0, [.ref q6, .null, .null, .int 0])), (q6, .inl (cI, 150, .inl (fun _ => 0)))] H := hP
  have hD : va_D A [(h5, .inr (0, [.ref q6, .null, .null, .int 0])), (q6, .inl (cI, 150, .inl (fun _ => 0)))] := hD
  refine lv_aload_n hx hb dX0_init_13 rfl (lv_at hl 0 rfl) ?_
  refine lv_sipush (v := nI 150) hx hb dX0_init_14 (by decide) ?_
  refine lh_newi (N := 150) hx hb (hts (.arrayClass .int) (by decide +kernel)) hK hP hD hS hA 0 rfl (by decide) (Nat.le_of_ble_eq_true rfl) (Nat.le_of_ble_eq_true rfl) dX0_init_17 (fun q7 H hP hD hS => ?_)
  have hP : va_P D vwCl [(h5, .inr (0, [.ref q6, .null, .null, .int 0])), (q6, .inl (cI, 150, .inl (fun _ => 0))), (q7, .inl (cI, 150, .inl (fun _ => 0)))] H := hP
  have hD : va_D A [(h5, .inr (0, [.ref q6, .null, .null, .int 0])), (q6, .inl (cI, 150, .inl (fun _ => 0))), (q7, .inl (cI, 150, .inl (fun _ => 0)))] := hD
  refine W.widen (k := 2) (n := 300) (by decide) (by decide) ?_
  refine va_putF (D := D) (ci := 0) (v := .ref q7) (ty := .array .int) (C := RX0) (T := TX0) (N := 4) hx hb hts hinX0 tyX0 tyX0_ok nmX0 hown hK hP hD hS 0 rfl rfl 1 (by decide) (hts (.fieldLink RX0 15 "LostHosts$Letters" "receiver" "[I") (by decide +kernel)) (fun _ h9 => h9) rfl hin rfl (by decide +kernel) rfl rfl (Nat.le_of_ble_eq_true rfl) dX0_init_19 (fun H locs hP hD hS => ?_)
  have hP : va_P D vwCl [(h5, .inr (0, [.ref q6, .ref q7, .null, .int 0])), (q6, .inl (cI, 150, .inl (fun _ => 0))), (q7, .inl (cI, 150, .inl (fun _ => 0)))] H := hP
  have hD : va_D A [(h5, .inr (0, [.ref q6, .ref q7, .null, .int 0])), (q6, .inl (cI, 150, .inl (fun _ => 0))), (q7, .inl (cI, 150, .inl (fun _ => 0)))] := hD
  refine lv_aload_n hx hb dX0_init_22 rfl (lv_at hl 0 rfl) ?_
  refine lv_sipush (v := nI 150) hx hb dX0_init_23 (by decide) ?_
  refine lh_newi (N := 150) hx hb (hts (.arrayClass .int) (by decide +kernel)) hK hP hD hS hA 0 rfl (by decide) (Nat.le_of_ble_eq_true rfl) (Nat.le_of_ble_eq_true rfl) dX0_init_26 (fun q8 H hP hD hS => ?_)
  have hP : va_P D vwCl [(h5, .inr (0, [.ref q6, .ref q7, .null, .int 0])), (q6, .inl (cI, 150, .inl (fun _ => 0))), (q7, .inl (cI, 150, .inl (fun _ => 0))), (q8, .inl (cI, 150, .inl (fun _ => 0)))] H := hP
  have hD : va_D A [(h5, .inr (0, [.ref q6, .ref q7, .null, .int 0])), (q6, .inl (cI, 150, .inl (fun _ => 0))), (q7, .inl (cI, 150, .inl (fun _ => 0))), (q8, .inl (cI, 150, .inl (fun _ => 0)))] := hD
  refine W.widen (k := 3) (n := 450) (by decide) (by decide) ?_
  refine va_putF (D := D) (ci := 0) (v := .ref q8) (ty := .array .int) (C := RX0) (T := TX0) (N := 4) hx hb hts hinX0 tyX0 tyX0_ok nmX0 hown hK hP hD hS 0 rfl rfl 2 (by decide) (hts (.fieldLink RX0 18 "LostHosts$Letters" "load" "[I") (by decide +kernel)) (fun _ h9 => h9) rfl hin rfl (by decide +kernel) rfl rfl (Nat.le_of_ble_eq_true rfl) dX0_init_28 (fun H locs hP hD hS => ?_)
  have hP : va_P D vwCl [(h5, .inr (0, [.ref q6, .ref q7, .ref q8, .int 0])), (q6, .inl (cI, 150, .inl (fun _ => 0))), (q7, .inl (cI, 150, .inl (fun _ => 0))), (q8, .inl (cI, 150, .inl (fun _ => 0)))] H := hP
  have hD : va_D A [(h5, .inr (0, [.ref q6, .ref q7, .ref q8, .int 0])), (q6, .inl (cI, 150, .inl (fun _ => 0))), (q7, .inl (cI, 150, .inl (fun _ => 0))), (q8, .inl (cI, 150, .inl (fun _ => 0)))] := hD
  refine lv_aload_n hx hb dX0_init_31 rfl (lv_at hl 0 rfl) ?_
  refine lv_iconst (v := nI 0) hx hb dX0_init_32 (by decide) ?_
  refine va_put (D := D) (ci := 0) (v := .int (nI 0)) (ty := .int) (C := RX0) (T := TX0) (N := 4) hx hb hts hinX0 tyX0 tyX0_ok nmX0 hown hK hP hD hS 0 rfl rfl 3 (by decide) (hts (.fieldLink RX0 21 "LostHosts$Letters" "waiting" "I") (by decide +kernel)) (fun _ h9 => h9) rfl (by decide +kernel) rfl rfl (Nat.le_of_ble_eq_true rfl) dX0_init_33 (fun H locs hP hD hS => ?_)
  have hP : va_P D vwCl [(h5, .inr (0, [.ref q6, .ref q7, .ref q8, .int (nI 0)])), (q6, .inl (cI, 150, .inl (fun _ => 0))), (q7, .inl (cI, 150, .inl (fun _ => 0))), (q8, .inl (cI, 150, .inl (fun _ => 0)))] H := hP
  have hD : va_D A [(h5, .inr (0, [.ref q6, .ref q7, .ref q8, .int (nI 0)])), (q6, .inl (cI, 150, .inl (fun _ => 0))), (q7, .inl (cI, 150, .inl (fun _ => 0))), (q8, .inl (cI, 150, .inl (fun _ => 0)))] := hD
  exact lh_rn (q6, q7, q8) hx hb hr hlk hK hP hD hS rfl dX0_init_36
set_option maxRecDepth 100000 in
set_option maxHeartbeats 4000000 in
theorem kX1_init (l : Launch) (D : va_G) (cI cZ : ClassId) (h0 : Nat) : CN l D [(cI, .int), (cZ, .boolean)] yX1_init wsX1_init ({ frames := 2, cells := 8, slots := 584, locals := 32 }) [.ref h0] [(h0, .inr (1, [.null, .null, .null, .null, .null, .int 0, .int 0, .int 0, .int 0, .int 0]))] (Nat → Nat) (fun ad => wX cI (va_up ad 0 h0) u0) 8 584 := by
  refine lh_CNof (cc := cX1_init) (maxL := 1) (own := RX1) (by decide) rfl rfl rfl (Nat.le_of_ble_eq_true rfl) ?_
  intro p e s m below meth c A ls hx hb hr hlk hin hts hown hml hK hN hA hP hD hS hl
  have hl : lv_has ls 1 [(0, .ref h0)] := hl
  have hinX1 : ∀ w ∈ u_ws RX1 TX1 10, w ∈ wsX1_init := by decide +kernel
  refine lv_aload_n hx hb dX1_init_0 rfl (lv_at hl 0 rfl) ?_
  refine W.objInit hx hb hown (hts (.methodLink RX1 3 objectInit) (by decide +kernel)) (hts (.instanceMethod objectInit) (by decide +kernel)) (hts (.code objectInit ⟨#[0xb1]⟩ 1 none) (by decide +kernel)) rfl (by rw [hml]; exact hl.1) rfl dX1_init_1 (Nat.le_of_ble_eq_true rfl) (Nat.le_of_ble_eq_true rfl) ?_
  refine W.eq (g2 := F0 m 4 ls []) rfl ?_
  refine lv_aload_n hx hb dX1_init_4 rfl (lv_at hl 0 rfl) ?_
  refine lv_bipush (v := nI 10) hx hb dX1_init_5 (by decide) ?_
  refine lh_newi (N := 10) hx hb (hts (.arrayClass .int) (by decide +kernel)) hK hP hD hS hA 0 rfl (by decide) (Nat.le_of_ble_eq_true rfl) (Nat.le_of_ble_eq_true rfl) dX1_init_7 (fun q1 H hP hD hS => ?_)
  have hP : va_P D vwCl [(h0, .inr (1, [.null, .null, .null, .null, .null, .int 0, .int 0, .int 0, .int 0, .int 0])), (q1, .inl (cI, 10, .inl (fun _ => 0)))] H := hP
  have hD : va_D A [(h0, .inr (1, [.null, .null, .null, .null, .null, .int 0, .int 0, .int 0, .int 0, .int 0])), (q1, .inl (cI, 10, .inl (fun _ => 0)))] := hD
  refine W.widen (k := 1) (n := 10) (by decide) (by decide) ?_
  refine va_putF (D := D) (ci := 1) (v := .ref q1) (ty := .array .int) (C := RX1) (T := TX1) (N := 10) hx hb hts hinX1 tyX1 tyX1_ok nmX1 hown hK hP hD hS 0 rfl rfl 0 (by decide) (hts (.fieldLink RX1 9 "LostHosts" "hostOf" "[I") (by decide +kernel)) (fun _ h9 => h9) rfl hin rfl (by decide +kernel) rfl rfl (Nat.le_of_ble_eq_true rfl) dX1_init_9 (fun H locs hP hD hS => ?_)
  have hP : va_P D vwCl [(h0, .inr (1, [.ref q1, .null, .null, .null, .null, .int 0, .int 0, .int 0, .int 0, .int 0])), (q1, .inl (cI, 10, .inl (fun _ => 0)))] H := hP
  have hD : va_D A [(h0, .inr (1, [.ref q1, .null, .null, .null, .null, .int 0, .int 0, .int 0, .int 0, .int 0])), (q1, .inl (cI, 10, .inl (fun _ => 0)))] := hD
  refine lv_aload_n hx hb dX1_init_12 rfl (lv_at hl 0 rfl) ?_
  refine lv_bipush (v := nI 10) hx hb dX1_init_13 (by decide) ?_
  refine lh_newi (N := 10) hx hb (hts (.arrayClass .int) (by decide +kernel)) hK hP hD hS hA 0 rfl (by decide) (Nat.le_of_ble_eq_true rfl) (Nat.le_of_ble_eq_true rfl) dX1_init_15 (fun q2 H hP hD hS => ?_)
  have hP : va_P D vwCl [(h0, .inr (1, [.ref q1, .null, .null, .null, .null, .int 0, .int 0, .int 0, .int 0, .int 0])), (q1, .inl (cI, 10, .inl (fun _ => 0))), (q2, .inl (cI, 10, .inl (fun _ => 0)))] H := hP
  have hD : va_D A [(h0, .inr (1, [.ref q1, .null, .null, .null, .null, .int 0, .int 0, .int 0, .int 0, .int 0])), (q1, .inl (cI, 10, .inl (fun _ => 0))), (q2, .inl (cI, 10, .inl (fun _ => 0)))] := hD
  refine W.widen (k := 2) (n := 20) (by decide) (by decide) ?_
  refine va_putF (D := D) (ci := 1) (v := .ref q2) (ty := .array .int) (C := RX1) (T := TX1) (N := 10) hx hb hts hinX1 tyX1 tyX1_ok nmX1 hown hK hP hD hS 0 rfl rfl 1 (by decide) (hts (.fieldLink RX1 13 "LostHosts" "out" "[I") (by decide +kernel)) (fun _ h9 => h9) rfl hin rfl (by decide +kernel) rfl rfl (Nat.le_of_ble_eq_true rfl) dX1_init_17 (fun H locs hP hD hS => ?_)
  have hP : va_P D vwCl [(h0, .inr (1, [.ref q1, .ref q2, .null, .null, .null, .int 0, .int 0, .int 0, .int 0, .int 0])), (q1, .inl (cI, 10, .inl (fun _ => 0))), (q2, .inl (cI, 10, .inl (fun _ => 0)))] H := hP
  have hD : va_D A [(h0, .inr (1, [.ref q1, .ref q2, .null, .null, .null, .int 0, .int 0, .int 0, .int 0, .int 0])), (q1, .inl (cI, 10, .inl (fun _ => 0))), (q2, .inl (cI, 10, .inl (fun _ => 0)))] := hD
  refine lv_aload_n hx hb dX1_init_20 rfl (lv_at hl 0 rfl) ?_
  refine lv_bipush (v := nI 10) hx hb dX1_init_21 (by decide) ?_
  refine lh_newi (N := 10) hx hb (hts (.arrayClass .int) (by decide +kernel)) hK hP hD hS hA 0 rfl (by decide) (Nat.le_of_ble_eq_true rfl) (Nat.le_of_ble_eq_true rfl) dX1_init_23 (fun q3 H hP hD hS => ?_)
  have hP : va_P D vwCl [(h0, .inr (1, [.ref q1, .ref q2, .null, .null, .null, .int 0, .int 0, .int 0, .int 0, .int 0])), (q1, .inl (cI, 10, .inl (fun _ => 0))), (q2, .inl (cI, 10, .inl (fun _ => 0))), (q3, .inl (cI, 10, .inl (fun _ => 0)))] H := hP
  have hD : va_D A [(h0, .inr (1, [.ref q1, .ref q2, .null, .null, .null, .int 0, .int 0, .int 0, .int 0, .int 0])), (q1, .inl (cI, 10, .inl (fun _ => 0))), (q2, .inl (cI, 10, .inl (fun _ => 0))), (q3, .inl (cI, 10, .inl (fun _ => 0)))] := hD
  refine W.widen (k := 3) (n := 30) (by decide) (by decide) ?_
  refine va_putF (D := D) (ci := 1) (v := .ref q3) (ty := .array .int) (C := RX1) (T := TX1) (N := 10) hx hb hts hinX1 tyX1 tyX1_ok nmX1 hown hK hP hD hS 0 rfl rfl 2 (by decide) (hts (.fieldLink RX1 16 "LostHosts" "age" "[I") (by decide +kernel)) (fun _ h9 => h9) rfl hin rfl (by decide +kernel) rfl rfl (Nat.le_of_ble_eq_true rfl) dX1_init_25 (fun H locs hP hD hS => ?_)
  have hP : va_P D vwCl [(h0, .inr (1, [.ref q1, .ref q2, .ref q3, .null, .null, .int 0, .int 0, .int 0, .int 0, .int 0])), (q1, .inl (cI, 10, .inl (fun _ => 0))), (q2, .inl (cI, 10, .inl (fun _ => 0))), (q3, .inl (cI, 10, .inl (fun _ => 0)))] H := hP
  have hD : va_D A [(h0, .inr (1, [.ref q1, .ref q2, .ref q3, .null, .null, .int 0, .int 0, .int 0, .int 0, .int 0])), (q1, .inl (cI, 10, .inl (fun _ => 0))), (q2, .inl (cI, 10, .inl (fun _ => 0))), (q3, .inl (cI, 10, .inl (fun _ => 0)))] := hD
  refine lv_aload_n hx hb dX1_init_28 rfl (lv_at hl 0 rfl) ?_
  refine lv_bipush (v := nI 100) hx hb dX1_init_29 (by decide) ?_
  refine lh_newi (N := 100) hx hb (hts (.arrayClass .int) (by decide +kernel)) hK hP hD hS hA 0 rfl (by decide) (Nat.le_of_ble_eq_true rfl) (Nat.le_of_ble_eq_true rfl) dX1_init_31 (fun q4 H hP hD hS => ?_)
  have hP : va_P D vwCl [(h0, .inr (1, [.ref q1, .ref q2, .ref q3, .null, .null, .int 0, .int 0, .int 0, .int 0, .int 0])), (q1, .inl (cI, 10, .inl (fun _ => 0))), (q2, .inl (cI, 10, .inl (fun _ => 0))), (q3, .inl (cI, 10, .inl (fun _ => 0))), (q4, .inl (cI, 100, .inl (fun _ => 0)))] H := hP
  have hD : va_D A [(h0, .inr (1, [.ref q1, .ref q2, .ref q3, .null, .null, .int 0, .int 0, .int 0, .int 0, .int 0])), (q1, .inl (cI, 10, .inl (fun _ => 0))), (q2, .inl (cI, 10, .inl (fun _ => 0))), (q3, .inl (cI, 10, .inl (fun _ => 0))), (q4, .inl (cI, 100, .inl (fun _ => 0)))] := hD
  refine W.widen (k := 4) (n := 130) (by decide) (by decide) ?_
  refine va_putF (D := D) (ci := 1) (v := .ref q4) (ty := .array .int) (C := RX1) (T := TX1) (N := 10) hx hb hts hinX1 tyX1 tyX1_ok nmX1 hown hK hP hD hS 0 rfl rfl 3 (by decide) (hts (.fieldLink RX1 19 "LostHosts" "links" "[I") (by decide +kernel)) (fun _ h9 => h9) rfl hin rfl (by decide +kernel) rfl rfl (Nat.le_of_ble_eq_true rfl) dX1_init_33 (fun H locs hP hD hS => ?_)
  have hP : va_P D vwCl [(h0, .inr (1, [.ref q1, .ref q2, .ref q3, .ref q4, .null, .int 0, .int 0, .int 0, .int 0, .int 0])), (q1, .inl (cI, 10, .inl (fun _ => 0))), (q2, .inl (cI, 10, .inl (fun _ => 0))), (q3, .inl (cI, 10, .inl (fun _ => 0))), (q4, .inl (cI, 100, .inl (fun _ => 0)))] H := hP
  have hD : va_D A [(h0, .inr (1, [.ref q1, .ref q2, .ref q3, .ref q4, .null, .int 0, .int 0, .int 0, .int 0, .int 0])), (q1, .inl (cI, 10, .inl (fun _ => 0))), (q2, .inl (cI, 10, .inl (fun _ => 0))), (q3, .inl (cI, 10, .inl (fun _ => 0))), (q4, .inl (cI, 100, .inl (fun _ => 0)))] := hD
  refine lv_aload_n hx hb dX1_init_36 rfl (lv_at hl 0 rfl) ?_
  refine va_get (D := D) (ci := 1) (v := .ref q4) (C := RX1) (T := TX1) (N := 10) hx hb hts hinX1 hown hK hP 0 rfl rfl 3 (by decide) (hts (.fieldLink RX1 19 "LostHosts" "links" "[I") (by decide +kernel)) (fun _ h9 => h9) rfl dX1_init_37 ?_
  refine lv_bipush (v := (-9)) hx hb dX1_init_40 (by decide) ?_
  refine lh_cSv ⟨hx, hb, hml, hown, hts⟩ (kJ7_fill l D [(cI, .int), (cZ, .boolean)] [(h0, .inr (1, [.ref q1, .ref q2, .ref q3, .ref q4, .null, .int 0, .int 0, .int 0, .int 0, .int 0])), (q1, .inl (cI, 10, .inl (fun _ => 0))), (q2, .inl (cI, 10, .inl (fun _ => 0))), (q3, .inl (cI, 10, .inl (fun _ => 0))), (q4, .inl (cI, 100, .inl (fun _ => 0)))] 4 0 (-9) rfl rfl (by decide)) (va_cwS 2 hts gX1_init_J7_fill_53178 rfl rfl rfl (by decide +kernel) ⟨Nat.le_of_ble_eq_true rfl, Nat.le_of_ble_eq_true rfl⟩) hK hN hP hD hS hA rfl hl.1 rfl (Nat.le_of_ble_eq_true rfl) ⟨Nat.le_of_ble_eq_true rfl, Nat.le_of_ble_eq_true rfl⟩ dX1_init_42 (fun H locs hP hD hS => ?_)
  have hP : va_P D vwCl [(h0, .inr (1, [.ref q1, .ref q2, .ref q3, .ref q4, .null, .int 0, .int 0, .int 0, .int 0, .int 0])), (q1, .inl (cI, 10, .inl (fun _ => 0))), (q2, .inl (cI, 10, .inl (fun _ => 0))), (q3, .inl (cI, 10, .inl (fun _ => 0))), (q4, .inl (cI, 100, .inl (fil (fun _ => 0) (-9) 100)))] H := hP
  have hD : va_D A [(h0, .inr (1, [.ref q1, .ref q2, .ref q3, .ref q4, .null, .int 0, .int 0, .int 0, .int 0, .int 0])), (q1, .inl (cI, 10, .inl (fun _ => 0))), (q2, .inl (cI, 10, .inl (fun _ => 0))), (q3, .inl (cI, 10, .inl (fun _ => 0))), (q4, .inl (cI, 100, .inl (fil (fun _ => 0) (-9) 100)))] := hD
  refine lv_aload_n hx hb dX1_init_45 rfl (lv_at hl 0 rfl) ?_
  refine va_new (ci := 0) (fs := [.null, .null, .null, .int 0]) (C := RX0) (T := TX0) (N := 4) hx hb hts (by decide +kernel) tyX0 tyX0_ok hown (hts (.classLink RX1 28 RX0) (by decide +kernel)) (hts (.instantiable RX0 4) (by decide +kernel)) (hts (.initialized RX0) (by decide +kernel)) hK hP hD hS hA rfl (fun j hj => by rcases (show j = 0 ∨ j = 1 ∨ j = 2 ∨ j = 3 by omega) with rfl | rfl | rfl | rfl <;> rfl) (Nat.le_of_ble_eq_true rfl) (Nat.le_of_ble_eq_true rfl) dX1_init_46 (fun q5 H hP hD hS => ?_)
  have hP : va_P D vwCl [(h0, .inr (1, [.ref q1, .ref q2, .ref q3, .ref q4, .null, .int 0, .int 0, .int 0, .int 0, .int 0])), (q1, .inl (cI, 10, .inl (fun _ => 0))), (q2, .inl (cI, 10, .inl (fun _ => 0))), (q3, .inl (cI, 10, .inl (fun _ => 0))), (q4, .inl (cI, 100, .inl (fil (fun _ => 0) (-9) 100))), (q5, .inr (0, [.null, .null, .null, .int 0]))] H := hP
  have hD : va_D A [(h0, .inr (1, [.ref q1, .ref q2, .ref q3, .ref q4, .null, .int 0, .int 0, .int 0, .int 0, .int 0])), (q1, .inl (cI, 10, .inl (fun _ => 0))), (q2, .inl (cI, 10, .inl (fun _ => 0))), (q3, .inl (cI, 10, .inl (fun _ => 0))), (q4, .inl (cI, 100, .inl (fil (fun _ => 0) (-9) 100))), (q5, .inr (0, [.null, .null, .null, .int 0]))] := hD
  refine W.widen (k := 5) (n := 134) (by decide) (by decide) ?_
  refine lv_dup hx hb dX1_init_49 rfl ?_
  refine lh_cN (As := []) (wr := [(h0, .inr (1, [.ref q1, .ref q2, .ref q3, .ref q4, .null, .int 0, .int 0, .int 0, .int 0, .int 0])), (q1, .inl (cI, 10, .inl (fun _ => 0))), (q2, .inl (cI, 10, .inl (fun _ => 0))), (q3, .inl (cI, 10, .inl (fun _ => 0))), (q4, .inl (cI, 100, .inl (fil (fun _ => 0) (-9) 100)))]) ⟨hx, hb, hml, hown, hts⟩ (kX0_init l D cI cZ q5) (cwI 0 hts gX1_init_X0_init rfl rfl rfl (hts (.initialized RX0) (by decide +kernel)) (hts (.methodLink RX1 30 yX0_init) (by decide +kernel)) (hts (.instanceMethod yX0_init) (by decide +kernel)) rfl (by decide +kernel) ⟨Nat.le_of_ble_eq_true rfl, Nat.le_of_ble_eq_true rfl⟩) hK hN hP hD hS hA [5] [0, 1, 2, 3, 4] rfl rfl rfl (by decide) (by decide) (by decide) rfl hl.1 rfl (Nat.le_of_ble_eq_true rfl) ⟨Nat.le_of_ble_eq_true rfl, Nat.le_of_ble_eq_true rfl⟩ dX1_init_50 (fun x H locs hP hD hS => ?_)
  obtain ⟨q6, q7, q8⟩ := x
  have hP : va_P D vwCl [(h0, .inr (1, [.ref q1, .ref q2, .ref q3, .ref q4, .null, .int 0, .int 0, .int 0, .int 0, .int 0])), (q1, .inl (cI, 10, .inl (fun _ => 0))), (q2, .inl (cI, 10, .inl (fun _ => 0))), (q3, .inl (cI, 10, .inl (fun _ => 0))), (q4, .inl (cI, 100, .inl (fil (fun _ => 0) (-9) 100))), (q5, .inr (0, [.ref q6, .ref q7, .ref q8, .int (nI 0)])), (q6, .inl (cI, 150, .inl (fun _ => 0))), (q7, .inl (cI, 150, .inl (fun _ => 0))), (q8, .inl (cI, 150, .inl (fun _ => 0)))] H := hP
  have hD : va_D A [(h0, .inr (1, [.ref q1, .ref q2, .ref q3, .ref q4, .null, .int 0, .int 0, .int 0, .int 0, .int 0])), (q1, .inl (cI, 10, .inl (fun _ => 0))), (q2, .inl (cI, 10, .inl (fun _ => 0))), (q3, .inl (cI, 10, .inl (fun _ => 0))), (q4, .inl (cI, 100, .inl (fil (fun _ => 0) (-9) 100))), (q5, .inr (0, [.ref q6, .ref q7, .ref q8, .int (nI 0)])), (q6, .inl (cI, 150, .inl (fun _ => 0))), (q7, .inl (cI, 150, .inl (fun _ => 0))), (q8, .inl (cI, 150, .inl (fun _ => 0)))] := hD
  refine va_putF (D := D) (ci := 1) (v := .ref q5) (ty := .object "LostHosts$Letters") (C := RX1) (T := TX1) (N := 10) hx hb hts hinX1 tyX1 tyX1_ok nmX1 hown hK hP hD hS 0 rfl rfl 4 (by decide) (hts (.fieldLink RX1 31 "LostHosts" "letters" "LLostHosts$Letters;") (by decide +kernel)) (fun _ h9 => h9) rfl hin rfl (by decide +kernel) rfl rfl (Nat.le_of_ble_eq_true rfl) dX1_init_53 (fun H locs hP hD hS => ?_)
  have hP : va_P D vwCl [(h0, .inr (1, [.ref q1, .ref q2, .ref q3, .ref q4, .ref q5, .int 0, .int 0, .int 0, .int 0, .int 0])), (q1, .inl (cI, 10, .inl (fun _ => 0))), (q2, .inl (cI, 10, .inl (fun _ => 0))), (q3, .inl (cI, 10, .inl (fun _ => 0))), (q4, .inl (cI, 100, .inl (fil (fun _ => 0) (-9) 100))), (q5, .inr (0, [.ref q6, .ref q7, .ref q8, .int (nI 0)])), (q6, .inl (cI, 150, .inl (fun _ => 0))), (q7, .inl (cI, 150, .inl (fun _ => 0))), (q8, .inl (cI, 150, .inl (fun _ => 0)))] H := hP
  have hD : va_D A [(h0, .inr (1, [.ref q1, .ref q2, .ref q3, .ref q4, .ref q5, .int 0, .int 0, .int 0, .int 0, .int 0])), (q1, .inl (cI, 10, .inl (fun _ => 0))), (q2, .inl (cI, 10, .inl (fun _ => 0))), (q3, .inl (cI, 10, .inl (fun _ => 0))), (q4, .inl (cI, 100, .inl (fil (fun _ => 0) (-9) 100))), (q5, .inr (0, [.ref q6, .ref q7, .ref q8, .int (nI 0)])), (q6, .inl (cI, 150, .inl (fun _ => 0))), (q7, .inl (cI, 150, .inl (fun _ => 0))), (q8, .inl (cI, 150, .inl (fun _ => 0)))] := hD
  refine lv_aload_n hx hb dX1_init_56 rfl (lv_at hl 0 rfl) ?_
  refine lv_iconst (v := nI 0) hx hb dX1_init_57 (by decide) ?_
  refine va_put (D := D) (ci := 1) (v := .int (nI 0)) (ty := .int) (C := RX1) (T := TX1) (N := 10) hx hb hts hinX1 tyX1 tyX1_ok nmX1 hown hK hP hD hS 0 rfl rfl 5 (by decide) (hts (.fieldLink RX1 35 "LostHosts" "made" "I") (by decide +kernel)) (fun _ h9 => h9) rfl (by decide +kernel) rfl rfl (Nat.le_of_ble_eq_true rfl) dX1_init_58 (fun H locs hP hD hS => ?_)
  have hP : va_P D vwCl [(h0, .inr (1, [.ref q1, .ref q2, .ref q3, .ref q4, .ref q5, .int (nI 0), .int 0, .int 0, .int 0, .int 0])), (q1, .inl (cI, 10, .inl (fun _ => 0))), (q2, .inl (cI, 10, .inl (fun _ => 0))), (q3, .inl (cI, 10, .inl (fun _ => 0))), (q4, .inl (cI, 100, .inl (fil (fun _ => 0) (-9) 100))), (q5, .inr (0, [.ref q6, .ref q7, .ref q8, .int (nI 0)])), (q6, .inl (cI, 150, .inl (fun _ => 0))), (q7, .inl (cI, 150, .inl (fun _ => 0))), (q8, .inl (cI, 150, .inl (fun _ => 0)))] H := hP
  have hD : va_D A [(h0, .inr (1, [.ref q1, .ref q2, .ref q3, .ref q4, .ref q5, .int (nI 0), .int 0, .int 0, .int 0, .int 0])), (q1, .inl (cI, 10, .inl (fun _ => 0))), (q2, .inl (cI, 10, .inl (fun _ => 0))), (q3, .inl (cI, 10, .inl (fun _ => 0))), (q4, .inl (cI, 100, .inl (fil (fun _ => 0) (-9) 100))), (q5, .inr (0, [.ref q6, .ref q7, .ref q8, .int (nI 0)])), (q6, .inl (cI, 150, .inl (fun _ => 0))), (q7, .inl (cI, 150, .inl (fun _ => 0))), (q8, .inl (cI, 150, .inl (fun _ => 0)))] := hD
  refine lv_aload_n hx hb dX1_init_61 rfl (lv_at hl 0 rfl) ?_
  refine lv_iconst (v := nI 0) hx hb dX1_init_62 (by decide) ?_
  refine va_put (D := D) (ci := 1) (v := .int (nI 0)) (ty := .int) (C := RX1) (T := TX1) (N := 10) hx hb hts hinX1 tyX1 tyX1_ok nmX1 hown hK hP hD hS 0 rfl rfl 6 (by decide) (hts (.fieldLink RX1 39 "LostHosts" "live" "I") (by decide +kernel)) (fun _ h9 => h9) rfl (by decide +kernel) rfl rfl (Nat.le_of_ble_eq_true rfl) dX1_init_63 (fun H locs hP hD hS => ?_)
  have hP : va_P D vwCl [(h0, .inr (1, [.ref q1, .ref q2, .ref q3, .ref q4, .ref q5, .int (nI 0), .int (nI 0), .int 0, .int 0, .int 0])), (q1, .inl (cI, 10, .inl (fun _ => 0))), (q2, .inl (cI, 10, .inl (fun _ => 0))), (q3, .inl (cI, 10, .inl (fun _ => 0))), (q4, .inl (cI, 100, .inl (fil (fun _ => 0) (-9) 100))), (q5, .inr (0, [.ref q6, .ref q7, .ref q8, .int (nI 0)])), (q6, .inl (cI, 150, .inl (fun _ => 0))), (q7, .inl (cI, 150, .inl (fun _ => 0))), (q8, .inl (cI, 150, .inl (fun _ => 0)))] H := hP
  have hD : va_D A [(h0, .inr (1, [.ref q1, .ref q2, .ref q3, .ref q4, .ref q5, .int (nI 0), .int (nI 0), .int 0, .int 0, .int 0])), (q1, .inl (cI, 10, .inl (fun _ => 0))), (q2, .inl (cI, 10, .inl (fun _ => 0))), (q3, .inl (cI, 10, .inl (fun _ => 0))), (q4, .inl (cI, 100, .inl (fil (fun _ => 0) (-9) 100))), (q5, .inr (0, [.ref q6, .ref q7, .ref q8, .int (nI 0)])), (q6, .inl (cI, 150, .inl (fun _ => 0))), (q7, .inl (cI, 150, .inl (fun _ => 0))), (q8, .inl (cI, 150, .inl (fun _ => 0)))] := hD
  refine lv_aload_n hx hb dX1_init_66 rfl (lv_at hl 0 rfl) ?_
  refine lv_iconst (v := nI 0) hx hb dX1_init_67 (by decide) ?_
  refine va_put (D := D) (ci := 1) (v := .int (nI 0)) (ty := .int) (C := RX1) (T := TX1) (N := 10) hx hb hts hinX1 tyX1 tyX1_ok nmX1 hown hK hP hD hS 0 rfl rfl 7 (by decide) (hts (.fieldLink RX1 42 "LostHosts" "roots" "I") (by decide +kernel)) (fun _ h9 => h9) rfl (by decide +kernel) rfl rfl (Nat.le_of_ble_eq_true rfl) dX1_init_68 (fun H locs hP hD hS => ?_)
  have hP : va_P D vwCl [(h0, .inr (1, [.ref q1, .ref q2, .ref q3, .ref q4, .ref q5, .int (nI 0), .int (nI 0), .int (nI 0), .int 0, .int 0])), (q1, .inl (cI, 10, .inl (fun _ => 0))), (q2, .inl (cI, 10, .inl (fun _ => 0))), (q3, .inl (cI, 10, .inl (fun _ => 0))), (q4, .inl (cI, 100, .inl (fil (fun _ => 0) (-9) 100))), (q5, .inr (0, [.ref q6, .ref q7, .ref q8, .int (nI 0)])), (q6, .inl (cI, 150, .inl (fun _ => 0))), (q7, .inl (cI, 150, .inl (fun _ => 0))), (q8, .inl (cI, 150, .inl (fun _ => 0)))] H := hP
  have hD : va_D A [(h0, .inr (1, [.ref q1, .ref q2, .ref q3, .ref q4, .ref q5, .int (nI 0), .int (nI 0), .int (nI 0), .int 0, .int 0])), (q1, .inl (cI, 10, .inl (fun _ => 0))), (q2, .inl (cI, 10, .inl (fun _ => 0))), (q3, .inl (cI, 10, .inl (fun _ => 0))), (q4, .inl (cI, 100, .inl (fil (fun _ => 0) (-9) 100))), (q5, .inr (0, [.ref q6, .ref q7, .ref q8, .int (nI 0)])), (q6, .inl (cI, 150, .inl (fun _ => 0))), (q7, .inl (cI, 150, .inl (fun _ => 0))), (q8, .inl (cI, 150, .inl (fun _ => 0)))] := hD
  refine lv_aload_n hx hb dX1_init_71 rfl (lv_at hl 0 rfl) ?_
  refine lv_iconst (v := nI 0) hx hb dX1_init_72 (by decide) ?_
  refine va_put (D := D) (ci := 1) (v := .int (nI 0)) (ty := .int) (C := RX1) (T := TX1) (N := 10) hx hb hts hinX1 tyX1 tyX1_ok nmX1 hown hK hP hD hS 0 rfl rfl 8 (by decide) (hts (.fieldLink RX1 45 "LostHosts" "deadHosts" "I") (by decide +kernel)) (fun _ h9 => h9) rfl (by decide +kernel) rfl rfl (Nat.le_of_ble_eq_true rfl) dX1_init_73 (fun H locs hP hD hS => ?_)
  have hP : va_P D vwCl [(h0, .inr (1, [.ref q1, .ref q2, .ref q3, .ref q4, .ref q5, .int (nI 0), .int (nI 0), .int (nI 0), .int (nI 0), .int 0])), (q1, .inl (cI, 10, .inl (fun _ => 0))), (q2, .inl (cI, 10, .inl (fun _ => 0))), (q3, .inl (cI, 10, .inl (fun _ => 0))), (q4, .inl (cI, 100, .inl (fil (fun _ => 0) (-9) 100))), (q5, .inr (0, [.ref q6, .ref q7, .ref q8, .int (nI 0)])), (q6, .inl (cI, 150, .inl (fun _ => 0))), (q7, .inl (cI, 150, .inl (fun _ => 0))), (q8, .inl (cI, 150, .inl (fun _ => 0)))] H := hP
  have hD : va_D A [(h0, .inr (1, [.ref q1, .ref q2, .ref q3, .ref q4, .ref q5, .int (nI 0), .int (nI 0), .int (nI 0), .int (nI 0), .int 0])), (q1, .inl (cI, 10, .inl (fun _ => 0))), (q2, .inl (cI, 10, .inl (fun _ => 0))), (q3, .inl (cI, 10, .inl (fun _ => 0))), (q4, .inl (cI, 100, .inl (fil (fun _ => 0) (-9) 100))), (q5, .inr (0, [.ref q6, .ref q7, .ref q8, .int (nI 0)])), (q6, .inl (cI, 150, .inl (fun _ => 0))), (q7, .inl (cI, 150, .inl (fun _ => 0))), (q8, .inl (cI, 150, .inl (fun _ => 0)))] := hD
  refine lv_aload_n hx hb dX1_init_76 rfl (lv_at hl 0 rfl) ?_
  refine lv_iconst (v := nI 0) hx hb dX1_init_77 (by decide) ?_
  refine va_put (D := D) (ci := 1) (v := .int (nI 0)) (ty := .int) (C := RX1) (T := TX1) (N := 10) hx hb hts hinX1 tyX1 tyX1_ok nmX1 hown hK hP hD hS 0 rfl rfl 9 (by decide) (hts (.fieldLink RX1 48 "LostHosts" "filled" "I") (by decide +kernel)) (fun _ h9 => h9) rfl (by decide +kernel) rfl rfl (Nat.le_of_ble_eq_true rfl) dX1_init_78 (fun H locs hP hD hS => ?_)
  have hP : va_P D vwCl [(h0, .inr (1, [.ref q1, .ref q2, .ref q3, .ref q4, .ref q5, .int (nI 0), .int (nI 0), .int (nI 0), .int (nI 0), .int (nI 0)])), (q1, .inl (cI, 10, .inl (fun _ => 0))), (q2, .inl (cI, 10, .inl (fun _ => 0))), (q3, .inl (cI, 10, .inl (fun _ => 0))), (q4, .inl (cI, 100, .inl (fil (fun _ => 0) (-9) 100))), (q5, .inr (0, [.ref q6, .ref q7, .ref q8, .int (nI 0)])), (q6, .inl (cI, 150, .inl (fun _ => 0))), (q7, .inl (cI, 150, .inl (fun _ => 0))), (q8, .inl (cI, 150, .inl (fun _ => 0)))] H := hP
  have hD : va_D A [(h0, .inr (1, [.ref q1, .ref q2, .ref q3, .ref q4, .ref q5, .int (nI 0), .int (nI 0), .int (nI 0), .int (nI 0), .int (nI 0)])), (q1, .inl (cI, 10, .inl (fun _ => 0))), (q2, .inl (cI, 10, .inl (fun _ => 0))), (q3, .inl (cI, 10, .inl (fun _ => 0))), (q4, .inl (cI, 100, .inl (fil (fun _ => 0) (-9) 100))), (q5, .inr (0, [.ref q6, .ref q7, .ref q8, .int (nI 0)])), (q6, .inl (cI, 150, .inl (fun _ => 0))), (q7, .inl (cI, 150, .inl (fun _ => 0))), (q8, .inl (cI, 150, .inl (fun _ => 0)))] := hD
  exact lh_rn (fun i => [0, q1, q2, q3, q4, q5, q6, q7, q8].getD i 0) hx hb hr hlk hK hP hD hS rfl dX1_init_81
theorem u0_w (cI cZ : ClassId) (ad : Nat → Nat) : wM cI cZ ad u0 = [(ad 0, .inr (2, [.int 0, .int 0, .ref (ad 1), .ref (ad 2), .int 0, .ref (ad 3), .ref (ad 4), .ref (ad 5), .int 0, .ref (ad 6), .ref (ad 7), .ref (ad 8), .int 0])), (ad 1, .inl (cI, 10, .inl (fun _ => 0))), (ad 2, .inl (cZ, 10, .inl (fun _ => 0))), (ad 3, .inl (cI, 10, .inl (fun _ => 0))), (ad 4, .inl (cI, 10, .inl (fun _ => 0))), (ad 5, .inl (cI, 100, .inl (fil (fun _ => 0) (-9) 100))), (ad 6, .inl (cI, 512, .inl (fun _ => 0))), (ad 7, .inl (cI, 512, .inl (fun _ => 0))), (ad 8, .inl (cI, 512, .inl (fun _ => 0)))] := by
  have e1 : (fun k => b2i ((xR u0).testBit k)) = fun _ => (0 : Int32) := by
    funext k
    show b2i (Nat.testBit 0 k) = 0
    rw [Nat.zero_testBit]; rfl
  show wG cI cZ ad u0 (gn u0) (fun k => (xR u0).testBit k) = _
  unfold wG
  rw [e1]
  rfl
set_option maxRecDepth 100000 in
set_option maxHeartbeats 4000000 in
theorem kX2_init (l : Launch) (D : va_G) (cI cZ : ClassId) (h0 : Nat) : CN l D [(cI, .int), (cZ, .boolean)] yX2_init wsX2_init ({ frames := 1, cells := 8, slots := 1676, locals := 12 }) [.ref h0] [(h0, .inr (2, [.int 0, .int 0, .null, .null, .int 0, .null, .null, .null, .int 0, .null, .null, .null, .int 0]))] (Nat → Nat) (fun ad => wM cI cZ (va_up ad 0 h0) u0) 8 1676 := by
  refine lh_CNof (cc := cX2_init) (maxL := 2) (own := RX2) (by decide) rfl rfl rfl (Nat.le_of_ble_eq_true rfl) ?_
  intro p e s m below meth c A ls hx hb hr hlk hin hts hown hml hK hN hA hP hD hS hl
  have hl : lv_has ls 2 [(0, .ref h0)] := hl
  have hinX2 : ∀ w ∈ u_ws RX2 TX2 13, w ∈ wsX2_init := by decide +kernel
  refine lv_aload_n hx hb dX2_init_0 rfl (lv_at hl 0 rfl) ?_
  refine W.objInit hx hb hown (hts (.methodLink RX2 1 objectInit) (by decide +kernel)) (hts (.instanceMethod objectInit) (by decide +kernel)) (hts (.code objectInit ⟨#[0xb1]⟩ 1 none) (by decide +kernel)) rfl (by rw [hml]; exact hl.1) rfl dX2_init_1 (Nat.le_of_ble_eq_true rfl) (Nat.le_of_ble_eq_true rfl) ?_
  refine W.eq (g2 := F0 m 4 ls []) rfl ?_
  refine lv_aload_n hx hb dX2_init_4 rfl (lv_at hl 0 rfl) ?_
  refine lv_bipush (v := nI 10) hx hb dX2_init_5 (by decide) ?_
  refine lh_newi (N := 10) hx hb (hts (.arrayClass .int) (by decide +kernel)) hK hP hD hS hA 0 rfl (by decide) (Nat.le_of_ble_eq_true rfl) (Nat.le_of_ble_eq_true rfl) dX2_init_7 (fun q1 H hP hD hS => ?_)
  have hP : va_P D vwCl [(h0, .inr (2, [.int 0, .int 0, .null, .null, .int 0, .null, .null, .null, .int 0, .null, .null, .null, .int 0])), (q1, .inl (cI, 10, .inl (fun _ => 0)))] H := hP
  have hD : va_D A [(h0, .inr (2, [.int 0, .int 0, .null, .null, .int 0, .null, .null, .null, .int 0, .null, .null, .null, .int 0])), (q1, .inl (cI, 10, .inl (fun _ => 0)))] := hD
  refine W.widen (k := 1) (n := 10) (by decide) (by decide) ?_
  refine va_putF (D := D) (ci := 2) (v := .ref q1) (ty := .array .int) (C := RX2) (T := TX2) (N := 13) hx hb hts hinX2 tyX2 tyX2_ok nmX2 hown hK hP hD hS 0 rfl rfl 2 (by decide) (hts (.fieldLink RX2 7 "LostHostsModel" "hostOf" "[I") (by decide +kernel)) (fun _ h9 => h9) rfl hin rfl (by decide +kernel) rfl rfl (Nat.le_of_ble_eq_true rfl) dX2_init_9 (fun H locs hP hD hS => ?_)
  have hP : va_P D vwCl [(h0, .inr (2, [.int 0, .int 0, .ref q1, .null, .int 0, .null, .null, .null, .int 0, .null, .null, .null, .int 0])), (q1, .inl (cI, 10, .inl (fun _ => 0)))] H := hP
  have hD : va_D A [(h0, .inr (2, [.int 0, .int 0, .ref q1, .null, .int 0, .null, .null, .null, .int 0, .null, .null, .null, .int 0])), (q1, .inl (cI, 10, .inl (fun _ => 0)))] := hD
  refine lv_aload_n hx hb dX2_init_12 rfl (lv_at hl 0 rfl) ?_
  refine lv_bipush (v := nI 10) hx hb dX2_init_13 (by decide) ?_
  refine lh_newz (N := 10) hx hb (hts (.arrayClass .boolean) (by decide +kernel)) hK hP hD hS hA 1 rfl (by decide) (Nat.le_of_ble_eq_true rfl) (Nat.le_of_ble_eq_true rfl) dX2_init_15 (fun q2 H hP hD hS => ?_)
  have hP : va_P D vwCl [(h0, .inr (2, [.int 0, .int 0, .ref q1, .null, .int 0, .null, .null, .null, .int 0, .null, .null, .null, .int 0])), (q1, .inl (cI, 10, .inl (fun _ => 0))), (q2, .inl (cZ, 10, .inl (fun _ => 0)))] H := hP
  have hD : va_D A [(h0, .inr (2, [.int 0, .int 0, .ref q1, .null, .int 0, .null, .null, .null, .int 0, .null, .null, .null, .int 0])), (q1, .inl (cI, 10, .inl (fun _ => 0))), (q2, .inl (cZ, 10, .inl (fun _ => 0)))] := hD
  refine W.widen (k := 2) (n := 20) (by decide) (by decide) ?_
  refine va_putF (D := D) (ci := 2) (v := .ref q2) (ty := .array .boolean) (C := RX2) (T := TX2) (N := 13) hx hb hts hinX2 tyX2 tyX2_ok nmX2 hown hK hP hD hS 0 rfl rfl 3 (by decide) (hts (.fieldLink RX2 13 "LostHostsModel" "isRoot" "[Z") (by decide +kernel)) (fun _ h9 => h9) rfl hin rfl (by decide +kernel) rfl rfl (Nat.le_of_ble_eq_true rfl) dX2_init_17 (fun H locs hP hD hS => ?_)
  have hP : va_P D vwCl [(h0, .inr (2, [.int 0, .int 0, .ref q1, .ref q2, .int 0, .null, .null, .null, .int 0, .null, .null, .null, .int 0])), (q1, .inl (cI, 10, .inl (fun _ => 0))), (q2, .inl (cZ, 10, .inl (fun _ => 0)))] H := hP
  have hD : va_D A [(h0, .inr (2, [.int 0, .int 0, .ref q1, .ref q2, .int 0, .null, .null, .null, .int 0, .null, .null, .null, .int 0])), (q1, .inl (cI, 10, .inl (fun _ => 0))), (q2, .inl (cZ, 10, .inl (fun _ => 0)))] := hD
  refine lv_aload_n hx hb dX2_init_20 rfl (lv_at hl 0 rfl) ?_
  refine lv_bipush (v := nI 10) hx hb dX2_init_21 (by decide) ?_
  refine lh_newi (N := 10) hx hb (hts (.arrayClass .int) (by decide +kernel)) hK hP hD hS hA 0 rfl (by decide) (Nat.le_of_ble_eq_true rfl) (Nat.le_of_ble_eq_true rfl) dX2_init_23 (fun q3 H hP hD hS => ?_)
  have hP : va_P D vwCl [(h0, .inr (2, [.int 0, .int 0, .ref q1, .ref q2, .int 0, .null, .null, .null, .int 0, .null, .null, .null, .int 0])), (q1, .inl (cI, 10, .inl (fun _ => 0))), (q2, .inl (cZ, 10, .inl (fun _ => 0))), (q3, .inl (cI, 10, .inl (fun _ => 0)))] H := hP
  have hD : va_D A [(h0, .inr (2, [.int 0, .int 0, .ref q1, .ref q2, .int 0, .null, .null, .null, .int 0, .null, .null, .null, .int 0])), (q1, .inl (cI, 10, .inl (fun _ => 0))), (q2, .inl (cZ, 10, .inl (fun _ => 0))), (q3, .inl (cI, 10, .inl (fun _ => 0)))] := hD
  refine W.widen (k := 3) (n := 30) (by decide) (by decide) ?_
  refine va_putF (D := D) (ci := 2) (v := .ref q3) (ty := .array .int) (C := RX2) (T := TX2) (N := 13) hx hb hts hinX2 tyX2 tyX2_ok nmX2 hown hK hP hD hS 0 rfl rfl 5 (by decide) (hts (.fieldLink RX2 17 "LostHostsModel" "outOf" "[I") (by decide +kernel)) (fun _ h9 => h9) rfl hin rfl (by decide +kernel) rfl rfl (Nat.le_of_ble_eq_true rfl) dX2_init_25 (fun H locs hP hD hS => ?_)
  have hP : va_P D vwCl [(h0, .inr (2, [.int 0, .int 0, .ref q1, .ref q2, .int 0, .ref q3, .null, .null, .int 0, .null, .null, .null, .int 0])), (q1, .inl (cI, 10, .inl (fun _ => 0))), (q2, .inl (cZ, 10, .inl (fun _ => 0))), (q3, .inl (cI, 10, .inl (fun _ => 0)))] H := hP
  have hD : va_D A [(h0, .inr (2, [.int 0, .int 0, .ref q1, .ref q2, .int 0, .ref q3, .null, .null, .int 0, .null, .null, .null, .int 0])), (q1, .inl (cI, 10, .inl (fun _ => 0))), (q2, .inl (cZ, 10, .inl (fun _ => 0))), (q3, .inl (cI, 10, .inl (fun _ => 0)))] := hD
  refine lv_aload_n hx hb dX2_init_28 rfl (lv_at hl 0 rfl) ?_
  refine lv_bipush (v := nI 10) hx hb dX2_init_29 (by decide) ?_
  refine lh_newi (N := 10) hx hb (hts (.arrayClass .int) (by decide +kernel)) hK hP hD hS hA 0 rfl (by decide) (Nat.le_of_ble_eq_true rfl) (Nat.le_of_ble_eq_true rfl) dX2_init_31 (fun q4 H hP hD hS => ?_)
  have hP : va_P D vwCl [(h0, .inr (2, [.int 0, .int 0, .ref q1, .ref q2, .int 0, .ref q3, .null, .null, .int 0, .null, .null, .null, .int 0])), (q1, .inl (cI, 10, .inl (fun _ => 0))), (q2, .inl (cZ, 10, .inl (fun _ => 0))), (q3, .inl (cI, 10, .inl (fun _ => 0))), (q4, .inl (cI, 10, .inl (fun _ => 0)))] H := hP
  have hD : va_D A [(h0, .inr (2, [.int 0, .int 0, .ref q1, .ref q2, .int 0, .ref q3, .null, .null, .int 0, .null, .null, .null, .int 0])), (q1, .inl (cI, 10, .inl (fun _ => 0))), (q2, .inl (cZ, 10, .inl (fun _ => 0))), (q3, .inl (cI, 10, .inl (fun _ => 0))), (q4, .inl (cI, 10, .inl (fun _ => 0)))] := hD
  refine W.widen (k := 4) (n := 40) (by decide) (by decide) ?_
  refine va_putF (D := D) (ci := 2) (v := .ref q4) (ty := .array .int) (C := RX2) (T := TX2) (N := 13) hx hb hts hinX2 tyX2 tyX2_ok nmX2 hown hK hP hD hS 0 rfl rfl 6 (by decide) (hts (.fieldLink RX2 20 "LostHostsModel" "ageOf" "[I") (by decide +kernel)) (fun _ h9 => h9) rfl hin rfl (by decide +kernel) rfl rfl (Nat.le_of_ble_eq_true rfl) dX2_init_33 (fun H locs hP hD hS => ?_)
  have hP : va_P D vwCl [(h0, .inr (2, [.int 0, .int 0, .ref q1, .ref q2, .int 0, .ref q3, .ref q4, .null, .int 0, .null, .null, .null, .int 0])), (q1, .inl (cI, 10, .inl (fun _ => 0))), (q2, .inl (cZ, 10, .inl (fun _ => 0))), (q3, .inl (cI, 10, .inl (fun _ => 0))), (q4, .inl (cI, 10, .inl (fun _ => 0)))] H := hP
  have hD : va_D A [(h0, .inr (2, [.int 0, .int 0, .ref q1, .ref q2, .int 0, .ref q3, .ref q4, .null, .int 0, .null, .null, .null, .int 0])), (q1, .inl (cI, 10, .inl (fun _ => 0))), (q2, .inl (cZ, 10, .inl (fun _ => 0))), (q3, .inl (cI, 10, .inl (fun _ => 0))), (q4, .inl (cI, 10, .inl (fun _ => 0)))] := hD
  refine lv_aload_n hx hb dX2_init_36 rfl (lv_at hl 0 rfl) ?_
  refine lv_bipush (v := nI 100) hx hb dX2_init_37 (by decide) ?_
  refine lh_newi (N := 100) hx hb (hts (.arrayClass .int) (by decide +kernel)) hK hP hD hS hA 0 rfl (by decide) (Nat.le_of_ble_eq_true rfl) (Nat.le_of_ble_eq_true rfl) dX2_init_39 (fun q5 H hP hD hS => ?_)
  have hP : va_P D vwCl [(h0, .inr (2, [.int 0, .int 0, .ref q1, .ref q2, .int 0, .ref q3, .ref q4, .null, .int 0, .null, .null, .null, .int 0])), (q1, .inl (cI, 10, .inl (fun _ => 0))), (q2, .inl (cZ, 10, .inl (fun _ => 0))), (q3, .inl (cI, 10, .inl (fun _ => 0))), (q4, .inl (cI, 10, .inl (fun _ => 0))), (q5, .inl (cI, 100, .inl (fun _ => 0)))] H := hP
  have hD : va_D A [(h0, .inr (2, [.int 0, .int 0, .ref q1, .ref q2, .int 0, .ref q3, .ref q4, .null, .int 0, .null, .null, .null, .int 0])), (q1, .inl (cI, 10, .inl (fun _ => 0))), (q2, .inl (cZ, 10, .inl (fun _ => 0))), (q3, .inl (cI, 10, .inl (fun _ => 0))), (q4, .inl (cI, 10, .inl (fun _ => 0))), (q5, .inl (cI, 100, .inl (fun _ => 0)))] := hD
  refine W.widen (k := 5) (n := 140) (by decide) (by decide) ?_
  refine va_putF (D := D) (ci := 2) (v := .ref q5) (ty := .array .int) (C := RX2) (T := TX2) (N := 13) hx hb hts hinX2 tyX2 tyX2_ok nmX2 hown hK hP hD hS 0 rfl rfl 7 (by decide) (hts (.fieldLink RX2 23 "LostHostsModel" "linkOf" "[I") (by decide +kernel)) (fun _ h9 => h9) rfl hin rfl (by decide +kernel) rfl rfl (Nat.le_of_ble_eq_true rfl) dX2_init_41 (fun H locs hP hD hS => ?_)
  have hP : va_P D vwCl [(h0, .inr (2, [.int 0, .int 0, .ref q1, .ref q2, .int 0, .ref q3, .ref q4, .ref q5, .int 0, .null, .null, .null, .int 0])), (q1, .inl (cI, 10, .inl (fun _ => 0))), (q2, .inl (cZ, 10, .inl (fun _ => 0))), (q3, .inl (cI, 10, .inl (fun _ => 0))), (q4, .inl (cI, 10, .inl (fun _ => 0))), (q5, .inl (cI, 100, .inl (fun _ => 0)))] H := hP
  have hD : va_D A [(h0, .inr (2, [.int 0, .int 0, .ref q1, .ref q2, .int 0, .ref q3, .ref q4, .ref q5, .int 0, .null, .null, .null, .int 0])), (q1, .inl (cI, 10, .inl (fun _ => 0))), (q2, .inl (cZ, 10, .inl (fun _ => 0))), (q3, .inl (cI, 10, .inl (fun _ => 0))), (q4, .inl (cI, 10, .inl (fun _ => 0))), (q5, .inl (cI, 100, .inl (fun _ => 0)))] := hD
  refine lv_aload_n hx hb dX2_init_44 rfl (lv_at hl 0 rfl) ?_
  refine lv_sipush (v := nI 512) hx hb dX2_init_45 (by decide) ?_
  refine lh_newi (N := 512) hx hb (hts (.arrayClass .int) (by decide +kernel)) hK hP hD hS hA 0 rfl (by decide) (Nat.le_of_ble_eq_true rfl) (Nat.le_of_ble_eq_true rfl) dX2_init_48 (fun q6 H hP hD hS => ?_)
  have hP : va_P D vwCl [(h0, .inr (2, [.int 0, .int 0, .ref q1, .ref q2, .int 0, .ref q3, .ref q4, .ref q5, .int 0, .null, .null, .null, .int 0])), (q1, .inl (cI, 10, .inl (fun _ => 0))), (q2, .inl (cZ, 10, .inl (fun _ => 0))), (q3, .inl (cI, 10, .inl (fun _ => 0))), (q4, .inl (cI, 10, .inl (fun _ => 0))), (q5, .inl (cI, 100, .inl (fun _ => 0))), (q6, .inl (cI, 512, .inl (fun _ => 0)))] H := hP
  have hD : va_D A [(h0, .inr (2, [.int 0, .int 0, .ref q1, .ref q2, .int 0, .ref q3, .ref q4, .ref q5, .int 0, .null, .null, .null, .int 0])), (q1, .inl (cI, 10, .inl (fun _ => 0))), (q2, .inl (cZ, 10, .inl (fun _ => 0))), (q3, .inl (cI, 10, .inl (fun _ => 0))), (q4, .inl (cI, 10, .inl (fun _ => 0))), (q5, .inl (cI, 100, .inl (fun _ => 0))), (q6, .inl (cI, 512, .inl (fun _ => 0)))] := hD
  refine W.widen (k := 6) (n := 652) (by decide) (by decide) ?_
  refine va_putF (D := D) (ci := 2) (v := .ref q6) (ty := .array .int) (C := RX2) (T := TX2) (N := 13) hx hb hts hinX2 tyX2 tyX2_ok nmX2 hown hK hP hD hS 0 rfl rfl 9 (by decide) (hts (.fieldLink RX2 26 "LostHostsModel" "about" "[I") (by decide +kernel)) (fun _ h9 => h9) rfl hin rfl (by decide +kernel) rfl rfl (Nat.le_of_ble_eq_true rfl) dX2_init_50 (fun H locs hP hD hS => ?_)
  have hP : va_P D vwCl [(h0, .inr (2, [.int 0, .int 0, .ref q1, .ref q2, .int 0, .ref q3, .ref q4, .ref q5, .int 0, .ref q6, .null, .null, .int 0])), (q1, .inl (cI, 10, .inl (fun _ => 0))), (q2, .inl (cZ, 10, .inl (fun _ => 0))), (q3, .inl (cI, 10, .inl (fun _ => 0))), (q4, .inl (cI, 10, .inl (fun _ => 0))), (q5, .inl (cI, 100, .inl (fun _ => 0))), (q6, .inl (cI, 512, .inl (fun _ => 0)))] H := hP
  have hD : va_D A [(h0, .inr (2, [.int 0, .int 0, .ref q1, .ref q2, .int 0, .ref q3, .ref q4, .ref q5, .int 0, .ref q6, .null, .null, .int 0])), (q1, .inl (cI, 10, .inl (fun _ => 0))), (q2, .inl (cZ, 10, .inl (fun _ => 0))), (q3, .inl (cI, 10, .inl (fun _ => 0))), (q4, .inl (cI, 10, .inl (fun _ => 0))), (q5, .inl (cI, 100, .inl (fun _ => 0))), (q6, .inl (cI, 512, .inl (fun _ => 0)))] := hD
  refine lv_aload_n hx hb dX2_init_53 rfl (lv_at hl 0 rfl) ?_
  refine lv_sipush (v := nI 512) hx hb dX2_init_54 (by decide) ?_
  refine lh_newi (N := 512) hx hb (hts (.arrayClass .int) (by decide +kernel)) hK hP hD hS hA 0 rfl (by decide) (Nat.le_of_ble_eq_true rfl) (Nat.le_of_ble_eq_true rfl) dX2_init_57 (fun q7 H hP hD hS => ?_)
  have hP : va_P D vwCl [(h0, .inr (2, [.int 0, .int 0, .ref q1, .ref q2, .int 0, .ref q3, .ref q4, .ref q5, .int 0, .ref q6, .null, .null, .int 0])), (q1, .inl (cI, 10, .inl (fun _ => 0))), (q2, .inl (cZ, 10, .inl (fun _ => 0))), (q3, .inl (cI, 10, .inl (fun _ => 0))), (q4, .inl (cI, 10, .inl (fun _ => 0))), (q5, .inl (cI, 100, .inl (fun _ => 0))), (q6, .inl (cI, 512, .inl (fun _ => 0))), (q7, .inl (cI, 512, .inl (fun _ => 0)))] H := hP
  have hD : va_D A [(h0, .inr (2, [.int 0, .int 0, .ref q1, .ref q2, .int 0, .ref q3, .ref q4, .ref q5, .int 0, .ref q6, .null, .null, .int 0])), (q1, .inl (cI, 10, .inl (fun _ => 0))), (q2, .inl (cZ, 10, .inl (fun _ => 0))), (q3, .inl (cI, 10, .inl (fun _ => 0))), (q4, .inl (cI, 10, .inl (fun _ => 0))), (q5, .inl (cI, 100, .inl (fun _ => 0))), (q6, .inl (cI, 512, .inl (fun _ => 0))), (q7, .inl (cI, 512, .inl (fun _ => 0)))] := hD
  refine W.widen (k := 7) (n := 1164) (by decide) (by decide) ?_
  refine va_putF (D := D) (ci := 2) (v := .ref q7) (ty := .array .int) (C := RX2) (T := TX2) (N := 13) hx hb hts hinX2 tyX2 tyX2_ok nmX2 hown hK hP hD hS 0 rfl rfl 10 (by decide) (hts (.fieldLink RX2 29 "LostHostsModel" "toOne" "[I") (by decide +kernel)) (fun _ h9 => h9) rfl hin rfl (by decide +kernel) rfl rfl (Nat.le_of_ble_eq_true rfl) dX2_init_59 (fun H locs hP hD hS => ?_)
  have hP : va_P D vwCl [(h0, .inr (2, [.int 0, .int 0, .ref q1, .ref q2, .int 0, .ref q3, .ref q4, .ref q5, .int 0, .ref q6, .ref q7, .null, .int 0])), (q1, .inl (cI, 10, .inl (fun _ => 0))), (q2, .inl (cZ, 10, .inl (fun _ => 0))), (q3, .inl (cI, 10, .inl (fun _ => 0))), (q4, .inl (cI, 10, .inl (fun _ => 0))), (q5, .inl (cI, 100, .inl (fun _ => 0))), (q6, .inl (cI, 512, .inl (fun _ => 0))), (q7, .inl (cI, 512, .inl (fun _ => 0)))] H := hP
  have hD : va_D A [(h0, .inr (2, [.int 0, .int 0, .ref q1, .ref q2, .int 0, .ref q3, .ref q4, .ref q5, .int 0, .ref q6, .ref q7, .null, .int 0])), (q1, .inl (cI, 10, .inl (fun _ => 0))), (q2, .inl (cZ, 10, .inl (fun _ => 0))), (q3, .inl (cI, 10, .inl (fun _ => 0))), (q4, .inl (cI, 10, .inl (fun _ => 0))), (q5, .inl (cI, 100, .inl (fun _ => 0))), (q6, .inl (cI, 512, .inl (fun _ => 0))), (q7, .inl (cI, 512, .inl (fun _ => 0)))] := hD
  refine lv_aload_n hx hb dX2_init_62 rfl (lv_at hl 0 rfl) ?_
  refine lv_sipush (v := nI 512) hx hb dX2_init_63 (by decide) ?_
  refine lh_newi (N := 512) hx hb (hts (.arrayClass .int) (by decide +kernel)) hK hP hD hS hA 0 rfl (by decide) (Nat.le_of_ble_eq_true rfl) (Nat.le_of_ble_eq_true rfl) dX2_init_66 (fun q8 H hP hD hS => ?_)
  have hP : va_P D vwCl [(h0, .inr (2, [.int 0, .int 0, .ref q1, .ref q2, .int 0, .ref q3, .ref q4, .ref q5, .int 0, .ref q6, .ref q7, .null, .int 0])), (q1, .inl (cI, 10, .inl (fun _ => 0))), (q2, .inl (cZ, 10, .inl (fun _ => 0))), (q3, .inl (cI, 10, .inl (fun _ => 0))), (q4, .inl (cI, 10, .inl (fun _ => 0))), (q5, .inl (cI, 100, .inl (fun _ => 0))), (q6, .inl (cI, 512, .inl (fun _ => 0))), (q7, .inl (cI, 512, .inl (fun _ => 0))), (q8, .inl (cI, 512, .inl (fun _ => 0)))] H := hP
  have hD : va_D A [(h0, .inr (2, [.int 0, .int 0, .ref q1, .ref q2, .int 0, .ref q3, .ref q4, .ref q5, .int 0, .ref q6, .ref q7, .null, .int 0])), (q1, .inl (cI, 10, .inl (fun _ => 0))), (q2, .inl (cZ, 10, .inl (fun _ => 0))), (q3, .inl (cI, 10, .inl (fun _ => 0))), (q4, .inl (cI, 10, .inl (fun _ => 0))), (q5, .inl (cI, 100, .inl (fun _ => 0))), (q6, .inl (cI, 512, .inl (fun _ => 0))), (q7, .inl (cI, 512, .inl (fun _ => 0))), (q8, .inl (cI, 512, .inl (fun _ => 0)))] := hD
  refine W.widen (k := 8) (n := 1676) (by decide) (by decide) ?_
  refine va_putF (D := D) (ci := 2) (v := .ref q8) (ty := .array .int) (C := RX2) (T := TX2) (N := 13) hx hb hts hinX2 tyX2 tyX2_ok nmX2 hown hK hP hD hS 0 rfl rfl 11 (by decide) (hts (.fieldLink RX2 32 "LostHostsModel" "weightIn" "[I") (by decide +kernel)) (fun _ h9 => h9) rfl hin rfl (by decide +kernel) rfl rfl (Nat.le_of_ble_eq_true rfl) dX2_init_68 (fun H locs hP hD hS => ?_)
  have hP : va_P D vwCl [(h0, .inr (2, [.int 0, .int 0, .ref q1, .ref q2, .int 0, .ref q3, .ref q4, .ref q5, .int 0, .ref q6, .ref q7, .ref q8, .int 0])), (q1, .inl (cI, 10, .inl (fun _ => 0))), (q2, .inl (cZ, 10, .inl (fun _ => 0))), (q3, .inl (cI, 10, .inl (fun _ => 0))), (q4, .inl (cI, 10, .inl (fun _ => 0))), (q5, .inl (cI, 100, .inl (fun _ => 0))), (q6, .inl (cI, 512, .inl (fun _ => 0))), (q7, .inl (cI, 512, .inl (fun _ => 0))), (q8, .inl (cI, 512, .inl (fun _ => 0)))] H := hP
  have hD : va_D A [(h0, .inr (2, [.int 0, .int 0, .ref q1, .ref q2, .int 0, .ref q3, .ref q4, .ref q5, .int 0, .ref q6, .ref q7, .ref q8, .int 0])), (q1, .inl (cI, 10, .inl (fun _ => 0))), (q2, .inl (cZ, 10, .inl (fun _ => 0))), (q3, .inl (cI, 10, .inl (fun _ => 0))), (q4, .inl (cI, 10, .inl (fun _ => 0))), (q5, .inl (cI, 100, .inl (fun _ => 0))), (q6, .inl (cI, 512, .inl (fun _ => 0))), (q7, .inl (cI, 512, .inl (fun _ => 0))), (q8, .inl (cI, 512, .inl (fun _ => 0)))] := hD
  have L : ∀ (n i : Nat), 100 - i < n → i ≤ 100 → ∀ (H : Heap) (locs : List Loc), va_P D vwCl [(h0, .inr (2, [.int 0, .int 0, .ref q1, .ref q2, .int 0, .ref q3, .ref q4, .ref q5, .int 0, .ref q6, .ref q7, .ref q8, .int 0])), (q1, .inl (cI, 10, .inl (fun _ => 0))), (q2, .inl (cZ, 10, .inl (fun _ => 0))), (q3, .inl (cI, 10, .inl (fun _ => 0))), (q4, .inl (cI, 10, .inl (fun _ => 0))), (q5, .inl (cI, 100, .inl (fil (fun _ => 0) (-9) i))), (q6, .inl (cI, 512, .inl (fun _ => 0))), (q7, .inl (cI, 512, .inl (fun _ => 0))), (q8, .inl (cI, 512, .inl (fun _ => 0)))] H → va_D A [(h0, .inr (2, [.int 0, .int 0, .ref q1, .ref q2, .int 0, .ref q3, .ref q4, .ref q5, .int 0, .ref q6, .ref q7, .ref q8, .int 0])), (q1, .inl (cI, 10, .inl (fun _ => 0))), (q2, .inl (cZ, 10, .inl (fun _ => 0))), (q3, .inl (cI, 10, .inl (fun _ => 0))), (q4, .inl (cI, 10, .inl (fun _ => 0))), (q5, .inl (cI, 100, .inl (fil (fun _ => 0) (-9) i))), (q6, .inl (cI, 512, .inl (fun _ => 0))), (q7, .inl (cI, 512, .inl (fun _ => 0))), (q8, .inl (cI, 512, .inl (fun _ => 0)))] → va_S A s.heap H locs → ∀ (ls : Array Slot), lv_has ls 2 [(1, .int (nI i)), (0, .ref h0)] → W p l e ({ frames := 1, cells := 8, slots := 1676, locals := 12 }) s m [Value.ref h0].toArray below meth c H locs 8 1676 (QN below D [(cI, .int), (cZ, .boolean)] A (Nat → Nat) (fun ad => wM cI cZ (va_up ad 0 h0) u0) [Value.ref h0].toArray s 8 1676) (F0 m 73 ls []) := by
    intro n
    induction n with
    | zero => intro i h; exact absurd h (Nat.not_lt_zero _)
    | succ n ih =>
      intro i hmu hi H locs hP hD hS ls hl
      refine lv_iload_n hx hb dX2_init_73 rfl (lv_at hl 0 rfl) ?_
      refine lv_bipush (v := nI 100) hx hb dX2_init_74 (by decide) ?_
      refine lv_icmp_ge (tgt := 93) hx hb dX2_init_76 (by decide) (fun c_1 => ?_) (fun c_1 => ?_)
      · have c_1 : 100 ≤ i := (nI_leI (by omega) (by omega)).mp c_1
        obtain rfl : i = 100 := by omega
        exact lh_rn (fun i => [0, q1, q2, q3, q4, q5, q6, q7, q8].getD i 0) hx hb hr hlk hK hP hD hS (u0_w cI cZ (va_up (fun i => [0, q1, q2, q3, q4, q5, q6, q7, q8].getD i 0) 0 h0)).symm dX2_init_93
      · have c_1 : i < 100 := Nat.lt_of_not_le (fun h => c_1 ((nI_leI (by omega) (by omega)).mpr h))
        refine lv_aload_n hx hb dX2_init_79 rfl (lv_at hl 1 rfl) ?_
        refine va_get (D := D) (ci := 2) (v := .ref q5) (C := RX2) (T := TX2) (N := 13) hx hb hts hinX2 hown hK hP 0 rfl rfl 7 (by decide) (hts (.fieldLink RX2 23 "LostHostsModel" "linkOf" "[I") (by decide +kernel)) (fun _ h9 => h9) rfl dX2_init_80 ?_
        refine lv_iload_n hx hb dX2_init_83 rfl (lv_at hl 0 rfl) ?_
        refine lv_bipush (v := (-9)) hx hb dX2_init_84 (by decide) ?_
        refine lh_ist (k := i) (N := 100) (f2 := fil (fun _ => 0) (-9) (i + 1)) hx hb hK hP hD hS 5 0 rfl rfl c_1 (by omega) (fil_s _ _ i) dX2_init_86 (fun H locs hP hD hS => ?_)
        have hP : va_P D vwCl [(h0, .inr (2, [.int 0, .int 0, .ref q1, .ref q2, .int 0, .ref q3, .ref q4, .ref q5, .int 0, .ref q6, .ref q7, .ref q8, .int 0])), (q1, .inl (cI, 10, .inl (fun _ => 0))), (q2, .inl (cZ, 10, .inl (fun _ => 0))), (q3, .inl (cI, 10, .inl (fun _ => 0))), (q4, .inl (cI, 10, .inl (fun _ => 0))), (q5, .inl (cI, 100, .inl (fil (fun _ => 0) (-9) (i + 1)))), (q6, .inl (cI, 512, .inl (fun _ => 0))), (q7, .inl (cI, 512, .inl (fun _ => 0))), (q8, .inl (cI, 512, .inl (fun _ => 0)))] H := hP
        have hD : va_D A [(h0, .inr (2, [.int 0, .int 0, .ref q1, .ref q2, .int 0, .ref q3, .ref q4, .ref q5, .int 0, .ref q6, .ref q7, .ref q8, .int 0])), (q1, .inl (cI, 10, .inl (fun _ => 0))), (q2, .inl (cZ, 10, .inl (fun _ => 0))), (q3, .inl (cI, 10, .inl (fun _ => 0))), (q4, .inl (cI, 10, .inl (fun _ => 0))), (q5, .inl (cI, 100, .inl (fil (fun _ => 0) (-9) (i + 1)))), (q6, .inl (cI, 512, .inl (fun _ => 0))), (q7, .inl (cI, 512, .inl (fun _ => 0))), (q8, .inl (cI, 512, .inl (fun _ => 0)))] := hD
        refine lv_iinc (v := nI (i + 1)) (lv' := [(1, .int (nI (i + 1))), (0, .ref h0)]) hx hb dX2_init_87 hl (k := 0) rfl (lh_inc _) (by decide) rfl (fun ls hl => ?_)
        refine lv_goto (tgt := 73) hx hb dX2_init_90 (by decide) ?_
        exact ih (i + 1) (by omega) c_1 _ _ hP hD hS ls hl
  refine lv_iconst (v := nI 0) hx hb dX2_init_71 (by decide) ?_
  refine lv_istore_n (lv' := [(1, .int (nI 0)), (0, .ref h0)]) hx hb dX2_init_72 rfl hl (by decide) rfl (fun ls hl => ?_)
  have e0 : (fun _ => (0 : Int32)) = fil (fun _ => 0) (-9) 0 := (fil_0 _ _).symm
  have hP : va_P D vwCl [(h0, .inr (2, [.int 0, .int 0, .ref q1, .ref q2, .int 0, .ref q3, .ref q4, .ref q5, .int 0, .ref q6, .ref q7, .ref q8, .int 0])), (q1, .inl (cI, 10, .inl (fun _ => 0))), (q2, .inl (cZ, 10, .inl (fun _ => 0))), (q3, .inl (cI, 10, .inl (fun _ => 0))), (q4, .inl (cI, 10, .inl (fun _ => 0))), (q5, .inl (cI, 100, .inl (fil (fun _ => 0) (-9) 0))), (q6, .inl (cI, 512, .inl (fun _ => 0))), (q7, .inl (cI, 512, .inl (fun _ => 0))), (q8, .inl (cI, 512, .inl (fun _ => 0)))] H := by rw [← e0]; exact hP
  have hD : va_D A [(h0, .inr (2, [.int 0, .int 0, .ref q1, .ref q2, .int 0, .ref q3, .ref q4, .ref q5, .int 0, .ref q6, .ref q7, .ref q8, .int 0])), (q1, .inl (cI, 10, .inl (fun _ => 0))), (q2, .inl (cZ, 10, .inl (fun _ => 0))), (q3, .inl (cI, 10, .inl (fun _ => 0))), (q4, .inl (cI, 10, .inl (fun _ => 0))), (q5, .inl (cI, 100, .inl (fil (fun _ => 0) (-9) 0))), (q6, .inl (cI, 512, .inl (fun _ => 0))), (q7, .inl (cI, 512, .inl (fun _ => 0))), (q8, .inl (cI, 512, .inl (fun _ => 0)))] := by rw [← e0]; exact hD
  exact L _ 0 (Nat.lt_succ_self _) (Nat.zero_le _) _ _ hP hD hS ls hl

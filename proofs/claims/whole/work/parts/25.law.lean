
/-! THE CLAIM OUT OF ONE WALK OF THE LAW'S BODY. Your part is whole_start (and what it stands on); all else here is the same for every law, but numbers. -/
def R_law : String := "LostHostsLaw"
def lw_P (b : Addr) (xs : List Int32) (args : Array Value) (s : State) : Prop := args = #[.ref b] ∧ s.IntsAt b xs ∧ xs.length ≤ 2048 ∧ (Jvm.Cond.and given_1 narrow_1).before args s = true
def lw_Q (_ : Array Value) (s : State) (o : Outcome) (t : State) : Prop := o = .returned (some (.int 1)) ∧ Framed s o t [] 18 2283
def lw_Z (below : List Frame) (a : Array Value) (s : State) : State → Prop := fun t => ∃ o, t.status = .running ∧ Ended t below o ∧ lw_Q a s o t
/-- the law's own end, with 1 on the stack, nothing written that was there before, its room as the claim has it -/
theorem lw_ret {p : Program} {l : Launch} {e : Env} {s : State} {m : MethodId} {below : List Frame} {meth : Method} {c : Code} {b : Nat} (hx : p.tables.exec = Jvm.exec) (hb : c.code = code) (hr : meth.sig.returnType = ret) (hlocks : meth.locks = false) {pc : Nat} {H : Heap} {ls : Array Slot} (hdg : decode code pc = .ok (.ireturn, 1)) : W p l e room_1 s m #[Value.ref b] below meth c H [] 18 2283 (lw_Z below #[Value.ref b] s) (F0 m pc ls [.int 1]) := by
  intro T hT X
  obtain ⟨fs, hret, hrun, hended, hW, hframe⟩ := X.leave (v := some (.int 1)) (hlocks := hlocks) (fun h => by rw [hr] at h; cases h)
  have hmeth' : T.vm.method? m = some meth := X.method'
  refine ⟨T.setFrames fs, ?_, .returned (some (.int 1)), hrun, hended, rfl, ⟨_, rfl⟩, hW, hframe⟩
  jvm_step X.here [X.here.top, hx, hb, hdg, hmeth', hr, ret, narrow_b1]
  (try refine ⟨rfl, ?_⟩); (try refine ⟨rfl, ?_⟩)
  first | (intro acts; rw [hret _ acts rfl rfl rfl]) | rw [hret _ _ rfl rfl rfl]
  exact Steps.refl _
/-- what holds at the law's entry: the machine, the code, the tables' words (any of lw_tbl by 'hts w (by decide +kernel)'), the script of L ints xs at the cell b, what the Statement gives of the start (any of its parts by flat_of_before) -/
def lw_At (p : Program) (s : State) (m : MethodId) (meth : Method) (c : Code) (b L : Nat) (xs : Nat → Int32) : Prop :=
  p.tables.exec = Jvm.exec ∧ c.code = code ∧ meth.sig.returnType = ret ∧ c.maxLocals = 4 ∧ s.vm.findClass R_law = some m.cls ∧ (∀ w ∈ lw_tbl, w.before #[Value.ref b] s = true) ∧ va_X b L xs s s.heap ∧ b < s.heap.size ∧ meth.locks = false ∧ (Jvm.Cond.and given_1 narrow_1).before #[Value.ref b] s = true
theorem lh_sld {p : Program} {l : Launch} {e : Env} {R : Room} {s : State} {m : MethodId} {args : Array Value} {below : List Frame} {meth : Method} {c : Code} {H : Heap} {locs : List Loc} {cells slots : Nat} {Q : State → Prop} {cc : ByteArray} {pc : Nat} {ls : Array Slot} {rest : List Value} {A : Nat → Prop} {H0 : Heap} (hx : p.tables.exec = Jvm.exec) (hb : c.code = cc) {b L k : Nat} {xs : Nat → Int32} (hX : va_X b L xs s H0) (hbl : b < H0.size) (hbA : ¬ A b) (hS : va_S A H0 H locs) (hin : k < L) (hL : L ≤ 2048) (hdg : decode cc pc = .ok (.iaload, 1))
    (kk : W p l e R s m args below meth c H locs cells slots Q (F0 m (pc + 1) ls (.int (xs k) :: rest))) : W p l e R s m args below meth c H locs cells slots Q (F0 m pc ls (.int (nI k) :: .ref b :: rest)) :=
  va_sld hx hb hX hbl hbA hS (vp_in_nI hin (by omega)) hdg (by rw [nI_clamp (by omega)]; exact kk)
theorem lw_cmp {L i : Nat} (hL : L ≤ 2048) (hi : i ≤ 4096) : (nI L - nI 4 < nI i) ↔ L < i + 4 := by
  rw [Int32.lt_iff_toInt_lt, pk_sub_toInt (by omega) (by omega), nI_toInt (by omega)]
  omega
theorem lh_inc4 (j : Nat) : nI (4 * j) + Int32.ofInt 4 = nI (4 * (j + 1)) := by
  show nI (4 * j) + nI 4 = _
  rw [nI_add, show 4 * j + 4 = 4 * (j + 1) by omega]
theorem inv_up {j : Nat} {u : XS} (h : Inv (64 * j) u) : Inv (64 * (j + 1)) u := Inv_mono h (by have := Inv_tot h; omega)
theorem inv_up2 {j : Nat} {u : XS} (h : Inv (64 * j + 64) u) : Inv (64 * (j + 1)) u := Inv_mono h (by have := Inv_tot h; omega)
set_option maxRecDepth 100000 in
set_option maxHeartbeats 4000000 in
theorem lw_c0 {p : Program} {l : Launch} {e : Env} {s : State} {m : MethodId} {below : List Frame} {meth : Method} {c : Code} {D : va_G} {cI cZ : ClassId} {ad bd : Nat → Nat} {b L : Nat} {xs : Nat → Int32} {u : XS} {j : Nat} (hL : L ≤ 2048) (C0 : lw_At p s m meth c b L xs) (hK : va_K D vwCl [(cI, .int), (cZ, .boolean)] s) (hN : lhN s) (inv : Inv (64 * j) u) (hlt : 4 * j + 3 < L) {H : Heap} {locs : List Loc} (hP : va_P D vwCl (wX cI ad u ++ wM cI cZ bd u) H) (hD : va_D (fun q : Nat => s.heap.size ≤ q) (wX cI ad u ++ wM cI cZ bd u)) (hS : va_S (fun q : Nat => s.heap.size ≤ q) s.heap H locs) {ls : Array Slot} (hl : lv_has ls 4 [(3, .int (nI (4 * j))), (2, .ref (bd 0)), (1, .ref (ad 0)), (0, .ref b)]) (kk : ∀ (u1 : XS) (H : Heap) (locs : List Loc), Inv (64 * (j + 1)) u1 → va_P D vwCl (wX cI ad u1 ++ wM cI cZ bd u1) H → va_D (fun q : Nat => s.heap.size ≤ q) (wX cI ad u1 ++ wM cI cZ bd u1) → va_S (fun q : Nat => s.heap.size ≤ q) s.heap H locs → ∀ (ls : Array Slot), lv_has ls 4 [(3, .int (nI (4 * j))), (2, .ref (bd 0)), (1, .ref (ad 0)), (0, .ref b)] → W p l e room_1 s m #[Value.ref b] below meth c H locs 18 2283 (lw_Z below #[Value.ref b] s) (F0 m 700 ls [])) : W p l e room_1 s m #[Value.ref b] below meth c H locs 18 2283 (lw_Z below #[Value.ref b] s) (F0 m 128 ls []) := by
  obtain ⟨hx, hb, hr, hml, hown, hts0, hX, hbl, hlocks, hgv⟩ := id C0
  have hts := fun w h => hts0 w (wsL_law_in w h)
  have hA : ∀ q : Nat, s.heap.size ≤ q → (fun q : Nat => s.heap.size ≤ q) q := fun _ h => h
  have hbA : ¬ (fun q : Nat => s.heap.size ≤ q) b := Nat.not_le.mpr hbl
  refine lv_aload_n hx hb dL_law_128 rfl (lv_at hl 2 rfl) ?_
  refine lv_aload_n hx hb dL_law_129 rfl (lv_at hl 3 rfl) ?_
  refine lv_iload_n hx hb dL_law_130 rfl (lv_at hl 0 rfl) ?_
  refine lv_iconst (v := nI 1) hx hb dL_law_131 (by decide) ?_
  refine lv_iadd hx hb dL_law_132 ?_
  refine lh_top (y := nI (4 * j + 1)) (nI_add _ _) ?_
  refine lh_sld (k := 4 * j + 1) hx hb hX hbl hbA hS (by omega) hL dL_law_133 ?_
  refine lv_aload_n hx hb dL_law_134 rfl (lv_at hl 3 rfl) ?_
  refine lv_iload_n hx hb dL_law_135 rfl (lv_at hl 0 rfl) ?_
  refine lv_iconst (v := nI 2) hx hb dL_law_136 (by decide) ?_
  refine lv_iadd hx hb dL_law_137 ?_
  refine lh_top (y := nI (4 * j + 2)) (nI_add _ _) ?_
  refine lh_sld (k := 4 * j + 2) hx hb hX hbl hbA hS (by omega) hL dL_law_138 ?_
  refine lv_if_eq (tgt := 146) hx hb dL_law_139 (by decide) (fun c_1 => ?_) (fun c_1 => ?_)
  · refine lv_iconst (v := nI 0) hx hb dL_law_146 (by decide) ?_
    refine lh_pVi (wr := wM cI cZ bd u) ⟨hx, hb, hml, hown, hts⟩ (kX1_object l D cI ad u (xs (4 * j + 1)) false (64 * j) inv) (hK.sub [0] rfl) (cwV 2 hts gL_law_X1_object rfl rfl rfl (by decide +kernel) ⟨Nat.le_of_ble_eq_true rfl, Nat.le_of_ble_eq_true rfl⟩) hN hP hD hS hA [0, 1, 2, 3, 4, 5, 6, 7, 8] [9, 10, 11, 12, 13, 14, 15, 16, 17] rfl rfl rfl (by decide) (by decide) (by decide) 0 1 rfl rfl rfl rfl hl.1 rfl (Nat.le_of_ble_eq_true rfl) ⟨Nat.le_of_ble_eq_true rfl, Nat.le_of_ble_eq_true rfl⟩ dL_law_147 (fun H locs hP hD hS => ?_)
    refine lv_aload_n hx hb dL_law_150 rfl (lv_at hl 1 rfl) ?_
    refine lv_aload_n hx hb dL_law_151 rfl (lv_at hl 3 rfl) ?_
    refine lv_iload_n hx hb dL_law_152 rfl (lv_at hl 0 rfl) ?_
    refine lv_iconst (v := nI 1) hx hb dL_law_153 (by decide) ?_
    refine lv_iadd hx hb dL_law_154 ?_
    refine lh_top (y := nI (4 * j + 1)) (nI_add _ _) ?_
    refine lh_sld (k := 4 * j + 1) hx hb hX hbl hbA hS (by omega) hL dL_law_155 ?_
    refine lv_aload_n hx hb dL_law_156 rfl (lv_at hl 3 rfl) ?_
    refine lv_iload_n hx hb dL_law_157 rfl (lv_at hl 0 rfl) ?_
    refine lv_iconst (v := nI 2) hx hb dL_law_158 (by decide) ?_
    refine lv_iadd hx hb dL_law_159 ?_
    refine lh_top (y := nI (4 * j + 2)) (nI_add _ _) ?_
    refine lh_sld (k := 4 * j + 2) hx hb hX hbl hbA hS (by omega) hL dL_law_160 ?_
    refine lv_if_eq (tgt := 168) hx hb dL_law_161 (by decide) (fun c_2 => ?_) (fun c_2 => ?_)
    · refine lv_iconst (v := nI 0) hx hb dL_law_168 (by decide) ?_
      refine lh_pVi (wr := wX cI ad (objS u (xs (4 * j + 1)) false)) ⟨hx, hb, hml, hown, hts⟩ (kX2_object l D cI cZ bd u (xs (4 * j + 1)) false (64 * j) inv) hK (cwV 2 hts gL_law_X2_object rfl rfl rfl (by decide +kernel) ⟨Nat.le_of_ble_eq_true rfl, Nat.le_of_ble_eq_true rfl⟩) hN hP hD hS hA [0, 1, 2, 3, 4, 5, 6, 7, 8] [9, 10, 11, 12, 13, 14, 15, 16, 17] rfl rfl rfl (by decide) (by decide) (by decide) 0 2 rfl rfl rfl rfl hl.1 rfl (Nat.le_of_ble_eq_true rfl) ⟨Nat.le_of_ble_eq_true rfl, Nat.le_of_ble_eq_true rfl⟩ dL_law_169 (fun H locs hP hD hS => ?_)
      refine lv_icmp_eq (tgt := 700) hx hb dL_law_172 (by decide) (fun c_3 => ?_) (fun c_3 => ?_)
      · exact kk (objS u (xs (4 * j + 1)) false) _ _ (inv_up (Inv_objS inv _ _)) hP hD hS ls hl
      · exact absurd rfl c_3
    · exact absurd c_1 c_2
  · refine lv_iconst (v := nI 1) hx hb dL_law_142 (by decide) ?_
    refine lv_goto (tgt := 147) hx hb dL_law_143 (by decide) ?_
    refine lh_pVi (wr := wM cI cZ bd u) ⟨hx, hb, hml, hown, hts⟩ (kX1_object l D cI ad u (xs (4 * j + 1)) true (64 * j) inv) (hK.sub [0] rfl) (cwV 2 hts gL_law_X1_object rfl rfl rfl (by decide +kernel) ⟨Nat.le_of_ble_eq_true rfl, Nat.le_of_ble_eq_true rfl⟩) hN hP hD hS hA [0, 1, 2, 3, 4, 5, 6, 7, 8] [9, 10, 11, 12, 13, 14, 15, 16, 17] rfl rfl rfl (by decide) (by decide) (by decide) 0 1 rfl rfl rfl rfl hl.1 rfl (Nat.le_of_ble_eq_true rfl) ⟨Nat.le_of_ble_eq_true rfl, Nat.le_of_ble_eq_true rfl⟩ dL_law_147 (fun H locs hP hD hS => ?_)
    refine lv_aload_n hx hb dL_law_150 rfl (lv_at hl 1 rfl) ?_
    refine lv_aload_n hx hb dL_law_151 rfl (lv_at hl 3 rfl) ?_
    refine lv_iload_n hx hb dL_law_152 rfl (lv_at hl 0 rfl) ?_
    refine lv_iconst (v := nI 1) hx hb dL_law_153 (by decide) ?_
    refine lv_iadd hx hb dL_law_154 ?_
    refine lh_top (y := nI (4 * j + 1)) (nI_add _ _) ?_
    refine lh_sld (k := 4 * j + 1) hx hb hX hbl hbA hS (by omega) hL dL_law_155 ?_
    refine lv_aload_n hx hb dL_law_156 rfl (lv_at hl 3 rfl) ?_
    refine lv_iload_n hx hb dL_law_157 rfl (lv_at hl 0 rfl) ?_
    refine lv_iconst (v := nI 2) hx hb dL_law_158 (by decide) ?_
    refine lv_iadd hx hb dL_law_159 ?_
    refine lh_top (y := nI (4 * j + 2)) (nI_add _ _) ?_
    refine lh_sld (k := 4 * j + 2) hx hb hX hbl hbA hS (by omega) hL dL_law_160 ?_
    refine lv_if_eq (tgt := 168) hx hb dL_law_161 (by decide) (fun c_4 => ?_) (fun c_4 => ?_)
    · exact absurd c_4 c_1
    · refine lv_iconst (v := nI 1) hx hb dL_law_164 (by decide) ?_
      refine lv_goto (tgt := 169) hx hb dL_law_165 (by decide) ?_
      refine lh_pVi (wr := wX cI ad (objS u (xs (4 * j + 1)) true)) ⟨hx, hb, hml, hown, hts⟩ (kX2_object l D cI cZ bd u (xs (4 * j + 1)) true (64 * j) inv) hK (cwV 2 hts gL_law_X2_object rfl rfl rfl (by decide +kernel) ⟨Nat.le_of_ble_eq_true rfl, Nat.le_of_ble_eq_true rfl⟩) hN hP hD hS hA [0, 1, 2, 3, 4, 5, 6, 7, 8] [9, 10, 11, 12, 13, 14, 15, 16, 17] rfl rfl rfl (by decide) (by decide) (by decide) 0 2 rfl rfl rfl rfl hl.1 rfl (Nat.le_of_ble_eq_true rfl) ⟨Nat.le_of_ble_eq_true rfl, Nat.le_of_ble_eq_true rfl⟩ dL_law_169 (fun H locs hP hD hS => ?_)
      refine lv_icmp_eq (tgt := 700) hx hb dL_law_172 (by decide) (fun c_5 => ?_) (fun c_5 => ?_)
      · exact kk (objS u (xs (4 * j + 1)) true) _ _ (inv_up (Inv_objS inv _ _)) hP hD hS ls hl
      · exact absurd rfl c_5
set_option maxRecDepth 100000 in
set_option maxHeartbeats 4000000 in
theorem lw_c1 {p : Program} {l : Launch} {e : Env} {s : State} {m : MethodId} {below : List Frame} {meth : Method} {c : Code} {D : va_G} {cI cZ : ClassId} {ad bd : Nat → Nat} {b L : Nat} {xs : Nat → Int32} {u : XS} {j : Nat} (hL : L ≤ 2048) (C0 : lw_At p s m meth c b L xs) (hK : va_K D vwCl [(cI, .int), (cZ, .boolean)] s) (hN : lhN s) (inv : Inv (64 * j) u) (hlt : 4 * j + 3 < L) {H : Heap} {locs : List Loc} (hP : va_P D vwCl (wX cI ad u ++ wM cI cZ bd u) H) (hD : va_D (fun q : Nat => s.heap.size ≤ q) (wX cI ad u ++ wM cI cZ bd u)) (hS : va_S (fun q : Nat => s.heap.size ≤ q) s.heap H locs) {ls : Array Slot} (hl : lv_has ls 4 [(3, .int (nI (4 * j))), (2, .ref (bd 0)), (1, .ref (ad 0)), (0, .ref b)]) (kk : ∀ (u1 : XS) (H : Heap) (locs : List Loc), Inv (64 * (j + 1)) u1 → va_P D vwCl (wX cI ad u1 ++ wM cI cZ bd u1) H → va_D (fun q : Nat => s.heap.size ≤ q) (wX cI ad u1 ++ wM cI cZ bd u1) → va_S (fun q : Nat => s.heap.size ≤ q) s.heap H locs → ∀ (ls : Array Slot), lv_has ls 4 [(3, .int (nI (4 * j))), (2, .ref (bd 0)), (1, .ref (ad 0)), (0, .ref b)] → W p l e room_1 s m #[Value.ref b] below meth c H locs 18 2283 (lw_Z below #[Value.ref b] s) (F0 m 700 ls [])) : W p l e room_1 s m #[Value.ref b] below meth c H locs 18 2283 (lw_Z below #[Value.ref b] s) (F0 m 177 ls []) := by
  obtain ⟨hx, hb, hr, hml, hown, hts0, hX, hbl, hlocks, hgv⟩ := id C0
  have hts := fun w h => hts0 w (wsL_law_in w h)
  have hA : ∀ q : Nat, s.heap.size ≤ q → (fun q : Nat => s.heap.size ≤ q) q := fun _ h => h
  have hbA : ¬ (fun q : Nat => s.heap.size ≤ q) b := Nat.not_le.mpr hbl
  refine lv_aload_n hx hb dL_law_177 rfl (lv_at hl 2 rfl) ?_
  refine lv_aload_n hx hb dL_law_178 rfl (lv_at hl 3 rfl) ?_
  refine lv_iload_n hx hb dL_law_179 rfl (lv_at hl 0 rfl) ?_
  refine lv_iconst (v := nI 1) hx hb dL_law_180 (by decide) ?_
  refine lv_iadd hx hb dL_law_181 ?_
  refine lh_top (y := nI (4 * j + 1)) (nI_add _ _) ?_
  refine lh_sld (k := 4 * j + 1) hx hb hX hbl hbA hS (by omega) hL dL_law_182 ?_
  refine lv_aload_n hx hb dL_law_183 rfl (lv_at hl 3 rfl) ?_
  refine lv_iload_n hx hb dL_law_184 rfl (lv_at hl 0 rfl) ?_
  refine lv_iconst (v := nI 2) hx hb dL_law_185 (by decide) ?_
  refine lv_iadd hx hb dL_law_186 ?_
  refine lh_top (y := nI (4 * j + 2)) (nI_add _ _) ?_
  refine lh_sld (k := 4 * j + 2) hx hb hX hbl hbA hS (by omega) hL dL_law_187 ?_
  refine lv_if_eq (tgt := 195) hx hb dL_law_188 (by decide) (fun c_1 => ?_) (fun c_1 => ?_)
  · refine lv_iconst (v := nI 0) hx hb dL_law_195 (by decide) ?_
    refine lh_pVi (wr := wM cI cZ bd u) ⟨hx, hb, hml, hown, hts⟩ (kX1_root l D cI ad u (xs (4 * j + 1)) false (64 * j) inv) (hK.sub [0] rfl) (cwV 2 hts gL_law_X1_root rfl rfl rfl (by decide +kernel) ⟨Nat.le_of_ble_eq_true rfl, Nat.le_of_ble_eq_true rfl⟩) hN hP hD hS hA [0, 1, 2, 3, 4, 5, 6, 7, 8] [9, 10, 11, 12, 13, 14, 15, 16, 17] rfl rfl rfl (by decide) (by decide) (by decide) 0 1 rfl rfl rfl rfl hl.1 rfl (Nat.le_of_ble_eq_true rfl) ⟨Nat.le_of_ble_eq_true rfl, Nat.le_of_ble_eq_true rfl⟩ dL_law_196 (fun H locs hP hD hS => ?_)
    refine lv_aload_n hx hb dL_law_199 rfl (lv_at hl 1 rfl) ?_
    refine lv_aload_n hx hb dL_law_200 rfl (lv_at hl 3 rfl) ?_
    refine lv_iload_n hx hb dL_law_201 rfl (lv_at hl 0 rfl) ?_
    refine lv_iconst (v := nI 1) hx hb dL_law_202 (by decide) ?_
    refine lv_iadd hx hb dL_law_203 ?_
    refine lh_top (y := nI (4 * j + 1)) (nI_add _ _) ?_
    refine lh_sld (k := 4 * j + 1) hx hb hX hbl hbA hS (by omega) hL dL_law_204 ?_
    refine lv_aload_n hx hb dL_law_205 rfl (lv_at hl 3 rfl) ?_
    refine lv_iload_n hx hb dL_law_206 rfl (lv_at hl 0 rfl) ?_
    refine lv_iconst (v := nI 2) hx hb dL_law_207 (by decide) ?_
    refine lv_iadd hx hb dL_law_208 ?_
    refine lh_top (y := nI (4 * j + 2)) (nI_add _ _) ?_
    refine lh_sld (k := 4 * j + 2) hx hb hX hbl hbA hS (by omega) hL dL_law_209 ?_
    refine lv_if_eq (tgt := 217) hx hb dL_law_210 (by decide) (fun c_2 => ?_) (fun c_2 => ?_)
    · refine lv_iconst (v := nI 0) hx hb dL_law_217 (by decide) ?_
      refine lh_pVi (wr := wX cI ad (rooS u (xs (4 * j + 1)) false)) ⟨hx, hb, hml, hown, hts⟩ (kX2_root l D cI cZ bd u (xs (4 * j + 1)) false (64 * j) inv) hK (cwV 2 hts gL_law_X2_root rfl rfl rfl (by decide +kernel) ⟨Nat.le_of_ble_eq_true rfl, Nat.le_of_ble_eq_true rfl⟩) hN hP hD hS hA [0, 1, 2, 3, 4, 5, 6, 7, 8] [9, 10, 11, 12, 13, 14, 15, 16, 17] rfl rfl rfl (by decide) (by decide) (by decide) 0 2 rfl rfl rfl rfl hl.1 rfl (Nat.le_of_ble_eq_true rfl) ⟨Nat.le_of_ble_eq_true rfl, Nat.le_of_ble_eq_true rfl⟩ dL_law_218 (fun H locs hP hD hS => ?_)
      refine lv_icmp_eq (tgt := 700) hx hb dL_law_221 (by decide) (fun c_3 => ?_) (fun c_3 => ?_)
      · exact kk (rooS u (xs (4 * j + 1)) false) _ _ (inv_up (Inv_rooS inv _ _)) hP hD hS ls hl
      · exact absurd rfl c_3
    · exact absurd c_1 c_2
  · refine lv_iconst (v := nI 1) hx hb dL_law_191 (by decide) ?_
    refine lv_goto (tgt := 196) hx hb dL_law_192 (by decide) ?_
    refine lh_pVi (wr := wM cI cZ bd u) ⟨hx, hb, hml, hown, hts⟩ (kX1_root l D cI ad u (xs (4 * j + 1)) true (64 * j) inv) (hK.sub [0] rfl) (cwV 2 hts gL_law_X1_root rfl rfl rfl (by decide +kernel) ⟨Nat.le_of_ble_eq_true rfl, Nat.le_of_ble_eq_true rfl⟩) hN hP hD hS hA [0, 1, 2, 3, 4, 5, 6, 7, 8] [9, 10, 11, 12, 13, 14, 15, 16, 17] rfl rfl rfl (by decide) (by decide) (by decide) 0 1 rfl rfl rfl rfl hl.1 rfl (Nat.le_of_ble_eq_true rfl) ⟨Nat.le_of_ble_eq_true rfl, Nat.le_of_ble_eq_true rfl⟩ dL_law_196 (fun H locs hP hD hS => ?_)
    refine lv_aload_n hx hb dL_law_199 rfl (lv_at hl 1 rfl) ?_
    refine lv_aload_n hx hb dL_law_200 rfl (lv_at hl 3 rfl) ?_
    refine lv_iload_n hx hb dL_law_201 rfl (lv_at hl 0 rfl) ?_
    refine lv_iconst (v := nI 1) hx hb dL_law_202 (by decide) ?_
    refine lv_iadd hx hb dL_law_203 ?_
    refine lh_top (y := nI (4 * j + 1)) (nI_add _ _) ?_
    refine lh_sld (k := 4 * j + 1) hx hb hX hbl hbA hS (by omega) hL dL_law_204 ?_
    refine lv_aload_n hx hb dL_law_205 rfl (lv_at hl 3 rfl) ?_
    refine lv_iload_n hx hb dL_law_206 rfl (lv_at hl 0 rfl) ?_
    refine lv_iconst (v := nI 2) hx hb dL_law_207 (by decide) ?_
    refine lv_iadd hx hb dL_law_208 ?_
    refine lh_top (y := nI (4 * j + 2)) (nI_add _ _) ?_
    refine lh_sld (k := 4 * j + 2) hx hb hX hbl hbA hS (by omega) hL dL_law_209 ?_
    refine lv_if_eq (tgt := 217) hx hb dL_law_210 (by decide) (fun c_4 => ?_) (fun c_4 => ?_)
    · exact absurd c_4 c_1
    · refine lv_iconst (v := nI 1) hx hb dL_law_213 (by decide) ?_
      refine lv_goto (tgt := 218) hx hb dL_law_214 (by decide) ?_
      refine lh_pVi (wr := wX cI ad (rooS u (xs (4 * j + 1)) true)) ⟨hx, hb, hml, hown, hts⟩ (kX2_root l D cI cZ bd u (xs (4 * j + 1)) true (64 * j) inv) hK (cwV 2 hts gL_law_X2_root rfl rfl rfl (by decide +kernel) ⟨Nat.le_of_ble_eq_true rfl, Nat.le_of_ble_eq_true rfl⟩) hN hP hD hS hA [0, 1, 2, 3, 4, 5, 6, 7, 8] [9, 10, 11, 12, 13, 14, 15, 16, 17] rfl rfl rfl (by decide) (by decide) (by decide) 0 2 rfl rfl rfl rfl hl.1 rfl (Nat.le_of_ble_eq_true rfl) ⟨Nat.le_of_ble_eq_true rfl, Nat.le_of_ble_eq_true rfl⟩ dL_law_218 (fun H locs hP hD hS => ?_)
      refine lv_icmp_eq (tgt := 700) hx hb dL_law_221 (by decide) (fun c_5 => ?_) (fun c_5 => ?_)
      · exact kk (rooS u (xs (4 * j + 1)) true) _ _ (inv_up (Inv_rooS inv _ _)) hP hD hS ls hl
      · exact absurd rfl c_5
set_option maxRecDepth 100000 in
set_option maxHeartbeats 4000000 in
theorem lw_c2 {p : Program} {l : Launch} {e : Env} {s : State} {m : MethodId} {below : List Frame} {meth : Method} {c : Code} {D : va_G} {cI cZ : ClassId} {ad bd : Nat → Nat} {b L : Nat} {xs : Nat → Int32} {u : XS} {j : Nat} (hL : L ≤ 2048) (C0 : lw_At p s m meth c b L xs) (hK : va_K D vwCl [(cI, .int), (cZ, .boolean)] s) (hN : lhN s) (inv : Inv (64 * j) u) (hlt : 4 * j + 3 < L) {H : Heap} {locs : List Loc} (hP : va_P D vwCl (wX cI ad u ++ wM cI cZ bd u) H) (hD : va_D (fun q : Nat => s.heap.size ≤ q) (wX cI ad u ++ wM cI cZ bd u)) (hS : va_S (fun q : Nat => s.heap.size ≤ q) s.heap H locs) {ls : Array Slot} (hl : lv_has ls 4 [(3, .int (nI (4 * j))), (2, .ref (bd 0)), (1, .ref (ad 0)), (0, .ref b)]) (kk : ∀ (u1 : XS) (H : Heap) (locs : List Loc), Inv (64 * (j + 1)) u1 → va_P D vwCl (wX cI ad u1 ++ wM cI cZ bd u1) H → va_D (fun q : Nat => s.heap.size ≤ q) (wX cI ad u1 ++ wM cI cZ bd u1) → va_S (fun q : Nat => s.heap.size ≤ q) s.heap H locs → ∀ (ls : Array Slot), lv_has ls 4 [(3, .int (nI (4 * j))), (2, .ref (bd 0)), (1, .ref (ad 0)), (0, .ref b)] → W p l e room_1 s m #[Value.ref b] below meth c H locs 18 2283 (lw_Z below #[Value.ref b] s) (F0 m 700 ls [])) : W p l e room_1 s m #[Value.ref b] below meth c H locs 18 2283 (lw_Z below #[Value.ref b] s) (F0 m 226 ls []) := by
  obtain ⟨hx, hb, hr, hml, hown, hts0, hX, hbl, hlocks, hgv⟩ := id C0
  have hts := fun w h => hts0 w (wsL_law_in w h)
  have hA : ∀ q : Nat, s.heap.size ≤ q → (fun q : Nat => s.heap.size ≤ q) q := fun _ h => h
  have hbA : ¬ (fun q : Nat => s.heap.size ≤ q) b := Nat.not_le.mpr hbl
  refine lv_aload_n hx hb dL_law_226 rfl (lv_at hl 2 rfl) ?_
  refine lv_aload_n hx hb dL_law_227 rfl (lv_at hl 3 rfl) ?_
  refine lv_iload_n hx hb dL_law_228 rfl (lv_at hl 0 rfl) ?_
  refine lv_iconst (v := nI 1) hx hb dL_law_229 (by decide) ?_
  refine lv_iadd hx hb dL_law_230 ?_
  refine lh_top (y := nI (4 * j + 1)) (nI_add _ _) ?_
  refine lh_sld (k := 4 * j + 1) hx hb hX hbl hbA hS (by omega) hL dL_law_231 ?_
  refine lv_aload_n hx hb dL_law_232 rfl (lv_at hl 3 rfl) ?_
  refine lv_iload_n hx hb dL_law_233 rfl (lv_at hl 0 rfl) ?_
  refine lv_iconst (v := nI 2) hx hb dL_law_234 (by decide) ?_
  refine lv_iadd hx hb dL_law_235 ?_
  refine lh_top (y := nI (4 * j + 2)) (nI_add _ _) ?_
  refine lh_sld (k := 4 * j + 2) hx hb hX hbl hbA hS (by omega) hL dL_law_236 ?_
  refine lh_pVi (wr := wM cI cZ bd u) ⟨hx, hb, hml, hown, hts⟩ (kX1_link l D cI ad u (xs (4 * j + 1)) (xs (4 * j + 2)) (64 * j) inv) (hK.sub [0] rfl) (cwV 2 hts gL_law_X1_link rfl rfl rfl (by decide +kernel) ⟨Nat.le_of_ble_eq_true rfl, Nat.le_of_ble_eq_true rfl⟩) hN hP hD hS hA [0, 1, 2, 3, 4, 5, 6, 7, 8] [9, 10, 11, 12, 13, 14, 15, 16, 17] rfl rfl rfl (by decide) (by decide) (by decide) 0 1 rfl rfl rfl rfl hl.1 rfl (Nat.le_of_ble_eq_true rfl) ⟨Nat.le_of_ble_eq_true rfl, Nat.le_of_ble_eq_true rfl⟩ dL_law_237 (fun H locs hP hD hS => ?_)
  refine lv_aload_n hx hb dL_law_240 rfl (lv_at hl 1 rfl) ?_
  refine lv_aload_n hx hb dL_law_241 rfl (lv_at hl 3 rfl) ?_
  refine lv_iload_n hx hb dL_law_242 rfl (lv_at hl 0 rfl) ?_
  refine lv_iconst (v := nI 1) hx hb dL_law_243 (by decide) ?_
  refine lv_iadd hx hb dL_law_244 ?_
  refine lh_top (y := nI (4 * j + 1)) (nI_add _ _) ?_
  refine lh_sld (k := 4 * j + 1) hx hb hX hbl hbA hS (by omega) hL dL_law_245 ?_
  refine lv_aload_n hx hb dL_law_246 rfl (lv_at hl 3 rfl) ?_
  refine lv_iload_n hx hb dL_law_247 rfl (lv_at hl 0 rfl) ?_
  refine lv_iconst (v := nI 2) hx hb dL_law_248 (by decide) ?_
  refine lv_iadd hx hb dL_law_249 ?_
  refine lh_top (y := nI (4 * j + 2)) (nI_add _ _) ?_
  refine lh_sld (k := 4 * j + 2) hx hb hX hbl hbA hS (by omega) hL dL_law_250 ?_
  refine lh_pVi (wr := wX cI ad (lnkS u (xs (4 * j + 1)) (xs (4 * j + 2)))) ⟨hx, hb, hml, hown, hts⟩ (kX2_link l D cI cZ bd u (xs (4 * j + 1)) (xs (4 * j + 2)) (64 * j) inv) hK (cwV 2 hts gL_law_X2_link rfl rfl rfl (by decide +kernel) ⟨Nat.le_of_ble_eq_true rfl, Nat.le_of_ble_eq_true rfl⟩) hN hP hD hS hA [0, 1, 2, 3, 4, 5, 6, 7, 8] [9, 10, 11, 12, 13, 14, 15, 16, 17] rfl rfl rfl (by decide) (by decide) (by decide) 0 2 rfl rfl rfl rfl hl.1 rfl (Nat.le_of_ble_eq_true rfl) ⟨Nat.le_of_ble_eq_true rfl, Nat.le_of_ble_eq_true rfl⟩ dL_law_251 (fun H locs hP hD hS => ?_)
  refine lv_icmp_eq (tgt := 700) hx hb dL_law_254 (by decide) (fun c_1 => ?_) (fun c_1 => ?_)
  · exact kk (lnkS u (xs (4 * j + 1)) (xs (4 * j + 2))) _ _ (inv_up2 (Inv_lnkS inv _ _ (by omega))) hP hD hS ls hl
  · exact absurd rfl c_1
set_option maxRecDepth 100000 in
set_option maxHeartbeats 4000000 in
theorem lw_c3 {p : Program} {l : Launch} {e : Env} {s : State} {m : MethodId} {below : List Frame} {meth : Method} {c : Code} {D : va_G} {cI cZ : ClassId} {ad bd : Nat → Nat} {b L : Nat} {xs : Nat → Int32} {u : XS} {j : Nat} (hL : L ≤ 2048) (C0 : lw_At p s m meth c b L xs) (hK : va_K D vwCl [(cI, .int), (cZ, .boolean)] s) (hN : lhN s) (inv : Inv (64 * j) u) (hlt : 4 * j + 3 < L) {H : Heap} {locs : List Loc} (hP : va_P D vwCl (wX cI ad u ++ wM cI cZ bd u) H) (hD : va_D (fun q : Nat => s.heap.size ≤ q) (wX cI ad u ++ wM cI cZ bd u)) (hS : va_S (fun q : Nat => s.heap.size ≤ q) s.heap H locs) {ls : Array Slot} (hl : lv_has ls 4 [(3, .int (nI (4 * j))), (2, .ref (bd 0)), (1, .ref (ad 0)), (0, .ref b)]) (kk : ∀ (u1 : XS) (H : Heap) (locs : List Loc), Inv (64 * (j + 1)) u1 → va_P D vwCl (wX cI ad u1 ++ wM cI cZ bd u1) H → va_D (fun q : Nat => s.heap.size ≤ q) (wX cI ad u1 ++ wM cI cZ bd u1) → va_S (fun q : Nat => s.heap.size ≤ q) s.heap H locs → ∀ (ls : Array Slot), lv_has ls 4 [(3, .int (nI (4 * j))), (2, .ref (bd 0)), (1, .ref (ad 0)), (0, .ref b)] → W p l e room_1 s m #[Value.ref b] below meth c H locs 18 2283 (lw_Z below #[Value.ref b] s) (F0 m 700 ls [])) : W p l e room_1 s m #[Value.ref b] below meth c H locs 18 2283 (lw_Z below #[Value.ref b] s) (F0 m 259 ls []) := by
  obtain ⟨hx, hb, hr, hml, hown, hts0, hX, hbl, hlocks, hgv⟩ := id C0
  have hts := fun w h => hts0 w (wsL_law_in w h)
  have hA : ∀ q : Nat, s.heap.size ≤ q → (fun q : Nat => s.heap.size ≤ q) q := fun _ h => h
  have hbA : ¬ (fun q : Nat => s.heap.size ≤ q) b := Nat.not_le.mpr hbl
  refine lv_aload_n hx hb dL_law_259 rfl (lv_at hl 2 rfl) ?_
  refine lv_aload_n hx hb dL_law_260 rfl (lv_at hl 3 rfl) ?_
  refine lv_iload_n hx hb dL_law_261 rfl (lv_at hl 0 rfl) ?_
  refine lv_iconst (v := nI 1) hx hb dL_law_262 (by decide) ?_
  refine lv_iadd hx hb dL_law_263 ?_
  refine lh_top (y := nI (4 * j + 1)) (nI_add _ _) ?_
  refine lh_sld (k := 4 * j + 1) hx hb hX hbl hbA hS (by omega) hL dL_law_264 ?_
  refine lv_aload_n hx hb dL_law_265 rfl (lv_at hl 3 rfl) ?_
  refine lv_iload_n hx hb dL_law_266 rfl (lv_at hl 0 rfl) ?_
  refine lv_iconst (v := nI 2) hx hb dL_law_267 (by decide) ?_
  refine lv_iadd hx hb dL_law_268 ?_
  refine lh_top (y := nI (4 * j + 2)) (nI_add _ _) ?_
  refine lh_sld (k := 4 * j + 2) hx hb hX hbl hbA hS (by omega) hL dL_law_269 ?_
  refine lh_pVi (wr := wM cI cZ bd u) ⟨hx, hb, hml, hown, hts⟩ (kX1_unlink l D cI ad u (xs (4 * j + 1)) (xs (4 * j + 2)) (64 * j) inv) (hK.sub [0] rfl) (cwV 2 hts gL_law_X1_unlink rfl rfl rfl (by decide +kernel) ⟨Nat.le_of_ble_eq_true rfl, Nat.le_of_ble_eq_true rfl⟩) hN hP hD hS hA [0, 1, 2, 3, 4, 5, 6, 7, 8] [9, 10, 11, 12, 13, 14, 15, 16, 17] rfl rfl rfl (by decide) (by decide) (by decide) 0 1 rfl rfl rfl rfl hl.1 rfl (Nat.le_of_ble_eq_true rfl) ⟨Nat.le_of_ble_eq_true rfl, Nat.le_of_ble_eq_true rfl⟩ dL_law_270 (fun H locs hP hD hS => ?_)
  refine lv_aload_n hx hb dL_law_273 rfl (lv_at hl 1 rfl) ?_
  refine lv_aload_n hx hb dL_law_274 rfl (lv_at hl 3 rfl) ?_
  refine lv_iload_n hx hb dL_law_275 rfl (lv_at hl 0 rfl) ?_
  refine lv_iconst (v := nI 1) hx hb dL_law_276 (by decide) ?_
  refine lv_iadd hx hb dL_law_277 ?_
  refine lh_top (y := nI (4 * j + 1)) (nI_add _ _) ?_
  refine lh_sld (k := 4 * j + 1) hx hb hX hbl hbA hS (by omega) hL dL_law_278 ?_
  refine lv_aload_n hx hb dL_law_279 rfl (lv_at hl 3 rfl) ?_
  refine lv_iload_n hx hb dL_law_280 rfl (lv_at hl 0 rfl) ?_
  refine lv_iconst (v := nI 2) hx hb dL_law_281 (by decide) ?_
  refine lv_iadd hx hb dL_law_282 ?_
  refine lh_top (y := nI (4 * j + 2)) (nI_add _ _) ?_
  refine lh_sld (k := 4 * j + 2) hx hb hX hbl hbA hS (by omega) hL dL_law_283 ?_
  refine lh_pVi (wr := wX cI ad (unlS u (xs (4 * j + 1)) (xs (4 * j + 2)))) ⟨hx, hb, hml, hown, hts⟩ (kX2_unlink l D cI cZ bd u (xs (4 * j + 1)) (xs (4 * j + 2)) (64 * j) inv) hK (cwV 2 hts gL_law_X2_unlink rfl rfl rfl (by decide +kernel) ⟨Nat.le_of_ble_eq_true rfl, Nat.le_of_ble_eq_true rfl⟩) hN hP hD hS hA [0, 1, 2, 3, 4, 5, 6, 7, 8] [9, 10, 11, 12, 13, 14, 15, 16, 17] rfl rfl rfl (by decide) (by decide) (by decide) 0 2 rfl rfl rfl rfl hl.1 rfl (Nat.le_of_ble_eq_true rfl) ⟨Nat.le_of_ble_eq_true rfl, Nat.le_of_ble_eq_true rfl⟩ dL_law_284 (fun H locs hP hD hS => ?_)
  refine lv_icmp_eq (tgt := 700) hx hb dL_law_287 (by decide) (fun c_1 => ?_) (fun c_1 => ?_)
  · exact kk (unlS u (xs (4 * j + 1)) (xs (4 * j + 2))) _ _ (inv_up (Inv_unlS inv _ _)) hP hD hS ls hl
  · exact absurd rfl c_1
set_option maxRecDepth 100000 in
set_option maxHeartbeats 4000000 in
theorem lw_c4 {p : Program} {l : Launch} {e : Env} {s : State} {m : MethodId} {below : List Frame} {meth : Method} {c : Code} {D : va_G} {cI cZ : ClassId} {ad bd : Nat → Nat} {b L : Nat} {xs : Nat → Int32} {u : XS} {j : Nat} (hL : L ≤ 2048) (C0 : lw_At p s m meth c b L xs) (hK : va_K D vwCl [(cI, .int), (cZ, .boolean)] s) (hN : lhN s) (inv : Inv (64 * j) u) (hlt : 4 * j + 3 < L) {H : Heap} {locs : List Loc} (hP : va_P D vwCl (wX cI ad u ++ wM cI cZ bd u) H) (hD : va_D (fun q : Nat => s.heap.size ≤ q) (wX cI ad u ++ wM cI cZ bd u)) (hS : va_S (fun q : Nat => s.heap.size ≤ q) s.heap H locs) {ls : Array Slot} (hl : lv_has ls 4 [(3, .int (nI (4 * j))), (2, .ref (bd 0)), (1, .ref (ad 0)), (0, .ref b)]) (kk : ∀ (u1 : XS) (H : Heap) (locs : List Loc), Inv (64 * (j + 1)) u1 → va_P D vwCl (wX cI ad u1 ++ wM cI cZ bd u1) H → va_D (fun q : Nat => s.heap.size ≤ q) (wX cI ad u1 ++ wM cI cZ bd u1) → va_S (fun q : Nat => s.heap.size ≤ q) s.heap H locs → ∀ (ls : Array Slot), lv_has ls 4 [(3, .int (nI (4 * j))), (2, .ref (bd 0)), (1, .ref (ad 0)), (0, .ref b)] → W p l e room_1 s m #[Value.ref b] below meth c H locs 18 2283 (lw_Z below #[Value.ref b] s) (F0 m 700 ls [])) : W p l e room_1 s m #[Value.ref b] below meth c H locs 18 2283 (lw_Z below #[Value.ref b] s) (F0 m 292 ls []) := by
  obtain ⟨hx, hb, hr, hml, hown, hts0, hX, hbl, hlocks, hgv⟩ := id C0
  have hts := fun w h => hts0 w (wsL_law_in w h)
  have hA : ∀ q : Nat, s.heap.size ≤ q → (fun q : Nat => s.heap.size ≤ q) q := fun _ h => h
  have hbA : ¬ (fun q : Nat => s.heap.size ≤ q) b := Nat.not_le.mpr hbl
  refine lv_aload_n hx hb dL_law_292 rfl (lv_at hl 2 rfl) ?_
  refine lv_aload_n hx hb dL_law_293 rfl (lv_at hl 3 rfl) ?_
  refine lv_iload_n hx hb dL_law_294 rfl (lv_at hl 0 rfl) ?_
  refine lv_iconst (v := nI 1) hx hb dL_law_295 (by decide) ?_
  refine lv_iadd hx hb dL_law_296 ?_
  refine lh_top (y := nI (4 * j + 1)) (nI_add _ _) ?_
  refine lh_sld (k := 4 * j + 1) hx hb hX hbl hbA hS (by omega) hL dL_law_297 ?_
  refine lv_aload_n hx hb dL_law_298 rfl (lv_at hl 3 rfl) ?_
  refine lv_iload_n hx hb dL_law_299 rfl (lv_at hl 0 rfl) ?_
  refine lv_iconst (v := nI 2) hx hb dL_law_300 (by decide) ?_
  refine lv_iadd hx hb dL_law_301 ?_
  refine lh_top (y := nI (4 * j + 2)) (nI_add _ _) ?_
  refine lh_sld (k := 4 * j + 2) hx hb hX hbl hbA hS (by omega) hL dL_law_302 ?_
  refine lh_pVi (wr := wM cI cZ bd u) ⟨hx, hb, hml, hown, hts⟩ (kX1_ofObject l D cI ad u (xs (4 * j + 1)) (xs (4 * j + 2)) (64 * j) inv) (hK.sub [0] rfl) (cwV 2 hts gL_law_X1_ofObject rfl rfl rfl (by decide +kernel) ⟨Nat.le_of_ble_eq_true rfl, Nat.le_of_ble_eq_true rfl⟩) hN hP hD hS hA [0, 1, 2, 3, 4, 5, 6, 7, 8] [9, 10, 11, 12, 13, 14, 15, 16, 17] rfl rfl rfl (by decide) (by decide) (by decide) 0 1 rfl rfl rfl rfl hl.1 rfl (Nat.le_of_ble_eq_true rfl) ⟨Nat.le_of_ble_eq_true rfl, Nat.le_of_ble_eq_true rfl⟩ dL_law_303 (fun H locs hP hD hS => ?_)
  refine lv_aload_n hx hb dL_law_306 rfl (lv_at hl 1 rfl) ?_
  refine lv_aload_n hx hb dL_law_307 rfl (lv_at hl 3 rfl) ?_
  refine lv_iload_n hx hb dL_law_308 rfl (lv_at hl 0 rfl) ?_
  refine lv_iconst (v := nI 1) hx hb dL_law_309 (by decide) ?_
  refine lv_iadd hx hb dL_law_310 ?_
  refine lh_top (y := nI (4 * j + 1)) (nI_add _ _) ?_
  refine lh_sld (k := 4 * j + 1) hx hb hX hbl hbA hS (by omega) hL dL_law_311 ?_
  refine lv_aload_n hx hb dL_law_312 rfl (lv_at hl 3 rfl) ?_
  refine lv_iload_n hx hb dL_law_313 rfl (lv_at hl 0 rfl) ?_
  refine lv_iconst (v := nI 2) hx hb dL_law_314 (by decide) ?_
  refine lv_iadd hx hb dL_law_315 ?_
  refine lh_top (y := nI (4 * j + 2)) (nI_add _ _) ?_
  refine lh_sld (k := 4 * j + 2) hx hb hX hbl hbA hS (by omega) hL dL_law_316 ?_
  refine lh_pVi (wr := wX cI ad u) ⟨hx, hb, hml, hown, hts⟩ (kX2_ofObject l D cI cZ bd u (xs (4 * j + 1)) (xs (4 * j + 2)) (64 * j) inv) hK (cwV 2 hts gL_law_X2_ofObject rfl rfl rfl (by decide +kernel) ⟨Nat.le_of_ble_eq_true rfl, Nat.le_of_ble_eq_true rfl⟩) hN hP hD hS hA [0, 1, 2, 3, 4, 5, 6, 7, 8] [9, 10, 11, 12, 13, 14, 15, 16, 17] rfl rfl rfl (by decide) (by decide) (by decide) 0 2 rfl rfl rfl rfl hl.1 rfl (Nat.le_of_ble_eq_true rfl) ⟨Nat.le_of_ble_eq_true rfl, Nat.le_of_ble_eq_true rfl⟩ dL_law_317 (fun H locs hP hD hS => ?_)
  refine lv_icmp_eq (tgt := 700) hx hb dL_law_320 (by decide) (fun c_1 => ?_) (fun c_1 => ?_)
  · exact kk u _ _ (inv_up inv) hP hD hS ls hl
  · exact absurd rfl c_1
set_option maxRecDepth 100000 in
set_option maxHeartbeats 4000000 in
theorem lw_c5 {p : Program} {l : Launch} {e : Env} {s : State} {m : MethodId} {below : List Frame} {meth : Method} {c : Code} {D : va_G} {cI cZ : ClassId} {ad bd : Nat → Nat} {b L : Nat} {xs : Nat → Int32} {u : XS} {j : Nat} (hL : L ≤ 2048) (C0 : lw_At p s m meth c b L xs) (hK : va_K D vwCl [(cI, .int), (cZ, .boolean)] s) (hN : lhN s) (inv : Inv (64 * j) u) (hlt : 4 * j + 3 < L) {H : Heap} {locs : List Loc} (hP : va_P D vwCl (wX cI ad u ++ wM cI cZ bd u) H) (hD : va_D (fun q : Nat => s.heap.size ≤ q) (wX cI ad u ++ wM cI cZ bd u)) (hS : va_S (fun q : Nat => s.heap.size ≤ q) s.heap H locs) {ls : Array Slot} (hl : lv_has ls 4 [(3, .int (nI (4 * j))), (2, .ref (bd 0)), (1, .ref (ad 0)), (0, .ref b)]) (kk : ∀ (u1 : XS) (H : Heap) (locs : List Loc), Inv (64 * (j + 1)) u1 → va_P D vwCl (wX cI ad u1 ++ wM cI cZ bd u1) H → va_D (fun q : Nat => s.heap.size ≤ q) (wX cI ad u1 ++ wM cI cZ bd u1) → va_S (fun q : Nat => s.heap.size ≤ q) s.heap H locs → ∀ (ls : Array Slot), lv_has ls 4 [(3, .int (nI (4 * j))), (2, .ref (bd 0)), (1, .ref (ad 0)), (0, .ref b)] → W p l e room_1 s m #[Value.ref b] below meth c H locs 18 2283 (lw_Z below #[Value.ref b] s) (F0 m 700 ls [])) : W p l e room_1 s m #[Value.ref b] below meth c H locs 18 2283 (lw_Z below #[Value.ref b] s) (F0 m 325 ls []) := by
  obtain ⟨hx, hb, hr, hml, hown, hts0, hX, hbl, hlocks, hgv⟩ := id C0
  have hts := fun w h => hts0 w (wsL_law_in w h)
  have hA : ∀ q : Nat, s.heap.size ≤ q → (fun q : Nat => s.heap.size ≤ q) q := fun _ h => h
  have hbA : ¬ (fun q : Nat => s.heap.size ≤ q) b := Nat.not_le.mpr hbl
  refine lv_aload_n hx hb dL_law_325 rfl (lv_at hl 2 rfl) ?_
  refine lv_aload_n hx hb dL_law_326 rfl (lv_at hl 3 rfl) ?_
  refine lv_iload_n hx hb dL_law_327 rfl (lv_at hl 0 rfl) ?_
  refine lv_iconst (v := nI 1) hx hb dL_law_328 (by decide) ?_
  refine lv_iadd hx hb dL_law_329 ?_
  refine lh_top (y := nI (4 * j + 1)) (nI_add _ _) ?_
  refine lh_sld (k := 4 * j + 1) hx hb hX hbl hbA hS (by omega) hL dL_law_330 ?_
  refine lv_aload_n hx hb dL_law_331 rfl (lv_at hl 3 rfl) ?_
  refine lv_iload_n hx hb dL_law_332 rfl (lv_at hl 0 rfl) ?_
  refine lv_iconst (v := nI 2) hx hb dL_law_333 (by decide) ?_
  refine lv_iadd hx hb dL_law_334 ?_
  refine lh_top (y := nI (4 * j + 2)) (nI_add _ _) ?_
  refine lh_sld (k := 4 * j + 2) hx hb hX hbl hbA hS (by omega) hL dL_law_335 ?_
  refine lh_pVi (wr := wM cI cZ bd u) ⟨hx, hb, hml, hown, hts⟩ (kX1_weight l D cI ad u (xs (4 * j + 1)) (xs (4 * j + 2)) (64 * j) inv) (hK.sub [0] rfl) (cwV 2 hts gL_law_X1_weight rfl rfl rfl (by decide +kernel) ⟨Nat.le_of_ble_eq_true rfl, Nat.le_of_ble_eq_true rfl⟩) hN hP hD hS hA [0, 1, 2, 3, 4, 5, 6, 7, 8] [9, 10, 11, 12, 13, 14, 15, 16, 17] rfl rfl rfl (by decide) (by decide) (by decide) 0 1 rfl rfl rfl rfl hl.1 rfl (Nat.le_of_ble_eq_true rfl) ⟨Nat.le_of_ble_eq_true rfl, Nat.le_of_ble_eq_true rfl⟩ dL_law_336 (fun H locs hP hD hS => ?_)
  refine lv_aload_n hx hb dL_law_339 rfl (lv_at hl 1 rfl) ?_
  refine lv_aload_n hx hb dL_law_340 rfl (lv_at hl 3 rfl) ?_
  refine lv_iload_n hx hb dL_law_341 rfl (lv_at hl 0 rfl) ?_
  refine lv_iconst (v := nI 1) hx hb dL_law_342 (by decide) ?_
  refine lv_iadd hx hb dL_law_343 ?_
  refine lh_top (y := nI (4 * j + 1)) (nI_add _ _) ?_
  refine lh_sld (k := 4 * j + 1) hx hb hX hbl hbA hS (by omega) hL dL_law_344 ?_
  refine lv_aload_n hx hb dL_law_345 rfl (lv_at hl 3 rfl) ?_
  refine lv_iload_n hx hb dL_law_346 rfl (lv_at hl 0 rfl) ?_
  refine lv_iconst (v := nI 2) hx hb dL_law_347 (by decide) ?_
  refine lv_iadd hx hb dL_law_348 ?_
  refine lh_top (y := nI (4 * j + 2)) (nI_add _ _) ?_
  refine lh_sld (k := 4 * j + 2) hx hb hX hbl hbA hS (by omega) hL dL_law_349 ?_
  refine lh_pVi (wr := wX cI ad u) ⟨hx, hb, hml, hown, hts⟩ (kX2_weight l D cI cZ bd u (xs (4 * j + 1)) (xs (4 * j + 2)) (64 * j) inv) hK (cwV 2 hts gL_law_X2_weight rfl rfl rfl (by decide +kernel) ⟨Nat.le_of_ble_eq_true rfl, Nat.le_of_ble_eq_true rfl⟩) hN hP hD hS hA [0, 1, 2, 3, 4, 5, 6, 7, 8] [9, 10, 11, 12, 13, 14, 15, 16, 17] rfl rfl rfl (by decide) (by decide) (by decide) 0 2 rfl rfl rfl rfl hl.1 rfl (Nat.le_of_ble_eq_true rfl) ⟨Nat.le_of_ble_eq_true rfl, Nat.le_of_ble_eq_true rfl⟩ dL_law_350 (fun H locs hP hD hS => ?_)
  refine lv_icmp_eq (tgt := 700) hx hb dL_law_353 (by decide) (fun c_1 => ?_) (fun c_1 => ?_)
  · exact kk u _ _ (inv_up inv) hP hD hS ls hl
  · exact absurd rfl c_1
set_option maxRecDepth 100000 in
set_option maxHeartbeats 4000000 in
theorem lw_c6 {p : Program} {l : Launch} {e : Env} {s : State} {m : MethodId} {below : List Frame} {meth : Method} {c : Code} {D : va_G} {cI cZ : ClassId} {ad bd : Nat → Nat} {b L : Nat} {xs : Nat → Int32} {u : XS} {j : Nat} (hL : L ≤ 2048) (C0 : lw_At p s m meth c b L xs) (hK : va_K D vwCl [(cI, .int), (cZ, .boolean)] s) (hN : lhN s) (inv : Inv (64 * j) u) (hlt : 4 * j + 3 < L) {H : Heap} {locs : List Loc} (hP : va_P D vwCl (wX cI ad u ++ wM cI cZ bd u) H) (hD : va_D (fun q : Nat => s.heap.size ≤ q) (wX cI ad u ++ wM cI cZ bd u)) (hS : va_S (fun q : Nat => s.heap.size ≤ q) s.heap H locs) {ls : Array Slot} (hl : lv_has ls 4 [(3, .int (nI (4 * j))), (2, .ref (bd 0)), (1, .ref (ad 0)), (0, .ref b)]) (kk : ∀ (u1 : XS) (H : Heap) (locs : List Loc), Inv (64 * (j + 1)) u1 → va_P D vwCl (wX cI ad u1 ++ wM cI cZ bd u1) H → va_D (fun q : Nat => s.heap.size ≤ q) (wX cI ad u1 ++ wM cI cZ bd u1) → va_S (fun q : Nat => s.heap.size ≤ q) s.heap H locs → ∀ (ls : Array Slot), lv_has ls 4 [(3, .int (nI (4 * j))), (2, .ref (bd 0)), (1, .ref (ad 0)), (0, .ref b)] → W p l e room_1 s m #[Value.ref b] below meth c H locs 18 2283 (lw_Z below #[Value.ref b] s) (F0 m 700 ls [])) : W p l e room_1 s m #[Value.ref b] below meth c H locs 18 2283 (lw_Z below #[Value.ref b] s) (F0 m 358 ls []) := by
  obtain ⟨hx, hb, hr, hml, hown, hts0, hX, hbl, hlocks, hgv⟩ := id C0
  have hts := fun w h => hts0 w (wsL_law_in w h)
  have hA : ∀ q : Nat, s.heap.size ≤ q → (fun q : Nat => s.heap.size ≤ q) q := fun _ h => h
  have hbA : ¬ (fun q : Nat => s.heap.size ≤ q) b := Nat.not_le.mpr hbl
  refine lv_aload_n hx hb dL_law_358 rfl (lv_at hl 2 rfl) ?_
  refine lv_aload_n hx hb dL_law_359 rfl (lv_at hl 3 rfl) ?_
  refine lv_iload_n hx hb dL_law_360 rfl (lv_at hl 0 rfl) ?_
  refine lv_iconst (v := nI 1) hx hb dL_law_361 (by decide) ?_
  refine lv_iadd hx hb dL_law_362 ?_
  refine lh_top (y := nI (4 * j + 1)) (nI_add _ _) ?_
  refine lh_sld (k := 4 * j + 1) hx hb hX hbl hbA hS (by omega) hL dL_law_363 ?_
  refine lv_aload_n hx hb dL_law_364 rfl (lv_at hl 3 rfl) ?_
  refine lv_iload_n hx hb dL_law_365 rfl (lv_at hl 0 rfl) ?_
  refine lv_iconst (v := nI 2) hx hb dL_law_366 (by decide) ?_
  refine lv_iadd hx hb dL_law_367 ?_
  refine lh_top (y := nI (4 * j + 2)) (nI_add _ _) ?_
  refine lh_sld (k := 4 * j + 2) hx hb hX hbl hbA hS (by omega) hL dL_law_368 ?_
  refine lv_aload_n hx hb dL_law_369 rfl (lv_at hl 3 rfl) ?_
  refine lv_iload_n hx hb dL_law_370 rfl (lv_at hl 0 rfl) ?_
  refine lv_iconst (v := nI 3) hx hb dL_law_371 (by decide) ?_
  refine lv_iadd hx hb dL_law_372 ?_
  refine lh_top (y := nI (4 * j + 3)) (nI_add _ _) ?_
  refine lh_sld (k := 4 * j + 3) hx hb hX hbl hbA hS (by omega) hL dL_law_373 ?_
  refine lh_pVi (wr := wM cI cZ bd u) ⟨hx, hb, hml, hown, hts⟩ (kX1_give l D cI ad u (xs (4 * j + 1)) (xs (4 * j + 2)) (xs (4 * j + 3)) (64 * j) inv) (hK.sub [0] rfl) (cwV 3 hts gL_law_X1_give rfl rfl rfl (by decide +kernel) ⟨Nat.le_of_ble_eq_true rfl, Nat.le_of_ble_eq_true rfl⟩) hN hP hD hS hA [0, 1, 2, 3, 4, 5, 6, 7, 8] [9, 10, 11, 12, 13, 14, 15, 16, 17] rfl rfl rfl (by decide) (by decide) (by decide) 0 1 rfl rfl rfl rfl hl.1 rfl (Nat.le_of_ble_eq_true rfl) ⟨Nat.le_of_ble_eq_true rfl, Nat.le_of_ble_eq_true rfl⟩ dL_law_374 (fun H locs hP hD hS => ?_)
  refine lv_aload_n hx hb dL_law_377 rfl (lv_at hl 1 rfl) ?_
  refine lv_aload_n hx hb dL_law_378 rfl (lv_at hl 3 rfl) ?_
  refine lv_iload_n hx hb dL_law_379 rfl (lv_at hl 0 rfl) ?_
  refine lv_iconst (v := nI 1) hx hb dL_law_380 (by decide) ?_
  refine lv_iadd hx hb dL_law_381 ?_
  refine lh_top (y := nI (4 * j + 1)) (nI_add _ _) ?_
  refine lh_sld (k := 4 * j + 1) hx hb hX hbl hbA hS (by omega) hL dL_law_382 ?_
  refine lv_aload_n hx hb dL_law_383 rfl (lv_at hl 3 rfl) ?_
  refine lv_iload_n hx hb dL_law_384 rfl (lv_at hl 0 rfl) ?_
  refine lv_iconst (v := nI 2) hx hb dL_law_385 (by decide) ?_
  refine lv_iadd hx hb dL_law_386 ?_
  refine lh_top (y := nI (4 * j + 2)) (nI_add _ _) ?_
  refine lh_sld (k := 4 * j + 2) hx hb hX hbl hbA hS (by omega) hL dL_law_387 ?_
  refine lv_aload_n hx hb dL_law_388 rfl (lv_at hl 3 rfl) ?_
  refine lv_iload_n hx hb dL_law_389 rfl (lv_at hl 0 rfl) ?_
  refine lv_iconst (v := nI 3) hx hb dL_law_390 (by decide) ?_
  refine lv_iadd hx hb dL_law_391 ?_
  refine lh_top (y := nI (4 * j + 3)) (nI_add _ _) ?_
  refine lh_sld (k := 4 * j + 3) hx hb hX hbl hbA hS (by omega) hL dL_law_392 ?_
  refine lh_pVi (wr := wX cI ad (givS u (xs (4 * j + 1)) (xs (4 * j + 2)) (xs (4 * j + 3)))) ⟨hx, hb, hml, hown, hts⟩ (kX2_give l D cI cZ bd u (xs (4 * j + 1)) (xs (4 * j + 2)) (xs (4 * j + 3)) (64 * j) inv) hK (cwV 3 hts gL_law_X2_give rfl rfl rfl (by decide +kernel) ⟨Nat.le_of_ble_eq_true rfl, Nat.le_of_ble_eq_true rfl⟩) hN hP hD hS hA [0, 1, 2, 3, 4, 5, 6, 7, 8] [9, 10, 11, 12, 13, 14, 15, 16, 17] rfl rfl rfl (by decide) (by decide) (by decide) 0 2 rfl rfl rfl rfl hl.1 rfl (Nat.le_of_ble_eq_true rfl) ⟨Nat.le_of_ble_eq_true rfl, Nat.le_of_ble_eq_true rfl⟩ dL_law_393 (fun H locs hP hD hS => ?_)
  refine lv_icmp_eq (tgt := 700) hx hb dL_law_396 (by decide) (fun c_1 => ?_) (fun c_1 => ?_)
  · exact kk (givS u (xs (4 * j + 1)) (xs (4 * j + 2)) (xs (4 * j + 3))) _ _ (inv_up2 (Inv_givS inv _ _ _ (by omega))) hP hD hS ls hl
  · exact absurd rfl c_1
set_option maxRecDepth 100000 in
set_option maxHeartbeats 4000000 in
theorem lw_c7 {p : Program} {l : Launch} {e : Env} {s : State} {m : MethodId} {below : List Frame} {meth : Method} {c : Code} {D : va_G} {cI cZ : ClassId} {ad bd : Nat → Nat} {b L : Nat} {xs : Nat → Int32} {u : XS} {j : Nat} (hL : L ≤ 2048) (C0 : lw_At p s m meth c b L xs) (hK : va_K D vwCl [(cI, .int), (cZ, .boolean)] s) (hN : lhN s) (inv : Inv (64 * j) u) (hlt : 4 * j + 3 < L) {H : Heap} {locs : List Loc} (hP : va_P D vwCl (wX cI ad u ++ wM cI cZ bd u) H) (hD : va_D (fun q : Nat => s.heap.size ≤ q) (wX cI ad u ++ wM cI cZ bd u)) (hS : va_S (fun q : Nat => s.heap.size ≤ q) s.heap H locs) {ls : Array Slot} (hl : lv_has ls 4 [(3, .int (nI (4 * j))), (2, .ref (bd 0)), (1, .ref (ad 0)), (0, .ref b)]) (kk : ∀ (u1 : XS) (H : Heap) (locs : List Loc), Inv (64 * (j + 1)) u1 → va_P D vwCl (wX cI ad u1 ++ wM cI cZ bd u1) H → va_D (fun q : Nat => s.heap.size ≤ q) (wX cI ad u1 ++ wM cI cZ bd u1) → va_S (fun q : Nat => s.heap.size ≤ q) s.heap H locs → ∀ (ls : Array Slot), lv_has ls 4 [(3, .int (nI (4 * j))), (2, .ref (bd 0)), (1, .ref (ad 0)), (0, .ref b)] → W p l e room_1 s m #[Value.ref b] below meth c H locs 18 2283 (lw_Z below #[Value.ref b] s) (F0 m 700 ls [])) : W p l e room_1 s m #[Value.ref b] below meth c H locs 18 2283 (lw_Z below #[Value.ref b] s) (F0 m 401 ls []) := by
  obtain ⟨hx, hb, hr, hml, hown, hts0, hX, hbl, hlocks, hgv⟩ := id C0
  have hts := fun w h => hts0 w (wsL_law_in w h)
  have hA : ∀ q : Nat, s.heap.size ≤ q → (fun q : Nat => s.heap.size ≤ q) q := fun _ h => h
  have hbA : ¬ (fun q : Nat => s.heap.size ≤ q) b := Nat.not_le.mpr hbl
  refine lv_aload_n hx hb dL_law_401 rfl (lv_at hl 2 rfl) ?_
  refine lv_aload_n hx hb dL_law_402 rfl (lv_at hl 3 rfl) ?_
  refine lv_iload_n hx hb dL_law_403 rfl (lv_at hl 0 rfl) ?_
  refine lv_iconst (v := nI 1) hx hb dL_law_404 (by decide) ?_
  refine lv_iadd hx hb dL_law_405 ?_
  refine lh_top (y := nI (4 * j + 1)) (nI_add _ _) ?_
  refine lh_sld (k := 4 * j + 1) hx hb hX hbl hbA hS (by omega) hL dL_law_406 ?_
  refine lh_pVi (wr := wM cI cZ bd u) ⟨hx, hb, hml, hown, hts⟩ (kX1_deliver l D cI ad u (xs (4 * j + 1)) (64 * j) inv) (hK.sub [0] rfl) (cwV 1 hts gL_law_X1_deliver rfl rfl rfl (by decide +kernel) ⟨Nat.le_of_ble_eq_true rfl, Nat.le_of_ble_eq_true rfl⟩) hN hP hD hS hA [0, 1, 2, 3, 4, 5, 6, 7, 8] [9, 10, 11, 12, 13, 14, 15, 16, 17] rfl rfl rfl (by decide) (by decide) (by decide) 0 1 rfl rfl rfl rfl hl.1 rfl (Nat.le_of_ble_eq_true rfl) ⟨Nat.le_of_ble_eq_true rfl, Nat.le_of_ble_eq_true rfl⟩ dL_law_407 (fun H locs hP hD hS => ?_)
  refine lv_aload_n hx hb dL_law_410 rfl (lv_at hl 1 rfl) ?_
  refine lv_aload_n hx hb dL_law_411 rfl (lv_at hl 3 rfl) ?_
  refine lv_iload_n hx hb dL_law_412 rfl (lv_at hl 0 rfl) ?_
  refine lv_iconst (v := nI 1) hx hb dL_law_413 (by decide) ?_
  refine lv_iadd hx hb dL_law_414 ?_
  refine lh_top (y := nI (4 * j + 1)) (nI_add _ _) ?_
  refine lh_sld (k := 4 * j + 1) hx hb hX hbl hbA hS (by omega) hL dL_law_415 ?_
  refine lh_pVi (wr := wX cI ad (delS u (xs (4 * j + 1)))) ⟨hx, hb, hml, hown, hts⟩ (kX2_deliver l D cI cZ bd u (xs (4 * j + 1)) (64 * j) inv) hK (cwV 1 hts gL_law_X2_deliver rfl rfl rfl (by decide +kernel) ⟨Nat.le_of_ble_eq_true rfl, Nat.le_of_ble_eq_true rfl⟩) hN hP hD hS hA [0, 1, 2, 3, 4, 5, 6, 7, 8] [9, 10, 11, 12, 13, 14, 15, 16, 17] rfl rfl rfl (by decide) (by decide) (by decide) 0 2 rfl rfl rfl rfl hl.1 rfl (Nat.le_of_ble_eq_true rfl) ⟨Nat.le_of_ble_eq_true rfl, Nat.le_of_ble_eq_true rfl⟩ dL_law_416 (fun H locs hP hD hS => ?_)
  refine lv_icmp_eq (tgt := 700) hx hb dL_law_419 (by decide) (fun c_1 => ?_) (fun c_1 => ?_)
  · exact kk (delS u (xs (4 * j + 1))) _ _ (inv_up (Inv_delS inv _ (by omega))) hP hD hS ls hl
  · exact absurd rfl c_1
set_option maxRecDepth 100000 in
set_option maxHeartbeats 4000000 in
theorem lw_c8 {p : Program} {l : Launch} {e : Env} {s : State} {m : MethodId} {below : List Frame} {meth : Method} {c : Code} {D : va_G} {cI cZ : ClassId} {ad bd : Nat → Nat} {b L : Nat} {xs : Nat → Int32} {u : XS} {j : Nat} (hL : L ≤ 2048) (C0 : lw_At p s m meth c b L xs) (hK : va_K D vwCl [(cI, .int), (cZ, .boolean)] s) (hN : lhN s) (inv : Inv (64 * j) u) (hlt : 4 * j + 3 < L) {H : Heap} {locs : List Loc} (hP : va_P D vwCl (wX cI ad u ++ wM cI cZ bd u) H) (hD : va_D (fun q : Nat => s.heap.size ≤ q) (wX cI ad u ++ wM cI cZ bd u)) (hS : va_S (fun q : Nat => s.heap.size ≤ q) s.heap H locs) {ls : Array Slot} (hl : lv_has ls 4 [(3, .int (nI (4 * j))), (2, .ref (bd 0)), (1, .ref (ad 0)), (0, .ref b)]) (kk : ∀ (u1 : XS) (H : Heap) (locs : List Loc), Inv (64 * (j + 1)) u1 → va_P D vwCl (wX cI ad u1 ++ wM cI cZ bd u1) H → va_D (fun q : Nat => s.heap.size ≤ q) (wX cI ad u1 ++ wM cI cZ bd u1) → va_S (fun q : Nat => s.heap.size ≤ q) s.heap H locs → ∀ (ls : Array Slot), lv_has ls 4 [(3, .int (nI (4 * j))), (2, .ref (bd 0)), (1, .ref (ad 0)), (0, .ref b)] → W p l e room_1 s m #[Value.ref b] below meth c H locs 18 2283 (lw_Z below #[Value.ref b] s) (F0 m 700 ls [])) : W p l e room_1 s m #[Value.ref b] below meth c H locs 18 2283 (lw_Z below #[Value.ref b] s) (F0 m 424 ls []) := by
  obtain ⟨hx, hb, hr, hml, hown, hts0, hX, hbl, hlocks, hgv⟩ := id C0
  have hts := fun w h => hts0 w (wsL_law_in w h)
  have hA : ∀ q : Nat, s.heap.size ≤ q → (fun q : Nat => s.heap.size ≤ q) q := fun _ h => h
  have hbA : ¬ (fun q : Nat => s.heap.size ≤ q) b := Nat.not_le.mpr hbl
  refine lv_aload_n hx hb dL_law_424 rfl (lv_at hl 2 rfl) ?_
  refine lv_aload_n hx hb dL_law_425 rfl (lv_at hl 3 rfl) ?_
  refine lv_iload_n hx hb dL_law_426 rfl (lv_at hl 0 rfl) ?_
  refine lv_iconst (v := nI 1) hx hb dL_law_427 (by decide) ?_
  refine lv_iadd hx hb dL_law_428 ?_
  refine lh_top (y := nI (4 * j + 1)) (nI_add _ _) ?_
  refine lh_sld (k := 4 * j + 1) hx hb hX hbl hbA hS (by omega) hL dL_law_429 ?_
  refine lv_aload_n hx hb dL_law_430 rfl (lv_at hl 3 rfl) ?_
  refine lv_iload_n hx hb dL_law_431 rfl (lv_at hl 0 rfl) ?_
  refine lv_iconst (v := nI 2) hx hb dL_law_432 (by decide) ?_
  refine lv_iadd hx hb dL_law_433 ?_
  refine lh_top (y := nI (4 * j + 2)) (nI_add _ _) ?_
  refine lh_sld (k := 4 * j + 2) hx hb hX hbl hbA hS (by omega) hL dL_law_434 ?_
  refine lh_pVi (wr := wM cI cZ bd u) ⟨hx, hb, hml, hown, hts⟩ (kX1_letter l D cI ad u (xs (4 * j + 1)) (xs (4 * j + 2)) (64 * j) inv) (hK.sub [0] rfl) (cwV 2 hts gL_law_X1_letter rfl rfl rfl (by decide +kernel) ⟨Nat.le_of_ble_eq_true rfl, Nat.le_of_ble_eq_true rfl⟩) hN hP hD hS hA [0, 1, 2, 3, 4, 5, 6, 7, 8] [9, 10, 11, 12, 13, 14, 15, 16, 17] rfl rfl rfl (by decide) (by decide) (by decide) 0 1 rfl rfl rfl rfl hl.1 rfl (Nat.le_of_ble_eq_true rfl) ⟨Nat.le_of_ble_eq_true rfl, Nat.le_of_ble_eq_true rfl⟩ dL_law_435 (fun H locs hP hD hS => ?_)
  refine lv_aload_n hx hb dL_law_438 rfl (lv_at hl 1 rfl) ?_
  refine lv_aload_n hx hb dL_law_439 rfl (lv_at hl 3 rfl) ?_
  refine lv_iload_n hx hb dL_law_440 rfl (lv_at hl 0 rfl) ?_
  refine lv_iconst (v := nI 1) hx hb dL_law_441 (by decide) ?_
  refine lv_iadd hx hb dL_law_442 ?_
  refine lh_top (y := nI (4 * j + 1)) (nI_add _ _) ?_
  refine lh_sld (k := 4 * j + 1) hx hb hX hbl hbA hS (by omega) hL dL_law_443 ?_
  refine lv_aload_n hx hb dL_law_444 rfl (lv_at hl 3 rfl) ?_
  refine lv_iload_n hx hb dL_law_445 rfl (lv_at hl 0 rfl) ?_
  refine lv_iconst (v := nI 2) hx hb dL_law_446 (by decide) ?_
  refine lv_iadd hx hb dL_law_447 ?_
  refine lh_top (y := nI (4 * j + 2)) (nI_add _ _) ?_
  refine lh_sld (k := 4 * j + 2) hx hb hX hbl hbA hS (by omega) hL dL_law_448 ?_
  refine lh_pVi (wr := wX cI ad u) ⟨hx, hb, hml, hown, hts⟩ (kX2_letter l D cI cZ bd u (xs (4 * j + 1)) (xs (4 * j + 2)) (64 * j) inv) hK (cwV 2 hts gL_law_X2_letter rfl rfl rfl (by decide +kernel) ⟨Nat.le_of_ble_eq_true rfl, Nat.le_of_ble_eq_true rfl⟩) hN hP hD hS hA [0, 1, 2, 3, 4, 5, 6, 7, 8] [9, 10, 11, 12, 13, 14, 15, 16, 17] rfl rfl rfl (by decide) (by decide) (by decide) 0 2 rfl rfl rfl rfl hl.1 rfl (Nat.le_of_ble_eq_true rfl) ⟨Nat.le_of_ble_eq_true rfl, Nat.le_of_ble_eq_true rfl⟩ dL_law_449 (fun H locs hP hD hS => ?_)
  refine lv_icmp_eq (tgt := 700) hx hb dL_law_452 (by decide) (fun c_1 => ?_) (fun c_1 => ?_)
  · exact kk u _ _ (inv_up inv) hP hD hS ls hl
  · exact absurd rfl c_1
set_option maxRecDepth 100000 in
set_option maxHeartbeats 4000000 in
theorem lw_c9 {p : Program} {l : Launch} {e : Env} {s : State} {m : MethodId} {below : List Frame} {meth : Method} {c : Code} {D : va_G} {cI cZ : ClassId} {ad bd : Nat → Nat} {b L : Nat} {xs : Nat → Int32} {u : XS} {j : Nat} (hL : L ≤ 2048) (C0 : lw_At p s m meth c b L xs) (hK : va_K D vwCl [(cI, .int), (cZ, .boolean)] s) (hN : lhN s) (inv : Inv (64 * j) u) (hlt : 4 * j + 3 < L) {H : Heap} {locs : List Loc} (hP : va_P D vwCl (wX cI ad u ++ wM cI cZ bd u) H) (hD : va_D (fun q : Nat => s.heap.size ≤ q) (wX cI ad u ++ wM cI cZ bd u)) (hS : va_S (fun q : Nat => s.heap.size ≤ q) s.heap H locs) {ls : Array Slot} (hl : lv_has ls 4 [(3, .int (nI (4 * j))), (2, .ref (bd 0)), (1, .ref (ad 0)), (0, .ref b)]) (kk : ∀ (u1 : XS) (H : Heap) (locs : List Loc), Inv (64 * (j + 1)) u1 → va_P D vwCl (wX cI ad u1 ++ wM cI cZ bd u1) H → va_D (fun q : Nat => s.heap.size ≤ q) (wX cI ad u1 ++ wM cI cZ bd u1) → va_S (fun q : Nat => s.heap.size ≤ q) s.heap H locs → ∀ (ls : Array Slot), lv_has ls 4 [(3, .int (nI (4 * j))), (2, .ref (bd 0)), (1, .ref (ad 0)), (0, .ref b)] → W p l e room_1 s m #[Value.ref b] below meth c H locs 18 2283 (lw_Z below #[Value.ref b] s) (F0 m 700 ls [])) : W p l e room_1 s m #[Value.ref b] below meth c H locs 18 2283 (lw_Z below #[Value.ref b] s) (F0 m 457 ls []) := by
  obtain ⟨hx, hb, hr, hml, hown, hts0, hX, hbl, hlocks, hgv⟩ := id C0
  have hts := fun w h => hts0 w (wsL_law_in w h)
  have hA : ∀ q : Nat, s.heap.size ≤ q → (fun q : Nat => s.heap.size ≤ q) q := fun _ h => h
  have hbA : ¬ (fun q : Nat => s.heap.size ≤ q) b := Nat.not_le.mpr hbl
  refine lv_aload_n hx hb dL_law_457 rfl (lv_at hl 2 rfl) ?_
  refine lv_aload_n hx hb dL_law_458 rfl (lv_at hl 3 rfl) ?_
  refine lv_iload_n hx hb dL_law_459 rfl (lv_at hl 0 rfl) ?_
  refine lv_iconst (v := nI 1) hx hb dL_law_460 (by decide) ?_
  refine lv_iadd hx hb dL_law_461 ?_
  refine lh_top (y := nI (4 * j + 1)) (nI_add _ _) ?_
  refine lh_sld (k := 4 * j + 1) hx hb hX hbl hbA hS (by omega) hL dL_law_462 ?_
  refine lh_pVi (wr := wM cI cZ bd u) ⟨hx, hb, hml, hown, hts⟩ (kX1_collect l D cI ad u (xs (4 * j + 1)) (64 * j) inv) (hK.sub [0] rfl) (cwV 1 hts gL_law_X1_collect rfl rfl rfl (by decide +kernel) ⟨Nat.le_of_ble_eq_true rfl, Nat.le_of_ble_eq_true rfl⟩) hN hP hD hS hA [0, 1, 2, 3, 4, 5, 6, 7, 8] [9, 10, 11, 12, 13, 14, 15, 16, 17] rfl rfl rfl (by decide) (by decide) (by decide) 0 1 rfl rfl rfl rfl hl.1 rfl (Nat.le_of_ble_eq_true rfl) ⟨Nat.le_of_ble_eq_true rfl, Nat.le_of_ble_eq_true rfl⟩ dL_law_463 (fun H locs hP hD hS => ?_)
  refine lv_aload_n hx hb dL_law_466 rfl (lv_at hl 1 rfl) ?_
  refine lv_aload_n hx hb dL_law_467 rfl (lv_at hl 3 rfl) ?_
  refine lv_iload_n hx hb dL_law_468 rfl (lv_at hl 0 rfl) ?_
  refine lv_iconst (v := nI 1) hx hb dL_law_469 (by decide) ?_
  refine lv_iadd hx hb dL_law_470 ?_
  refine lh_top (y := nI (4 * j + 1)) (nI_add _ _) ?_
  refine lh_sld (k := 4 * j + 1) hx hb hX hbl hbA hS (by omega) hL dL_law_471 ?_
  refine lh_pVi (wr := wX cI ad (clcS u (xs (4 * j + 1)))) ⟨hx, hb, hml, hown, hts⟩ (kX2_collect l D cI cZ bd u (xs (4 * j + 1)) (64 * j) inv) hK (cwV 1 hts gL_law_X2_collect rfl rfl rfl (by decide +kernel) ⟨Nat.le_of_ble_eq_true rfl, Nat.le_of_ble_eq_true rfl⟩) hN hP hD hS hA [0, 1, 2, 3, 4, 5, 6, 7, 8] [9, 10, 11, 12, 13, 14, 15, 16, 17] rfl rfl rfl (by decide) (by decide) (by decide) 0 2 rfl rfl rfl rfl hl.1 rfl (Nat.le_of_ble_eq_true rfl) ⟨Nat.le_of_ble_eq_true rfl, Nat.le_of_ble_eq_true rfl⟩ dL_law_472 (fun H locs hP hD hS => ?_)
  refine lv_icmp_eq (tgt := 700) hx hb dL_law_475 (by decide) (fun c_1 => ?_) (fun c_1 => ?_)
  · exact kk (clcS u (xs (4 * j + 1))) _ _ (inv_up (Inv_clcS inv _)) hP hD hS ls hl
  · exact absurd rfl c_1
set_option maxRecDepth 100000 in
set_option maxHeartbeats 4000000 in
theorem lw_c10 {p : Program} {l : Launch} {e : Env} {s : State} {m : MethodId} {below : List Frame} {meth : Method} {c : Code} {D : va_G} {cI cZ : ClassId} {ad bd : Nat → Nat} {b L : Nat} {xs : Nat → Int32} {u : XS} {j : Nat} (hL : L ≤ 2048) (C0 : lw_At p s m meth c b L xs) (hK : va_K D vwCl [(cI, .int), (cZ, .boolean)] s) (hN : lhN s) (inv : Inv (64 * j) u) (hlt : 4 * j + 3 < L) {H : Heap} {locs : List Loc} (hP : va_P D vwCl (wX cI ad u ++ wM cI cZ bd u) H) (hD : va_D (fun q : Nat => s.heap.size ≤ q) (wX cI ad u ++ wM cI cZ bd u)) (hS : va_S (fun q : Nat => s.heap.size ≤ q) s.heap H locs) {ls : Array Slot} (hl : lv_has ls 4 [(3, .int (nI (4 * j))), (2, .ref (bd 0)), (1, .ref (ad 0)), (0, .ref b)]) (kk : ∀ (u1 : XS) (H : Heap) (locs : List Loc), Inv (64 * (j + 1)) u1 → va_P D vwCl (wX cI ad u1 ++ wM cI cZ bd u1) H → va_D (fun q : Nat => s.heap.size ≤ q) (wX cI ad u1 ++ wM cI cZ bd u1) → va_S (fun q : Nat => s.heap.size ≤ q) s.heap H locs → ∀ (ls : Array Slot), lv_has ls 4 [(3, .int (nI (4 * j))), (2, .ref (bd 0)), (1, .ref (ad 0)), (0, .ref b)] → W p l e room_1 s m #[Value.ref b] below meth c H locs 18 2283 (lw_Z below #[Value.ref b] s) (F0 m 700 ls [])) : W p l e room_1 s m #[Value.ref b] below meth c H locs 18 2283 (lw_Z below #[Value.ref b] s) (F0 m 480 ls []) := by
  obtain ⟨hx, hb, hr, hml, hown, hts0, hX, hbl, hlocks, hgv⟩ := id C0
  have hts := fun w h => hts0 w (wsL_law_in w h)
  have hA : ∀ q : Nat, s.heap.size ≤ q → (fun q : Nat => s.heap.size ≤ q) q := fun _ h => h
  have hbA : ¬ (fun q : Nat => s.heap.size ≤ q) b := Nat.not_le.mpr hbl
  refine lv_aload_n hx hb dL_law_480 rfl (lv_at hl 2 rfl) ?_
  refine lv_aload_n hx hb dL_law_481 rfl (lv_at hl 3 rfl) ?_
  refine lv_iload_n hx hb dL_law_482 rfl (lv_at hl 0 rfl) ?_
  refine lv_iconst (v := nI 1) hx hb dL_law_483 (by decide) ?_
  refine lv_iadd hx hb dL_law_484 ?_
  refine lh_top (y := nI (4 * j + 1)) (nI_add _ _) ?_
  refine lh_sld (k := 4 * j + 1) hx hb hX hbl hbA hS (by omega) hL dL_law_485 ?_
  refine lh_pVi (wr := wM cI cZ bd u) ⟨hx, hb, hml, hown, hts⟩ (kX1_stays l D cI ad u (xs (4 * j + 1)) (64 * j) inv) (hK.sub [0] rfl) (cwV 1 hts gL_law_X1_stays rfl rfl rfl (by decide +kernel) ⟨Nat.le_of_ble_eq_true rfl, Nat.le_of_ble_eq_true rfl⟩) hN hP hD hS hA [0, 1, 2, 3, 4, 5, 6, 7, 8] [9, 10, 11, 12, 13, 14, 15, 16, 17] rfl rfl rfl (by decide) (by decide) (by decide) 0 1 rfl rfl rfl rfl hl.1 rfl (Nat.le_of_ble_eq_true rfl) ⟨Nat.le_of_ble_eq_true rfl, Nat.le_of_ble_eq_true rfl⟩ dL_law_486 (fun H locs hP hD hS => ?_)
  refine lv_aload_n hx hb dL_law_489 rfl (lv_at hl 1 rfl) ?_
  refine lv_aload_n hx hb dL_law_490 rfl (lv_at hl 3 rfl) ?_
  refine lv_iload_n hx hb dL_law_491 rfl (lv_at hl 0 rfl) ?_
  refine lv_iconst (v := nI 1) hx hb dL_law_492 (by decide) ?_
  refine lv_iadd hx hb dL_law_493 ?_
  refine lh_top (y := nI (4 * j + 1)) (nI_add _ _) ?_
  refine lh_sld (k := 4 * j + 1) hx hb hX hbl hbA hS (by omega) hL dL_law_494 ?_
  refine lh_pVi (wr := wX cI ad u) ⟨hx, hb, hml, hown, hts⟩ (kX2_stays l D cI cZ bd u (xs (4 * j + 1)) (64 * j) inv) hK (cwV 1 hts gL_law_X2_stays rfl rfl rfl (by decide +kernel) ⟨Nat.le_of_ble_eq_true rfl, Nat.le_of_ble_eq_true rfl⟩) hN hP hD hS hA [0, 1, 2, 3, 4, 5, 6, 7, 8] [9, 10, 11, 12, 13, 14, 15, 16, 17] rfl rfl rfl (by decide) (by decide) (by decide) 0 2 rfl rfl rfl rfl hl.1 rfl (Nat.le_of_ble_eq_true rfl) ⟨Nat.le_of_ble_eq_true rfl, Nat.le_of_ble_eq_true rfl⟩ dL_law_495 (fun H locs hP hD hS => ?_)
  refine lv_icmp_eq (tgt := 700) hx hb dL_law_498 (by decide) (fun c_1 => ?_) (fun c_1 => ?_)
  · exact kk u _ _ (inv_up inv) hP hD hS ls hl
  · exact absurd rfl c_1
set_option maxRecDepth 100000 in
set_option maxHeartbeats 4000000 in
theorem lw_c11 {p : Program} {l : Launch} {e : Env} {s : State} {m : MethodId} {below : List Frame} {meth : Method} {c : Code} {D : va_G} {cI cZ : ClassId} {ad bd : Nat → Nat} {b L : Nat} {xs : Nat → Int32} {u : XS} {j : Nat} (hL : L ≤ 2048) (C0 : lw_At p s m meth c b L xs) (hK : va_K D vwCl [(cI, .int), (cZ, .boolean)] s) (hN : lhN s) (inv : Inv (64 * j) u) (hlt : 4 * j + 3 < L) {H : Heap} {locs : List Loc} (hP : va_P D vwCl (wX cI ad u ++ wM cI cZ bd u) H) (hD : va_D (fun q : Nat => s.heap.size ≤ q) (wX cI ad u ++ wM cI cZ bd u)) (hS : va_S (fun q : Nat => s.heap.size ≤ q) s.heap H locs) {ls : Array Slot} (hl : lv_has ls 4 [(3, .int (nI (4 * j))), (2, .ref (bd 0)), (1, .ref (ad 0)), (0, .ref b)]) (kk : ∀ (u1 : XS) (H : Heap) (locs : List Loc), Inv (64 * (j + 1)) u1 → va_P D vwCl (wX cI ad u1 ++ wM cI cZ bd u1) H → va_D (fun q : Nat => s.heap.size ≤ q) (wX cI ad u1 ++ wM cI cZ bd u1) → va_S (fun q : Nat => s.heap.size ≤ q) s.heap H locs → ∀ (ls : Array Slot), lv_has ls 4 [(3, .int (nI (4 * j))), (2, .ref (bd 0)), (1, .ref (ad 0)), (0, .ref b)] → W p l e room_1 s m #[Value.ref b] below meth c H locs 18 2283 (lw_Z below #[Value.ref b] s) (F0 m 700 ls [])) : W p l e room_1 s m #[Value.ref b] below meth c H locs 18 2283 (lw_Z below #[Value.ref b] s) (F0 m 503 ls []) := by
  obtain ⟨hx, hb, hr, hml, hown, hts0, hX, hbl, hlocks, hgv⟩ := id C0
  have hts := fun w h => hts0 w (wsL_law_in w h)
  have hA : ∀ q : Nat, s.heap.size ≤ q → (fun q : Nat => s.heap.size ≤ q) q := fun _ h => h
  have hbA : ¬ (fun q : Nat => s.heap.size ≤ q) b := Nat.not_le.mpr hbl
  refine lv_aload_n hx hb dL_law_503 rfl (lv_at hl 2 rfl) ?_
  refine lv_aload_n hx hb dL_law_504 rfl (lv_at hl 3 rfl) ?_
  refine lv_iload_n hx hb dL_law_505 rfl (lv_at hl 0 rfl) ?_
  refine lv_iconst (v := nI 1) hx hb dL_law_506 (by decide) ?_
  refine lv_iadd hx hb dL_law_507 ?_
  refine lh_top (y := nI (4 * j + 1)) (nI_add _ _) ?_
  refine lh_sld (k := 4 * j + 1) hx hb hX hbl hbA hS (by omega) hL dL_law_508 ?_
  refine lv_aload_n hx hb dL_law_509 rfl (lv_at hl 3 rfl) ?_
  refine lv_iload_n hx hb dL_law_510 rfl (lv_at hl 0 rfl) ?_
  refine lv_iconst (v := nI 2) hx hb dL_law_511 (by decide) ?_
  refine lv_iadd hx hb dL_law_512 ?_
  refine lh_top (y := nI (4 * j + 2)) (nI_add _ _) ?_
  refine lh_sld (k := 4 * j + 2) hx hb hX hbl hbA hS (by omega) hL dL_law_513 ?_
  refine lh_pVi (wr := wM cI cZ bd u) ⟨hx, hb, hml, hown, hts⟩ (kX1_old l D cI ad u (xs (4 * j + 1)) (xs (4 * j + 2)) (64 * j) inv) (hK.sub [0] rfl) (cwV 2 hts gL_law_X1_old rfl rfl rfl (by decide +kernel) ⟨Nat.le_of_ble_eq_true rfl, Nat.le_of_ble_eq_true rfl⟩) hN hP hD hS hA [0, 1, 2, 3, 4, 5, 6, 7, 8] [9, 10, 11, 12, 13, 14, 15, 16, 17] rfl rfl rfl (by decide) (by decide) (by decide) 0 1 rfl rfl rfl rfl hl.1 rfl (Nat.le_of_ble_eq_true rfl) ⟨Nat.le_of_ble_eq_true rfl, Nat.le_of_ble_eq_true rfl⟩ dL_law_514 (fun H locs hP hD hS => ?_)
  refine lv_aload_n hx hb dL_law_517 rfl (lv_at hl 1 rfl) ?_
  refine lv_aload_n hx hb dL_law_518 rfl (lv_at hl 3 rfl) ?_
  refine lv_iload_n hx hb dL_law_519 rfl (lv_at hl 0 rfl) ?_
  refine lv_iconst (v := nI 1) hx hb dL_law_520 (by decide) ?_
  refine lv_iadd hx hb dL_law_521 ?_
  refine lh_top (y := nI (4 * j + 1)) (nI_add _ _) ?_
  refine lh_sld (k := 4 * j + 1) hx hb hX hbl hbA hS (by omega) hL dL_law_522 ?_
  refine lv_aload_n hx hb dL_law_523 rfl (lv_at hl 3 rfl) ?_
  refine lv_iload_n hx hb dL_law_524 rfl (lv_at hl 0 rfl) ?_
  refine lv_iconst (v := nI 2) hx hb dL_law_525 (by decide) ?_
  refine lv_iadd hx hb dL_law_526 ?_
  refine lh_top (y := nI (4 * j + 2)) (nI_add _ _) ?_
  refine lh_sld (k := 4 * j + 2) hx hb hX hbl hbA hS (by omega) hL dL_law_527 ?_
  refine lh_pVi (wr := wX cI ad u) ⟨hx, hb, hml, hown, hts⟩ (kX2_old l D cI cZ bd u (xs (4 * j + 1)) (xs (4 * j + 2)) (64 * j) inv) hK (cwV 2 hts gL_law_X2_old rfl rfl rfl (by decide +kernel) ⟨Nat.le_of_ble_eq_true rfl, Nat.le_of_ble_eq_true rfl⟩) hN hP hD hS hA [0, 1, 2, 3, 4, 5, 6, 7, 8] [9, 10, 11, 12, 13, 14, 15, 16, 17] rfl rfl rfl (by decide) (by decide) (by decide) 0 2 rfl rfl rfl rfl hl.1 rfl (Nat.le_of_ble_eq_true rfl) ⟨Nat.le_of_ble_eq_true rfl, Nat.le_of_ble_eq_true rfl⟩ dL_law_528 (fun H locs hP hD hS => ?_)
  refine lv_icmp_eq (tgt := 700) hx hb dL_law_531 (by decide) (fun c_1 => ?_) (fun c_1 => ?_)
  · exact kk u _ _ (inv_up inv) hP hD hS ls hl
  · exact absurd rfl c_1
set_option maxRecDepth 100000 in
set_option maxHeartbeats 4000000 in
theorem lw_c12 {p : Program} {l : Launch} {e : Env} {s : State} {m : MethodId} {below : List Frame} {meth : Method} {c : Code} {D : va_G} {cI cZ : ClassId} {ad bd : Nat → Nat} {b L : Nat} {xs : Nat → Int32} {u : XS} {j : Nat} (hL : L ≤ 2048) (C0 : lw_At p s m meth c b L xs) (hK : va_K D vwCl [(cI, .int), (cZ, .boolean)] s) (hN : lhN s) (inv : Inv (64 * j) u) (hlt : 4 * j + 3 < L) {H : Heap} {locs : List Loc} (hP : va_P D vwCl (wX cI ad u ++ wM cI cZ bd u) H) (hD : va_D (fun q : Nat => s.heap.size ≤ q) (wX cI ad u ++ wM cI cZ bd u)) (hS : va_S (fun q : Nat => s.heap.size ≤ q) s.heap H locs) {ls : Array Slot} (hl : lv_has ls 4 [(3, .int (nI (4 * j))), (2, .ref (bd 0)), (1, .ref (ad 0)), (0, .ref b)]) (kk : ∀ (u1 : XS) (H : Heap) (locs : List Loc), Inv (64 * (j + 1)) u1 → va_P D vwCl (wX cI ad u1 ++ wM cI cZ bd u1) H → va_D (fun q : Nat => s.heap.size ≤ q) (wX cI ad u1 ++ wM cI cZ bd u1) → va_S (fun q : Nat => s.heap.size ≤ q) s.heap H locs → ∀ (ls : Array Slot), lv_has ls 4 [(3, .int (nI (4 * j))), (2, .ref (bd 0)), (1, .ref (ad 0)), (0, .ref b)] → W p l e room_1 s m #[Value.ref b] below meth c H locs 18 2283 (lw_Z below #[Value.ref b] s) (F0 m 700 ls [])) : W p l e room_1 s m #[Value.ref b] below meth c H locs 18 2283 (lw_Z below #[Value.ref b] s) (F0 m 536 ls []) := by
  obtain ⟨hx, hb, hr, hml, hown, hts0, hX, hbl, hlocks, hgv⟩ := id C0
  have hts := fun w h => hts0 w (wsL_law_in w h)
  have hA : ∀ q : Nat, s.heap.size ≤ q → (fun q : Nat => s.heap.size ≤ q) q := fun _ h => h
  have hbA : ¬ (fun q : Nat => s.heap.size ≤ q) b := Nat.not_le.mpr hbl
  refine lv_aload_n hx hb dL_law_536 rfl (lv_at hl 2 rfl) ?_
  refine lv_aload_n hx hb dL_law_537 rfl (lv_at hl 3 rfl) ?_
  refine lv_iload_n hx hb dL_law_538 rfl (lv_at hl 0 rfl) ?_
  refine lv_iconst (v := nI 1) hx hb dL_law_539 (by decide) ?_
  refine lv_iadd hx hb dL_law_540 ?_
  refine lh_top (y := nI (4 * j + 1)) (nI_add _ _) ?_
  refine lh_sld (k := 4 * j + 1) hx hb hX hbl hbA hS (by omega) hL dL_law_541 ?_
  refine lh_pVi (wr := wM cI cZ bd u) ⟨hx, hb, hml, hown, hts⟩ (kX1_trace l D cI ad u (xs (4 * j + 1)) (64 * j) inv) (hK.sub [0] rfl) (cwV 1 hts gL_law_X1_trace rfl rfl rfl (by decide +kernel) ⟨Nat.le_of_ble_eq_true rfl, Nat.le_of_ble_eq_true rfl⟩) hN hP hD hS hA [0, 1, 2, 3, 4, 5, 6, 7, 8] [9, 10, 11, 12, 13, 14, 15, 16, 17] rfl rfl rfl (by decide) (by decide) (by decide) 0 1 rfl rfl rfl rfl hl.1 rfl (Nat.le_of_ble_eq_true rfl) ⟨Nat.le_of_ble_eq_true rfl, Nat.le_of_ble_eq_true rfl⟩ dL_law_542 (fun H locs hP hD hS => ?_)
  refine lv_aload_n hx hb dL_law_545 rfl (lv_at hl 1 rfl) ?_
  refine lv_aload_n hx hb dL_law_546 rfl (lv_at hl 3 rfl) ?_
  refine lv_iload_n hx hb dL_law_547 rfl (lv_at hl 0 rfl) ?_
  refine lv_iconst (v := nI 1) hx hb dL_law_548 (by decide) ?_
  refine lv_iadd hx hb dL_law_549 ?_
  refine lh_top (y := nI (4 * j + 1)) (nI_add _ _) ?_
  refine lh_sld (k := 4 * j + 1) hx hb hX hbl hbA hS (by omega) hL dL_law_550 ?_
  refine lh_pVi (wr := wX cI ad (traS u (xs (4 * j + 1)))) ⟨hx, hb, hml, hown, hts⟩ (kX2_trace l D cI cZ bd u (xs (4 * j + 1)) (64 * j) inv) hK (cwV 1 hts gL_law_X2_trace rfl rfl rfl (by decide +kernel) ⟨Nat.le_of_ble_eq_true rfl, Nat.le_of_ble_eq_true rfl⟩) hN hP hD hS hA [0, 1, 2, 3, 4, 5, 6, 7, 8] [9, 10, 11, 12, 13, 14, 15, 16, 17] rfl rfl rfl (by decide) (by decide) (by decide) 0 2 rfl rfl rfl rfl hl.1 rfl (Nat.le_of_ble_eq_true rfl) ⟨Nat.le_of_ble_eq_true rfl, Nat.le_of_ble_eq_true rfl⟩ dL_law_551 (fun H locs hP hD hS => ?_)
  refine lv_icmp_eq (tgt := 700) hx hb dL_law_554 (by decide) (fun c_1 => ?_) (fun c_1 => ?_)
  · exact kk (traS u (xs (4 * j + 1))) _ _ (inv_up (Inv_traS inv _)) hP hD hS ls hl
  · exact absurd rfl c_1
set_option maxRecDepth 100000 in
set_option maxHeartbeats 4000000 in
theorem lw_c13 {p : Program} {l : Launch} {e : Env} {s : State} {m : MethodId} {below : List Frame} {meth : Method} {c : Code} {D : va_G} {cI cZ : ClassId} {ad bd : Nat → Nat} {b L : Nat} {xs : Nat → Int32} {u : XS} {j : Nat} (hL : L ≤ 2048) (C0 : lw_At p s m meth c b L xs) (hK : va_K D vwCl [(cI, .int), (cZ, .boolean)] s) (hN : lhN s) (inv : Inv (64 * j) u) (hlt : 4 * j + 3 < L) {H : Heap} {locs : List Loc} (hP : va_P D vwCl (wX cI ad u ++ wM cI cZ bd u) H) (hD : va_D (fun q : Nat => s.heap.size ≤ q) (wX cI ad u ++ wM cI cZ bd u)) (hS : va_S (fun q : Nat => s.heap.size ≤ q) s.heap H locs) {ls : Array Slot} (hl : lv_has ls 4 [(3, .int (nI (4 * j))), (2, .ref (bd 0)), (1, .ref (ad 0)), (0, .ref b)]) (kk : ∀ (u1 : XS) (H : Heap) (locs : List Loc), Inv (64 * (j + 1)) u1 → va_P D vwCl (wX cI ad u1 ++ wM cI cZ bd u1) H → va_D (fun q : Nat => s.heap.size ≤ q) (wX cI ad u1 ++ wM cI cZ bd u1) → va_S (fun q : Nat => s.heap.size ≤ q) s.heap H locs → ∀ (ls : Array Slot), lv_has ls 4 [(3, .int (nI (4 * j))), (2, .ref (bd 0)), (1, .ref (ad 0)), (0, .ref b)] → W p l e room_1 s m #[Value.ref b] below meth c H locs 18 2283 (lw_Z below #[Value.ref b] s) (F0 m 700 ls [])) : W p l e room_1 s m #[Value.ref b] below meth c H locs 18 2283 (lw_Z below #[Value.ref b] s) (F0 m 559 ls []) := by
  obtain ⟨hx, hb, hr, hml, hown, hts0, hX, hbl, hlocks, hgv⟩ := id C0
  have hts := fun w h => hts0 w (wsL_law_in w h)
  have hA : ∀ q : Nat, s.heap.size ≤ q → (fun q : Nat => s.heap.size ≤ q) q := fun _ h => h
  have hbA : ¬ (fun q : Nat => s.heap.size ≤ q) b := Nat.not_le.mpr hbl
  refine lv_aload_n hx hb dL_law_559 rfl (lv_at hl 2 rfl) ?_
  refine lv_aload_n hx hb dL_law_560 rfl (lv_at hl 3 rfl) ?_
  refine lv_iload_n hx hb dL_law_561 rfl (lv_at hl 0 rfl) ?_
  refine lv_iconst (v := nI 1) hx hb dL_law_562 (by decide) ?_
  refine lv_iadd hx hb dL_law_563 ?_
  refine lh_top (y := nI (4 * j + 1)) (nI_add _ _) ?_
  refine lh_sld (k := 4 * j + 1) hx hb hX hbl hbA hS (by omega) hL dL_law_564 ?_
  refine lv_aload_n hx hb dL_law_565 rfl (lv_at hl 3 rfl) ?_
  refine lv_iload_n hx hb dL_law_566 rfl (lv_at hl 0 rfl) ?_
  refine lv_iconst (v := nI 2) hx hb dL_law_567 (by decide) ?_
  refine lv_iadd hx hb dL_law_568 ?_
  refine lh_top (y := nI (4 * j + 2)) (nI_add _ _) ?_
  refine lh_sld (k := 4 * j + 2) hx hb hX hbl hbA hS (by omega) hL dL_law_569 ?_
  refine lh_pVi (wr := wM cI cZ bd u) ⟨hx, hb, hml, hown, hts⟩ (kX1_back l D cI ad u (xs (4 * j + 1)) (xs (4 * j + 2)) (64 * j) inv) (hK.sub [0] rfl) (cwV 2 hts gL_law_X1_back rfl rfl rfl (by decide +kernel) ⟨Nat.le_of_ble_eq_true rfl, Nat.le_of_ble_eq_true rfl⟩) hN hP hD hS hA [0, 1, 2, 3, 4, 5, 6, 7, 8] [9, 10, 11, 12, 13, 14, 15, 16, 17] rfl rfl rfl (by decide) (by decide) (by decide) 0 1 rfl rfl rfl rfl hl.1 rfl (Nat.le_of_ble_eq_true rfl) ⟨Nat.le_of_ble_eq_true rfl, Nat.le_of_ble_eq_true rfl⟩ dL_law_570 (fun H locs hP hD hS => ?_)
  refine lv_aload_n hx hb dL_law_573 rfl (lv_at hl 1 rfl) ?_
  refine lv_aload_n hx hb dL_law_574 rfl (lv_at hl 3 rfl) ?_
  refine lv_iload_n hx hb dL_law_575 rfl (lv_at hl 0 rfl) ?_
  refine lv_iconst (v := nI 1) hx hb dL_law_576 (by decide) ?_
  refine lv_iadd hx hb dL_law_577 ?_
  refine lh_top (y := nI (4 * j + 1)) (nI_add _ _) ?_
  refine lh_sld (k := 4 * j + 1) hx hb hX hbl hbA hS (by omega) hL dL_law_578 ?_
  refine lv_aload_n hx hb dL_law_579 rfl (lv_at hl 3 rfl) ?_
  refine lv_iload_n hx hb dL_law_580 rfl (lv_at hl 0 rfl) ?_
  refine lv_iconst (v := nI 2) hx hb dL_law_581 (by decide) ?_
  refine lv_iadd hx hb dL_law_582 ?_
  refine lh_top (y := nI (4 * j + 2)) (nI_add _ _) ?_
  refine lh_sld (k := 4 * j + 2) hx hb hX hbl hbA hS (by omega) hL dL_law_583 ?_
  refine lh_pVi (wr := wX cI ad u) ⟨hx, hb, hml, hown, hts⟩ (kX2_back l D cI cZ bd u (xs (4 * j + 1)) (xs (4 * j + 2)) (64 * j) inv) hK (cwV 2 hts gL_law_X2_back rfl rfl rfl (by decide +kernel) ⟨Nat.le_of_ble_eq_true rfl, Nat.le_of_ble_eq_true rfl⟩) hN hP hD hS hA [0, 1, 2, 3, 4, 5, 6, 7, 8] [9, 10, 11, 12, 13, 14, 15, 16, 17] rfl rfl rfl (by decide) (by decide) (by decide) 0 2 rfl rfl rfl rfl hl.1 rfl (Nat.le_of_ble_eq_true rfl) ⟨Nat.le_of_ble_eq_true rfl, Nat.le_of_ble_eq_true rfl⟩ dL_law_584 (fun H locs hP hD hS => ?_)
  refine lv_icmp_eq (tgt := 700) hx hb dL_law_587 (by decide) (fun c_1 => ?_) (fun c_1 => ?_)
  · exact kk u _ _ (inv_up inv) hP hD hS ls hl
  · exact absurd rfl c_1
set_option maxRecDepth 100000 in
set_option maxHeartbeats 4000000 in
theorem lw_c14 {p : Program} {l : Launch} {e : Env} {s : State} {m : MethodId} {below : List Frame} {meth : Method} {c : Code} {D : va_G} {cI cZ : ClassId} {ad bd : Nat → Nat} {b L : Nat} {xs : Nat → Int32} {u : XS} {j : Nat} (hL : L ≤ 2048) (C0 : lw_At p s m meth c b L xs) (hK : va_K D vwCl [(cI, .int), (cZ, .boolean)] s) (hN : lhN s) (inv : Inv (64 * j) u) (hlt : 4 * j + 3 < L) {H : Heap} {locs : List Loc} (hP : va_P D vwCl (wX cI ad u ++ wM cI cZ bd u) H) (hD : va_D (fun q : Nat => s.heap.size ≤ q) (wX cI ad u ++ wM cI cZ bd u)) (hS : va_S (fun q : Nat => s.heap.size ≤ q) s.heap H locs) {ls : Array Slot} (hl : lv_has ls 4 [(3, .int (nI (4 * j))), (2, .ref (bd 0)), (1, .ref (ad 0)), (0, .ref b)]) (kk : ∀ (u1 : XS) (H : Heap) (locs : List Loc), Inv (64 * (j + 1)) u1 → va_P D vwCl (wX cI ad u1 ++ wM cI cZ bd u1) H → va_D (fun q : Nat => s.heap.size ≤ q) (wX cI ad u1 ++ wM cI cZ bd u1) → va_S (fun q : Nat => s.heap.size ≤ q) s.heap H locs → ∀ (ls : Array Slot), lv_has ls 4 [(3, .int (nI (4 * j))), (2, .ref (bd 0)), (1, .ref (ad 0)), (0, .ref b)] → W p l e room_1 s m #[Value.ref b] below meth c H locs 18 2283 (lw_Z below #[Value.ref b] s) (F0 m 700 ls [])) : W p l e room_1 s m #[Value.ref b] below meth c H locs 18 2283 (lw_Z below #[Value.ref b] s) (F0 m 592 ls []) := by
  obtain ⟨hx, hb, hr, hml, hown, hts0, hX, hbl, hlocks, hgv⟩ := id C0
  have hts := fun w h => hts0 w (wsL_law_in w h)
  have hA : ∀ q : Nat, s.heap.size ≤ q → (fun q : Nat => s.heap.size ≤ q) q := fun _ h => h
  have hbA : ¬ (fun q : Nat => s.heap.size ≤ q) b := Nat.not_le.mpr hbl
  refine lv_aload_n hx hb dL_law_592 rfl (lv_at hl 2 rfl) ?_
  refine lv_aload_n hx hb dL_law_593 rfl (lv_at hl 3 rfl) ?_
  refine lv_iload_n hx hb dL_law_594 rfl (lv_at hl 0 rfl) ?_
  refine lv_iconst (v := nI 1) hx hb dL_law_595 (by decide) ?_
  refine lv_iadd hx hb dL_law_596 ?_
  refine lh_top (y := nI (4 * j + 1)) (nI_add _ _) ?_
  refine lh_sld (k := 4 * j + 1) hx hb hX hbl hbA hS (by omega) hL dL_law_597 ?_
  refine lh_pVi (wr := wM cI cZ bd u) ⟨hx, hb, hml, hown, hts⟩ (kX1_kill l D cI ad u (xs (4 * j + 1)) (64 * j) inv) (hK.sub [0] rfl) (cwV 1 hts gL_law_X1_kill rfl rfl rfl (by decide +kernel) ⟨Nat.le_of_ble_eq_true rfl, Nat.le_of_ble_eq_true rfl⟩) hN hP hD hS hA [0, 1, 2, 3, 4, 5, 6, 7, 8] [9, 10, 11, 12, 13, 14, 15, 16, 17] rfl rfl rfl (by decide) (by decide) (by decide) 0 1 rfl rfl rfl rfl hl.1 rfl (Nat.le_of_ble_eq_true rfl) ⟨Nat.le_of_ble_eq_true rfl, Nat.le_of_ble_eq_true rfl⟩ dL_law_598 (fun H locs hP hD hS => ?_)
  refine lv_aload_n hx hb dL_law_601 rfl (lv_at hl 1 rfl) ?_
  refine lv_aload_n hx hb dL_law_602 rfl (lv_at hl 3 rfl) ?_
  refine lv_iload_n hx hb dL_law_603 rfl (lv_at hl 0 rfl) ?_
  refine lv_iconst (v := nI 1) hx hb dL_law_604 (by decide) ?_
  refine lv_iadd hx hb dL_law_605 ?_
  refine lh_top (y := nI (4 * j + 1)) (nI_add _ _) ?_
  refine lh_sld (k := 4 * j + 1) hx hb hX hbl hbA hS (by omega) hL dL_law_606 ?_
  refine lh_pVi (wr := wX cI ad (kilS u (xs (4 * j + 1)))) ⟨hx, hb, hml, hown, hts⟩ (kX2_kill l D cI cZ bd u (xs (4 * j + 1)) (64 * j) inv) hK (cwV 1 hts gL_law_X2_kill rfl rfl rfl (by decide +kernel) ⟨Nat.le_of_ble_eq_true rfl, Nat.le_of_ble_eq_true rfl⟩) hN hP hD hS hA [0, 1, 2, 3, 4, 5, 6, 7, 8] [9, 10, 11, 12, 13, 14, 15, 16, 17] rfl rfl rfl (by decide) (by decide) (by decide) 0 2 rfl rfl rfl rfl hl.1 rfl (Nat.le_of_ble_eq_true rfl) ⟨Nat.le_of_ble_eq_true rfl, Nat.le_of_ble_eq_true rfl⟩ dL_law_607 (fun H locs hP hD hS => ?_)
  refine lv_icmp_eq (tgt := 700) hx hb dL_law_610 (by decide) (fun c_1 => ?_) (fun c_1 => ?_)
  · exact kk (kilS u (xs (4 * j + 1))) _ _ (inv_up (Inv_kilS inv _)) hP hD hS ls hl
  · exact absurd rfl c_1
set_option maxRecDepth 100000 in
set_option maxHeartbeats 4000000 in
theorem lw_c15 {p : Program} {l : Launch} {e : Env} {s : State} {m : MethodId} {below : List Frame} {meth : Method} {c : Code} {D : va_G} {cI cZ : ClassId} {ad bd : Nat → Nat} {b L : Nat} {xs : Nat → Int32} {u : XS} {j : Nat} (hL : L ≤ 2048) (C0 : lw_At p s m meth c b L xs) (hK : va_K D vwCl [(cI, .int), (cZ, .boolean)] s) (hN : lhN s) (inv : Inv (64 * j) u) (hlt : 4 * j + 3 < L) {H : Heap} {locs : List Loc} (hP : va_P D vwCl (wX cI ad u ++ wM cI cZ bd u) H) (hD : va_D (fun q : Nat => s.heap.size ≤ q) (wX cI ad u ++ wM cI cZ bd u)) (hS : va_S (fun q : Nat => s.heap.size ≤ q) s.heap H locs) {ls : Array Slot} (hl : lv_has ls 4 [(3, .int (nI (4 * j))), (2, .ref (bd 0)), (1, .ref (ad 0)), (0, .ref b)]) (kk : ∀ (u1 : XS) (H : Heap) (locs : List Loc), Inv (64 * (j + 1)) u1 → va_P D vwCl (wX cI ad u1 ++ wM cI cZ bd u1) H → va_D (fun q : Nat => s.heap.size ≤ q) (wX cI ad u1 ++ wM cI cZ bd u1) → va_S (fun q : Nat => s.heap.size ≤ q) s.heap H locs → ∀ (ls : Array Slot), lv_has ls 4 [(3, .int (nI (4 * j))), (2, .ref (bd 0)), (1, .ref (ad 0)), (0, .ref b)] → W p l e room_1 s m #[Value.ref b] below meth c H locs 18 2283 (lw_Z below #[Value.ref b] s) (F0 m 700 ls [])) : W p l e room_1 s m #[Value.ref b] below meth c H locs 18 2283 (lw_Z below #[Value.ref b] s) (F0 m 615 ls []) := by
  obtain ⟨hx, hb, hr, hml, hown, hts0, hX, hbl, hlocks, hgv⟩ := id C0
  have hts := fun w h => hts0 w (wsL_law_in w h)
  have hA : ∀ q : Nat, s.heap.size ≤ q → (fun q : Nat => s.heap.size ≤ q) q := fun _ h => h
  have hbA : ¬ (fun q : Nat => s.heap.size ≤ q) b := Nat.not_le.mpr hbl
  refine lv_aload_n hx hb dL_law_615 rfl (lv_at hl 2 rfl) ?_
  refine lh_pVi (wr := wM cI cZ bd u) ⟨hx, hb, hml, hown, hts⟩ (kX1_recover l D cI ad u  (64 * j) inv) (hK.sub [0] rfl) (cwV 0 hts gL_law_X1_recover rfl rfl rfl (by decide +kernel) ⟨Nat.le_of_ble_eq_true rfl, Nat.le_of_ble_eq_true rfl⟩) hN hP hD hS hA [0, 1, 2, 3, 4, 5, 6, 7, 8] [9, 10, 11, 12, 13, 14, 15, 16, 17] rfl rfl rfl (by decide) (by decide) (by decide) 0 1 rfl rfl rfl rfl hl.1 rfl (Nat.le_of_ble_eq_true rfl) ⟨Nat.le_of_ble_eq_true rfl, Nat.le_of_ble_eq_true rfl⟩ dL_law_616 (fun H locs hP hD hS => ?_)
  refine lv_aload_n hx hb dL_law_619 rfl (lv_at hl 1 rfl) ?_
  refine lh_pVi (wr := wX cI ad (recS u )) ⟨hx, hb, hml, hown, hts⟩ (kX2_recover l D cI cZ bd u  (64 * j) inv) hK (cwV 0 hts gL_law_X2_recover rfl rfl rfl (by decide +kernel) ⟨Nat.le_of_ble_eq_true rfl, Nat.le_of_ble_eq_true rfl⟩) hN hP hD hS hA [0, 1, 2, 3, 4, 5, 6, 7, 8] [9, 10, 11, 12, 13, 14, 15, 16, 17] rfl rfl rfl (by decide) (by decide) (by decide) 0 2 rfl rfl rfl rfl hl.1 rfl (Nat.le_of_ble_eq_true rfl) ⟨Nat.le_of_ble_eq_true rfl, Nat.le_of_ble_eq_true rfl⟩ dL_law_620 (fun H locs hP hD hS => ?_)
  refine lv_icmp_eq (tgt := 700) hx hb dL_law_623 (by decide) (fun c_1 => ?_) (fun c_1 => ?_)
  · exact kk (recS u ) _ _ (inv_up (Inv_recS inv)) hP hD hS ls hl
  · exact absurd rfl c_1
set_option maxRecDepth 100000 in
set_option maxHeartbeats 4000000 in
theorem lw_c16 {p : Program} {l : Launch} {e : Env} {s : State} {m : MethodId} {below : List Frame} {meth : Method} {c : Code} {D : va_G} {cI cZ : ClassId} {ad bd : Nat → Nat} {b L : Nat} {xs : Nat → Int32} {u : XS} {j : Nat} (hL : L ≤ 2048) (C0 : lw_At p s m meth c b L xs) (hK : va_K D vwCl [(cI, .int), (cZ, .boolean)] s) (hN : lhN s) (inv : Inv (64 * j) u) (hlt : 4 * j + 3 < L) {H : Heap} {locs : List Loc} (hP : va_P D vwCl (wX cI ad u ++ wM cI cZ bd u) H) (hD : va_D (fun q : Nat => s.heap.size ≤ q) (wX cI ad u ++ wM cI cZ bd u)) (hS : va_S (fun q : Nat => s.heap.size ≤ q) s.heap H locs) {ls : Array Slot} (hl : lv_has ls 4 [(3, .int (nI (4 * j))), (2, .ref (bd 0)), (1, .ref (ad 0)), (0, .ref b)]) (kk : ∀ (u1 : XS) (H : Heap) (locs : List Loc), Inv (64 * (j + 1)) u1 → va_P D vwCl (wX cI ad u1 ++ wM cI cZ bd u1) H → va_D (fun q : Nat => s.heap.size ≤ q) (wX cI ad u1 ++ wM cI cZ bd u1) → va_S (fun q : Nat => s.heap.size ≤ q) s.heap H locs → ∀ (ls : Array Slot), lv_has ls 4 [(3, .int (nI (4 * j))), (2, .ref (bd 0)), (1, .ref (ad 0)), (0, .ref b)] → W p l e room_1 s m #[Value.ref b] below meth c H locs 18 2283 (lw_Z below #[Value.ref b] s) (F0 m 700 ls [])) : W p l e room_1 s m #[Value.ref b] below meth c H locs 18 2283 (lw_Z below #[Value.ref b] s) (F0 m 628 ls []) := by
  obtain ⟨hx, hb, hr, hml, hown, hts0, hX, hbl, hlocks, hgv⟩ := id C0
  have hts := fun w h => hts0 w (wsL_law_in w h)
  have hA : ∀ q : Nat, s.heap.size ≤ q → (fun q : Nat => s.heap.size ≤ q) q := fun _ h => h
  have hbA : ¬ (fun q : Nat => s.heap.size ≤ q) b := Nat.not_le.mpr hbl
  refine lv_aload_n hx hb dL_law_628 rfl (lv_at hl 2 rfl) ?_
  refine lh_pVi (wr := wM cI cZ bd u) ⟨hx, hb, hml, hown, hts⟩ (kX1_settle l D cI ad u  (64 * j) inv (by omega)) (hK.sub [0] rfl) (cwV 0 hts gL_law_X1_settle rfl rfl rfl (by decide +kernel) ⟨Nat.le_of_ble_eq_true rfl, Nat.le_of_ble_eq_true rfl⟩) hN hP hD hS hA [0, 1, 2, 3, 4, 5, 6, 7, 8] [9, 10, 11, 12, 13, 14, 15, 16, 17] rfl rfl rfl (by decide) (by decide) (by decide) 0 1 rfl rfl rfl rfl hl.1 rfl (Nat.le_of_ble_eq_true rfl) ⟨Nat.le_of_ble_eq_true rfl, Nat.le_of_ble_eq_true rfl⟩ dL_law_629 (fun H locs hP hD hS => ?_)
  refine lv_aload_n hx hb dL_law_632 rfl (lv_at hl 1 rfl) ?_
  refine lh_pVi (wr := wX cI ad (stl 11 u )) ⟨hx, hb, hml, hown, hts⟩ (kX2_settle l D cI cZ bd u  (64 * j) inv (by omega)) hK (cwV 0 hts gL_law_X2_settle rfl rfl rfl (by decide +kernel) ⟨Nat.le_of_ble_eq_true rfl, Nat.le_of_ble_eq_true rfl⟩) hN hP hD hS hA [0, 1, 2, 3, 4, 5, 6, 7, 8] [9, 10, 11, 12, 13, 14, 15, 16, 17] rfl rfl rfl (by decide) (by decide) (by decide) 0 2 rfl rfl rfl rfl hl.1 rfl (Nat.le_of_ble_eq_true rfl) ⟨Nat.le_of_ble_eq_true rfl, Nat.le_of_ble_eq_true rfl⟩ dL_law_633 (fun H locs hP hD hS => ?_)
  refine lv_icmp_eq (tgt := 700) hx hb dL_law_636 (by decide) (fun c_1 => ?_) (fun c_1 => ?_)
  · exact kk (stl 11 u ) _ _ (inv_up (Inv_stl (by omega) 11 u inv)) hP hD hS ls hl
  · exact absurd rfl c_1
set_option maxRecDepth 100000 in
set_option maxHeartbeats 4000000 in
theorem lw_c17 {p : Program} {l : Launch} {e : Env} {s : State} {m : MethodId} {below : List Frame} {meth : Method} {c : Code} {D : va_G} {cI cZ : ClassId} {ad bd : Nat → Nat} {b L : Nat} {xs : Nat → Int32} {u : XS} {j : Nat} (hL : L ≤ 2048) (C0 : lw_At p s m meth c b L xs) (hK : va_K D vwCl [(cI, .int), (cZ, .boolean)] s) (hN : lhN s) (inv : Inv (64 * j) u) (hlt : 4 * j + 3 < L) {H : Heap} {locs : List Loc} (hP : va_P D vwCl (wX cI ad u ++ wM cI cZ bd u) H) (hD : va_D (fun q : Nat => s.heap.size ≤ q) (wX cI ad u ++ wM cI cZ bd u)) (hS : va_S (fun q : Nat => s.heap.size ≤ q) s.heap H locs) {ls : Array Slot} (hl : lv_has ls 4 [(3, .int (nI (4 * j))), (2, .ref (bd 0)), (1, .ref (ad 0)), (0, .ref b)]) (kk : ∀ (u1 : XS) (H : Heap) (locs : List Loc), Inv (64 * (j + 1)) u1 → va_P D vwCl (wX cI ad u1 ++ wM cI cZ bd u1) H → va_D (fun q : Nat => s.heap.size ≤ q) (wX cI ad u1 ++ wM cI cZ bd u1) → va_S (fun q : Nat => s.heap.size ≤ q) s.heap H locs → ∀ (ls : Array Slot), lv_has ls 4 [(3, .int (nI (4 * j))), (2, .ref (bd 0)), (1, .ref (ad 0)), (0, .ref b)] → W p l e room_1 s m #[Value.ref b] below meth c H locs 18 2283 (lw_Z below #[Value.ref b] s) (F0 m 700 ls [])) : W p l e room_1 s m #[Value.ref b] below meth c H locs 18 2283 (lw_Z below #[Value.ref b] s) (F0 m 641 ls []) := by
  obtain ⟨hx, hb, hr, hml, hown, hts0, hX, hbl, hlocks, hgv⟩ := id C0
  have hts := fun w h => hts0 w (wsL_law_in w h)
  have hA : ∀ q : Nat, s.heap.size ≤ q → (fun q : Nat => s.heap.size ≤ q) q := fun _ h => h
  have hbA : ¬ (fun q : Nat => s.heap.size ≤ q) b := Nat.not_le.mpr hbl
  refine lv_aload_n hx hb dL_law_641 rfl (lv_at hl 2 rfl) ?_
  refine lh_pVi (wr := wM cI cZ bd u) ⟨hx, hb, hml, hown, hts⟩ (kX1_reached l D cI ad u  (64 * j) inv) (hK.sub [0] rfl) (cwV 0 hts gL_law_X1_reached rfl rfl rfl (by decide +kernel) ⟨Nat.le_of_ble_eq_true rfl, Nat.le_of_ble_eq_true rfl⟩) hN hP hD hS hA [0, 1, 2, 3, 4, 5, 6, 7, 8] [9, 10, 11, 12, 13, 14, 15, 16, 17] rfl rfl rfl (by decide) (by decide) (by decide) 0 1 rfl rfl rfl rfl hl.1 rfl (Nat.le_of_ble_eq_true rfl) ⟨Nat.le_of_ble_eq_true rfl, Nat.le_of_ble_eq_true rfl⟩ dL_law_642 (fun H locs hP hD hS => ?_)
  refine lv_aload_n hx hb dL_law_645 rfl (lv_at hl 1 rfl) ?_
  refine lh_pVi (wr := wX cI ad u) ⟨hx, hb, hml, hown, hts⟩ (kX2_reached l D cI cZ bd u  (64 * j) inv) hK (cwV 0 hts gL_law_X2_reached rfl rfl rfl (by decide +kernel) ⟨Nat.le_of_ble_eq_true rfl, Nat.le_of_ble_eq_true rfl⟩) hN hP hD hS hA [0, 1, 2, 3, 4, 5, 6, 7, 8] [9, 10, 11, 12, 13, 14, 15, 16, 17] rfl rfl rfl (by decide) (by decide) (by decide) 0 2 rfl rfl rfl rfl hl.1 rfl (Nat.le_of_ble_eq_true rfl) ⟨Nat.le_of_ble_eq_true rfl, Nat.le_of_ble_eq_true rfl⟩ dL_law_646 (fun H locs hP hD hS => ?_)
  refine lv_icmp_eq (tgt := 700) hx hb dL_law_649 (by decide) (fun c_1 => ?_) (fun c_1 => ?_)
  · exact kk u _ _ (inv_up inv) hP hD hS ls hl
  · exact absurd rfl c_1
set_option maxRecDepth 100000 in
set_option maxHeartbeats 4000000 in
theorem lw_c18 {p : Program} {l : Launch} {e : Env} {s : State} {m : MethodId} {below : List Frame} {meth : Method} {c : Code} {D : va_G} {cI cZ : ClassId} {ad bd : Nat → Nat} {b L : Nat} {xs : Nat → Int32} {u : XS} {j : Nat} (hL : L ≤ 2048) (C0 : lw_At p s m meth c b L xs) (hK : va_K D vwCl [(cI, .int), (cZ, .boolean)] s) (hN : lhN s) (inv : Inv (64 * j) u) (hlt : 4 * j + 3 < L) {H : Heap} {locs : List Loc} (hP : va_P D vwCl (wX cI ad u ++ wM cI cZ bd u) H) (hD : va_D (fun q : Nat => s.heap.size ≤ q) (wX cI ad u ++ wM cI cZ bd u)) (hS : va_S (fun q : Nat => s.heap.size ≤ q) s.heap H locs) {ls : Array Slot} (hl : lv_has ls 4 [(3, .int (nI (4 * j))), (2, .ref (bd 0)), (1, .ref (ad 0)), (0, .ref b)]) (kk : ∀ (u1 : XS) (H : Heap) (locs : List Loc), Inv (64 * (j + 1)) u1 → va_P D vwCl (wX cI ad u1 ++ wM cI cZ bd u1) H → va_D (fun q : Nat => s.heap.size ≤ q) (wX cI ad u1 ++ wM cI cZ bd u1) → va_S (fun q : Nat => s.heap.size ≤ q) s.heap H locs → ∀ (ls : Array Slot), lv_has ls 4 [(3, .int (nI (4 * j))), (2, .ref (bd 0)), (1, .ref (ad 0)), (0, .ref b)] → W p l e room_1 s m #[Value.ref b] below meth c H locs 18 2283 (lw_Z below #[Value.ref b] s) (F0 m 700 ls [])) : W p l e room_1 s m #[Value.ref b] below meth c H locs 18 2283 (lw_Z below #[Value.ref b] s) (F0 m 654 ls []) := by
  obtain ⟨hx, hb, hr, hml, hown, hts0, hX, hbl, hlocks, hgv⟩ := id C0
  have hts := fun w h => hts0 w (wsL_law_in w h)
  have hA : ∀ q : Nat, s.heap.size ≤ q → (fun q : Nat => s.heap.size ≤ q) q := fun _ h => h
  have hbA : ¬ (fun q : Nat => s.heap.size ≤ q) b := Nat.not_le.mpr hbl
  refine lv_aload_n hx hb dL_law_654 rfl (lv_at hl 2 rfl) ?_
  refine lv_aload_n hx hb dL_law_655 rfl (lv_at hl 3 rfl) ?_
  refine lv_iload_n hx hb dL_law_656 rfl (lv_at hl 0 rfl) ?_
  refine lv_iconst (v := nI 1) hx hb dL_law_657 (by decide) ?_
  refine lv_iadd hx hb dL_law_658 ?_
  refine lh_top (y := nI (4 * j + 1)) (nI_add _ _) ?_
  refine lh_sld (k := 4 * j + 1) hx hb hX hbl hbA hS (by omega) hL dL_law_659 ?_
  refine lh_pVi (wr := wM cI cZ bd u) ⟨hx, hb, hml, hown, hts⟩ (kX1_far l D cI ad u (xs (4 * j + 1)) (64 * j) inv) (hK.sub [0] rfl) (cwV 1 hts gL_law_X1_far rfl rfl rfl (by decide +kernel) ⟨Nat.le_of_ble_eq_true rfl, Nat.le_of_ble_eq_true rfl⟩) hN hP hD hS hA [0, 1, 2, 3, 4, 5, 6, 7, 8] [9, 10, 11, 12, 13, 14, 15, 16, 17] rfl rfl rfl (by decide) (by decide) (by decide) 0 1 rfl rfl rfl rfl hl.1 rfl (Nat.le_of_ble_eq_true rfl) ⟨Nat.le_of_ble_eq_true rfl, Nat.le_of_ble_eq_true rfl⟩ dL_law_660 (fun H locs hP hD hS => ?_)
  refine lv_aload_n hx hb dL_law_663 rfl (lv_at hl 1 rfl) ?_
  refine lv_aload_n hx hb dL_law_664 rfl (lv_at hl 3 rfl) ?_
  refine lv_iload_n hx hb dL_law_665 rfl (lv_at hl 0 rfl) ?_
  refine lv_iconst (v := nI 1) hx hb dL_law_666 (by decide) ?_
  refine lv_iadd hx hb dL_law_667 ?_
  refine lh_top (y := nI (4 * j + 1)) (nI_add _ _) ?_
  refine lh_sld (k := 4 * j + 1) hx hb hX hbl hbA hS (by omega) hL dL_law_668 ?_
  refine lh_pVi (wr := wX cI ad u) ⟨hx, hb, hml, hown, hts⟩ (kX2_far l D cI cZ bd u (xs (4 * j + 1)) (64 * j) inv) hK (cwV 1 hts gL_law_X2_far rfl rfl rfl (by decide +kernel) ⟨Nat.le_of_ble_eq_true rfl, Nat.le_of_ble_eq_true rfl⟩) hN hP hD hS hA [0, 1, 2, 3, 4, 5, 6, 7, 8] [9, 10, 11, 12, 13, 14, 15, 16, 17] rfl rfl rfl (by decide) (by decide) (by decide) 0 2 rfl rfl rfl rfl hl.1 rfl (Nat.le_of_ble_eq_true rfl) ⟨Nat.le_of_ble_eq_true rfl, Nat.le_of_ble_eq_true rfl⟩ dL_law_669 (fun H locs hP hD hS => ?_)
  refine lv_icmp_eq (tgt := 700) hx hb dL_law_672 (by decide) (fun c_1 => ?_) (fun c_1 => ?_)
  · exact kk u _ _ (inv_up inv) hP hD hS ls hl
  · exact absurd rfl c_1
set_option maxRecDepth 100000 in
set_option maxHeartbeats 4000000 in
theorem lw_c19 {p : Program} {l : Launch} {e : Env} {s : State} {m : MethodId} {below : List Frame} {meth : Method} {c : Code} {D : va_G} {cI cZ : ClassId} {ad bd : Nat → Nat} {b L : Nat} {xs : Nat → Int32} {u : XS} {j : Nat} (hL : L ≤ 2048) (C0 : lw_At p s m meth c b L xs) (hK : va_K D vwCl [(cI, .int), (cZ, .boolean)] s) (hN : lhN s) (inv : Inv (64 * j) u) (hlt : 4 * j + 3 < L) {H : Heap} {locs : List Loc} (hP : va_P D vwCl (wX cI ad u ++ wM cI cZ bd u) H) (hD : va_D (fun q : Nat => s.heap.size ≤ q) (wX cI ad u ++ wM cI cZ bd u)) (hS : va_S (fun q : Nat => s.heap.size ≤ q) s.heap H locs) {ls : Array Slot} (hl : lv_has ls 4 [(3, .int (nI (4 * j))), (2, .ref (bd 0)), (1, .ref (ad 0)), (0, .ref b)]) (kk : ∀ (u1 : XS) (H : Heap) (locs : List Loc), Inv (64 * (j + 1)) u1 → va_P D vwCl (wX cI ad u1 ++ wM cI cZ bd u1) H → va_D (fun q : Nat => s.heap.size ≤ q) (wX cI ad u1 ++ wM cI cZ bd u1) → va_S (fun q : Nat => s.heap.size ≤ q) s.heap H locs → ∀ (ls : Array Slot), lv_has ls 4 [(3, .int (nI (4 * j))), (2, .ref (bd 0)), (1, .ref (ad 0)), (0, .ref b)] → W p l e room_1 s m #[Value.ref b] below meth c H locs 18 2283 (lw_Z below #[Value.ref b] s) (F0 m 700 ls [])) : W p l e room_1 s m #[Value.ref b] below meth c H locs 18 2283 (lw_Z below #[Value.ref b] s) (F0 m 677 ls []) := by
  obtain ⟨hx, hb, hr, hml, hown, hts0, hX, hbl, hlocks, hgv⟩ := id C0
  have hts := fun w h => hts0 w (wsL_law_in w h)
  have hA : ∀ q : Nat, s.heap.size ≤ q → (fun q : Nat => s.heap.size ≤ q) q := fun _ h => h
  have hbA : ¬ (fun q : Nat => s.heap.size ≤ q) b := Nat.not_le.mpr hbl
  refine lv_aload_n hx hb dL_law_677 rfl (lv_at hl 2 rfl) ?_
  refine lv_aload_n hx hb dL_law_678 rfl (lv_at hl 3 rfl) ?_
  refine lv_iload_n hx hb dL_law_679 rfl (lv_at hl 0 rfl) ?_
  refine lv_iconst (v := nI 1) hx hb dL_law_680 (by decide) ?_
  refine lv_iadd hx hb dL_law_681 ?_
  refine lh_top (y := nI (4 * j + 1)) (nI_add _ _) ?_
  refine lh_sld (k := 4 * j + 1) hx hb hX hbl hbA hS (by omega) hL dL_law_682 ?_
  refine lh_pVi (wr := wM cI cZ bd u) ⟨hx, hb, hml, hown, hts⟩ (kX1_many l D cI ad u (xs (4 * j + 1)) (64 * j) inv) (hK.sub [0] rfl) (cwV 1 hts gL_law_X1_many rfl rfl rfl (by decide +kernel) ⟨Nat.le_of_ble_eq_true rfl, Nat.le_of_ble_eq_true rfl⟩) hN hP hD hS hA [0, 1, 2, 3, 4, 5, 6, 7, 8] [9, 10, 11, 12, 13, 14, 15, 16, 17] rfl rfl rfl (by decide) (by decide) (by decide) 0 1 rfl rfl rfl rfl hl.1 rfl (Nat.le_of_ble_eq_true rfl) ⟨Nat.le_of_ble_eq_true rfl, Nat.le_of_ble_eq_true rfl⟩ dL_law_683 (fun H locs hP hD hS => ?_)
  refine lv_aload_n hx hb dL_law_686 rfl (lv_at hl 1 rfl) ?_
  refine lv_aload_n hx hb dL_law_687 rfl (lv_at hl 3 rfl) ?_
  refine lv_iload_n hx hb dL_law_688 rfl (lv_at hl 0 rfl) ?_
  refine lv_iconst (v := nI 1) hx hb dL_law_689 (by decide) ?_
  refine lv_iadd hx hb dL_law_690 ?_
  refine lh_top (y := nI (4 * j + 1)) (nI_add _ _) ?_
  refine lh_sld (k := 4 * j + 1) hx hb hX hbl hbA hS (by omega) hL dL_law_691 ?_
  refine lh_pVi (wr := wX cI ad u) ⟨hx, hb, hml, hown, hts⟩ (kX2_many l D cI cZ bd u (xs (4 * j + 1)) (64 * j) inv) hK (cwV 1 hts gL_law_X2_many rfl rfl rfl (by decide +kernel) ⟨Nat.le_of_ble_eq_true rfl, Nat.le_of_ble_eq_true rfl⟩) hN hP hD hS hA [0, 1, 2, 3, 4, 5, 6, 7, 8] [9, 10, 11, 12, 13, 14, 15, 16, 17] rfl rfl rfl (by decide) (by decide) (by decide) 0 2 rfl rfl rfl rfl hl.1 rfl (Nat.le_of_ble_eq_true rfl) ⟨Nat.le_of_ble_eq_true rfl, Nat.le_of_ble_eq_true rfl⟩ dL_law_692 (fun H locs hP hD hS => ?_)
  refine lv_icmp_eq (tgt := 700) hx hb dL_law_695 (by decide) (fun c_1 => ?_) (fun c_1 => ?_)
  · exact kk u _ _ (inv_up inv) hP hD hS ls hl
  · exact absurd rfl c_1

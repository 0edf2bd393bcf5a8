theorem fil_lk (i : Nat) (h : i < 100) : xLi u0 i = -9 := by
  show fil (fun _ => 0) (-9) 100 i = -9
  unfold fil
  rw [if_pos h]
theorem Inv_0 : Inv (64 * 0) u0 := by
  refine ⟨⟨by decide, by decide, fun _ => by show 0 < 4; decide, fun _ => by show 0 < 10; decide, by decide, by decide, by decide⟩, by decide, fun k hk => absurd hk (by show ¬ Nat.testBit 0 k = true; simp), fun k hk => absurd hk (by show ¬ Nat.testBit 0 k = true; simp), fun a b ha hb hl => ?_, fun k hk => absurd hk (Nat.not_lt_zero k), fun k => by show ((0 : Int32)).toInt ≤ 9; decide, ?_⟩
  · unfold lnk at hl
    rw [fil_lk _ (by omega)] at hl
    exact absurd hl (by decide)
  · have h : fb_sm (fun i => wt (xLi u0 i)) 100 = fb_sm (fun _ => 0) 100 := fb_sm_cong (fun k hk => by rw [fil_lk k hk]; rfl)
    rw [fb_sm_const] at h
    show fb_sm (fun i => wt (xLi u0 i)) 100 + 0 ≤ 0
    omega
set_option maxRecDepth 100000 in
set_option maxHeartbeats 4000000 in
theorem law_loop {p : Program} {l : Launch} {e : Env} {s : State} {m : MethodId} {below : List Frame} {meth : Method} {c : Code} {D : va_G} {cI cZ : ClassId} {ad bd : Nat → Nat} {b L : Nat} {xs : Nat → Int32} (hL : L ≤ 2048) (C0 : lw_At p s m meth c b L xs) (hK : va_K D vwCl [(cI, .int), (cZ, .boolean)] s) (hN : lhN s) :
    ∀ (n j : Nat) (u : XS), 4 * j ≤ L → L + 1 ≤ 4 * j + n → Inv (64 * j) u → ∀ (H : Heap) (locs : List Loc), va_P D vwCl (wX cI ad u ++ wM cI cZ bd u) H → va_D (fun q : Nat => s.heap.size ≤ q) (wX cI ad u ++ wM cI cZ bd u) → va_S (fun q : Nat => s.heap.size ≤ q) s.heap H locs → ∀ (ls : Array Slot), lv_has ls 4 [(3, .int (nI (4 * j))), (2, .ref (bd 0)), (1, .ref (ad 0)), (0, .ref b)] → W p l e room_1 s m #[Value.ref b] below meth c H locs 18 2283 (lw_Z below #[Value.ref b] s) (F0 m 18 ls []) := by
  obtain ⟨hx, hb, hr, hml, hown, hts0, hX, hbl, hlocks, hgv⟩ := id C0
  have hbA : ¬ (fun q : Nat => s.heap.size ≤ q) b := Nat.not_le.mpr hbl
  intro n
  induction n with
  | zero => intro j u h1 h2; exact absurd h2 (by omega)
  | succ n ih =>
    intro j u hjL hjn inv H locs hP hD hS ls hl
    refine lv_iload_n hx hb dL_law_18 rfl (lv_at hl 0 rfl) ?_
    refine lv_aload_n hx hb dL_law_19 rfl (lv_at hl 3 rfl) ?_
    refine va_slen hx hb hX hbl hbA hS dL_law_20 ?_
    refine lv_iconst (v := nI 4) hx hb dL_law_21 (by decide) ?_
    refine lv_isub hx hb dL_law_22 ?_
    refine lv_icmp_gt (tgt := 706) hx hb dL_law_23 (by decide) (fun c_1 => ?_) (fun c_1 => ?_)
    · refine lv_iconst (v := 1) hx hb dL_law_706 (by decide) ?_
      refine va_forget (fun q hq => hS.2.2 q hq) ?_
      exact lw_ret hx hb hr hlocks dL_law_707
    · have hlt : 4 * j + 3 < L := by
        have h1 : ¬ L < 4 * j + 4 := fun h => c_1 ((lw_cmp hL (by omega)).mpr h)
        omega
      have kk : ∀ (u1 : XS) (H : Heap) (locs : List Loc), Inv (64 * (j + 1)) u1 → va_P D vwCl (wX cI ad u1 ++ wM cI cZ bd u1) H → va_D (fun q : Nat => s.heap.size ≤ q) (wX cI ad u1 ++ wM cI cZ bd u1) → va_S (fun q : Nat => s.heap.size ≤ q) s.heap H locs → ∀ (ls : Array Slot), lv_has ls 4 [(3, .int (nI (4 * j))), (2, .ref (bd 0)), (1, .ref (ad 0)), (0, .ref b)] → W p l e room_1 s m #[Value.ref b] below meth c H locs 18 2283 (lw_Z below #[Value.ref b] s) (F0 m 700 ls []) := by
        intro u1 H locs inv hP hD hS ls hl
        refine lv_iinc (v := nI (4 * (j + 1))) (lv' := [(3, .int (nI (4 * (j + 1)))), (2, .ref (bd 0)), (1, .ref (ad 0)), (0, .ref b)]) hx hb dL_law_700 hl (k := 0) rfl (lh_inc4 j) (by decide) rfl (fun ls hl => ?_)
        refine lv_goto (tgt := 18) hx hb dL_law_703 (by decide) ?_
        exact ih (j + 1) u1 (by omega) (by omega) inv _ _ hP hD hS ls hl
      refine lv_aload_n hx hb dL_law_26 rfl (lv_at hl 3 rfl) ?_
      refine lv_iload_n hx hb dL_law_27 rfl (lv_at hl 0 rfl) ?_
      refine lh_sld (k := 4 * j) hx hb hX hbl hbA hS (by omega) hL dL_law_28 ?_
      refine lv_bipush (v := nI 31) hx hb dL_law_29 (by decide) ?_
      refine lv_iand hx hb dL_law_31 ?_
      rcases lh_sw (n := 20) (hi := 19) (x := xs (4 * j) &&& nI 31) (by decide) (by decide) with c_2 | c_2
      · refine lv_tableOut (tgt := 700) hx hb dL_law_32 c_2 (by decide) ?_
        exact kk u _ _ (inv_up inv) hP hD hS ls hl
      · obtain ⟨k, hk, c_2⟩ := c_2
        by_cases ek : k = 0
        · subst ek
          refine lv_tableIn (off := 96) (tgt := 128) hx hb dL_law_32 (by rw [c_2]; decide) (by rw [c_2]; decide) (by rw [c_2]; decide) (by decide) ?_
          exact lw_c0 hL C0 hK hN inv hlt hP hD hS hl kk
        by_cases ek : k = 1
        · subst ek
          refine lv_tableIn (off := 145) (tgt := 177) hx hb dL_law_32 (by rw [c_2]; decide) (by rw [c_2]; decide) (by rw [c_2]; decide) (by decide) ?_
          exact lw_c1 hL C0 hK hN inv hlt hP hD hS hl kk
        by_cases ek : k = 2
        · subst ek
          refine lv_tableIn (off := 194) (tgt := 226) hx hb dL_law_32 (by rw [c_2]; decide) (by rw [c_2]; decide) (by rw [c_2]; decide) (by decide) ?_
          exact lw_c2 hL C0 hK hN inv hlt hP hD hS hl kk
        by_cases ek : k = 3
        · subst ek
          refine lv_tableIn (off := 227) (tgt := 259) hx hb dL_law_32 (by rw [c_2]; decide) (by rw [c_2]; decide) (by rw [c_2]; decide) (by decide) ?_
          exact lw_c3 hL C0 hK hN inv hlt hP hD hS hl kk
        by_cases ek : k = 4
        · subst ek
          refine lv_tableIn (off := 260) (tgt := 292) hx hb dL_law_32 (by rw [c_2]; decide) (by rw [c_2]; decide) (by rw [c_2]; decide) (by decide) ?_
          exact lw_c4 hL C0 hK hN inv hlt hP hD hS hl kk
        by_cases ek : k = 5
        · subst ek
          refine lv_tableIn (off := 293) (tgt := 325) hx hb dL_law_32 (by rw [c_2]; decide) (by rw [c_2]; decide) (by rw [c_2]; decide) (by decide) ?_
          exact lw_c5 hL C0 hK hN inv hlt hP hD hS hl kk
        by_cases ek : k = 6
        · subst ek
          refine lv_tableIn (off := 326) (tgt := 358) hx hb dL_law_32 (by rw [c_2]; decide) (by rw [c_2]; decide) (by rw [c_2]; decide) (by decide) ?_
          exact lw_c6 hL C0 hK hN inv hlt hP hD hS hl kk
        by_cases ek : k = 7
        · subst ek
          refine lv_tableIn (off := 369) (tgt := 401) hx hb dL_law_32 (by rw [c_2]; decide) (by rw [c_2]; decide) (by rw [c_2]; decide) (by decide) ?_
          exact lw_c7 hL C0 hK hN inv hlt hP hD hS hl kk
        by_cases ek : k = 8
        · subst ek
          refine lv_tableIn (off := 392) (tgt := 424) hx hb dL_law_32 (by rw [c_2]; decide) (by rw [c_2]; decide) (by rw [c_2]; decide) (by decide) ?_
          exact lw_c8 hL C0 hK hN inv hlt hP hD hS hl kk
        by_cases ek : k = 9
        · subst ek
          refine lv_tableIn (off := 425) (tgt := 457) hx hb dL_law_32 (by rw [c_2]; decide) (by rw [c_2]; decide) (by rw [c_2]; decide) (by decide) ?_
          exact lw_c9 hL C0 hK hN inv hlt hP hD hS hl kk
        by_cases ek : k = 10
        · subst ek
          refine lv_tableIn (off := 448) (tgt := 480) hx hb dL_law_32 (by rw [c_2]; decide) (by rw [c_2]; decide) (by rw [c_2]; decide) (by decide) ?_
          exact lw_c10 hL C0 hK hN inv hlt hP hD hS hl kk
        by_cases ek : k = 11
        · subst ek
          refine lv_tableIn (off := 471) (tgt := 503) hx hb dL_law_32 (by rw [c_2]; decide) (by rw [c_2]; decide) (by rw [c_2]; decide) (by decide) ?_
          exact lw_c11 hL C0 hK hN inv hlt hP hD hS hl kk
        by_cases ek : k = 12
        · subst ek
          refine lv_tableIn (off := 504) (tgt := 536) hx hb dL_law_32 (by rw [c_2]; decide) (by rw [c_2]; decide) (by rw [c_2]; decide) (by decide) ?_
          exact lw_c12 hL C0 hK hN inv hlt hP hD hS hl kk
        by_cases ek : k = 13
        · subst ek
          refine lv_tableIn (off := 527) (tgt := 559) hx hb dL_law_32 (by rw [c_2]; decide) (by rw [c_2]; decide) (by rw [c_2]; decide) (by decide) ?_
          exact lw_c13 hL C0 hK hN inv hlt hP hD hS hl kk
        by_cases ek : k = 14
        · subst ek
          refine lv_tableIn (off := 560) (tgt := 592) hx hb dL_law_32 (by rw [c_2]; decide) (by rw [c_2]; decide) (by rw [c_2]; decide) (by decide) ?_
          exact lw_c14 hL C0 hK hN inv hlt hP hD hS hl kk
        by_cases ek : k = 15
        · subst ek
          refine lv_tableIn (off := 583) (tgt := 615) hx hb dL_law_32 (by rw [c_2]; decide) (by rw [c_2]; decide) (by rw [c_2]; decide) (by decide) ?_
          exact lw_c15 hL C0 hK hN inv hlt hP hD hS hl kk
        by_cases ek : k = 16
        · subst ek
          refine lv_tableIn (off := 596) (tgt := 628) hx hb dL_law_32 (by rw [c_2]; decide) (by rw [c_2]; decide) (by rw [c_2]; decide) (by decide) ?_
          exact lw_c16 hL C0 hK hN inv hlt hP hD hS hl kk
        by_cases ek : k = 17
        · subst ek
          refine lv_tableIn (off := 609) (tgt := 641) hx hb dL_law_32 (by rw [c_2]; decide) (by rw [c_2]; decide) (by rw [c_2]; decide) (by decide) ?_
          exact lw_c17 hL C0 hK hN inv hlt hP hD hS hl kk
        by_cases ek : k = 18
        · subst ek
          refine lv_tableIn (off := 622) (tgt := 654) hx hb dL_law_32 (by rw [c_2]; decide) (by rw [c_2]; decide) (by rw [c_2]; decide) (by decide) ?_
          exact lw_c18 hL C0 hK hN inv hlt hP hD hS hl kk
        by_cases ek : k = 19
        · subst ek
          refine lv_tableIn (off := 645) (tgt := 677) hx hb dL_law_32 (by rw [c_2]; decide) (by rw [c_2]; decide) (by rw [c_2]; decide) (by decide) ?_
          exact lw_c19 hL C0 hK hN inv hlt hP hD hS hl kk
        exact absurd hk (by omega)
set_option maxRecDepth 100000 in
set_option maxHeartbeats 4000000 in
theorem whole_start {p : Program} {e : Env} {s : State} {m : MethodId} {below : List Frame} {meth : Method} {c : Code} (l : Launch) (hflags : l.flags = flags0) {b L : Nat} {xs : Nat → Int32} (hL : L ≤ 2048) (C0 : lw_At p s m meth c b L xs) : W p l e room_1 s m #[Value.ref b] below meth c s.heap [] 0 0 (lw_Z below #[Value.ref b] s) (entryFrame m ([Value.ref b] : List Value).toArray 4) := by
  obtain ⟨hx, hb, hr, hml, hown, hts0, hX, hbl, hlocks, hgv⟩ := id C0
  have hts := fun w h => hts0 w (wsL_law_in w h)
  have hA : ∀ q : Nat, s.heap.size ≤ q → (fun q : Nat => s.heap.size ≤ q) q := fun _ h => h
  have hN : lhN s := ⟨va_Nw.of rfl (hts0 _ (lwm_t1 (List.mem_of_getElem? (i := 32) rfl))), va_Nw.of rfl (hts0 _ (lwm_t1 (List.mem_of_getElem? (i := 30) rfl))), va_Nw.of rfl (hts0 _ (lwm_t1 (List.mem_of_getElem? (i := 26) rfl))), va_Nw.of rfl (hts0 _ (lwm_t1 (List.mem_of_getElem? (i := 28) rfl)))⟩
  have hi0 := hts0 (.instantiable RX0 4) (lwm_t1 (List.mem_of_getElem? (i := 20) rfl))
  have hi1 := hts0 (.instantiable RX1 10) (lwm_t1 (List.mem_of_getElem? (i := 9) rfl))
  have hi2 := hts0 (.instantiable RX2 13) (lwm_t2 (List.mem_of_getElem? (i := 84) rfl))
  have ha1 := hts0 (.arrayClass .int) (lwm_t1 (List.mem_of_getElem? (i := 42) rfl))
  have ha2 := hts0 (.arrayClass .boolean) (lwm_t2 (List.mem_of_getElem? (i := 129) rfl))
  obtain ⟨c0, iS0, hKn0⟩ := u_known (C := RX0) (T := TX0) (N := 4) (n := 4) hts0 in_wsX0 hi0
  obtain ⟨c1, iS1, hKn1⟩ := u_known (C := RX1) (T := TX1) (N := 10) (n := 10) hts0 in_wsX1 hi1
  obtain ⟨c2, iS2, hKn2⟩ := u_known (C := RX2) (T := TX2) (N := 13) (n := 13) hts0 in_wsX2 hi2
  obtain ⟨cI, hcI⟩ := lh_cls (Or.inl rfl) ha1
  obtain ⟨cZ, hcZ⟩ := lh_cls (Or.inr rfl) ha2
  obtain ⟨D, hKc⟩ : ∃ D : va_G, ∀ (k : Nat) (q : vw_C), vwCl[k]? = some q → u_Kn s q.1 q.2.1 q.2.2 (D.1 k) (D.2 k) := by
    refine ⟨(fun k => if k = 0 then c0 else if k = 1 then c1 else c2, fun k => if k = 0 then iS0 else if k = 1 then iS1 else iS2), ?_⟩
    intro k q hq
    match k, hq with
    | 0, hq => cases hq; exact hKn0
    | 1, hq => cases hq; exact hKn1
    | 2, hq => cases hq; exact hKn2
    | k + 3, hq => simp [vwCl] at hq
  have hK : va_K D vwCl [(cI, .int), (cZ, .boolean)] s := by
    refine ⟨hKc, fun k q h => ?_⟩
    match k, h with
    | 0, h => cases h; exact hcI
    | 1, h => cases h; exact hcZ
    | k + 2, h => simp at h
  have hS : va_S (fun q : Nat => s.heap.size ≤ q) s.heap s.heap [] := va_S.rf
  have hP : va_P D vwCl [] s.heap := fun k q h => by simp at h
  have hD : va_D (fun q : Nat => s.heap.size ≤ q) [] := ⟨fun i j p q h => by simp at h, fun k q h => by simp at h⟩
  have hl := lv_entry ([.ref b]) (n := 4) (Nat.le_of_ble_eq_true rfl)
  rw [lg_entry_eq]
  generalize (lg_sl ([.ref b]) ++ List.replicate (4 - (lg_sl ([.ref b])).length) Slot.unset).toArray = ls at hl ⊢
  have hl : lv_has ls 4 [(0, .ref b)] := hl
  refine va_new (ci := 1) (fs := [.null, .null, .null, .null, .null, .int 0, .int 0, .int 0, .int 0, .int 0]) (C := RX1) (T := TX1) (N := 10) hx hb hts0 in_wsX1 tyX1 tyX1_ok hown (hts0 (.classLink R_law 7 RX1) (lwm_t1 (List.mem_of_getElem? (i := 8) rfl))) hi1 (hts (.initialized RX1) (by decide +kernel)) hK hP hD hS hA rfl (fun j hj => by rcases (show j = 0 ∨ j = 1 ∨ j = 2 ∨ j = 3 ∨ j = 4 ∨ j = 5 ∨ j = 6 ∨ j = 7 ∨ j = 8 ∨ j = 9 by omega) with rfl | rfl | rfl | rfl | rfl | rfl | rfl | rfl | rfl | rfl <;> rfl) (Nat.le_of_ble_eq_true rfl) (Nat.le_of_ble_eq_true rfl) dL_law_0 (fun q1 H hP hD hS => ?_)
  have hP : va_P D vwCl [(q1, .inr (1, [.null, .null, .null, .null, .null, .int 0, .int 0, .int 0, .int 0, .int 0]))] H := hP
  have hD : va_D (fun q : Nat => s.heap.size ≤ q) [(q1, .inr (1, [.null, .null, .null, .null, .null, .int 0, .int 0, .int 0, .int 0, .int 0]))] := hD
  refine W.widen (k := 1) (n := 10) (by decide) (by decide) ?_
  refine lv_dup hx hb dL_law_3 rfl ?_
  refine lh_cN (As := []) (wr := []) ⟨hx, hb, hml, hown, hts⟩ (kX1_init l D cI cZ q1) (cwI 0 hts gL_law_X1_init rfl rfl rfl (hts (.initialized RX1) (by decide +kernel)) (hts (.methodLink RL 9 yX1_init) (by decide +kernel)) (hts (.instanceMethod yX1_init) (by decide +kernel)) rfl (by decide +kernel) ⟨Nat.le_of_ble_eq_true rfl, Nat.le_of_ble_eq_true rfl⟩) hK hN hP hD hS hA [0] [] rfl rfl rfl (by decide) (by decide) (by decide) rfl hl.1 rfl (Nat.le_of_ble_eq_true rfl) ⟨Nat.le_of_ble_eq_true rfl, Nat.le_of_ble_eq_true rfl⟩ dL_law_4 (fun ad0 H locs hP hD hS => ?_)
  obtain ⟨ad, had, e1⟩ : ∃ z : Nat → Nat, z = va_up ad0 0 q1 ∧ q1 = z 0 := ⟨_, rfl, (va_up_self _ _ _).symm⟩
  have hP2 : va_P D vwCl (wX cI ad u0) H := by rw [had]; exact hP
  have hD2 : va_D (fun q : Nat => s.heap.size ≤ q) (wX cI ad u0) := by rw [had]; exact hD
  clear had hP hD
  subst e1
  have hP := hP2
  have hD := hD2
  clear hP2 hD2
  refine W.widen (k := 9) (n := 594) (by decide) (by decide) ?_
  refine lv_astore_n (lv' := [(1, .ref (ad 0)), (0, .ref b)]) hx hb dL_law_7 rfl hl (by decide) rfl (fun ls hl => ?_)
  refine va_new (ci := 2) (fs := [.int 0, .int 0, .null, .null, .int 0, .null, .null, .null, .int 0, .null, .null, .null, .int 0]) (C := RX2) (T := TX2) (N := 13) hx hb hts0 in_wsX2 tyX2 tyX2_ok hown (hts0 (.classLink R_law 10 RX2) (lwm_t2 (List.mem_of_getElem? (i := 83) rfl))) hi2 (hts (.initialized RX2) (by decide +kernel)) hK hP hD hS hA rfl (fun j hj => by rcases (show j = 0 ∨ j = 1 ∨ j = 2 ∨ j = 3 ∨ j = 4 ∨ j = 5 ∨ j = 6 ∨ j = 7 ∨ j = 8 ∨ j = 9 ∨ j = 10 ∨ j = 11 ∨ j = 12 by omega) with rfl | rfl | rfl | rfl | rfl | rfl | rfl | rfl | rfl | rfl | rfl | rfl | rfl <;> rfl) (Nat.le_of_ble_eq_true rfl) (Nat.le_of_ble_eq_true rfl) dL_law_8 (fun q2 H hP hD hS => ?_)
  refine W.widen (k := 10) (n := 607) (by decide) (by decide) ?_
  refine lv_dup hx hb dL_law_11 rfl ?_
  refine lh_cN (As := []) (wr := wX cI ad u0) ⟨hx, hb, hml, hown, hts⟩ (kX2_init l D cI cZ q2) (cwI 0 hts gL_law_X2_init rfl rfl rfl (hts (.initialized RX2) (by decide +kernel)) (hts (.methodLink RL 12 yX2_init) (by decide +kernel)) (hts (.instanceMethod yX2_init) (by decide +kernel)) rfl (by decide +kernel) ⟨Nat.le_of_ble_eq_true rfl, Nat.le_of_ble_eq_true rfl⟩) hK hN hP hD hS hA [9] [0, 1, 2, 3, 4, 5, 6, 7, 8] rfl rfl rfl (by decide) (by decide) (by decide) rfl hl.1 rfl (Nat.le_of_ble_eq_true rfl) ⟨Nat.le_of_ble_eq_true rfl, Nat.le_of_ble_eq_true rfl⟩ dL_law_12 (fun bd0 H locs hP hD hS => ?_)
  obtain ⟨bd, hbd, e2⟩ : ∃ z : Nat → Nat, z = va_up bd0 0 q2 ∧ q2 = z 0 := ⟨_, rfl, (va_up_self _ _ _).symm⟩
  have hP2 : va_P D vwCl (wX cI ad u0 ++ wM cI cZ bd u0) H := by rw [hbd]; exact hP
  have hD2 : va_D (fun q : Nat => s.heap.size ≤ q) (wX cI ad u0 ++ wM cI cZ bd u0) := by rw [hbd]; exact hD
  clear hbd hP hD
  subst e2
  have hP := hP2
  have hD := hD2
  clear hP2 hD2
  refine W.widen (k := 18) (n := 2283) (by decide) (by decide) ?_
  refine lv_astore_n (lv' := [(2, .ref (bd 0)), (1, .ref (ad 0)), (0, .ref b)]) hx hb dL_law_15 rfl hl (by decide) rfl (fun ls hl => ?_)
  refine lv_iconst (v := nI 0) hx hb dL_law_16 (by decide) ?_
  refine lv_istore_n (lv' := [(3, .int (nI 0)), (2, .ref (bd 0)), (1, .ref (ad 0)), (0, .ref b)]) hx hb dL_law_17 rfl hl (by decide) rfl (fun ls hl => ?_)
  exact law_loop hL C0 hK hN (L + 1) 0 u0 (Nat.zero_le _) (by omega) Inv_0 _ _ hP hD hS ls hl
set_option maxHeartbeats 4000000 in
theorem lw_walk (l : Launch) (hflags : l.flags = flags0) (b : Addr) (xs : List Int32) : MetFree l x (headSpec (Jvm.Cond.code x code maxLocals ret :: tables_1) room_1) (lw_P b xs) (fun _ _ _ _ _ => True) lw_Q := by
  refine MetFree.of_bodyS (code := code) (maxLocals := maxLocals) (ret := ret) (by decide) ?_ ?_
  · intro args s m h hn
    obtain ⟨meth, c, h1, h2, h3, h4, h5, h6, -, -⟩ := Cond.code_spec hn (atoms_spec (ws := Jvm.Cond.code x code maxLocals ret :: tables_1) h _ List.mem_cons_self)
    exact ⟨meth, c, h1, h2, h3, h4, h5, h6⟩
  · intro p e s m args below meth c s₁ B hml0 hP _
    obtain ⟨rfl, hx, hbd, hgv⟩ := hP
    obtain ⟨scr, harrAt, hlist, hof, hsmall⟩ := hx
    obtain ⟨hcb, hkn, -, -⟩ := State.arrayAt?_spec harrAt
    have hown : s.vm.findClass R_law = some m.cls := findClass_of_methodNamed B.named
    have hts0 : ∀ c ∈ (Jvm.Cond.code x code maxLocals ret :: tables_1), c.before #[Value.ref b] s = true := atoms_spec (ws := Jvm.Cond.code x code maxLocals ret :: tables_1) B.pre
    have hts : ∀ w ∈ lw_tbl, w.before #[Value.ref b] s = true := k2_hts_sels lw_privs (fun w hw => hts0 w (List.mem_cons_of_mem _ hw)) lw_privs_ok
    have hml : c.maxLocals = 4 := B.maxLocals_eq (hts0 _ List.mem_cons_self)
    have X₀ : Stand p l e room_1 s m #[Value.ref b] below meth c s₁ [] 0 0 := Stand.of_body B
    have hh0 : s₁.heap = s.heap := by rw [B.state]; rfl
    have hsz : scr.slots.size = xs.length := by rw [← Array.length_toList, hlist, List.length_map]
    have hval : ∀ j : Nat, j < xs.length → scr.slots[j]? = some (.int (xs.getD j 0)) := fun j hj => by
      rw [← Array.getElem?_toList, hlist]
      simp [hj]
    have hbl : b < s.heap.size := (Array.getElem?_eq_some_iff.mp hcb).1
    have hX : va_X b xs.length (fun j => xs.getD j 0) s s.heap := ⟨scr, hcb, hof, hkn, hsz, hval⟩
    have K : W p l e room_1 s m #[Value.ref b] below meth c s₁.heap [] 0 0 (lw_Z below #[Value.ref b] s) (entryFrame m ([Value.ref b] : List Value).toArray 4) := by
      rw [hh0]
      exact whole_start l hflags hbd ⟨B.exec, B.bytes, B.returns, hml, hown, hts, hX, hbl, B.notSynchronized, hgv⟩
    obtain ⟨t, a1, o, b1, b2, b3⟩ := K s₁ rfl X₀
    exact ⟨t, o, a1, b1, b2, b3⟩
theorem lw_pre_spec {args : Array Value} {s : State} (h : (Jvm.Cond.and given_1 narrow_1).before args s = true) (hr : rest_1_c.before args s = true) : ∃ (b : Addr) (xs : List Int32), lw_P b xs args s := by
  have hs := flat_of_before _ h
  have hq := flat_of_before _ hr
  have hc : (Cond.count 1).before args s = true := hs _ (by decide +kernel)
  have harr : (Cond.arrayOf (.arg 0) .int).before args s = true := hs _ (by decide +kernel)
  have hle : (Cond.le (.length (.arg 0)) (.int 2048)).before args s = true := hs _ (by decide +kernel)
  have hlen : (Cond.isInt (.length (.arg 0))).before args s = true := hq _ (by decide +kernel)
  have hall : (Cond.all (.arg 0) (.isInt (.elem (.arg 0) (.index 0)))).before args s = true := hq _ (by decide +kernel)
  obtain ⟨b, xs, hb, hx⟩ := State.ints_of_pre rfl harr hlen hall
  have hsm : xs.length < 2 ^ 31 := hx.choose_spec.2.2.2
  have hev : (Term.length (.arg 0)).eval args s none [] s = some (.int xs.length.toInt32) := hx.length_eval hb
  have hv := Cond.le_ints hev (show (Term.int 2048).eval args s none [] s = some (.int 2048) from rfl)
  have hd : xs.length.toInt32 ≤ 2048 := by
    simpa [Cond.before, Cond.holds, hv] using hle
  have hN : xs.length ≤ 2048 := (Int32.ofNat_le_ofNat hsm (by decide)).mp (show Int32.ofNat xs.length ≤ Int32.ofNat 2048 from hd)
  exact ⟨b, xs, Cond.one_arg hc (show args[0]? = some (.ref b) from hb), hx, hN, h⟩
theorem lw_comes (l : Launch) (hflags : l.flags = flags0) : Comes l x (Jvm.Cond.code x code maxLocals ret :: tables_1) room_1 (fun tb e args s => Calls_1 tb e args s ∧ rest_1 tb e args s ∧ Pre_1 tb e args s)
    (fun _ _ args s o t => lw_Q args s o t) := by
  intro p e ha hc hk s m args below hf hfit hheap happ hpre
  obtain ⟨b, xs, hP⟩ := lw_pre_spec hpre.2.2 hpre.2.1
  obtain ⟨k, o, h1, h2, h3, hQ⟩ := lw_walk l hflags b xs p e ha hc hk s m args below hf ((Spec.applies_iff_loose hf).mp happ).1 hP trivial
  exact ⟨k, o, h1, h2, h3, hQ⟩
theorem lw_frame {s t : State} {o : Outcome} {args : Array Value} (h : Framed s o t [] 18 2283) :
    Framed s o t (fieldLocs frame_1_writes args s ++ arrayLocs frame_1_arrays args s ++ staticLocs frame_1_statics s) 18 2283 := h
theorem lw_limb (L : Cond) (hL : ∀ (args : Array Value) (s t : State), L.after args s (.returned (some (.int 1))) t = true) :
    ArmFor flags0 classFile x code maxLocals ret World_1 tables_1 room_1 Calls_1 rest_1 Pre_1
      (fun tb e a s o t => postC L tb e a s o t ∧ Framed s o t (fieldLocs frame_1_writes a s ++ arrayLocs frame_1_arrays a s ++ staticLocs frame_1_statics s) 18 2283) := by
  intro l hflags _ _ p e ha hc hk s m args below hf hfit hheap happ hpre
  obtain ⟨k, o, h1, h2, h3, rfl, hF⟩ := lw_comes l hflags p e ha hc hk s m args below hf hfit hheap happ hpre
  exact ⟨k, _, h1, h2, h3, hL args s _, lw_frame hF⟩
theorem i_vc : Claimed_1_1 ∧ Claimed_1_2 := ⟨lw_limb limb_1_1 (fun args s t => by simp [limb_1_1, Cond.after, Cond.holds, Cond.value]), lw_limb limb_1_2 (fun args s t => Cond.after_iff.mpr (by
  first | (rw [show limb_1_2 = Cond.eq .result (.int 1) from rfl, Cond.eq_ints (x := 1) (y := 1) rfl rfl]; simp; done) | (simp [limb_1_2, Cond.value, Term.eval]; done)))⟩

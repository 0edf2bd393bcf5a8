set_option maxRecDepth 100000 in
set_option maxHeartbeats 4000000 in
theorem kX2_within (l : Launch) (D : va_G) (tys : List (ClassId × FieldType)) (ws : va_W) (v : Int32) (lo : Int32) (hi : Int32) : CI l D tys yX2_within wsX2_within ({ frames := 0, cells := 0, slots := 0, locals := 0 }) [.int (v), .int (lo), .int (hi)] ws ws (b2i (wi v lo hi)) := by
  refine lh_CIof (cc := cX2_within) (maxL := 3) (ret := (some .boolean)) (own := RX2) (by decide) rfl rfl (Nat.le_of_ble_eq_true rfl) ?_
  intro p e s m below meth c A ls hx hb hr hlk hts hown hml hK hN hA hP hD hS hl
  have hl : lv_has ls 3 [(0, .int (v)), (1, .int (lo)), (2, .int (hi))] := hl
  refine lv_iload_n hx hb dX2_within_0 rfl (lv_at hl 0 rfl) ?_
  refine lv_iload_n hx hb dX2_within_1 rfl (lv_at hl 1 rfl) ?_
  refine lv_icmp_lt (tgt := 14) hx hb dX2_within_2 (by decide) (fun c_1 => ?_) (fun c_1 => ?_)
  · have c_1r := c_1
    refine lv_iconst (v := nI 0) hx hb dX2_within_14 (by decide) ?_
    exact lh_rz hx hb hr hlk hK hP hD hS (by first | (simp [nI_0, nI_o, wi, b2i, c_1]; done) | (simp [nI_0, nI_o, wi, b2i, c_1]; rfl)) rfl dX2_within_15
  · have c_1r := c_1
    refine lv_iload_n hx hb dX2_within_5 rfl (lv_at hl 0 rfl) ?_
    refine lv_iload_n hx hb dX2_within_6 rfl (lv_at hl 2 rfl) ?_
    refine lv_icmp_gt (tgt := 14) hx hb dX2_within_7 (by decide) (fun c_2 => ?_) (fun c_2 => ?_)
    · have c_2r := c_2
      refine lv_iconst (v := nI 0) hx hb dX2_within_14 (by decide) ?_
      exact lh_rz hx hb hr hlk hK hP hD hS (by first | (simp [nI_0, nI_o, wi, b2i, c_1, c_2]; done) | (simp [nI_0, nI_o, wi, b2i, c_1, c_2]; rfl)) rfl dX2_within_15
    · have c_2r := c_2
      refine lv_iconst (v := nI 1) hx hb dX2_within_10 (by decide) ?_
      refine lv_goto (tgt := 15) hx hb dX2_within_11 (by decide) ?_
      exact lh_rz hx hb hr hlk hK hP hD hS (by first | (simp [nI_0, nI_o, wi, b2i, c_1, c_2]; done) | (simp [nI_0, nI_o, wi, b2i, c_1, c_2]; rfl)) rfl dX2_within_15
set_option maxRecDepth 100000 in
set_option maxHeartbeats 4000000 in
theorem kX2_has (l : Launch) (D : va_G) (tys : List (ClassId × FieldType)) (ws : va_W) (x : Nat) (k : Nat) (hs : x < 2147483648) (hk : k < 31) : CI l D tys yX2_has wsX2_has ({ frames := 0, cells := 0, slots := 0, locals := 0 }) [.int (nI x), .int (nI k)] ws ws (b2i (x.testBit k)) := by
  refine lh_CIof (cc := cX2_has) (maxL := 2) (ret := (some .boolean)) (own := RX2) (by decide) rfl rfl (Nat.le_of_ble_eq_true rfl) ?_
  intro p e s m below meth c A ls hx hb hr hlk hts hown hml hK hN hA hP hD hS hl
  have hl : lv_has ls 2 [(0, .int (nI x)), (1, .int (nI k))] := hl
  refine lv_iload_n hx hb dX2_has_0 rfl (lv_at hl 0 rfl) ?_
  refine lv_iload_n hx hb dX2_has_1 rfl (lv_at hl 1 rfl) ?_
  refine lv_ishr hx hb dX2_has_2 ?_
  refine lv_iconst (v := nI 1) hx hb dX2_has_3 (by decide) ?_
  refine lv_iand hx hb dX2_has_4 ?_
  refine lh_top (y := b2i (x.testBit k)) (lh_has hs hk) ?_
  refine lv_iconst (v := nI 1) hx hb dX2_has_5 (by decide) ?_
  refine lv_icmp_ne (tgt := 13) hx hb dX2_has_6 (by decide) (fun c_1 => ?_) (fun c_1 => ?_)
  · have c_1 : (x.testBit k) = false := b2i_n1 c_1
    refine lv_iconst (v := nI 0) hx hb dX2_has_13 (by decide) ?_
    exact lh_rz hx hb hr hlk hK hP hD hS (by first | (simp [nI_0, nI_o, b2i, c_1]; done) | (simp [nI_0, nI_o, b2i, c_1]; rfl)) rfl dX2_has_14
  · have c_1 : (x.testBit k) = true := b2i_e1 c_1
    refine lv_iconst (v := nI 1) hx hb dX2_has_9 (by decide) ?_
    refine lv_goto (tgt := 14) hx hb dX2_has_10 (by decide) ?_
    exact lh_rz hx hb hr hlk hK hP hD hS (by first | (simp [nI_0, nI_o, b2i, c_1]; done) | (simp [nI_0, nI_o, b2i, c_1]; rfl)) rfl dX2_has_14
set_option maxRecDepth 100000 in
set_option maxHeartbeats 4000000 in
theorem kX2_sizeOf (l : Launch) (D : va_G) (tys : List (ClassId × FieldType)) (ws : va_W) (x : Nat) (hx9 : x < 1024) : CI l D tys yX2_sizeOf wsX2_sizeOf ({ frames := 0, cells := 0, slots := 0, locals := 0 }) [.int (nI x)] ws ws (nI (cn x)) := by
  refine lh_CIof (cc := cX2_sizeOf) (maxL := 3) (ret := (some .int)) (own := RX2) (by decide) rfl rfl (Nat.le_of_ble_eq_true rfl) ?_
  intro p e s m below meth c A ls hx hb hr hlk hts hown hml hK hN hA hP hD hS hl
  have hl : lv_has ls 3 [(0, .int (nI x))] := hl
  refine lv_iconst (v := nI 0) hx hb dX2_sizeOf_0 (by decide) ?_
  refine lv_istore_n (lv' := [(1, .int (nI 0)), (0, .int (nI x))]) hx hb dX2_sizeOf_1 rfl hl (by decide) rfl (fun ls hl => ?_)
  refine lv_iload_n hx hb dX2_sizeOf_2 rfl (lv_at hl 1 rfl) ?_
  refine lv_istore_n (lv' := [(2, .int (nI x)), (1, .int (nI 0)), (0, .int (nI x))]) hx hb dX2_sizeOf_3 rfl hl (by decide) rfl (fun ls hl => ?_)
  have L4 : ∀ (n : Nat) (j : Nat) (nn : Nat) (left : Nat), left < n → (left = x / 2 ^ j) → (nn = cnt (fun k => x.testBit k) j) → (left < 1024) → ∀ (H : Heap) (locs : List Loc), va_P D vwCl ws H → va_D A ws → va_S A s.heap H locs → ∀ (ls : Array Slot), lv_has ls 3 [(2, .int (nI left)), (1, .int (nI nn)), (0, .int (nI x))] → W p l e ({ frames := 0, cells := 0, slots := 0, locals := 0 }) s m [.int (nI x)].toArray below meth c H locs 0 0 (QI below D tys A ws (nI (cn x)) [.int (nI x)].toArray s) (F0 m 4 ls []) := by
    intro n
    induction n with
    | zero => intro j nn left hmu; exact absurd hmu (Nat.not_lt_zero _)
    | succ n ih4 =>
      intro j nn left hmu4 hl9 hn9 hb9 H locs hP hD hS ls hl
      refine lv_iload_n hx hb dX2_sizeOf_4 rfl (lv_at hl 0 rfl) ?_
      refine lv_if_le (tgt := 21) hx hb dX2_sizeOf_5 (by decide) (fun c_1 => ?_) (fun c_1 => ?_)
      · have c_1 : left = 0 := lh_le0 (by omega) c_1
        refine lv_iload_n hx hb dX2_sizeOf_21 rfl (lv_at hl 1 rfl) ?_
        exact lh_ri hx hb hr hlk hK hP hD hS (by rw [hn9]; exact congrArg nI (szo_end hx9 (by rw [← hl9]; exact c_1))) rfl dX2_sizeOf_22
      · have c_1 : 0 < left := lh_gt0 (by omega) c_1
        refine lv_iload_n hx hb dX2_sizeOf_8 rfl (lv_at hl 1 rfl) ?_
        refine lv_iload_n hx hb dX2_sizeOf_9 rfl (lv_at hl 0 rfl) ?_
        refine lv_iconst (v := nI 1) hx hb dX2_sizeOf_10 (by decide) ?_
        refine lv_iand hx hb dX2_sizeOf_11 ?_
        refine lh_top (y := nI (left &&& 1)) (fa_and _ _) ?_
        refine lv_iadd hx hb dX2_sizeOf_12 ?_
        refine lh_top (y := nI (nn + (left &&& 1))) (nI_add _ _) ?_
        refine lv_istore_n (lv' := [(1, .int (nI (nn + (left &&& 1)))), (2, .int (nI left)), (0, .int (nI x))]) hx hb dX2_sizeOf_13 rfl hl (by decide) rfl (fun ls hl => ?_)
        refine lv_iload_n hx hb dX2_sizeOf_14 rfl (lv_at hl 1 rfl) ?_
        refine lv_iconst (v := nI 1) hx hb dX2_sizeOf_15 (by decide) ?_
        refine lv_ishr hx hb dX2_sizeOf_16 ?_
        refine lh_top (y := nI (left / 2)) (lh_shr1 (by omega)) ?_
        refine lv_istore_n (lv' := [(2, .int (nI (left / 2))), (1, .int (nI (nn + (left &&& 1)))), (0, .int (nI x))]) hx hb dX2_sizeOf_17 rfl hl (by decide) rfl (fun ls hl => ?_)
        refine lv_goto (tgt := 4) hx hb dX2_sizeOf_18 (by decide) ?_
        exact ih4 (j + 1) (nn + (left &&& 1)) (left / 2) (by omega) (by rw [hl9]; exact szo_half x j) (by rw [hl9]; exact szo_step hn9) (by omega) _ _ hP hD hS ls (lv_sub hl [0, 1, 2] rfl)
  exact L4 _ 0 0 x (Nat.lt_succ_self _) (by simp) (by rfl) (by exact hx9) _ _ hP hD hS ls (lv_sub hl [0, 1, 2] rfl)
set_option maxRecDepth 100000 in
set_option maxHeartbeats 4000000 in
theorem kX2_isHost (l : Launch) (D : va_G) (tys : List (ClassId × FieldType)) (ws : va_W) (h : Int32) : CI l D tys yX2_isHost wsX2_isHost ({ frames := 1, cells := 0, slots := 0, locals := 22 }) [.int (h)] ws ws (b2i (isHo h)) := by
  refine lh_CIof (cc := cX2_isHost) (maxL := 1) (ret := (some .boolean)) (own := RX2) (by decide) rfl rfl (Nat.le_of_ble_eq_true rfl) ?_
  intro p e s m below meth c A ls hx hb hr hlk hts hown hml hK hN hA hP hD hS hl
  have hl : lv_has ls 1 [(0, .int (h))] := hl
  refine lv_iload_n hx hb dX2_isHost_0 rfl (lv_at hl 0 rfl) ?_
  refine lv_iconst (v := nI 0) hx hb dX2_isHost_1 (by decide) ?_
  refine lv_iconst (v := nI 3) hx hb dX2_isHost_2 (by decide) ?_
  refine lh_cSi ⟨hx, hb, hml, hown, hts⟩ (kX2_within l D _ _ h (nI 0) (nI 3)) (va_cwS 3 hts gX2_isHost_X2_within rfl rfl rfl (by decide +kernel) ⟨Nat.le_of_ble_eq_true rfl, Nat.le_of_ble_eq_true rfl⟩) hK hN hP hD hS hA rfl hl.1 rfl (Nat.le_of_ble_eq_true rfl) ⟨Nat.le_of_ble_eq_true rfl, Nat.le_of_ble_eq_true rfl⟩ dX2_isHost_3 (fun H locs hP hD hS => ?_)
  exact lh_rz hx hb hr hlk hK hP hD hS (by exact congrArg b2i (isHo_wi h)) rfl dX2_isHost_6
set_option maxRecDepth 100000 in
set_option maxHeartbeats 4000000 in
theorem kX2_isObject (l : Launch) (D : va_G) (cI cZ : ClassId) (ad : Nat → Nat) (u : XS) (a : Int32) (ok : okB u) : CI l D [(cI, .int), (cZ, .boolean)] yX2_isObject wsX2_isObject ({ frames := 1, cells := 0, slots := 0, locals := 22 }) [.ref (ad 0), .int (a)] (wM cI cZ ad u) (wM cI cZ ad u) (b2i (isObj u a)) := by
  obtain ⟨hM, hW, hHo, hAb, hLb, hRb, hDb⟩ := id ok
  refine lh_CIof (cc := cX2_isObject) (maxL := 2) (ret := (some .boolean)) (own := RX2) (by decide) rfl rfl (Nat.le_of_ble_eq_true rfl) ?_
  intro p e s m below meth c A ls hx hb hr hlk hts hown hml hK hN hA hP hD hS hl
  have fX2_39 := hts (.fieldLink RX2 39 "LostHostsModel" "objects" "I") (by decide +kernel)
  have hinX2 : ∀ w ∈ u_ws RX2 TX2 13, w ∈ wsX2_isObject := by decide +kernel
  have hl : lv_has ls 2 [(0, .ref (ad 0)), (1, .int (a))] := hl
  refine lv_iload_n hx hb dX2_isObject_0 rfl (lv_at hl 1 rfl) ?_
  refine lv_iconst (v := nI 0) hx hb dX2_isObject_1 (by decide) ?_
  refine lv_aload_n hx hb dX2_isObject_2 rfl (lv_at hl 0 rfl) ?_
  refine va_get (D := D) (ci := 2) (v := .int (nI (xM u))) (C := RX2) (T := TX2) (N := 13) hx hb hts hinX2 hown hK hP 0 rfl rfl 1 (by decide) fX2_39 (fun _ h9 => h9) rfl dX2_isObject_3 ?_
  refine lv_iconst (v := nI 1) hx hb dX2_isObject_6 (by decide) ?_
  refine lv_isub hx hb dX2_isObject_7 ?_
  refine lh_cSi ⟨hx, hb, hml, hown, hts⟩ (kX2_within l D _ _ a (nI 0) (nI (xM u) - nI 1)) (va_cwS 3 hts gX2_isObject_X2_within rfl rfl rfl (by decide +kernel) ⟨Nat.le_of_ble_eq_true rfl, Nat.le_of_ble_eq_true rfl⟩) hK hN hP hD hS hA rfl hl.1 rfl (Nat.le_of_ble_eq_true rfl) ⟨Nat.le_of_ble_eq_true rfl, Nat.le_of_ble_eq_true rfl⟩ dX2_isObject_8 (fun H locs hP hD hS => ?_)
  exact lh_rz hx hb hr hlk hK hP hD hS (by exact congrArg b2i (isObj_wi hM a)) rfl dX2_isObject_11
set_option maxRecDepth 100000 in
set_option maxHeartbeats 4000000 in
theorem kX2_isLetter (l : Launch) (D : va_G) (cI cZ : ClassId) (ad : Nat → Nat) (u : XS) (k : Int32) (ok : okB u) : CI l D [(cI, .int), (cZ, .boolean)] yX2_isLetter wsX2_isLetter ({ frames := 1, cells := 0, slots := 0, locals := 22 }) [.ref (ad 0), .int (k)] (wM cI cZ ad u) (wM cI cZ ad u) (b2i (isLe u k)) := by
  obtain ⟨hM, hW, hHo, hAb, hLb, hRb, hDb⟩ := id ok
  refine lh_CIof (cc := cX2_isLetter) (maxL := 2) (ret := (some .boolean)) (own := RX2) (by decide) rfl rfl (Nat.le_of_ble_eq_true rfl) ?_
  intro p e s m below meth c A ls hx hb hr hlk hts hown hml hK hN hA hP hD hS hl
  have fX2_74 := hts (.fieldLink RX2 74 "LostHostsModel" "letters" "I") (by decide +kernel)
  have hinX2 : ∀ w ∈ u_ws RX2 TX2 13, w ∈ wsX2_isLetter := by decide +kernel
  have hl : lv_has ls 2 [(0, .ref (ad 0)), (1, .int (k))] := hl
  refine lv_iload_n hx hb dX2_isLetter_0 rfl (lv_at hl 1 rfl) ?_
  refine lv_iconst (v := nI 0) hx hb dX2_isLetter_1 (by decide) ?_
  refine lv_aload_n hx hb dX2_isLetter_2 rfl (lv_at hl 0 rfl) ?_
  refine va_get (D := D) (ci := 2) (v := .int (nI (xW u))) (C := RX2) (T := TX2) (N := 13) hx hb hts hinX2 hown hK hP 0 rfl rfl 8 (by decide) fX2_74 (fun _ h9 => h9) rfl dX2_isLetter_3 ?_
  refine lv_iconst (v := nI 1) hx hb dX2_isLetter_6 (by decide) ?_
  refine lv_isub hx hb dX2_isLetter_7 ?_
  refine lh_cSi ⟨hx, hb, hml, hown, hts⟩ (kX2_within l D _ _ k (nI 0) (nI (xW u) - nI 1)) (va_cwS 3 hts gX2_isLetter_X2_within rfl rfl rfl (by decide +kernel) ⟨Nat.le_of_ble_eq_true rfl, Nat.le_of_ble_eq_true rfl⟩) hK hN hP hD hS hA rfl hl.1 rfl (Nat.le_of_ble_eq_true rfl) ⟨Nat.le_of_ble_eq_true rfl, Nat.le_of_ble_eq_true rfl⟩ dX2_isLetter_8 (fun H locs hP hD hS => ?_)
  exact lh_rz hx hb hr hlk hK hP hD hS (by exact congrArg b2i (isLe_wi hW k)) rfl dX2_isLetter_11
set_option maxRecDepth 100000 in
set_option maxHeartbeats 4000000 in
theorem kX2_linkFrom (l : Launch) (D : va_G) (cI cZ : ClassId) (ad : Nat → Nat) (u : XS) (a : Nat) (b : Nat) (ha : a < 10) (hb2 : b < 10) : CI l D [(cI, .int), (cZ, .boolean)] yX2_linkFrom wsX2_linkFrom ({ frames := 0, cells := 0, slots := 0, locals := 0 }) [.ref (ad 0), .int (nI a), .int (nI b)] (wM cI cZ ad u) (wM cI cZ ad u) (xLi u (a * 10 + b)) := by
  refine lh_CIof (cc := cX2_linkFrom) (maxL := 3) (ret := (some .int)) (own := RX2) (by decide) rfl rfl (Nat.le_of_ble_eq_true rfl) ?_
  intro p e s m below meth c A ls hx hb hr hlk hts hown hml hK hN hA hP hD hS hl
  have fX2_23 := hts (.fieldLink RX2 23 "LostHostsModel" "linkOf" "[I") (by decide +kernel)
  have hinX2 : ∀ w ∈ u_ws RX2 TX2 13, w ∈ wsX2_linkFrom := by decide +kernel
  have hl : lv_has ls 3 [(0, .ref (ad 0)), (1, .int (nI a)), (2, .int (nI b))] := hl
  refine lv_aload_n hx hb dX2_linkFrom_0 rfl (lv_at hl 0 rfl) ?_
  refine va_get (D := D) (ci := 2) (v := .ref (ad 5)) (C := RX2) (T := TX2) (N := 13) hx hb hts hinX2 hown hK hP 0 rfl rfl 7 (by decide) fX2_23 (fun _ h9 => h9) rfl dX2_linkFrom_1 ?_
  refine lv_bipush (v := nI 10) hx hb dX2_linkFrom_4 (by decide) ?_
  refine lv_iload_n hx hb dX2_linkFrom_6 rfl (lv_at hl 1 rfl) ?_
  refine lv_imul hx hb dX2_linkFrom_7 ?_
  refine lh_top (y := nI (a * 10)) ((pk_mul _ _).trans (congrArg nI (Nat.mul_comm _ _))) ?_
  refine lv_iload_n hx hb dX2_linkFrom_8 rfl (lv_at hl 2 rfl) ?_
  refine lv_iadd hx hb dX2_linkFrom_9 ?_
  refine lh_top (y := nI ((a * 10) + b)) (nI_add _ _) ?_
  refine lh_ild (k := ((a * 10) + b)) (N := 100) hx hb hK hP 5 0 rfl rfl (by omega) (by decide) dX2_linkFrom_10 ?_
  refine W.eq (g2 := F0 m 11 ls (.int ((xLi u ((a * 10) + b))) :: [])) rfl ?_
  exact lh_ri hx hb hr hlk hK hP hD hS (by rfl) rfl dX2_linkFrom_11
set_option maxRecDepth 100000 in
set_option maxHeartbeats 4000000 in
theorem kX2_isLink (l : Launch) (D : va_G) (cI cZ : ClassId) (ad : Nat → Nat) (u : XS) (a : Nat) (b : Nat) (ha : a < 10) (hb2 : b < 10) : CI l D [(cI, .int), (cZ, .boolean)] yX2_isLink wsX2_isLink ({ frames := 1, cells := 0, slots := 0, locals := 22 }) [.ref (ad 0), .int (nI a), .int (nI b)] (wM cI cZ ad u) (wM cI cZ ad u) (b2i (lnk u a b)) := by
  refine lh_CIof (cc := cX2_isLink) (maxL := 3) (ret := (some .boolean)) (own := RX2) (by decide) rfl rfl (Nat.le_of_ble_eq_true rfl) ?_
  intro p e s m below meth c A ls hx hb hr hlk hts hown hml hK hN hA hP hD hS hl
  have hl : lv_has ls 3 [(0, .ref (ad 0)), (1, .int (nI a)), (2, .int (nI b))] := hl
  refine lv_aload_n hx hb dX2_isLink_0 rfl (lv_at hl 0 rfl) ?_
  refine lv_iload_n hx hb dX2_isLink_1 rfl (lv_at hl 1 rfl) ?_
  refine lv_iload_n hx hb dX2_isLink_2 rfl (lv_at hl 2 rfl) ?_
  refine lh_cVi ⟨hx, hb, hml, hown, hts⟩ (kX2_linkFrom l D cI cZ ad u a b (by omega) (by omega)) (cwV 2 hts gX2_isLink_X2_linkFrom rfl rfl rfl (by decide +kernel) ⟨Nat.le_of_ble_eq_true rfl, Nat.le_of_ble_eq_true rfl⟩) hK hN hP hD hS hA 0 2 rfl rfl rfl rfl hl.1 rfl (Nat.le_of_ble_eq_true rfl) ⟨Nat.le_of_ble_eq_true rfl, Nat.le_of_ble_eq_true rfl⟩ dX2_isLink_3 (fun H locs hP hD hS => ?_)
  refine lv_bipush (v := (-9)) hx hb dX2_isLink_6 (by decide) ?_
  refine lv_icmp_eq (tgt := 15) hx hb dX2_isLink_8 (by decide) (fun c_1 => ?_) (fun c_1 => ?_)
  · have c_1r := c_1
    refine lv_iconst (v := nI 0) hx hb dX2_isLink_15 (by decide) ?_
    exact lh_rz hx hb hr hlk hK hP hD hS (by first | (simp [nI_0, nI_o, lnk, b2i, c_1]; done) | (simp [nI_0, nI_o, lnk, b2i, c_1]; rfl)) rfl dX2_isLink_16
  · have c_1r := c_1
    refine lv_iconst (v := nI 1) hx hb dX2_isLink_11 (by decide) ?_
    refine lv_goto (tgt := 16) hx hb dX2_isLink_12 (by decide) ?_
    exact lh_rz hx hb hr hlk hK hP hD hS (by first | (simp [nI_0, nI_o, lnk, b2i, c_1]; done) | (simp [nI_0, nI_o, lnk, b2i, c_1]; rfl)) rfl dX2_isLink_16
set_option maxRecDepth 100000 in
set_option maxHeartbeats 4000000 in
theorem kX2_areNeighbours (l : Launch) (D : va_G) (cI cZ : ClassId) (ad : Nat → Nat) (u : XS) (a : Nat) (b : Nat) (ok : okB u) (ha : a < 10) (hb2 : b < 10) : CI l D [(cI, .int), (cZ, .boolean)] yX2_areNeighbours wsX2_areNeighbours ({ frames := 0, cells := 0, slots := 0, locals := 0 }) [.ref (ad 0), .int (nI a), .int (nI b)] (wM cI cZ ad u) (wM cI cZ ad u) (b2i (nbr u a b)) := by
  obtain ⟨hM, hW, hHo, hAb, hLb, hRb, hDb⟩ := id ok
  refine lh_CIof (cc := cX2_areNeighbours) (maxL := 3) (ret := (some .boolean)) (own := RX2) (by decide) rfl rfl (Nat.le_of_ble_eq_true rfl) ?_
  intro p e s m below meth c A ls hx hb hr hlk hts hown hml hK hN hA hP hD hS hl
  have fX2_7 := hts (.fieldLink RX2 7 "LostHostsModel" "hostOf" "[I") (by decide +kernel)
  have hinX2 : ∀ w ∈ u_ws RX2 TX2 13, w ∈ wsX2_areNeighbours := by decide +kernel
  have hl : lv_has ls 3 [(0, .ref (ad 0)), (1, .int (nI a)), (2, .int (nI b))] := hl
  refine lv_aload_n hx hb dX2_areNeighbours_0 rfl (lv_at hl 0 rfl) ?_
  refine va_get (D := D) (ci := 2) (v := .ref (ad 1)) (C := RX2) (T := TX2) (N := 13) hx hb hts hinX2 hown hK hP 0 rfl rfl 2 (by decide) fX2_7 (fun _ h9 => h9) rfl dX2_areNeighbours_1 ?_
  refine lv_iload_n hx hb dX2_areNeighbours_4 rfl (lv_at hl 1 rfl) ?_
  refine lh_ild (k := a) (N := 10) hx hb hK hP 1 0 rfl rfl (by omega) (by decide) dX2_areNeighbours_5 ?_
  refine W.eq (g2 := F0 m 6 ls (.int (nI (xHo u a)) :: [])) rfl ?_
  refine lv_aload_n hx hb dX2_areNeighbours_6 rfl (lv_at hl 0 rfl) ?_
  refine va_get (D := D) (ci := 2) (v := .ref (ad 1)) (C := RX2) (T := TX2) (N := 13) hx hb hts hinX2 hown hK hP 0 rfl rfl 2 (by decide) fX2_7 (fun _ h9 => h9) rfl dX2_areNeighbours_7 ?_
  refine lv_iload_n hx hb dX2_areNeighbours_10 rfl (lv_at hl 2 rfl) ?_
  refine lh_ild (k := b) (N := 10) hx hb hK hP 1 0 rfl rfl (by omega) (by decide) dX2_areNeighbours_11 ?_
  refine W.eq (g2 := F0 m 12 ls (.int (nI (xHo u b)) :: [.int (nI (xHo u a))])) rfl ?_
  refine lv_icmp_ne (tgt := 19) hx hb dX2_areNeighbours_12 (by decide) (fun c_1 => ?_) (fun c_1 => ?_)
  · have c_1 : ¬ xHo u a = xHo u b := fun h => c_1 ((nI_eq (by have h9 := hHo a; have h8 := hHo b; omega) (by have h9 := hHo a; have h8 := hHo b; omega)).mpr h)
    refine lv_iconst (v := nI 0) hx hb dX2_areNeighbours_19 (by decide) ?_
    exact lh_rz hx hb hr hlk hK hP hD hS (by first | (simp [nI_0, nI_o, nbr, b2i, c_1]; done) | (simp [nI_0, nI_o, nbr, b2i, c_1]; rfl)) rfl dX2_areNeighbours_20
  · have c_1 : xHo u a = xHo u b := (nI_eq (by have h9 := hHo a; have h8 := hHo b; omega) (by have h9 := hHo a; have h8 := hHo b; omega)).mp c_1
    refine lv_iconst (v := nI 1) hx hb dX2_areNeighbours_15 (by decide) ?_
    refine lv_goto (tgt := 20) hx hb dX2_areNeighbours_16 (by decide) ?_
    exact lh_rz hx hb hr hlk hK hP hD hS (by first | (simp [nI_0, nI_o, nbr, b2i, c_1]; done) | (simp [nI_0, nI_o, nbr, b2i, c_1]; rfl)) rfl dX2_areNeighbours_20
set_option maxRecDepth 100000 in
set_option maxHeartbeats 4000000 in
theorem kX2_adds (l : Launch) (D : va_G) (cI cZ : ClassId) (ad : Nat → Nat) (u : XS) (a : Nat) (b : Nat) (w : Int32) (ha : a < 10) (hb2 : b < 10) : CV l D [(cI, .int), (cZ, .boolean)] yX2_adds wsX2_adds ({ frames := 2, cells := 0, slots := 0, locals := 44 }) [.ref (ad 0), .int (nI a), .int (nI b), .int (w)] (wM cI cZ ad u) (wM cI cZ ad (adL u a b w)) := by
  refine lh_CVof (cc := cX2_adds) (maxL := 4) (ret := none) (own := RX2) (by decide) rfl rfl (Nat.le_of_ble_eq_true rfl) ?_
  intro p e s m below meth c A ls hx hb hr hlk hts hown hml hK hN hA hP hD hS hl
  have fX2_23 := hts (.fieldLink RX2 23 "LostHostsModel" "linkOf" "[I") (by decide +kernel)
  have fX2_20 := hts (.fieldLink RX2 20 "LostHostsModel" "ageOf" "[I") (by decide +kernel)
  have hinX2 : ∀ w ∈ u_ws RX2 TX2 13, w ∈ wsX2_adds := by decide +kernel
  have hl : lv_has ls 4 [(0, .ref (ad 0)), (1, .int (nI a)), (2, .int (nI b)), (3, .int (w))] := hl
  refine lv_aload_n hx hb dX2_adds_0 rfl (lv_at hl 0 rfl) ?_
  refine lv_iload_n hx hb dX2_adds_1 rfl (lv_at hl 1 rfl) ?_
  refine lv_iload_n hx hb dX2_adds_2 rfl (lv_at hl 2 rfl) ?_
  refine lh_cVi ⟨hx, hb, hml, hown, hts⟩ (kX2_isLink l D cI cZ ad u a b (by omega) (by omega)) (cwV 2 hts gX2_adds_X2_isLink rfl rfl rfl (by decide +kernel) ⟨Nat.le_of_ble_eq_true rfl, Nat.le_of_ble_eq_true rfl⟩) hK hN hP hD hS hA 0 2 rfl rfl rfl rfl hl.1 rfl (Nat.le_of_ble_eq_true rfl) ⟨Nat.le_of_ble_eq_true rfl, Nat.le_of_ble_eq_true rfl⟩ dX2_adds_3 (fun H locs hP hD hS => ?_)
  refine lv_if_ne (tgt := 28) hx hb dX2_adds_6 (by decide) (fun c_1 => ?_) (fun c_1 => ?_)
  · have c_1 : (lnk u a b) = true := b2i_n0 c_1
    refine lv_aload_n hx hb dX2_adds_28 rfl (lv_at hl 0 rfl) ?_
    refine va_get (D := D) (ci := 2) (v := .ref (ad 5)) (C := RX2) (T := TX2) (N := 13) hx hb hts hinX2 hown hK hP 0 rfl rfl 7 (by decide) fX2_23 (fun _ h9 => h9) rfl dX2_adds_29 ?_
    refine lv_bipush (v := nI 10) hx hb dX2_adds_32 (by decide) ?_
    refine lv_iload_n hx hb dX2_adds_34 rfl (lv_at hl 1 rfl) ?_
    refine lv_imul hx hb dX2_adds_35 ?_
    refine lh_top (y := nI (a * 10)) ((pk_mul _ _).trans (congrArg nI (Nat.mul_comm _ _))) ?_
    refine lv_iload_n hx hb dX2_adds_36 rfl (lv_at hl 2 rfl) ?_
    refine lv_iadd hx hb dX2_adds_37 ?_
    refine lh_top (y := nI ((a * 10) + b)) (nI_add _ _) ?_
    refine lv_dup2_11 hx hb dX2_adds_38 rfl rfl ?_
    refine lh_ild (k := ((a * 10) + b)) (N := 100) hx hb hK hP 5 0 rfl rfl (by omega) (by decide) dX2_adds_39 ?_
    refine W.eq (g2 := F0 m 40 ls (.int ((xLi u ((a * 10) + b))) :: [.int (nI ((a * 10) + b)), .ref (ad 5)])) rfl ?_
    refine lv_iload_n hx hb dX2_adds_40 rfl (lv_at hl 3 rfl) ?_
    refine lv_iadd hx hb dX2_adds_41 ?_
    refine lh_ist (k := ((a * 10) + b)) (N := 100) (f2 := upd (xLi u) ((a * 10) + b) (((xLi u ((a * 10) + b)) + w))) hx hb hK hP hD hS 5 0 rfl rfl (by omega) (by decide) (rfl) dX2_adds_42 (fun H locs hP hD hS => ?_)
    have hP : va_P D vwCl (wM cI cZ ad (sLi u (upd (xLi u) ((a * 10) + b) (((xLi u ((a * 10) + b)) + w))))) H := hP
    have hD : va_D A (wM cI cZ ad (sLi u (upd (xLi u) ((a * 10) + b) (((xLi u ((a * 10) + b)) + w))))) := hD
    exact lh_rv hx hb hr hlk hK hP hD hS (by first | (simp [adL, fa_upd_twice, pk_us, nI_0, c_1]; done) | (simp [adL, fa_upd_twice, pk_us, nI_0, c_1]; rfl)) dX2_adds_43
  · have c_1 : (lnk u a b) = false := b2i_e0 c_1
    refine lv_aload_n hx hb dX2_adds_9 rfl (lv_at hl 0 rfl) ?_
    refine va_get (D := D) (ci := 2) (v := .ref (ad 5)) (C := RX2) (T := TX2) (N := 13) hx hb hts hinX2 hown hK hP 0 rfl rfl 7 (by decide) fX2_23 (fun _ h9 => h9) rfl dX2_adds_10 ?_
    refine lv_bipush (v := nI 10) hx hb dX2_adds_13 (by decide) ?_
    refine lv_iload_n hx hb dX2_adds_15 rfl (lv_at hl 1 rfl) ?_
    refine lv_imul hx hb dX2_adds_16 ?_
    refine lh_top (y := nI (a * 10)) ((pk_mul _ _).trans (congrArg nI (Nat.mul_comm _ _))) ?_
    refine lv_iload_n hx hb dX2_adds_17 rfl (lv_at hl 2 rfl) ?_
    refine lv_iadd hx hb dX2_adds_18 ?_
    refine lh_top (y := nI ((a * 10) + b)) (nI_add _ _) ?_
    refine lv_iconst (v := nI 0) hx hb dX2_adds_19 (by decide) ?_
    refine lh_ist (k := ((a * 10) + b)) (N := 100) (f2 := upd (xLi u) ((a * 10) + b) (nI 0)) hx hb hK hP hD hS 5 0 rfl rfl (by omega) (by decide) (rfl) dX2_adds_20 (fun H locs hP hD hS => ?_)
    have hP : va_P D vwCl (wM cI cZ ad (sLi u (upd (xLi u) ((a * 10) + b) (nI 0)))) H := hP
    have hD : va_D A (wM cI cZ ad (sLi u (upd (xLi u) ((a * 10) + b) (nI 0)))) := hD
    refine lv_aload_n hx hb dX2_adds_21 rfl (lv_at hl 0 rfl) ?_
    refine va_get (D := D) (ci := 2) (v := .ref (ad 4)) (C := RX2) (T := TX2) (N := 13) hx hb hts hinX2 hown hK hP 0 rfl rfl 6 (by decide) fX2_20 (fun _ h9 => h9) rfl dX2_adds_22 ?_
    refine lv_iload_n hx hb dX2_adds_25 rfl (lv_at hl 2 rfl) ?_
    refine lv_iconst (v := nI 0) hx hb dX2_adds_26 (by decide) ?_
    refine lh_ist (k := b) (N := 10) (f2 := upd (xAg u) b (nI 0)) hx hb hK hP hD hS 4 0 rfl rfl (by omega) (by decide) (rfl) dX2_adds_27 (fun H locs hP hD hS => ?_)
    have hP : va_P D vwCl (wM cI cZ ad (sLi (sAg u (upd (xAg u) b (nI 0))) (upd (xLi u) ((a * 10) + b) (nI 0)))) H := hP
    have hD : va_D A (wM cI cZ ad (sLi (sAg u (upd (xAg u) b (nI 0))) (upd (xLi u) ((a * 10) + b) (nI 0)))) := hD
    refine lv_aload_n hx hb dX2_adds_28 rfl (lv_at hl 0 rfl) ?_
    refine va_get (D := D) (ci := 2) (v := .ref (ad 5)) (C := RX2) (T := TX2) (N := 13) hx hb hts hinX2 hown hK hP 0 rfl rfl 7 (by decide) fX2_23 (fun _ h9 => h9) rfl dX2_adds_29 ?_
    refine lv_bipush (v := nI 10) hx hb dX2_adds_32 (by decide) ?_
    refine lv_iload_n hx hb dX2_adds_34 rfl (lv_at hl 1 rfl) ?_
    refine lv_imul hx hb dX2_adds_35 ?_
    refine lh_top (y := nI (a * 10)) ((pk_mul _ _).trans (congrArg nI (Nat.mul_comm _ _))) ?_
    refine lv_iload_n hx hb dX2_adds_36 rfl (lv_at hl 2 rfl) ?_
    refine lv_iadd hx hb dX2_adds_37 ?_
    refine lh_top (y := nI ((a * 10) + b)) (nI_add _ _) ?_
    refine lv_dup2_11 hx hb dX2_adds_38 rfl rfl ?_
    refine lh_ild (k := ((a * 10) + b)) (N := 100) hx hb hK hP 5 0 rfl rfl (by omega) (by decide) dX2_adds_39 ?_
    refine W.eq (g2 := F0 m 40 ls (.int ((upd (xLi u) ((a * 10) + b) (nI 0) ((a * 10) + b))) :: [.int (nI ((a * 10) + b)), .ref (ad 5)])) rfl ?_
    refine lv_iload_n hx hb dX2_adds_40 rfl (lv_at hl 3 rfl) ?_
    refine lv_iadd hx hb dX2_adds_41 ?_
    refine lh_ist (k := ((a * 10) + b)) (N := 100) (f2 := upd (upd (xLi u) ((a * 10) + b) (nI 0)) ((a * 10) + b) (((upd (xLi u) ((a * 10) + b) (nI 0) ((a * 10) + b)) + w))) hx hb hK hP hD hS 5 0 rfl rfl (by omega) (by decide) (rfl) dX2_adds_42 (fun H locs hP hD hS => ?_)
    have hP : va_P D vwCl (wM cI cZ ad (sLi (sAg u (upd (xAg u) b (nI 0))) (upd (upd (xLi u) ((a * 10) + b) (nI 0)) ((a * 10) + b) (((upd (xLi u) ((a * 10) + b) (nI 0) ((a * 10) + b)) + w))))) H := hP
    have hD : va_D A (wM cI cZ ad (sLi (sAg u (upd (xAg u) b (nI 0))) (upd (upd (xLi u) ((a * 10) + b) (nI 0)) ((a * 10) + b) (((upd (xLi u) ((a * 10) + b) (nI 0) ((a * 10) + b)) + w))))) := hD
    exact lh_rv hx hb hr hlk hK hP hD hS (by first | (simp [adL, fa_upd_twice, pk_us, nI_0, c_1]; done) | (simp [adL, fa_upd_twice, pk_us, nI_0, c_1]; rfl)) dX2_adds_43
set_option maxRecDepth 100000 in
set_option maxHeartbeats 4000000 in
theorem kX2_sends (l : Launch) (D : va_G) (cI cZ : ClassId) (ad : Nat → Nat) (u : XS) (g : Nat) (ro : Nat → Bool) (b : Nat) (a : Nat) (w : Int32) (hW : xW u < 512) : CV l D [(cI, .int), (cZ, .boolean)] yX2_sends wsX2_sends ({ frames := 0, cells := 0, slots := 0, locals := 0 }) [.ref (ad 0), .int (nI b), .int (rv a), .int (w)] (wG cI cZ ad u g ro) (wG cI cZ ad (app u b a w) g ro) := by
  refine lh_CVof (cc := cX2_sends) (maxL := 4) (ret := none) (own := RX2) (by decide) rfl rfl (Nat.le_of_ble_eq_true rfl) ?_
  intro p e s m below meth c A ls hx hb hr hlk hts hown hml hK hN hA hP hD hS hl
  have fX2_26 := hts (.fieldLink RX2 26 "LostHostsModel" "about" "[I") (by decide +kernel)
  have fX2_74 := hts (.fieldLink RX2 74 "LostHostsModel" "letters" "I") (by decide +kernel)
  have fX2_29 := hts (.fieldLink RX2 29 "LostHostsModel" "toOne" "[I") (by decide +kernel)
  have fX2_32 := hts (.fieldLink RX2 32 "LostHostsModel" "weightIn" "[I") (by decide +kernel)
  have hinX2 : ∀ w ∈ u_ws RX2 TX2 13, w ∈ wsX2_sends := by decide +kernel
  have hl : lv_has ls 4 [(0, .ref (ad 0)), (1, .int (nI b)), (2, .int (rv a)), (3, .int (w))] := hl
  refine lv_aload_n hx hb dX2_sends_0 rfl (lv_at hl 0 rfl) ?_
  refine va_get (D := D) (ci := 2) (v := .ref (ad 6)) (C := RX2) (T := TX2) (N := 13) hx hb hts hinX2 hown hK hP 0 rfl rfl 9 (by decide) fX2_26 (fun _ h9 => h9) rfl dX2_sends_1 ?_
  refine lv_aload_n hx hb dX2_sends_4 rfl (lv_at hl 0 rfl) ?_
  refine va_get (D := D) (ci := 2) (v := .int (nI (xW u))) (C := RX2) (T := TX2) (N := 13) hx hb hts hinX2 hown hK hP 0 rfl rfl 8 (by decide) fX2_74 (fun _ h9 => h9) rfl dX2_sends_5 ?_
  refine lv_iload_n hx hb dX2_sends_8 rfl (lv_at hl 1 rfl) ?_
  refine lh_ist (k := xW u) (N := 512) (f2 := fun zz => nI ((va_up (xAb u) (xW u) b) zz)) hx hb hK hP hD hS 6 0 rfl rfl (by omega) (by decide) (lh_updN (xAb u) _ _) dX2_sends_9 (fun H locs hP hD hS => ?_)
  have hP : va_P D vwCl (wG cI cZ ad (sAb u (va_up (xAb u) (xW u) b)) g ro) H := hP
  have hD : va_D A (wG cI cZ ad (sAb u (va_up (xAb u) (xW u) b)) g ro) := hD
  refine lv_aload_n hx hb dX2_sends_10 rfl (lv_at hl 0 rfl) ?_
  refine va_get (D := D) (ci := 2) (v := .ref (ad 7)) (C := RX2) (T := TX2) (N := 13) hx hb hts hinX2 hown hK hP 0 rfl rfl 10 (by decide) fX2_29 (fun _ h9 => h9) rfl dX2_sends_11 ?_
  refine lv_aload_n hx hb dX2_sends_14 rfl (lv_at hl 0 rfl) ?_
  refine va_get (D := D) (ci := 2) (v := .int (nI (xW u))) (C := RX2) (T := TX2) (N := 13) hx hb hts hinX2 hown hK hP 0 rfl rfl 8 (by decide) fX2_74 (fun _ h9 => h9) rfl dX2_sends_15 ?_
  refine lv_iload_n hx hb dX2_sends_18 rfl (lv_at hl 2 rfl) ?_
  refine lh_ist (k := xW u) (N := 512) (f2 := fun zz => rv ((va_up (xRc u) (xW u) a) zz)) hx hb hK hP hD hS 7 0 rfl rfl (by omega) (by decide) (lh_updR (xRc u) _ _) dX2_sends_19 (fun H locs hP hD hS => ?_)
  have hP : va_P D vwCl (wG cI cZ ad (sRc (sAb u (va_up (xAb u) (xW u) b)) (va_up (xRc u) (xW u) a)) g ro) H := hP
  have hD : va_D A (wG cI cZ ad (sRc (sAb u (va_up (xAb u) (xW u) b)) (va_up (xRc u) (xW u) a)) g ro) := hD
  refine lv_aload_n hx hb dX2_sends_20 rfl (lv_at hl 0 rfl) ?_
  refine va_get (D := D) (ci := 2) (v := .ref (ad 8)) (C := RX2) (T := TX2) (N := 13) hx hb hts hinX2 hown hK hP 0 rfl rfl 11 (by decide) fX2_32 (fun _ h9 => h9) rfl dX2_sends_21 ?_
  refine lv_aload_n hx hb dX2_sends_24 rfl (lv_at hl 0 rfl) ?_
  refine va_get (D := D) (ci := 2) (v := .int (nI (xW u))) (C := RX2) (T := TX2) (N := 13) hx hb hts hinX2 hown hK hP 0 rfl rfl 8 (by decide) fX2_74 (fun _ h9 => h9) rfl dX2_sends_25 ?_
  refine lv_iload_n hx hb dX2_sends_28 rfl (lv_at hl 3 rfl) ?_
  refine lh_ist (k := xW u) (N := 512) (f2 := upd (xLo u) (xW u) (w)) hx hb hK hP hD hS 8 0 rfl rfl (by omega) (by decide) (rfl) dX2_sends_29 (fun H locs hP hD hS => ?_)
  have hP : va_P D vwCl (wG cI cZ ad (sLo (sRc (sAb u (va_up (xAb u) (xW u) b)) (va_up (xRc u) (xW u) a)) (upd (xLo u) (xW u) (w))) g ro) H := hP
  have hD : va_D A (wG cI cZ ad (sLo (sRc (sAb u (va_up (xAb u) (xW u) b)) (va_up (xRc u) (xW u) a)) (upd (xLo u) (xW u) (w))) g ro) := hD
  refine lv_aload_n hx hb dX2_sends_30 rfl (lv_at hl 0 rfl) ?_
  refine lv_dup hx hb dX2_sends_31 rfl ?_
  refine va_get (D := D) (ci := 2) (v := .int (nI (xW u))) (C := RX2) (T := TX2) (N := 13) hx hb hts hinX2 hown hK hP 0 rfl rfl 8 (by decide) fX2_74 (fun _ h9 => h9) rfl dX2_sends_32 ?_
  refine lv_iconst (v := nI 1) hx hb dX2_sends_35 (by decide) ?_
  refine lv_iadd hx hb dX2_sends_36 ?_
  refine lh_top (y := nI (xW u + 1)) (nI_add _ _) ?_
  refine va_put (D := D) (ci := 2) (v := .int (nI (xW u + 1))) (ty := .int) (C := RX2) (T := TX2) (N := 13) hx hb hts hinX2 tyX2 tyX2_ok nmX2 hown hK hP hD hS 0 rfl rfl 8 (by decide) fX2_74 (fun _ h9 => h9) rfl (by decide +kernel) rfl rfl (Nat.le_of_ble_eq_true rfl) dX2_sends_37 (fun H locs hP hD hS => ?_)
  have hP : va_P D vwCl (wG cI cZ ad (sLo (sRc (sAb (sW u ((xW u + 1))) (va_up (xAb u) (xW u) b)) (va_up (xRc u) (xW u) a)) (upd (xLo u) (xW u) (w))) g ro) H := hP
  have hD : va_D A (wG cI cZ ad (sLo (sRc (sAb (sW u ((xW u + 1))) (va_up (xAb u) (xW u) b)) (va_up (xRc u) (xW u) a)) (upd (xLo u) (xW u) (w))) g ro) := hD
  exact lh_rv hx hb hr hlk hK hP hD hS (by rfl) dX2_sends_40
set_option maxRecDepth 100000 in
set_option maxHeartbeats 4000000 in
theorem kX2_hostFor (l : Launch) (D : va_G) (cI cZ : ClassId) (ad : Nat → Nat) (u : XS) (k : Nat) (ok : okB u) (hk : k < 512) : CI l D [(cI, .int), (cZ, .boolean)] yX2_hostFor wsX2_hostFor ({ frames := 0, cells := 0, slots := 0, locals := 0 }) [.ref (ad 0), .int (nI k)] (wM cI cZ ad u) (wM cI cZ ad u) (nI (goT u k)) := by
  obtain ⟨hM, hW, hHo, hAb, hLb, hRb, hDb⟩ := id ok
  refine lh_CIof (cc := cX2_hostFor) (maxL := 2) (ret := (some .int)) (own := RX2) (by decide) rfl rfl (Nat.le_of_ble_eq_true rfl) ?_
  intro p e s m below meth c A ls hx hb hr hlk hts hown hml hK hN hA hP hD hS hl
  have fX2_29 := hts (.fieldLink RX2 29 "LostHostsModel" "toOne" "[I") (by decide +kernel)
  have fX2_7 := hts (.fieldLink RX2 7 "LostHostsModel" "hostOf" "[I") (by decide +kernel)
  have fX2_26 := hts (.fieldLink RX2 26 "LostHostsModel" "about" "[I") (by decide +kernel)
  have hinX2 : ∀ w ∈ u_ws RX2 TX2 13, w ∈ wsX2_hostFor := by decide +kernel
  have hl : lv_has ls 2 [(0, .ref (ad 0)), (1, .int (nI k))] := hl
  refine lv_aload_n hx hb dX2_hostFor_0 rfl (lv_at hl 0 rfl) ?_
  refine va_get (D := D) (ci := 2) (v := .ref (ad 7)) (C := RX2) (T := TX2) (N := 13) hx hb hts hinX2 hown hK hP 0 rfl rfl 10 (by decide) fX2_29 (fun _ h9 => h9) rfl dX2_hostFor_1 ?_
  refine lv_iload_n hx hb dX2_hostFor_4 rfl (lv_at hl 1 rfl) ?_
  refine lh_ild (k := k) (N := 512) hx hb hK hP 7 0 rfl rfl (by omega) (by decide) dX2_hostFor_5 ?_
  refine W.eq (g2 := F0 m 6 ls (.int (rv (xRc u k)) :: [])) rfl ?_
  refine lv_bipush (v := (-9)) hx hb dX2_hostFor_6 (by decide) ?_
  refine lv_icmp_ne (tgt := 25) hx hb dX2_hostFor_8 (by decide) (fun c_1 => ?_) (fun c_1 => ?_)
  · have c_1 : (xRc u k) < 10 := rv_ne9 c_1
    refine lv_aload_n hx hb dX2_hostFor_25 rfl (lv_at hl 0 rfl) ?_
    refine va_get (D := D) (ci := 2) (v := .ref (ad 1)) (C := RX2) (T := TX2) (N := 13) hx hb hts hinX2 hown hK hP 0 rfl rfl 2 (by decide) fX2_7 (fun _ h9 => h9) rfl dX2_hostFor_26 ?_
    refine lv_aload_n hx hb dX2_hostFor_29 rfl (lv_at hl 0 rfl) ?_
    refine va_get (D := D) (ci := 2) (v := .ref (ad 7)) (C := RX2) (T := TX2) (N := 13) hx hb hts hinX2 hown hK hP 0 rfl rfl 10 (by decide) fX2_29 (fun _ h9 => h9) rfl dX2_hostFor_30 ?_
    refine lv_iload_n hx hb dX2_hostFor_33 rfl (lv_at hl 1 rfl) ?_
    refine lh_ild (k := k) (N := 512) hx hb hK hP 7 0 rfl rfl (by omega) (by decide) dX2_hostFor_34 ?_
    refine W.eq (g2 := F0 m 35 ls (.int (rv (xRc u k)) :: [.ref (ad 1)])) rfl ?_
    refine lh_top (y := nI (xRc u k)) (rv_lt (by omega)) ?_
    refine lh_ild (k := xRc u k) (N := 10) hx hb hK hP 1 0 rfl rfl (by omega) (by decide) dX2_hostFor_35 ?_
    refine W.eq (g2 := F0 m 36 ls (.int (nI (xHo u (xRc u k))) :: [])) rfl ?_
    exact lh_ri hx hb hr hlk hK hP hD hS (by first | (simp [nI_0, nI_o, goT, c_1]; done) | (simp [nI_0, nI_o, goT, c_1]; rfl)) rfl dX2_hostFor_36
  · have c_1 : ¬ (xRc u k) < 10 := rv_eq9 c_1
    refine lv_aload_n hx hb dX2_hostFor_11 rfl (lv_at hl 0 rfl) ?_
    refine va_get (D := D) (ci := 2) (v := .ref (ad 1)) (C := RX2) (T := TX2) (N := 13) hx hb hts hinX2 hown hK hP 0 rfl rfl 2 (by decide) fX2_7 (fun _ h9 => h9) rfl dX2_hostFor_12 ?_
    refine lv_aload_n hx hb dX2_hostFor_15 rfl (lv_at hl 0 rfl) ?_
    refine va_get (D := D) (ci := 2) (v := .ref (ad 6)) (C := RX2) (T := TX2) (N := 13) hx hb hts hinX2 hown hK hP 0 rfl rfl 9 (by decide) fX2_26 (fun _ h9 => h9) rfl dX2_hostFor_16 ?_
    refine lv_iload_n hx hb dX2_hostFor_19 rfl (lv_at hl 1 rfl) ?_
    refine lh_ild (k := k) (N := 512) hx hb hK hP 6 0 rfl rfl (by omega) (by decide) dX2_hostFor_20 ?_
    refine W.eq (g2 := F0 m 21 ls (.int (nI (xAb u k)) :: [.ref (ad 1)])) rfl ?_
    refine lh_ild (k := xAb u k) (N := 10) hx hb hK hP 1 0 rfl rfl (by have h9 := hAb k; omega) (by decide) dX2_hostFor_21 ?_
    refine W.eq (g2 := F0 m 22 ls (.int (nI (xHo u (xAb u k))) :: [])) rfl ?_
    refine lv_goto (tgt := 36) hx hb dX2_hostFor_22 (by decide) ?_
    exact lh_ri hx hb hr hlk hK hP hD hS (by first | (simp [nI_0, nI_o, goT, c_1]; done) | (simp [nI_0, nI_o, goT, c_1]; rfl)) rfl dX2_hostFor_36
set_option maxRecDepth 100000 in
set_option maxHeartbeats 4000000 in
theorem kX2_fromOf (l : Launch) (D : va_G) (cI cZ : ClassId) (ad : Nat → Nat) (u : XS) (a : Nat) (ok : okB u) (ha : a < 10) : CI l D [(cI, .int), (cZ, .boolean)] yX2_fromOf wsX2_fromOf ({ frames := 2, cells := 0, slots := 0, locals := 44 }) [.ref (ad 0), .int (nI a)] (wM cI cZ ad u) (wM cI cZ ad u) (nI (frO u a)) := by
  obtain ⟨hM, hW, hHo, hAb, hLb, hRb, hDb⟩ := id ok
  refine lh_CIof (cc := cX2_fromOf) (maxL := 4) (ret := (some .int)) (own := RX2) (by decide) rfl rfl (Nat.le_of_ble_eq_true rfl) ?_
  intro p e s m below meth c A ls hx hb hr hlk hts hown hml hK hN hA hP hD hS hl
  have fX2_39 := hts (.fieldLink RX2 39 "LostHostsModel" "objects" "I") (by decide +kernel)
  have hinX2 : ∀ w ∈ u_ws RX2 TX2 13, w ∈ wsX2_fromOf := by decide +kernel
  have hl : lv_has ls 4 [(0, .ref (ad 0)), (1, .int (nI a))] := hl
  refine lv_iconst (v := nI 0) hx hb dX2_fromOf_0 (by decide) ?_
  refine lv_istore_n (lv' := [(2, .int (nI 0)), (0, .ref (ad 0)), (1, .int (nI a))]) hx hb dX2_fromOf_1 rfl hl (by decide) rfl (fun ls hl => ?_)
  refine lv_iconst (v := nI 0) hx hb dX2_fromOf_2 (by decide) ?_
  refine lv_istore_n (lv' := [(3, .int (nI 0)), (2, .int (nI 0)), (0, .ref (ad 0)), (1, .int (nI a))]) hx hb dX2_fromOf_3 rfl hl (by decide) rfl (fun ls hl => ?_)
  have L4 : ∀ (n : Nat) (k : Nat) (acc : Nat), xM u - k < n → (k ≤ xM u) → (acc = mk (fun b => lnk u a b) k) → ∀ (H : Heap) (locs : List Loc), va_P D vwCl (wM cI cZ ad u) H → va_D A (wM cI cZ ad u) → va_S A s.heap H locs → ∀ (ls : Array Slot), lv_has ls 4 [(3, .int (nI k)), (2, .int (nI acc)), (0, .ref (ad 0)), (1, .int (nI a))] → W p l e ({ frames := 2, cells := 0, slots := 0, locals := 44 }) s m [.ref (ad 0), .int (nI a)].toArray below meth c H locs 0 0 (QI below D [(cI, .int), (cZ, .boolean)] A (wM cI cZ ad u) (nI (frO u a)) [.ref (ad 0), .int (nI a)].toArray s) (F0 m 4 ls []) := by
    intro n
    induction n with
    | zero => intro k acc hmu; exact absurd hmu (Nat.not_lt_zero _)
    | succ n ih4 =>
      intro k acc hmu4 hk hacc H locs hP hD hS ls hl
      refine lv_iload_n hx hb dX2_fromOf_4 rfl (lv_at hl 0 rfl) ?_
      refine lv_aload_n hx hb dX2_fromOf_5 rfl (lv_at hl 2 rfl) ?_
      refine va_get (D := D) (ci := 2) (v := .int (nI (xM u))) (C := RX2) (T := TX2) (N := 13) hx hb hts hinX2 hown hK hP 0 rfl rfl 1 (by decide) fX2_39 (fun _ h9 => h9) rfl dX2_fromOf_6 ?_
      refine lv_icmp_ge (tgt := 37) hx hb dX2_fromOf_9 (by decide) (fun c_1 => ?_) (fun c_1 => ?_)
      · have c_1 : xM u ≤ k := (nI_leI (by omega) (by omega)).mp c_1
        have c_1n : ¬ k < xM u := by omega
        refine lv_iload_n hx hb dX2_fromOf_37 rfl (lv_at hl 1 rfl) ?_
        exact lh_ri hx hb hr hlk hK hP hD hS (by rw [hacc, show k = xM u by omega]; rfl) rfl dX2_fromOf_38
      · have c_1 : k < xM u := Nat.lt_of_not_le (fun h => c_1 ((nI_leI (by omega) (by omega)).mpr h))
        refine lv_iload_n hx hb dX2_fromOf_12 rfl (lv_at hl 1 rfl) ?_
        refine lv_aload_n hx hb dX2_fromOf_13 rfl (lv_at hl 2 rfl) ?_
        refine lv_iload_n hx hb dX2_fromOf_14 rfl (lv_at hl 3 rfl) ?_
        refine lv_iload_n hx hb dX2_fromOf_15 rfl (lv_at hl 0 rfl) ?_
        refine lh_cVi ⟨hx, hb, hml, hown, hts⟩ (kX2_isLink l D cI cZ ad u a k (by omega) (by omega)) (cwV 2 hts gX2_fromOf_X2_isLink rfl rfl rfl (by decide +kernel) ⟨Nat.le_of_ble_eq_true rfl, Nat.le_of_ble_eq_true rfl⟩) hK hN hP hD hS hA 0 2 rfl rfl rfl rfl hl.1 rfl (Nat.le_of_ble_eq_true rfl) ⟨Nat.le_of_ble_eq_true rfl, Nat.le_of_ble_eq_true rfl⟩ dX2_fromOf_16 (fun H locs hP hD hS => ?_)
        refine lv_if_eq (tgt := 28) hx hb dX2_fromOf_19 (by decide) (fun c_2 => ?_) (fun c_2 => ?_)
        · have c_2 : (lnk u a k) = false := b2i_e0 c_2
          refine lv_iconst (v := nI 0) hx hb dX2_fromOf_28 (by decide) ?_
          refine lv_ior hx hb dX2_fromOf_29 ?_
          refine lh_top (y := nI (acc ||| 0)) (fa_or _ _) ?_
          refine lv_istore_n (lv' := [(2, .int (nI (acc ||| 0))), (3, .int (nI k)), (0, .ref (ad 0)), (1, .int (nI a))]) hx hb dX2_fromOf_30 rfl hl (by decide) rfl (fun ls hl => ?_)
          refine lv_iinc (v := nI (k + 1)) (lv' := [(3, .int (nI (k + 1))), (2, .int (nI (acc ||| 0))), (0, .ref (ad 0)), (1, .int (nI a))]) hx hb dX2_fromOf_31 hl (k := 1) rfl (lh_inc _) (by decide) rfl (fun ls hl => ?_)
          refine lv_goto (tgt := 4) hx hb dX2_fromOf_34 (by decide) ?_
          exact ih4 (k + 1) (acc ||| 0) (by omega) (by omega) (by first | exact lh_mkt hacc (by simp [c_1, c_2]) | exact lh_mkf hacc (by simp [c_1, c_2]) | exact lh_mk0 hacc (by simp [c_1, c_2])) _ _ hP hD hS ls (lv_sub hl [0, 1, 2, 3] rfl)
        · have c_2 : (lnk u a k) = true := b2i_n0 c_2
          refine lv_iconst (v := nI 1) hx hb dX2_fromOf_22 (by decide) ?_
          refine lv_iload_n hx hb dX2_fromOf_23 rfl (lv_at hl 0 rfl) ?_
          refine lv_ishl hx hb dX2_fromOf_24 ?_
          refine lh_top (y := nI (2 ^ k)) (lh_bit (by omega)) ?_
          refine lv_goto (tgt := 29) hx hb dX2_fromOf_25 (by decide) ?_
          refine lv_ior hx hb dX2_fromOf_29 ?_
          refine lh_top (y := nI (acc ||| (2 ^ k))) (fa_or _ _) ?_
          refine lv_istore_n (lv' := [(2, .int (nI (acc ||| (2 ^ k)))), (3, .int (nI k)), (0, .ref (ad 0)), (1, .int (nI a))]) hx hb dX2_fromOf_30 rfl hl (by decide) rfl (fun ls hl => ?_)
          refine lv_iinc (v := nI (k + 1)) (lv' := [(3, .int (nI (k + 1))), (2, .int (nI (acc ||| (2 ^ k)))), (0, .ref (ad 0)), (1, .int (nI a))]) hx hb dX2_fromOf_31 hl (k := 1) rfl (lh_inc _) (by decide) rfl (fun ls hl => ?_)
          refine lv_goto (tgt := 4) hx hb dX2_fromOf_34 (by decide) ?_
          exact ih4 (k + 1) (acc ||| (2 ^ k)) (by omega) (by omega) (by first | exact lh_mkt hacc (by simp [c_1, c_2]) | exact lh_mkf hacc (by simp [c_1, c_2]) | exact lh_mk0 hacc (by simp [c_1, c_2])) _ _ hP hD hS ls (lv_sub hl [0, 1, 2, 3] rfl)
  exact L4 _ 0 0 (Nat.lt_succ_self _) (by omega) (by rfl) _ _ hP hD hS ls (lv_sub hl [0, 1, 2, 3] rfl)
set_option maxRecDepth 100000 in
set_option maxHeartbeats 4000000 in
theorem kX2_toOf (l : Launch) (D : va_G) (cI cZ : ClassId) (ad : Nat → Nat) (u : XS) (b : Nat) (ok : okB u) (ha : b < 10) : CI l D [(cI, .int), (cZ, .boolean)] yX2_toOf wsX2_toOf ({ frames := 2, cells := 0, slots := 0, locals := 44 }) [.ref (ad 0), .int (nI b)] (wM cI cZ ad u) (wM cI cZ ad u) (nI (toO u b)) := by
  obtain ⟨hM, hW, hHo, hAb, hLb, hRb, hDb⟩ := id ok
  refine lh_CIof (cc := cX2_toOf) (maxL := 4) (ret := (some .int)) (own := RX2) (by decide) rfl rfl (Nat.le_of_ble_eq_true rfl) ?_
  intro p e s m below meth c A ls hx hb hr hlk hts hown hml hK hN hA hP hD hS hl
  have fX2_39 := hts (.fieldLink RX2 39 "LostHostsModel" "objects" "I") (by decide +kernel)
  have hinX2 : ∀ w ∈ u_ws RX2 TX2 13, w ∈ wsX2_toOf := by decide +kernel
  have hl : lv_has ls 4 [(0, .ref (ad 0)), (1, .int (nI b))] := hl
  refine lv_iconst (v := nI 0) hx hb dX2_toOf_0 (by decide) ?_
  refine lv_istore_n (lv' := [(2, .int (nI 0)), (0, .ref (ad 0)), (1, .int (nI b))]) hx hb dX2_toOf_1 rfl hl (by decide) rfl (fun ls hl => ?_)
  refine lv_iconst (v := nI 0) hx hb dX2_toOf_2 (by decide) ?_
  refine lv_istore_n (lv' := [(3, .int (nI 0)), (2, .int (nI 0)), (0, .ref (ad 0)), (1, .int (nI b))]) hx hb dX2_toOf_3 rfl hl (by decide) rfl (fun ls hl => ?_)
  have L4 : ∀ (n : Nat) (k : Nat) (acc : Nat), xM u - k < n → (k ≤ xM u) → (acc = mk (fun a => lnk u a b) k) → ∀ (H : Heap) (locs : List Loc), va_P D vwCl (wM cI cZ ad u) H → va_D A (wM cI cZ ad u) → va_S A s.heap H locs → ∀ (ls : Array Slot), lv_has ls 4 [(3, .int (nI k)), (2, .int (nI acc)), (0, .ref (ad 0)), (1, .int (nI b))] → W p l e ({ frames := 2, cells := 0, slots := 0, locals := 44 }) s m [.ref (ad 0), .int (nI b)].toArray below meth c H locs 0 0 (QI below D [(cI, .int), (cZ, .boolean)] A (wM cI cZ ad u) (nI (toO u b)) [.ref (ad 0), .int (nI b)].toArray s) (F0 m 4 ls []) := by
    intro n
    induction n with
    | zero => intro k acc hmu; exact absurd hmu (Nat.not_lt_zero _)
    | succ n ih4 =>
      intro k acc hmu4 hk hacc H locs hP hD hS ls hl
      refine lv_iload_n hx hb dX2_toOf_4 rfl (lv_at hl 0 rfl) ?_
      refine lv_aload_n hx hb dX2_toOf_5 rfl (lv_at hl 2 rfl) ?_
      refine va_get (D := D) (ci := 2) (v := .int (nI (xM u))) (C := RX2) (T := TX2) (N := 13) hx hb hts hinX2 hown hK hP 0 rfl rfl 1 (by decide) fX2_39 (fun _ h9 => h9) rfl dX2_toOf_6 ?_
      refine lv_icmp_ge (tgt := 37) hx hb dX2_toOf_9 (by decide) (fun c_1 => ?_) (fun c_1 => ?_)
      · have c_1 : xM u ≤ k := (nI_leI (by omega) (by omega)).mp c_1
        have c_1n : ¬ k < xM u := by omega
        refine lv_iload_n hx hb dX2_toOf_37 rfl (lv_at hl 1 rfl) ?_
        exact lh_ri hx hb hr hlk hK hP hD hS (by rw [hacc, show k = xM u by omega]; rfl) rfl dX2_toOf_38
      · have c_1 : k < xM u := Nat.lt_of_not_le (fun h => c_1 ((nI_leI (by omega) (by omega)).mpr h))
        refine lv_iload_n hx hb dX2_toOf_12 rfl (lv_at hl 1 rfl) ?_
        refine lv_aload_n hx hb dX2_toOf_13 rfl (lv_at hl 2 rfl) ?_
        refine lv_iload_n hx hb dX2_toOf_14 rfl (lv_at hl 0 rfl) ?_
        refine lv_iload_n hx hb dX2_toOf_15 rfl (lv_at hl 3 rfl) ?_
        refine lh_cVi ⟨hx, hb, hml, hown, hts⟩ (kX2_isLink l D cI cZ ad u k b (by omega) (by omega)) (cwV 2 hts gX2_toOf_X2_isLink rfl rfl rfl (by decide +kernel) ⟨Nat.le_of_ble_eq_true rfl, Nat.le_of_ble_eq_true rfl⟩) hK hN hP hD hS hA 0 2 rfl rfl rfl rfl hl.1 rfl (Nat.le_of_ble_eq_true rfl) ⟨Nat.le_of_ble_eq_true rfl, Nat.le_of_ble_eq_true rfl⟩ dX2_toOf_16 (fun H locs hP hD hS => ?_)
        refine lv_if_eq (tgt := 28) hx hb dX2_toOf_19 (by decide) (fun c_2 => ?_) (fun c_2 => ?_)
        · have c_2 : (lnk u k b) = false := b2i_e0 c_2
          refine lv_iconst (v := nI 0) hx hb dX2_toOf_28 (by decide) ?_
          refine lv_ior hx hb dX2_toOf_29 ?_
          refine lh_top (y := nI (acc ||| 0)) (fa_or _ _) ?_
          refine lv_istore_n (lv' := [(2, .int (nI (acc ||| 0))), (3, .int (nI k)), (0, .ref (ad 0)), (1, .int (nI b))]) hx hb dX2_toOf_30 rfl hl (by decide) rfl (fun ls hl => ?_)
          refine lv_iinc (v := nI (k + 1)) (lv' := [(3, .int (nI (k + 1))), (2, .int (nI (acc ||| 0))), (0, .ref (ad 0)), (1, .int (nI b))]) hx hb dX2_toOf_31 hl (k := 1) rfl (lh_inc _) (by decide) rfl (fun ls hl => ?_)
          refine lv_goto (tgt := 4) hx hb dX2_toOf_34 (by decide) ?_
          exact ih4 (k + 1) (acc ||| 0) (by omega) (by omega) (by first | exact lh_mkt hacc (by simp [c_1, c_2]) | exact lh_mkf hacc (by simp [c_1, c_2]) | exact lh_mk0 hacc (by simp [c_1, c_2])) _ _ hP hD hS ls (lv_sub hl [0, 1, 2, 3] rfl)
        · have c_2 : (lnk u k b) = true := b2i_n0 c_2
          refine lv_iconst (v := nI 1) hx hb dX2_toOf_22 (by decide) ?_
          refine lv_iload_n hx hb dX2_toOf_23 rfl (lv_at hl 0 rfl) ?_
          refine lv_ishl hx hb dX2_toOf_24 ?_
          refine lh_top (y := nI (2 ^ k)) (lh_bit (by omega)) ?_
          refine lv_goto (tgt := 29) hx hb dX2_toOf_25 (by decide) ?_
          refine lv_ior hx hb dX2_toOf_29 ?_
          refine lh_top (y := nI (acc ||| (2 ^ k))) (fa_or _ _) ?_
          refine lv_istore_n (lv' := [(2, .int (nI (acc ||| (2 ^ k)))), (3, .int (nI k)), (0, .ref (ad 0)), (1, .int (nI b))]) hx hb dX2_toOf_30 rfl hl (by decide) rfl (fun ls hl => ?_)
          refine lv_iinc (v := nI (k + 1)) (lv' := [(3, .int (nI (k + 1))), (2, .int (nI (acc ||| (2 ^ k)))), (0, .ref (ad 0)), (1, .int (nI b))]) hx hb dX2_toOf_31 hl (k := 1) rfl (lh_inc _) (by decide) rfl (fun ls hl => ?_)
          refine lv_goto (tgt := 4) hx hb dX2_toOf_34 (by decide) ?_
          exact ih4 (k + 1) (acc ||| (2 ^ k)) (by omega) (by omega) (by first | exact lh_mkt hacc (by simp [c_1, c_2]) | exact lh_mkf hacc (by simp [c_1, c_2]) | exact lh_mk0 hacc (by simp [c_1, c_2])) _ _ hP hD hS ls (lv_sub hl [0, 1, 2, 3] rfl)
  exact L4 _ 0 0 (Nat.lt_succ_self _) (by omega) (by rfl) _ _ hP hD hS ls (lv_sub hl [0, 1, 2, 3] rfl)
set_option maxRecDepth 100000 in
set_option maxHeartbeats 4000000 in
theorem kX2_splits (l : Launch) (D : va_G) (cI cZ : ClassId) (ad : Nat → Nat) (u : XS) (x : Nat) (b : Nat) (hx9 : x < 10) (hb2 : b < 10) : CI l D [(cI, .int), (cZ, .boolean)] yX2_splits wsX2_splits ({ frames := 0, cells := 0, slots := 0, locals := 0 }) [.ref (ad 0), .int (nI x), .int (nI b)] (wM cI cZ ad u) (wM cI cZ ad (splS u x b)) (splR u x b) := by
  refine lh_CIof (cc := cX2_splits) (maxL := 5) (ret := (some .int)) (own := RX2) (by decide) rfl rfl (Nat.le_of_ble_eq_true rfl) ?_
  intro p e s m below meth c A ls hx hb hr hlk hts hown hml hK hN hA hP hD hS hl
  have fX2_23 := hts (.fieldLink RX2 23 "LostHostsModel" "linkOf" "[I") (by decide +kernel)
  have fX2_17 := hts (.fieldLink RX2 17 "LostHostsModel" "outOf" "[I") (by decide +kernel)
  have fX2_87 := hts (.fieldLink RX2 87 "LostHostsModel" "filled" "I") (by decide +kernel)
  have hinX2 : ∀ w ∈ u_ws RX2 TX2 13, w ∈ wsX2_splits := by decide +kernel
  have hl : lv_has ls 5 [(0, .ref (ad 0)), (1, .int (nI x)), (2, .int (nI b))] := hl
  refine lv_bipush (v := nI 10) hx hb dX2_splits_0 (by decide) ?_
  refine lv_iload_n hx hb dX2_splits_2 rfl (lv_at hl 1 rfl) ?_
  refine lv_imul hx hb dX2_splits_3 ?_
  refine lh_top (y := nI (x * 10)) ((pk_mul _ _).trans (congrArg nI (Nat.mul_comm _ _))) ?_
  refine lv_iload_n hx hb dX2_splits_4 rfl (lv_at hl 2 rfl) ?_
  refine lv_iadd hx hb dX2_splits_5 ?_
  refine lh_top (y := nI ((x * 10) + b)) (nI_add _ _) ?_
  refine lv_istore_n (lv' := [(3, .int (nI ((x * 10) + b))), (0, .ref (ad 0)), (1, .int (nI x)), (2, .int (nI b))]) hx hb dX2_splits_6 rfl hl (by decide) rfl (fun ls hl => ?_)
  refine lv_aload_n hx hb dX2_splits_7 rfl (lv_at hl 1 rfl) ?_
  refine va_get (D := D) (ci := 2) (v := .ref (ad 5)) (C := RX2) (T := TX2) (N := 13) hx hb hts hinX2 hown hK hP 0 rfl rfl 7 (by decide) fX2_23 (fun _ h9 => h9) rfl dX2_splits_8 ?_
  refine lv_iload_n hx hb dX2_splits_11 rfl (lv_at hl 0 rfl) ?_
  refine lh_ild (k := ((x * 10) + b)) (N := 100) hx hb hK hP 5 0 rfl rfl (by omega) (by decide) dX2_splits_12 ?_
  refine W.eq (g2 := F0 m 13 ls (.int ((xLi u ((x * 10) + b))) :: [])) rfl ?_
  refine lv_iconst (v := nI 1) hx hb dX2_splits_13 (by decide) ?_
  refine lv_icmp_ne (tgt := 49) hx hb dX2_splits_14 (by decide) (fun c_1 => ?_) (fun c_1 => ?_)
  · have c_1r := c_1
    refine lv_aload_n hx hb dX2_splits_49 rfl (lv_at hl 1 rfl) ?_
    refine va_get (D := D) (ci := 2) (v := .ref (ad 5)) (C := RX2) (T := TX2) (N := 13) hx hb hts hinX2 hown hK hP 0 rfl rfl 7 (by decide) fX2_23 (fun _ h9 => h9) rfl dX2_splits_50 ?_
    refine lv_iload_n hx hb dX2_splits_53 rfl (lv_at hl 0 rfl) ?_
    refine lh_ild (k := ((x * 10) + b)) (N := 100) hx hb hK hP 5 0 rfl rfl (by omega) (by decide) dX2_splits_54 ?_
    refine W.eq (g2 := F0 m 55 ls (.int ((xLi u ((x * 10) + b))) :: [])) rfl ?_
    refine lv_iconst (v := nI 2) hx hb dX2_splits_55 (by decide) ?_
    refine lv_idiv hx hb dX2_splits_56 (by decide) ?_
    refine lv_istore (lv' := [(4, .int (((xLi u ((x * 10) + b)) / nI 2))), (3, .int (nI ((x * 10) + b))), (0, .ref (ad 0)), (1, .int (nI x)), (2, .int (nI b))]) hx hb dX2_splits_57 hl (by decide) rfl (fun ls hl => ?_)
    refine lv_aload_n hx hb dX2_splits_59 rfl (lv_at hl 2 rfl) ?_
    refine va_get (D := D) (ci := 2) (v := .ref (ad 5)) (C := RX2) (T := TX2) (N := 13) hx hb hts hinX2 hown hK hP 0 rfl rfl 7 (by decide) fX2_23 (fun _ h9 => h9) rfl dX2_splits_60 ?_
    refine lv_iload_n hx hb dX2_splits_63 rfl (lv_at hl 1 rfl) ?_
    refine lv_dup2_11 hx hb dX2_splits_64 rfl rfl ?_
    refine lh_ild (k := ((x * 10) + b)) (N := 100) hx hb hK hP 5 0 rfl rfl (by omega) (by decide) dX2_splits_65 ?_
    refine W.eq (g2 := F0 m 66 ls (.int ((xLi u ((x * 10) + b))) :: [.int (nI ((x * 10) + b)), .ref (ad 5)])) rfl ?_
    refine lv_iload hx hb dX2_splits_66 (lv_at hl 0 rfl) ?_
    refine lv_isub hx hb dX2_splits_68 ?_
    refine lh_ist (k := ((x * 10) + b)) (N := 100) (f2 := upd (xLi u) ((x * 10) + b) (((xLi u ((x * 10) + b)) - ((xLi u ((x * 10) + b)) / nI 2)))) hx hb hK hP hD hS 5 0 rfl rfl (by omega) (by decide) (rfl) dX2_splits_69 (fun H locs hP hD hS => ?_)
    have hP : va_P D vwCl (wM cI cZ ad (sLi u (upd (xLi u) ((x * 10) + b) (((xLi u ((x * 10) + b)) - ((xLi u ((x * 10) + b)) / nI 2)))))) H := hP
    have hD : va_D A (wM cI cZ ad (sLi u (upd (xLi u) ((x * 10) + b) (((xLi u ((x * 10) + b)) - ((xLi u ((x * 10) + b)) / nI 2)))))) := hD
    refine lv_iload hx hb dX2_splits_70 (lv_at hl 0 rfl) ?_
    exact lh_ri hx hb hr hlk hK hP hD hS (by (simp [splR, splW, pk_us, c_1])) (by first | (simp [splS, splW, pk_us, fa_upd_twice, c_1]; done) | (simp [splS, splW, pk_us, fa_upd_twice, c_1]; rfl)) dX2_splits_72
  · have c_1r := c_1
    refine lv_aload_n hx hb dX2_splits_17 rfl (lv_at hl 1 rfl) ?_
    refine va_get (D := D) (ci := 2) (v := .ref (ad 5)) (C := RX2) (T := TX2) (N := 13) hx hb hts hinX2 hown hK hP 0 rfl rfl 7 (by decide) fX2_23 (fun _ h9 => h9) rfl dX2_splits_18 ?_
    refine lv_iload_n hx hb dX2_splits_21 rfl (lv_at hl 0 rfl) ?_
    refine lv_dup2_11 hx hb dX2_splits_22 rfl rfl ?_
    refine lh_ild (k := ((x * 10) + b)) (N := 100) hx hb hK hP 5 0 rfl rfl (by omega) (by decide) dX2_splits_23 ?_
    refine W.eq (g2 := F0 m 24 ls (.int ((xLi u ((x * 10) + b))) :: [.int (nI ((x * 10) + b)), .ref (ad 5)])) rfl ?_
    refine lv_bipush (v := nI 64) hx hb dX2_splits_24 (by decide) ?_
    refine lv_iadd hx hb dX2_splits_26 ?_
    refine lh_ist (k := ((x * 10) + b)) (N := 100) (f2 := upd (xLi u) ((x * 10) + b) (((xLi u ((x * 10) + b)) + nI 64))) hx hb hK hP hD hS 5 0 rfl rfl (by omega) (by decide) (rfl) dX2_splits_27 (fun H locs hP hD hS => ?_)
    have hP : va_P D vwCl (wM cI cZ ad (sLi u (upd (xLi u) ((x * 10) + b) (((xLi u ((x * 10) + b)) + nI 64))))) H := hP
    have hD : va_D A (wM cI cZ ad (sLi u (upd (xLi u) ((x * 10) + b) (((xLi u ((x * 10) + b)) + nI 64))))) := hD
    refine lv_aload_n hx hb dX2_splits_28 rfl (lv_at hl 1 rfl) ?_
    refine va_get (D := D) (ci := 2) (v := .ref (ad 3)) (C := RX2) (T := TX2) (N := 13) hx hb hts hinX2 hown hK hP 0 rfl rfl 5 (by decide) fX2_17 (fun _ h9 => h9) rfl dX2_splits_29 ?_
    refine lv_iload_n hx hb dX2_splits_32 rfl (lv_at hl 3 rfl) ?_
    refine lv_dup2_11 hx hb dX2_splits_33 rfl rfl ?_
    refine lh_ild (k := b) (N := 10) hx hb hK hP 3 0 rfl rfl (by omega) (by decide) dX2_splits_34 ?_
    refine W.eq (g2 := F0 m 35 ls (.int ((xOu u b)) :: [.int (nI b), .ref (ad 3)])) rfl ?_
    refine lv_bipush (v := nI 64) hx hb dX2_splits_35 (by decide) ?_
    refine lv_iadd hx hb dX2_splits_37 ?_
    refine lh_ist (k := b) (N := 10) (f2 := upd (xOu u) b (((xOu u b) + nI 64))) hx hb hK hP hD hS 3 0 rfl rfl (by omega) (by decide) (rfl) dX2_splits_38 (fun H locs hP hD hS => ?_)
    have hP : va_P D vwCl (wM cI cZ ad (sLi (sOu u (upd (xOu u) b (((xOu u b) + nI 64)))) (upd (xLi u) ((x * 10) + b) (((xLi u ((x * 10) + b)) + nI 64))))) H := hP
    have hD : va_D A (wM cI cZ ad (sLi (sOu u (upd (xOu u) b (((xOu u b) + nI 64)))) (upd (xLi u) ((x * 10) + b) (((xLi u ((x * 10) + b)) + nI 64))))) := hD
    refine lv_aload_n hx hb dX2_splits_39 rfl (lv_at hl 1 rfl) ?_
    refine lv_dup hx hb dX2_splits_40 rfl ?_
    refine va_get (D := D) (ci := 2) (v := .int (xF u)) (C := RX2) (T := TX2) (N := 13) hx hb hts hinX2 hown hK hP 0 rfl rfl 12 (by decide) fX2_87 (fun _ h9 => h9) rfl dX2_splits_41 ?_
    refine lv_iconst (v := nI 1) hx hb dX2_splits_44 (by decide) ?_
    refine lv_iadd hx hb dX2_splits_45 ?_
    refine va_put (D := D) (ci := 2) (v := .int ((xF u + nI 1))) (ty := .int) (C := RX2) (T := TX2) (N := 13) hx hb hts hinX2 tyX2 tyX2_ok nmX2 hown hK hP hD hS 0 rfl rfl 12 (by decide) fX2_87 (fun _ h9 => h9) rfl (by decide +kernel) rfl rfl (Nat.le_of_ble_eq_true rfl) dX2_splits_46 (fun H locs hP hD hS => ?_)
    have hP : va_P D vwCl (wM cI cZ ad (sLi (sOu (sF u ((xF u + nI 1))) (upd (xOu u) b (((xOu u b) + nI 64)))) (upd (xLi u) ((x * 10) + b) (((xLi u ((x * 10) + b)) + nI 64))))) H := hP
    have hD : va_D A (wM cI cZ ad (sLi (sOu (sF u ((xF u + nI 1))) (upd (xOu u) b (((xOu u b) + nI 64)))) (upd (xLi u) ((x * 10) + b) (((xLi u ((x * 10) + b)) + nI 64))))) := hD
    refine lv_aload_n hx hb dX2_splits_49 rfl (lv_at hl 1 rfl) ?_
    refine va_get (D := D) (ci := 2) (v := .ref (ad 5)) (C := RX2) (T := TX2) (N := 13) hx hb hts hinX2 hown hK hP 0 rfl rfl 7 (by decide) fX2_23 (fun _ h9 => h9) rfl dX2_splits_50 ?_
    refine lv_iload_n hx hb dX2_splits_53 rfl (lv_at hl 0 rfl) ?_
    refine lh_ild (k := ((x * 10) + b)) (N := 100) hx hb hK hP 5 0 rfl rfl (by omega) (by decide) dX2_splits_54 ?_
    refine W.eq (g2 := F0 m 55 ls (.int ((upd (xLi u) ((x * 10) + b) (((xLi u ((x * 10) + b)) + nI 64)) ((x * 10) + b))) :: [])) rfl ?_
    refine lv_iconst (v := nI 2) hx hb dX2_splits_55 (by decide) ?_
    refine lv_idiv hx hb dX2_splits_56 (by decide) ?_
    refine lv_istore (lv' := [(4, .int (((upd (xLi u) ((x * 10) + b) (((xLi u ((x * 10) + b)) + nI 64)) ((x * 10) + b)) / nI 2))), (3, .int (nI ((x * 10) + b))), (0, .ref (ad 0)), (1, .int (nI x)), (2, .int (nI b))]) hx hb dX2_splits_57 hl (by decide) rfl (fun ls hl => ?_)
    refine lv_aload_n hx hb dX2_splits_59 rfl (lv_at hl 2 rfl) ?_
    refine va_get (D := D) (ci := 2) (v := .ref (ad 5)) (C := RX2) (T := TX2) (N := 13) hx hb hts hinX2 hown hK hP 0 rfl rfl 7 (by decide) fX2_23 (fun _ h9 => h9) rfl dX2_splits_60 ?_
    refine lv_iload_n hx hb dX2_splits_63 rfl (lv_at hl 1 rfl) ?_
    refine lv_dup2_11 hx hb dX2_splits_64 rfl rfl ?_
    refine lh_ild (k := ((x * 10) + b)) (N := 100) hx hb hK hP 5 0 rfl rfl (by omega) (by decide) dX2_splits_65 ?_
    refine W.eq (g2 := F0 m 66 ls (.int ((upd (xLi u) ((x * 10) + b) (((xLi u ((x * 10) + b)) + nI 64)) ((x * 10) + b))) :: [.int (nI ((x * 10) + b)), .ref (ad 5)])) rfl ?_
    refine lv_iload hx hb dX2_splits_66 (lv_at hl 0 rfl) ?_
    refine lv_isub hx hb dX2_splits_68 ?_
    refine lh_ist (k := ((x * 10) + b)) (N := 100) (f2 := upd (upd (xLi u) ((x * 10) + b) (((xLi u ((x * 10) + b)) + nI 64))) ((x * 10) + b) (((upd (xLi u) ((x * 10) + b) (((xLi u ((x * 10) + b)) + nI 64)) ((x * 10) + b)) - ((upd (xLi u) ((x * 10) + b) (((xLi u ((x * 10) + b)) + nI 64)) ((x * 10) + b)) / nI 2)))) hx hb hK hP hD hS 5 0 rfl rfl (by omega) (by decide) (rfl) dX2_splits_69 (fun H locs hP hD hS => ?_)
    have hP : va_P D vwCl (wM cI cZ ad (sLi (sOu (sF u ((xF u + nI 1))) (upd (xOu u) b (((xOu u b) + nI 64)))) (upd (upd (xLi u) ((x * 10) + b) (((xLi u ((x * 10) + b)) + nI 64))) ((x * 10) + b) (((upd (xLi u) ((x * 10) + b) (((xLi u ((x * 10) + b)) + nI 64)) ((x * 10) + b)) - ((upd (xLi u) ((x * 10) + b) (((xLi u ((x * 10) + b)) + nI 64)) ((x * 10) + b)) / nI 2)))))) H := hP
    have hD : va_D A (wM cI cZ ad (sLi (sOu (sF u ((xF u + nI 1))) (upd (xOu u) b (((xOu u b) + nI 64)))) (upd (upd (xLi u) ((x * 10) + b) (((xLi u ((x * 10) + b)) + nI 64))) ((x * 10) + b) (((upd (xLi u) ((x * 10) + b) (((xLi u ((x * 10) + b)) + nI 64)) ((x * 10) + b)) - ((upd (xLi u) ((x * 10) + b) (((xLi u ((x * 10) + b)) + nI 64)) ((x * 10) + b)) / nI 2)))))) := hD
    refine lv_iload hx hb dX2_splits_70 (lv_at hl 0 rfl) ?_
    exact lh_ri hx hb hr hlk hK hP hD hS (by (simp [splR, splW, pk_us, c_1])) (by first | (simp [splS, splW, pk_us, fa_upd_twice, c_1]; done) | (simp [splS, splW, pk_us, fa_upd_twice, c_1]; rfl)) dX2_splits_72
set_option maxRecDepth 100000 in
set_option maxHeartbeats 4000000 in
theorem kX2_mayGive (l : Launch) (D : va_G) (cI cZ : ClassId) (ad : Nat → Nat) (u : XS) (x : Nat) (a : Nat) (b : Nat) (ok : okB u) (hx9 : x < xM u) (ha : a < xM u) (hb2 : b < xM u) : CI l D [(cI, .int), (cZ, .boolean)] yX2_mayGive wsX2_mayGive ({ frames := 2, cells := 0, slots := 0, locals := 44 }) [.ref (ad 0), .int (nI x), .int (nI a), .int (nI b)] (wM cI cZ ad u) (wM cI cZ ad u) (b2i (mayG u x a b)) := by
  obtain ⟨hM, hW, hHo, hAb, hLb, hRb, hDb⟩ := id ok
  refine lh_CIof (cc := cX2_mayGive) (maxL := 4) (ret := (some .boolean)) (own := RX2) (by decide) rfl rfl (Nat.le_of_ble_eq_true rfl) ?_
  intro p e s m below meth c A ls hx hb hr hlk hts hown hml hK hN hA hP hD hS hl
  have fX2_61 := hts (.fieldLink RX2 61 "LostHostsModel" "gone" "I") (by decide +kernel)
  have hinX2 : ∀ w ∈ u_ws RX2 TX2 13, w ∈ wsX2_mayGive := by decide +kernel
  have hl : lv_has ls 4 [(0, .ref (ad 0)), (1, .int (nI x)), (2, .int (nI a)), (3, .int (nI b))] := hl
  refine lv_aload_n hx hb dX2_mayGive_0 rfl (lv_at hl 0 rfl) ?_
  refine va_get (D := D) (ci := 2) (v := .int (nI (gn u))) (C := RX2) (T := TX2) (N := 13) hx hb hts hinX2 hown hK hP 0 rfl rfl 4 (by decide) fX2_61 (fun _ h9 => h9) rfl dX2_mayGive_1 ?_
  refine lv_iload_n hx hb dX2_mayGive_4 rfl (lv_at hl 1 rfl) ?_
  refine lh_cSi ⟨hx, hb, hml, hown, hts⟩ (kX2_has l D _ _ (gn u) x (by first | omega | exact gn_lt31 hM | exact gn_lt31 (by omega)) (by omega)) (va_cwS 2 hts gX2_mayGive_X2_has rfl rfl rfl (by decide +kernel) ⟨Nat.le_of_ble_eq_true rfl, Nat.le_of_ble_eq_true rfl⟩) hK hN hP hD hS hA rfl hl.1 rfl (Nat.le_of_ble_eq_true rfl) ⟨Nat.le_of_ble_eq_true rfl, Nat.le_of_ble_eq_true rfl⟩ dX2_mayGive_5 (fun H locs hP hD hS => ?_)
  refine lv_if_ne (tgt := 43) hx hb dX2_mayGive_8 (by decide) (fun c_1 => ?_) (fun c_1 => ?_)
  · have c_1 : ((gn u).testBit x) = true := b2i_n0 c_1
    have c_1 := gnT (k := x) (by omega) c_1
    refine lv_iconst (v := nI 0) hx hb dX2_mayGive_43 (by decide) ?_
    exact lh_rz hx hb hr hlk hK hP hD hS (by first | (simp [mayG, nI_0, nI_o, b2i, c_1]; done) | simp_all [mayG, b2i, nI_0, nI_o]) rfl dX2_mayGive_44
  · have c_1 : ((gn u).testBit x) = false := b2i_e0 c_1
    have c_1 := gnF (k := x) (by omega) c_1
    refine lv_aload_n hx hb dX2_mayGive_11 rfl (lv_at hl 0 rfl) ?_
    refine va_get (D := D) (ci := 2) (v := .int (nI (gn u))) (C := RX2) (T := TX2) (N := 13) hx hb hts hinX2 hown hK hP 0 rfl rfl 4 (by decide) fX2_61 (fun _ h9 => h9) rfl dX2_mayGive_12 ?_
    refine lv_iload_n hx hb dX2_mayGive_15 rfl (lv_at hl 2 rfl) ?_
    refine lh_cSi ⟨hx, hb, hml, hown, hts⟩ (kX2_has l D _ _ (gn u) a (by first | omega | exact gn_lt31 hM | exact gn_lt31 (by omega)) (by omega)) (va_cwS 2 hts gX2_mayGive_X2_has rfl rfl rfl (by decide +kernel) ⟨Nat.le_of_ble_eq_true rfl, Nat.le_of_ble_eq_true rfl⟩) hK hN hP hD hS hA rfl hl.1 rfl (Nat.le_of_ble_eq_true rfl) ⟨Nat.le_of_ble_eq_true rfl, Nat.le_of_ble_eq_true rfl⟩ dX2_mayGive_16 (fun H locs hP hD hS => ?_)
    refine lv_if_ne (tgt := 43) hx hb dX2_mayGive_19 (by decide) (fun c_2 => ?_) (fun c_2 => ?_)
    · have c_2 : ((gn u).testBit a) = true := b2i_n0 c_2
      have c_2 := gnT (k := a) (by omega) c_2
      refine lv_iconst (v := nI 0) hx hb dX2_mayGive_43 (by decide) ?_
      exact lh_rz hx hb hr hlk hK hP hD hS (by first | (simp [mayG, nI_0, nI_o, b2i, c_1, c_2]; done) | simp_all [mayG, b2i, nI_0, nI_o]) rfl dX2_mayGive_44
    · have c_2 : ((gn u).testBit a) = false := b2i_e0 c_2
      have c_2 := gnF (k := a) (by omega) c_2
      refine lv_aload_n hx hb dX2_mayGive_22 rfl (lv_at hl 0 rfl) ?_
      refine va_get (D := D) (ci := 2) (v := .int (nI (gn u))) (C := RX2) (T := TX2) (N := 13) hx hb hts hinX2 hown hK hP 0 rfl rfl 4 (by decide) fX2_61 (fun _ h9 => h9) rfl dX2_mayGive_23 ?_
      refine lv_iload_n hx hb dX2_mayGive_26 rfl (lv_at hl 3 rfl) ?_
      refine lh_cSi ⟨hx, hb, hml, hown, hts⟩ (kX2_has l D _ _ (gn u) b (by first | omega | exact gn_lt31 hM | exact gn_lt31 (by omega)) (by omega)) (va_cwS 2 hts gX2_mayGive_X2_has rfl rfl rfl (by decide +kernel) ⟨Nat.le_of_ble_eq_true rfl, Nat.le_of_ble_eq_true rfl⟩) hK hN hP hD hS hA rfl hl.1 rfl (Nat.le_of_ble_eq_true rfl) ⟨Nat.le_of_ble_eq_true rfl, Nat.le_of_ble_eq_true rfl⟩ dX2_mayGive_27 (fun H locs hP hD hS => ?_)
      refine lv_if_ne (tgt := 43) hx hb dX2_mayGive_30 (by decide) (fun c_3 => ?_) (fun c_3 => ?_)
      · have c_3 : ((gn u).testBit b) = true := b2i_n0 c_3
        have c_3 := gnT (k := b) (by omega) c_3
        refine lv_iconst (v := nI 0) hx hb dX2_mayGive_43 (by decide) ?_
        exact lh_rz hx hb hr hlk hK hP hD hS (by first | (simp [mayG, nI_0, nI_o, b2i, c_1, c_2, c_3]; done) | simp_all [mayG, b2i, nI_0, nI_o]) rfl dX2_mayGive_44
      · have c_3 : ((gn u).testBit b) = false := b2i_e0 c_3
        have c_3 := gnF (k := b) (by omega) c_3
        refine lv_iload_n hx hb dX2_mayGive_33 rfl (lv_at hl 2 rfl) ?_
        refine lv_iload_n hx hb dX2_mayGive_34 rfl (lv_at hl 1 rfl) ?_
        refine lv_icmp_eq (tgt := 43) hx hb dX2_mayGive_35 (by decide) (fun c_4 => ?_) (fun c_4 => ?_)
        · have c_4 : a = x := (nI_eq (by omega) (by omega)).mp c_4
          refine lv_iconst (v := nI 0) hx hb dX2_mayGive_43 (by decide) ?_
          exact lh_rz hx hb hr hlk hK hP hD hS (by first | (simp [mayG, nI_0, nI_o, b2i, c_1, c_2, c_3, c_4]; done) | simp_all [mayG, b2i, nI_0, nI_o]) rfl dX2_mayGive_44
        · have c_4 : ¬ a = x := fun h => c_4 ((nI_eq (by omega) (by omega)).mpr h)
          refine lv_iload_n hx hb dX2_mayGive_38 rfl (lv_at hl 2 rfl) ?_
          refine lv_iload_n hx hb dX2_mayGive_39 rfl (lv_at hl 3 rfl) ?_
          refine lv_icmp_ne (tgt := 45) hx hb dX2_mayGive_40 (by decide) (fun c_5 => ?_) (fun c_5 => ?_)
          · have c_5 : ¬ a = b := fun h => c_5 ((nI_eq (by omega) (by omega)).mpr h)
            refine lv_aload_n hx hb dX2_mayGive_45 rfl (lv_at hl 0 rfl) ?_
            refine lv_iload_n hx hb dX2_mayGive_46 rfl (lv_at hl 1 rfl) ?_
            refine lv_iload_n hx hb dX2_mayGive_47 rfl (lv_at hl 2 rfl) ?_
            refine lh_cVi ⟨hx, hb, hml, hown, hts⟩ (kX2_isLink l D cI cZ ad u x a (by omega) (by omega)) (cwV 2 hts gX2_mayGive_X2_isLink rfl rfl rfl (by decide +kernel) ⟨Nat.le_of_ble_eq_true rfl, Nat.le_of_ble_eq_true rfl⟩) hK hN hP hD hS hA 0 2 rfl rfl rfl rfl hl.1 rfl (Nat.le_of_ble_eq_true rfl) ⟨Nat.le_of_ble_eq_true rfl, Nat.le_of_ble_eq_true rfl⟩ dX2_mayGive_48 (fun H locs hP hD hS => ?_)
            refine lv_if_eq (tgt := 72) hx hb dX2_mayGive_51 (by decide) (fun c_6 => ?_) (fun c_6 => ?_)
            · have c_6 : (lnk u x a) = false := b2i_e0 c_6
              refine lv_iconst (v := nI 0) hx hb dX2_mayGive_72 (by decide) ?_
              exact lh_rz hx hb hr hlk hK hP hD hS (by first | (simp [mayG, nI_0, nI_o, b2i, c_1, c_2, c_3, c_4, c_5, c_6]; done) | simp_all [mayG, b2i, nI_0, nI_o]) rfl dX2_mayGive_73
            · have c_6 : (lnk u x a) = true := b2i_n0 c_6
              refine lv_iload_n hx hb dX2_mayGive_54 rfl (lv_at hl 1 rfl) ?_
              refine lv_iload_n hx hb dX2_mayGive_55 rfl (lv_at hl 3 rfl) ?_
              refine lv_icmp_eq (tgt := 68) hx hb dX2_mayGive_56 (by decide) (fun c_7 => ?_) (fun c_7 => ?_)
              · have c_7 : x = b := (nI_eq (by omega) (by omega)).mp c_7
                refine lv_iconst (v := nI 1) hx hb dX2_mayGive_68 (by decide) ?_
                refine lv_goto (tgt := 73) hx hb dX2_mayGive_69 (by decide) ?_
                exact lh_rz hx hb hr hlk hK hP hD hS (by first | (simp [mayG, nI_0, nI_o, b2i, c_1, c_2, c_3, c_4, c_5, c_6, c_7]; done) | simp_all [mayG, b2i, nI_0, nI_o]) rfl dX2_mayGive_73
              · have c_7 : ¬ x = b := fun h => c_7 ((nI_eq (by omega) (by omega)).mpr h)
                refine lv_aload_n hx hb dX2_mayGive_59 rfl (lv_at hl 0 rfl) ?_
                refine lv_iload_n hx hb dX2_mayGive_60 rfl (lv_at hl 1 rfl) ?_
                refine lv_iload_n hx hb dX2_mayGive_61 rfl (lv_at hl 3 rfl) ?_
                refine lh_cVi ⟨hx, hb, hml, hown, hts⟩ (kX2_isLink l D cI cZ ad u x b (by omega) (by omega)) (cwV 2 hts gX2_mayGive_X2_isLink rfl rfl rfl (by decide +kernel) ⟨Nat.le_of_ble_eq_true rfl, Nat.le_of_ble_eq_true rfl⟩) hK hN hP hD hS hA 0 2 rfl rfl rfl rfl hl.1 rfl (Nat.le_of_ble_eq_true rfl) ⟨Nat.le_of_ble_eq_true rfl, Nat.le_of_ble_eq_true rfl⟩ dX2_mayGive_62 (fun H locs hP hD hS => ?_)
                refine lv_if_eq (tgt := 72) hx hb dX2_mayGive_65 (by decide) (fun c_8 => ?_) (fun c_8 => ?_)
                · have c_8 : (lnk u x b) = false := b2i_e0 c_8
                  refine lv_iconst (v := nI 0) hx hb dX2_mayGive_72 (by decide) ?_
                  exact lh_rz hx hb hr hlk hK hP hD hS (by first | (simp [mayG, nI_0, nI_o, b2i, c_1, c_2, c_3, c_4, c_5, c_6, c_7, c_8]; done) | simp_all [mayG, b2i, nI_0, nI_o]) rfl dX2_mayGive_73
                · have c_8 : (lnk u x b) = true := b2i_n0 c_8
                  refine lv_iconst (v := nI 1) hx hb dX2_mayGive_68 (by decide) ?_
                  refine lv_goto (tgt := 73) hx hb dX2_mayGive_69 (by decide) ?_
                  exact lh_rz hx hb hr hlk hK hP hD hS (by first | (simp [mayG, nI_0, nI_o, b2i, c_1, c_2, c_3, c_4, c_5, c_6, c_7, c_8]; done) | simp_all [mayG, b2i, nI_0, nI_o]) rfl dX2_mayGive_73
          · have c_5 : a = b := (nI_eq (by omega) (by omega)).mp c_5
            refine lv_iconst (v := nI 0) hx hb dX2_mayGive_43 (by decide) ?_
            exact lh_rz hx hb hr hlk hK hP hD hS (by first | (simp [mayG, nI_0, nI_o, b2i, c_1, c_2, c_3, c_4, c_5]; done) | simp_all [mayG, b2i, nI_0, nI_o]) rfl dX2_mayGive_44

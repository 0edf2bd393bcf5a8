set_option maxRecDepth 100000 in
set_option maxHeartbeats 4000000 in
theorem kX0_has (l : Launch) (D : va_G) (cI : ClassId) (ad : Nat → Nat) (u : XS) (k : Int32) (ok : okB u) : CI l D [(cI, .int)] yX0_has wsX0_has ({ frames := 0, cells := 0, slots := 0, locals := 0 }) [.ref (ad 5), .int (k)] (wX cI ad u) (wX cI ad u) (b2i (isLe u k)) := by
  obtain ⟨hM, hW, hHo, hAb, hLb, hRb, hDb⟩ := id ok
  refine lh_CIof (cc := cX0_has) (maxL := 2) (ret := (some .boolean)) (own := RX0) (by decide) rfl rfl (Nat.le_of_ble_eq_true rfl) ?_
  intro p e s m below meth c A ls hx hb hr hlk hts hown hml hK hN hA hP hD hS hl
  have fX0_21 := hts (.fieldLink RX0 21 "LostHosts$Letters" "waiting" "I") (by decide +kernel)
  have hinX0 : ∀ w ∈ u_ws RX0 TX0 4, w ∈ wsX0_has := by decide +kernel
  have hl : lv_has ls 2 [(0, .ref (ad 5)), (1, .int (k))] := hl
  refine lv_iload_n hx hb dX0_has_0 rfl (lv_at hl 1 rfl) ?_
  refine lv_if_lt (tgt := 16) hx hb dX0_has_1 (by decide) (fun c_1 => ?_) (fun c_1 => ?_)
  · have c_1r := c_1
    refine lv_iconst (v := nI 0) hx hb dX0_has_16 (by decide) ?_
    exact lh_rz hx hb hr hlk hK hP hD hS (by first | (simp [nI_0, nI_o, isLe, b2i, c_1]; done) | (simp [nI_0, nI_o, isLe, b2i, c_1]; rfl)) rfl dX0_has_17
  · have c_1r := c_1
    refine lv_iload_n hx hb dX0_has_4 rfl (lv_at hl 1 rfl) ?_
    refine lv_aload_n hx hb dX0_has_5 rfl (lv_at hl 0 rfl) ?_
    refine va_get (D := D) (ci := 0) (v := .int (nI (xW u))) (C := RX0) (T := TX0) (N := 4) hx hb hts hinX0 hown hK hP 5 rfl rfl 3 (by decide) fX0_21 (fun _ h9 => h9) rfl dX0_has_6 ?_
    refine lv_icmp_ge (tgt := 16) hx hb dX0_has_9 (by decide) (fun c_2 => ?_) (fun c_2 => ?_)
    · have c_2r := c_2
      refine lv_iconst (v := nI 0) hx hb dX0_has_16 (by decide) ?_
      exact lh_rz hx hb hr hlk hK hP hD hS (by first | (simp [nI_0, nI_o, isLe, b2i, c_1, c_2]; done) | (simp [nI_0, nI_o, isLe, b2i, c_1, c_2]; rfl)) rfl dX0_has_17
    · have c_2r := c_2
      refine lv_iconst (v := nI 1) hx hb dX0_has_12 (by decide) ?_
      refine lv_goto (tgt := 17) hx hb dX0_has_13 (by decide) ?_
      exact lh_rz hx hb hr hlk hK hP hD hS (by first | (simp [nI_0, nI_o, isLe, b2i, c_1, c_2]; done) | (simp [nI_0, nI_o, isLe, b2i, c_1, c_2]; rfl)) rfl dX0_has_17
set_option maxRecDepth 100000 in
set_option maxHeartbeats 4000000 in
theorem kX0_kind (l : Launch) (D : va_G) (cI : ClassId) (ad : Nat → Nat) (u : XS) (k : Nat) (hk : k < 150) : CI l D [(cI, .int)] yX0_kind wsX0_kind ({ frames := 0, cells := 0, slots := 0, locals := 0 }) [.ref (ad 5), .int (nI k)] (wX cI ad u) (wX cI ad u) (nI (kd u k)) := by
  refine lh_CIof (cc := cX0_kind) (maxL := 2) (ret := (some .int)) (own := RX0) (by decide) rfl rfl (Nat.le_of_ble_eq_true rfl) ?_
  intro p e s m below meth c A ls hx hb hr hlk hts hown hml hK hN hA hP hD hS hl
  have fX0_15 := hts (.fieldLink RX0 15 "LostHosts$Letters" "receiver" "[I") (by decide +kernel)
  have hinX0 : ∀ w ∈ u_ws RX0 TX0 4, w ∈ wsX0_kind := by decide +kernel
  have hl : lv_has ls 2 [(0, .ref (ad 5)), (1, .int (nI k))] := hl
  refine lv_aload_n hx hb dX0_kind_0 rfl (lv_at hl 0 rfl) ?_
  refine va_get (D := D) (ci := 0) (v := .ref (ad 7)) (C := RX0) (T := TX0) (N := 4) hx hb hts hinX0 hown hK hP 5 rfl rfl 1 (by decide) fX0_15 (fun _ h9 => h9) rfl dX0_kind_1 ?_
  refine lv_iload_n hx hb dX0_kind_4 rfl (lv_at hl 1 rfl) ?_
  refine lh_ild (k := k) (N := 150) hx hb hK hP 7 0 rfl rfl (by omega) (by decide) dX0_kind_5 ?_
  refine W.eq (g2 := F0 m 6 ls (.int (rv (xRc u k)) :: [])) rfl ?_
  refine lv_bipush (v := (-9)) hx hb dX0_kind_6 (by decide) ?_
  refine lv_icmp_ne (tgt := 15) hx hb dX0_kind_8 (by decide) (fun c_1 => ?_) (fun c_1 => ?_)
  · have c_1 : (xRc u k) < 10 := rv_ne9 c_1
    refine lv_iconst (v := nI 0) hx hb dX0_kind_15 (by decide) ?_
    exact lh_ri hx hb hr hlk hK hP hD hS (by first | (simp [nI_0, nI_o, kd, c_1]; done) | (simp [nI_0, nI_o, kd, c_1]; rfl)) rfl dX0_kind_16
  · have c_1 : ¬ (xRc u k) < 10 := rv_eq9 c_1
    refine lv_iconst (v := nI 1) hx hb dX0_kind_11 (by decide) ?_
    refine lv_goto (tgt := 16) hx hb dX0_kind_12 (by decide) ?_
    exact lh_ri hx hb hr hlk hK hP hD hS (by first | (simp [nI_0, nI_o, kd, c_1]; done) | (simp [nI_0, nI_o, kd, c_1]; rfl)) rfl dX0_kind_16
set_option maxRecDepth 100000 in
set_option maxHeartbeats 4000000 in
theorem kX0_append (l : Launch) (D : va_G) (cI : ClassId) (ad : Nat → Nat) (u : XS) (b : Nat) (a : Nat) (w : Int32) (hW : xW u < 150) : CV l D [(cI, .int)] yX0_append wsX0_append ({ frames := 0, cells := 0, slots := 0, locals := 0 }) [.ref (ad 5), .int (nI b), .int (rv a), .int (w)] (wX cI ad u) (wX cI ad (app u b a w)) := by
  refine lh_CVof (cc := cX0_append) (maxL := 4) (ret := none) (own := RX0) (by decide) rfl rfl (Nat.le_of_ble_eq_true rfl) ?_
  intro p e s m below meth c A ls hx hb hr hlk hts hown hml hK hN hA hP hD hS hl
  have fX0_21 := hts (.fieldLink RX0 21 "LostHosts$Letters" "waiting" "I") (by decide +kernel)
  have fX0_9 := hts (.fieldLink RX0 9 "LostHosts$Letters" "about" "[I") (by decide +kernel)
  have fX0_15 := hts (.fieldLink RX0 15 "LostHosts$Letters" "receiver" "[I") (by decide +kernel)
  have fX0_18 := hts (.fieldLink RX0 18 "LostHosts$Letters" "load" "[I") (by decide +kernel)
  have hinX0 : ∀ w ∈ u_ws RX0 TX0 4, w ∈ wsX0_append := by decide +kernel
  have hl : lv_has ls 4 [(0, .ref (ad 5)), (1, .int (nI b)), (2, .int (rv a)), (3, .int (w))] := hl
  refine lv_aload_n hx hb dX0_append_0 rfl (lv_at hl 0 rfl) ?_
  refine va_get (D := D) (ci := 0) (v := .int (nI (xW u))) (C := RX0) (T := TX0) (N := 4) hx hb hts hinX0 hown hK hP 5 rfl rfl 3 (by decide) fX0_21 (fun _ h9 => h9) rfl dX0_append_1 ?_
  refine lv_sipush (v := nI 150) hx hb dX0_append_4 (by decide) ?_
  refine lv_icmp_lt (tgt := 11) hx hb dX0_append_7 (by decide) (fun c_1 => ?_) (fun c_1 => ?_)
  · have c_1 : xW u < 150 := (nI_ltI (by omega) (by omega)).mp c_1
    refine lv_aload_n hx hb dX0_append_11 rfl (lv_at hl 0 rfl) ?_
    refine va_get (D := D) (ci := 0) (v := .ref (ad 6)) (C := RX0) (T := TX0) (N := 4) hx hb hts hinX0 hown hK hP 5 rfl rfl 0 (by decide) fX0_9 (fun _ h9 => h9) rfl dX0_append_12 ?_
    refine lv_aload_n hx hb dX0_append_15 rfl (lv_at hl 0 rfl) ?_
    refine va_get (D := D) (ci := 0) (v := .int (nI (xW u))) (C := RX0) (T := TX0) (N := 4) hx hb hts hinX0 hown hK hP 5 rfl rfl 3 (by decide) fX0_21 (fun _ h9 => h9) rfl dX0_append_16 ?_
    refine lv_iload_n hx hb dX0_append_19 rfl (lv_at hl 1 rfl) ?_
    refine lh_ist (k := xW u) (N := 150) (f2 := fun zz => nI ((va_up (xAb u) (xW u) b) zz)) hx hb hK hP hD hS 6 0 rfl rfl (by omega) (by decide) (lh_updN (xAb u) _ _) dX0_append_20 (fun H locs hP hD hS => ?_)
    have hP : va_P D vwCl (wX cI ad (sAb u (va_up (xAb u) (xW u) b))) H := hP
    have hD : va_D A (wX cI ad (sAb u (va_up (xAb u) (xW u) b))) := hD
    refine lv_aload_n hx hb dX0_append_21 rfl (lv_at hl 0 rfl) ?_
    refine va_get (D := D) (ci := 0) (v := .ref (ad 7)) (C := RX0) (T := TX0) (N := 4) hx hb hts hinX0 hown hK hP 5 rfl rfl 1 (by decide) fX0_15 (fun _ h9 => h9) rfl dX0_append_22 ?_
    refine lv_aload_n hx hb dX0_append_25 rfl (lv_at hl 0 rfl) ?_
    refine va_get (D := D) (ci := 0) (v := .int (nI (xW u))) (C := RX0) (T := TX0) (N := 4) hx hb hts hinX0 hown hK hP 5 rfl rfl 3 (by decide) fX0_21 (fun _ h9 => h9) rfl dX0_append_26 ?_
    refine lv_iload_n hx hb dX0_append_29 rfl (lv_at hl 2 rfl) ?_
    refine lh_ist (k := xW u) (N := 150) (f2 := fun zz => rv ((va_up (xRc u) (xW u) a) zz)) hx hb hK hP hD hS 7 0 rfl rfl (by omega) (by decide) (lh_updR (xRc u) _ _) dX0_append_30 (fun H locs hP hD hS => ?_)
    have hP : va_P D vwCl (wX cI ad (sRc (sAb u (va_up (xAb u) (xW u) b)) (va_up (xRc u) (xW u) a))) H := hP
    have hD : va_D A (wX cI ad (sRc (sAb u (va_up (xAb u) (xW u) b)) (va_up (xRc u) (xW u) a))) := hD
    refine lv_aload_n hx hb dX0_append_31 rfl (lv_at hl 0 rfl) ?_
    refine va_get (D := D) (ci := 0) (v := .ref (ad 8)) (C := RX0) (T := TX0) (N := 4) hx hb hts hinX0 hown hK hP 5 rfl rfl 2 (by decide) fX0_18 (fun _ h9 => h9) rfl dX0_append_32 ?_
    refine lv_aload_n hx hb dX0_append_35 rfl (lv_at hl 0 rfl) ?_
    refine va_get (D := D) (ci := 0) (v := .int (nI (xW u))) (C := RX0) (T := TX0) (N := 4) hx hb hts hinX0 hown hK hP 5 rfl rfl 3 (by decide) fX0_21 (fun _ h9 => h9) rfl dX0_append_36 ?_
    refine lv_iload_n hx hb dX0_append_39 rfl (lv_at hl 3 rfl) ?_
    refine lh_ist (k := xW u) (N := 150) (f2 := upd (xLo u) (xW u) (w)) hx hb hK hP hD hS 8 0 rfl rfl (by omega) (by decide) (rfl) dX0_append_40 (fun H locs hP hD hS => ?_)
    have hP : va_P D vwCl (wX cI ad (sLo (sRc (sAb u (va_up (xAb u) (xW u) b)) (va_up (xRc u) (xW u) a)) (upd (xLo u) (xW u) (w)))) H := hP
    have hD : va_D A (wX cI ad (sLo (sRc (sAb u (va_up (xAb u) (xW u) b)) (va_up (xRc u) (xW u) a)) (upd (xLo u) (xW u) (w)))) := hD
    refine lv_aload_n hx hb dX0_append_41 rfl (lv_at hl 0 rfl) ?_
    refine lv_dup hx hb dX0_append_42 rfl ?_
    refine va_get (D := D) (ci := 0) (v := .int (nI (xW u))) (C := RX0) (T := TX0) (N := 4) hx hb hts hinX0 hown hK hP 5 rfl rfl 3 (by decide) fX0_21 (fun _ h9 => h9) rfl dX0_append_43 ?_
    refine lv_iconst (v := nI 1) hx hb dX0_append_46 (by decide) ?_
    refine lv_iadd hx hb dX0_append_47 ?_
    refine lh_top (y := nI (xW u + 1)) (nI_add _ _) ?_
    refine va_put (D := D) (ci := 0) (v := .int (nI (xW u + 1))) (ty := .int) (C := RX0) (T := TX0) (N := 4) hx hb hts hinX0 tyX0 tyX0_ok nmX0 hown hK hP hD hS 5 rfl rfl 3 (by decide) fX0_21 (fun _ h9 => h9) rfl (by decide +kernel) rfl rfl (Nat.le_of_ble_eq_true rfl) dX0_append_48 (fun H locs hP hD hS => ?_)
    have hP : va_P D vwCl (wX cI ad (sLo (sRc (sAb (sW u ((xW u + 1))) (va_up (xAb u) (xW u) b)) (va_up (xRc u) (xW u) a)) (upd (xLo u) (xW u) (w)))) H := hP
    have hD : va_D A (wX cI ad (sLo (sRc (sAb (sW u ((xW u + 1))) (va_up (xAb u) (xW u) b)) (va_up (xRc u) (xW u) a)) (upd (xLo u) (xW u) (w)))) := hD
    exact lh_rv hx hb hr hlk hK hP hD hS (by rfl) dX0_append_51
  · have c_1 : 150 ≤ xW u := Nat.le_of_not_lt (fun h => c_1 ((nI_ltI (by omega) (by omega)).mpr h))
    have c_1n : ¬ xW u < 150 := by omega
    omega
set_option maxRecDepth 100000 in
set_option maxHeartbeats 4000000 in
theorem kX0_sendGrant (l : Launch) (D : va_G) (cI : ClassId) (ad : Nat → Nat) (u : XS) (b : Nat) (a : Nat) (w : Int32) (hW : xW u < 150) : CV l D [(cI, .int)] yX0_sendGrant wsX0_sendGrant ({ frames := 1, cells := 0, slots := 0, locals := 23 }) [.ref (ad 5), .int (nI b), .int (rv a), .int (w)] (wX cI ad u) (wX cI ad (app u b a w)) := by
  refine lh_CVof (cc := cX0_sendGrant) (maxL := 4) (ret := none) (own := RX0) (by decide) rfl rfl (Nat.le_of_ble_eq_true rfl) ?_
  intro p e s m below meth c A ls hx hb hr hlk hts hown hml hK hN hA hP hD hS hl
  have hl : lv_has ls 4 [(0, .ref (ad 5)), (1, .int (nI b)), (2, .int (rv a)), (3, .int (w))] := hl
  refine lv_aload_n hx hb dX0_sendGrant_0 rfl (lv_at hl 0 rfl) ?_
  refine lv_iload_n hx hb dX0_sendGrant_1 rfl (lv_at hl 1 rfl) ?_
  refine lv_iload_n hx hb dX0_sendGrant_2 rfl (lv_at hl 2 rfl) ?_
  refine lv_iload_n hx hb dX0_sendGrant_3 rfl (lv_at hl 3 rfl) ?_
  refine lh_cVv ⟨hx, hb, hml, hown, hts⟩ (kX0_append l D cI ad u b a w (by omega)) (cwV 3 hts gX0_sendGrant_X0_append rfl rfl rfl (by decide +kernel) ⟨Nat.le_of_ble_eq_true rfl, Nat.le_of_ble_eq_true rfl⟩) hK hN hP hD hS hA 5 0 rfl rfl rfl rfl hl.1 rfl (Nat.le_of_ble_eq_true rfl) ⟨Nat.le_of_ble_eq_true rfl, Nat.le_of_ble_eq_true rfl⟩ dX0_sendGrant_4 (fun H locs hP hD hS => ?_)
  have hP : va_P D vwCl (wX cI ad (app u b a w)) H := hP
  have hD : va_D A (wX cI ad (app u b a w)) := hD
  exact lh_rv hx hb hr hlk hK hP hD hS rfl dX0_sendGrant_7
set_option maxRecDepth 100000 in
set_option maxHeartbeats 4000000 in
theorem kX0_sendReturn (l : Launch) (D : va_G) (cI : ClassId) (ad : Nat → Nat) (u : XS) (b : Nat) (w : Int32) (hW : xW u < 150) : CV l D [(cI, .int)] yX0_sendReturn wsX0_sendReturn ({ frames := 1, cells := 0, slots := 0, locals := 23 }) [.ref (ad 5), .int (nI b), .int (w)] (wX cI ad u) (wX cI ad (app u b 10 w)) := by
  refine lh_CVof (cc := cX0_sendReturn) (maxL := 3) (ret := none) (own := RX0) (by decide) rfl rfl (Nat.le_of_ble_eq_true rfl) ?_
  intro p e s m below meth c A ls hx hb hr hlk hts hown hml hK hN hA hP hD hS hl
  have hl : lv_has ls 3 [(0, .ref (ad 5)), (1, .int (nI b)), (2, .int (w))] := hl
  refine lv_aload_n hx hb dX0_sendReturn_0 rfl (lv_at hl 0 rfl) ?_
  refine lv_iload_n hx hb dX0_sendReturn_1 rfl (lv_at hl 1 rfl) ?_
  refine lv_bipush (v := (-9)) hx hb dX0_sendReturn_2 (by decide) ?_
  refine lv_iload_n hx hb dX0_sendReturn_4 rfl (lv_at hl 2 rfl) ?_
  refine lh_cVv ⟨hx, hb, hml, hown, hts⟩ (kX0_append l D cI ad u b 10 w (by omega)) (cwV 3 hts gX0_sendReturn_X0_append rfl rfl rfl (by decide +kernel) ⟨Nat.le_of_ble_eq_true rfl, Nat.le_of_ble_eq_true rfl⟩) hK hN hP hD hS hA 5 0 rfl rfl rfl rfl hl.1 rfl (Nat.le_of_ble_eq_true rfl) ⟨Nat.le_of_ble_eq_true rfl, Nat.le_of_ble_eq_true rfl⟩ dX0_sendReturn_5 (fun H locs hP hD hS => ?_)
  have hP : va_P D vwCl (wX cI ad (app u b 10 w)) H := hP
  have hD : va_D A (wX cI ad (app u b 10 w)) := hD
  exact lh_rv hx hb hr hlk hK hP hD hS rfl dX0_sendReturn_8
set_option maxRecDepth 100000 in
set_option maxHeartbeats 4000000 in
theorem kX0_takeAway (l : Launch) (D : va_G) (cI : ClassId) (ad : Nat → Nat) (u : XS) (k : Nat) (hk : k < xW u) (hW : xW u ≤ 150) : CV l D [(cI, .int)] yX0_takeAway wsX0_takeAway ({ frames := 1, cells := 0, slots := 0, locals := 60 }) [.ref (ad 5), .int (nI k)] (wX cI ad u) (wX cI ad (tak u k)) := by
  refine lh_CVof (cc := cX0_takeAway) (maxL := 3) (ret := none) (own := RX0) (by decide) rfl rfl (Nat.le_of_ble_eq_true rfl) ?_
  intro p e s m below meth c A ls hx hb hr hlk hts hown hml hK hN hA hP hD hS hl
  have fX0_21 := hts (.fieldLink RX0 21 "LostHosts$Letters" "waiting" "I") (by decide +kernel)
  have fX0_9 := hts (.fieldLink RX0 9 "LostHosts$Letters" "about" "[I") (by decide +kernel)
  have fX0_15 := hts (.fieldLink RX0 15 "LostHosts$Letters" "receiver" "[I") (by decide +kernel)
  have fX0_18 := hts (.fieldLink RX0 18 "LostHosts$Letters" "load" "[I") (by decide +kernel)
  have hinX0 : ∀ w ∈ u_ws RX0 TX0 4, w ∈ wsX0_takeAway := by decide +kernel
  have hl : lv_has ls 3 [(0, .ref (ad 5)), (1, .int (nI k))] := hl
  refine lv_aload_n hx hb dX0_takeAway_0 rfl (lv_at hl 0 rfl) ?_
  refine va_get (D := D) (ci := 0) (v := .int (nI (xW u))) (C := RX0) (T := TX0) (N := 4) hx hb hts hinX0 hown hK hP 5 rfl rfl 3 (by decide) fX0_21 (fun _ h9 => h9) rfl dX0_takeAway_1 ?_
  refine lv_iload_n hx hb dX0_takeAway_4 rfl (lv_at hl 1 rfl) ?_
  refine lv_isub hx hb dX0_takeAway_5 ?_
  refine lh_top (y := nI (xW u - k)) (pk_sub (by omega)) ?_
  refine lv_iconst (v := nI 1) hx hb dX0_takeAway_6 (by decide) ?_
  refine lv_isub hx hb dX0_takeAway_7 ?_
  refine lh_top (y := nI ((xW u - k) - 1)) (pk_sub (by omega)) ?_
  refine lv_istore_n (lv' := [(2, .int (nI ((xW u - k) - 1))), (0, .ref (ad 5)), (1, .int (nI k))]) hx hb dX0_takeAway_8 rfl hl (by decide) rfl (fun ls hl => ?_)
  refine lv_aload_n hx hb dX0_takeAway_9 rfl (lv_at hl 1 rfl) ?_
  refine va_get (D := D) (ci := 0) (v := .ref (ad 6)) (C := RX0) (T := TX0) (N := 4) hx hb hts hinX0 hown hK hP 5 rfl rfl 0 (by decide) fX0_9 (fun _ h9 => h9) rfl dX0_takeAway_10 ?_
  refine lv_iload_n hx hb dX0_takeAway_13 rfl (lv_at hl 2 rfl) ?_
  refine lv_iconst (v := nI 1) hx hb dX0_takeAway_14 (by decide) ?_
  refine lv_iadd hx hb dX0_takeAway_15 ?_
  refine lh_top (y := nI (k + 1)) (nI_add _ _) ?_
  refine lv_aload_n hx hb dX0_takeAway_16 rfl (lv_at hl 1 rfl) ?_
  refine va_get (D := D) (ci := 0) (v := .ref (ad 6)) (C := RX0) (T := TX0) (N := 4) hx hb hts hinX0 hown hK hP 5 rfl rfl 0 (by decide) fX0_9 (fun _ h9 => h9) rfl dX0_takeAway_17 ?_
  refine lv_iload_n hx hb dX0_takeAway_20 rfl (lv_at hl 2 rfl) ?_
  refine lv_iload_n hx hb dX0_takeAway_21 rfl (lv_at hl 0 rfl) ?_
  refine lh_cpy (a1 := (k + 1)) (b1 := k) (n1 := ((xW u - k) - 1)) (N := 150) (f2 := fun zz => nI ((va_cpy (xAb u) (xAb u) (k + 1) k ((xW u - k) - 1)) zz)) hx hb (hml.trans hl.1.symm) hown (hts (.methodLink RX0 29 arraycopyName) (by decide +kernel)) (hts (.native arraycopyName) (by decide +kernel)) (hts (.static arraycopyName) (by decide +kernel)) (hts (.initialized "java/lang/System") (by decide +kernel)) hK hP hD hS 6 0 rfl rfl (by omega) (by omega) (by decide) (lh_cpyN (xAb u) _ _ _) (Nat.le_of_ble_eq_true rfl) (Nat.le_of_ble_eq_true rfl) dX0_takeAway_22 (fun H locs hP hD hS => ?_)
  have hP : va_P D vwCl (wX cI ad (sAb u (va_cpy (xAb u) (xAb u) (k + 1) k ((xW u - k) - 1)))) H := hP
  have hD : va_D A (wX cI ad (sAb u (va_cpy (xAb u) (xAb u) (k + 1) k ((xW u - k) - 1)))) := hD
  refine lv_aload_n hx hb dX0_takeAway_25 rfl (lv_at hl 1 rfl) ?_
  refine va_get (D := D) (ci := 0) (v := .ref (ad 7)) (C := RX0) (T := TX0) (N := 4) hx hb hts hinX0 hown hK hP 5 rfl rfl 1 (by decide) fX0_15 (fun _ h9 => h9) rfl dX0_takeAway_26 ?_
  refine lv_iload_n hx hb dX0_takeAway_29 rfl (lv_at hl 2 rfl) ?_
  refine lv_iconst (v := nI 1) hx hb dX0_takeAway_30 (by decide) ?_
  refine lv_iadd hx hb dX0_takeAway_31 ?_
  refine lh_top (y := nI (k + 1)) (nI_add _ _) ?_
  refine lv_aload_n hx hb dX0_takeAway_32 rfl (lv_at hl 1 rfl) ?_
  refine va_get (D := D) (ci := 0) (v := .ref (ad 7)) (C := RX0) (T := TX0) (N := 4) hx hb hts hinX0 hown hK hP 5 rfl rfl 1 (by decide) fX0_15 (fun _ h9 => h9) rfl dX0_takeAway_33 ?_
  refine lv_iload_n hx hb dX0_takeAway_36 rfl (lv_at hl 2 rfl) ?_
  refine lv_iload_n hx hb dX0_takeAway_37 rfl (lv_at hl 0 rfl) ?_
  refine lh_cpy (a1 := (k + 1)) (b1 := k) (n1 := ((xW u - k) - 1)) (N := 150) (f2 := fun zz => rv ((va_cpy (xRc u) (xRc u) (k + 1) k ((xW u - k) - 1)) zz)) hx hb (hml.trans hl.1.symm) hown (hts (.methodLink RX0 29 arraycopyName) (by decide +kernel)) (hts (.native arraycopyName) (by decide +kernel)) (hts (.static arraycopyName) (by decide +kernel)) (hts (.initialized "java/lang/System") (by decide +kernel)) hK hP hD hS 7 0 rfl rfl (by omega) (by omega) (by decide) (lh_cpyR (xRc u) _ _ _) (Nat.le_of_ble_eq_true rfl) (Nat.le_of_ble_eq_true rfl) dX0_takeAway_38 (fun H locs hP hD hS => ?_)
  have hP : va_P D vwCl (wX cI ad (sRc (sAb u (va_cpy (xAb u) (xAb u) (k + 1) k ((xW u - k) - 1))) (va_cpy (xRc u) (xRc u) (k + 1) k ((xW u - k) - 1)))) H := hP
  have hD : va_D A (wX cI ad (sRc (sAb u (va_cpy (xAb u) (xAb u) (k + 1) k ((xW u - k) - 1))) (va_cpy (xRc u) (xRc u) (k + 1) k ((xW u - k) - 1)))) := hD
  refine lv_aload_n hx hb dX0_takeAway_41 rfl (lv_at hl 1 rfl) ?_
  refine va_get (D := D) (ci := 0) (v := .ref (ad 8)) (C := RX0) (T := TX0) (N := 4) hx hb hts hinX0 hown hK hP 5 rfl rfl 2 (by decide) fX0_18 (fun _ h9 => h9) rfl dX0_takeAway_42 ?_
  refine lv_iload_n hx hb dX0_takeAway_45 rfl (lv_at hl 2 rfl) ?_
  refine lv_iconst (v := nI 1) hx hb dX0_takeAway_46 (by decide) ?_
  refine lv_iadd hx hb dX0_takeAway_47 ?_
  refine lh_top (y := nI (k + 1)) (nI_add _ _) ?_
  refine lv_aload_n hx hb dX0_takeAway_48 rfl (lv_at hl 1 rfl) ?_
  refine va_get (D := D) (ci := 0) (v := .ref (ad 8)) (C := RX0) (T := TX0) (N := 4) hx hb hts hinX0 hown hK hP 5 rfl rfl 2 (by decide) fX0_18 (fun _ h9 => h9) rfl dX0_takeAway_49 ?_
  refine lv_iload_n hx hb dX0_takeAway_52 rfl (lv_at hl 2 rfl) ?_
  refine lv_iload_n hx hb dX0_takeAway_53 rfl (lv_at hl 0 rfl) ?_
  refine lh_cpy (a1 := (k + 1)) (b1 := k) (n1 := ((xW u - k) - 1)) (N := 150) (f2 := va_cpy (xLo u) (xLo u) (k + 1) k ((xW u - k) - 1)) hx hb (hml.trans hl.1.symm) hown (hts (.methodLink RX0 29 arraycopyName) (by decide +kernel)) (hts (.native arraycopyName) (by decide +kernel)) (hts (.static arraycopyName) (by decide +kernel)) (hts (.initialized "java/lang/System") (by decide +kernel)) hK hP hD hS 8 0 rfl rfl (by omega) (by omega) (by decide) (rfl) (Nat.le_of_ble_eq_true rfl) (Nat.le_of_ble_eq_true rfl) dX0_takeAway_54 (fun H locs hP hD hS => ?_)
  have hP : va_P D vwCl (wX cI ad (sLo (sRc (sAb u (va_cpy (xAb u) (xAb u) (k + 1) k ((xW u - k) - 1))) (va_cpy (xRc u) (xRc u) (k + 1) k ((xW u - k) - 1))) (va_cpy (xLo u) (xLo u) (k + 1) k ((xW u - k) - 1)))) H := hP
  have hD : va_D A (wX cI ad (sLo (sRc (sAb u (va_cpy (xAb u) (xAb u) (k + 1) k ((xW u - k) - 1))) (va_cpy (xRc u) (xRc u) (k + 1) k ((xW u - k) - 1))) (va_cpy (xLo u) (xLo u) (k + 1) k ((xW u - k) - 1)))) := hD
  refine lv_aload_n hx hb dX0_takeAway_57 rfl (lv_at hl 1 rfl) ?_
  refine lv_dup hx hb dX0_takeAway_58 rfl ?_
  refine va_get (D := D) (ci := 0) (v := .int (nI (xW u))) (C := RX0) (T := TX0) (N := 4) hx hb hts hinX0 hown hK hP 5 rfl rfl 3 (by decide) fX0_21 (fun _ h9 => h9) rfl dX0_takeAway_59 ?_
  refine lv_iconst (v := nI 1) hx hb dX0_takeAway_62 (by decide) ?_
  refine lv_isub hx hb dX0_takeAway_63 ?_
  refine lh_top (y := nI (xW u - 1)) (pk_sub (by omega)) ?_
  refine va_put (D := D) (ci := 0) (v := .int (nI (xW u - 1))) (ty := .int) (C := RX0) (T := TX0) (N := 4) hx hb hts hinX0 tyX0 tyX0_ok nmX0 hown hK hP hD hS 5 rfl rfl 3 (by decide) fX0_21 (fun _ h9 => h9) rfl (by decide +kernel) rfl rfl (Nat.le_of_ble_eq_true rfl) dX0_takeAway_64 (fun H locs hP hD hS => ?_)
  have hP : va_P D vwCl (wX cI ad (sLo (sRc (sAb (sW u ((xW u - 1))) (va_cpy (xAb u) (xAb u) (k + 1) k ((xW u - k) - 1))) (va_cpy (xRc u) (xRc u) (k + 1) k ((xW u - k) - 1))) (va_cpy (xLo u) (xLo u) (k + 1) k ((xW u - k) - 1)))) H := hP
  have hD : va_D A (wX cI ad (sLo (sRc (sAb (sW u ((xW u - 1))) (va_cpy (xAb u) (xAb u) (k + 1) k ((xW u - k) - 1))) (va_cpy (xRc u) (xRc u) (k + 1) k ((xW u - k) - 1))) (va_cpy (xLo u) (xLo u) (k + 1) k ((xW u - k) - 1)))) := hD
  exact lh_rv hx hb hr hlk hK hP hD hS (by rfl) dX0_takeAway_67
set_option maxRecDepth 100000 in
set_option maxHeartbeats 4000000 in
theorem kX1_bit (l : Launch) (D : va_G) (tys : List (ClassId × FieldType)) (ws : va_W) (k : Nat) (hk : k < 31) : CI l D tys yX1_bit wsX1_bit ({ frames := 0, cells := 0, slots := 0, locals := 0 }) [.int (nI k)] ws ws (nI (2 ^ k)) := by
  refine lh_CIof (cc := cX1_bit) (maxL := 1) (ret := (some .int)) (own := RX1) (by decide) rfl rfl (Nat.le_of_ble_eq_true rfl) ?_
  intro p e s m below meth c A ls hx hb hr hlk hts hown hml hK hN hA hP hD hS hl
  have hl : lv_has ls 1 [(0, .int (nI k))] := hl
  refine lv_iconst (v := nI 1) hx hb dX1_bit_0 (by decide) ?_
  refine lv_iload_n hx hb dX1_bit_1 rfl (lv_at hl 0 rfl) ?_
  refine lv_ishl hx hb dX1_bit_2 ?_
  refine lh_top (y := nI (2 ^ k)) (lh_bit (by omega)) ?_
  exact lh_ri hx hb hr hlk hK hP hD hS rfl rfl dX1_bit_3
set_option maxRecDepth 100000 in
set_option maxHeartbeats 4000000 in
theorem kX1_isIn (l : Launch) (D : va_G) (tys : List (ClassId × FieldType)) (ws : va_W) (x : Nat) (k : Nat) (hk : k < 31) : CI l D tys yX1_isIn wsX1_isIn ({ frames := 1, cells := 0, slots := 0, locals := 20 }) [.int (nI x), .int (nI k)] ws ws (b2i (x.testBit k)) := by
  refine lh_CIof (cc := cX1_isIn) (maxL := 2) (ret := (some .boolean)) (own := RX1) (by decide) rfl rfl (Nat.le_of_ble_eq_true rfl) ?_
  intro p e s m below meth c A ls hx hb hr hlk hts hown hml hK hN hA hP hD hS hl
  have hl : lv_has ls 2 [(0, .int (nI x)), (1, .int (nI k))] := hl
  refine lv_iload_n hx hb dX1_isIn_0 rfl (lv_at hl 0 rfl) ?_
  refine lv_iload_n hx hb dX1_isIn_1 rfl (lv_at hl 1 rfl) ?_
  refine lh_cSi ⟨hx, hb, hml, hown, hts⟩ (kX1_bit l D _ _ k (by omega)) (va_cwS 1 hts gX1_isIn_X1_bit rfl rfl rfl (by decide +kernel) ⟨Nat.le_of_ble_eq_true rfl, Nat.le_of_ble_eq_true rfl⟩) hK hN hP hD hS hA rfl hl.1 rfl (Nat.le_of_ble_eq_true rfl) ⟨Nat.le_of_ble_eq_true rfl, Nat.le_of_ble_eq_true rfl⟩ dX1_isIn_2 (fun H locs hP hD hS => ?_)
  refine lv_iand hx hb dX1_isIn_5 ?_
  refine lh_top (y := (nI (x &&& 2 ^ k))) (fa_and _ _) ?_
  refine lv_if_eq (tgt := 13) hx hb dX1_isIn_6 (by decide) (fun c_1 => ?_) (fun c_1 => ?_)
  · have c_1r := c_1
    have c_1 := lh_tst hk c_1
    refine lv_iconst (v := nI 0) hx hb dX1_isIn_13 (by decide) ?_
    exact lh_rz hx hb hr hlk hK hP hD hS (by first | (simp [nI_0, nI_o, b2i, c_1]; done) | (simp [nI_0, nI_o, b2i, c_1]; rfl)) rfl dX1_isIn_14
  · have c_1r := c_1
    have c_1 := lh_tst1 hk c_1
    refine lv_iconst (v := nI 1) hx hb dX1_isIn_9 (by decide) ?_
    refine lv_goto (tgt := 14) hx hb dX1_isIn_10 (by decide) ?_
    exact lh_rz hx hb hr hlk hK hP hD hS (by first | (simp [nI_0, nI_o, b2i, c_1]; done) | (simp [nI_0, nI_o, b2i, c_1]; rfl)) rfl dX1_isIn_14
set_option maxRecDepth 100000 in
set_option maxHeartbeats 4000000 in
theorem kX1_at (l : Launch) (D : va_G) (tys : List (ClassId × FieldType)) (ws : va_W) (a : Nat) (b : Nat) : CI l D tys yX1_at wsX1_at ({ frames := 0, cells := 0, slots := 0, locals := 0 }) [.int (nI a), .int (nI b)] ws ws (nI (a * 10 + b)) := by
  refine lh_CIof (cc := cX1_at) (maxL := 2) (ret := (some .int)) (own := RX1) (by decide) rfl rfl (Nat.le_of_ble_eq_true rfl) ?_
  intro p e s m below meth c A ls hx hb hr hlk hts hown hml hK hN hA hP hD hS hl
  have hl : lv_has ls 2 [(0, .int (nI a)), (1, .int (nI b))] := hl
  refine lv_iload_n hx hb dX1_at_0 rfl (lv_at hl 0 rfl) ?_
  refine lv_bipush (v := nI 10) hx hb dX1_at_1 (by decide) ?_
  refine lv_imul hx hb dX1_at_3 ?_
  refine lh_top (y := nI (a * 10)) (pk_mul _ _) ?_
  refine lv_iload_n hx hb dX1_at_4 rfl (lv_at hl 1 rfl) ?_
  refine lv_iadd hx hb dX1_at_5 ?_
  refine lh_top (y := nI ((a * 10) + b)) (nI_add _ _) ?_
  exact lh_ri hx hb hr hlk hK hP hD hS (by rfl) rfl dX1_at_6
set_option maxRecDepth 100000 in
set_option maxHeartbeats 4000000 in
theorem kX1_isHost (l : Launch) (D : va_G) (tys : List (ClassId × FieldType)) (ws : va_W) (h : Int32) : CI l D tys yX1_isHost wsX1_isHost ({ frames := 0, cells := 0, slots := 0, locals := 0 }) [.int (h)] ws ws (b2i (isHo h)) := by
  refine lh_CIof (cc := cX1_isHost) (maxL := 1) (ret := (some .boolean)) (own := RX1) (by decide) rfl rfl (Nat.le_of_ble_eq_true rfl) ?_
  intro p e s m below meth c A ls hx hb hr hlk hts hown hml hK hN hA hP hD hS hl
  have hl : lv_has ls 1 [(0, .int (h))] := hl
  refine lv_iload_n hx hb dX1_isHost_0 rfl (lv_at hl 0 rfl) ?_
  refine lv_if_lt (tgt := 13) hx hb dX1_isHost_1 (by decide) (fun c_1 => ?_) (fun c_1 => ?_)
  · have c_1r := c_1
    refine lv_iconst (v := nI 0) hx hb dX1_isHost_13 (by decide) ?_
    exact lh_rz hx hb hr hlk hK hP hD hS (by first | (simp [nI_0, nI_o, isHo, b2i, c_1]; done) | (simp [nI_0, nI_o, isHo, b2i, c_1]; rfl)) rfl dX1_isHost_14
  · have c_1r := c_1
    refine lv_iload_n hx hb dX1_isHost_4 rfl (lv_at hl 0 rfl) ?_
    refine lv_iconst (v := nI 4) hx hb dX1_isHost_5 (by decide) ?_
    refine lv_icmp_ge (tgt := 13) hx hb dX1_isHost_6 (by decide) (fun c_2 => ?_) (fun c_2 => ?_)
    · have c_2r := c_2
      refine lv_iconst (v := nI 0) hx hb dX1_isHost_13 (by decide) ?_
      exact lh_rz hx hb hr hlk hK hP hD hS (by first | (simp [nI_0, nI_o, isHo, b2i, c_1, c_2]; done) | (simp [nI_0, nI_o, isHo, b2i, c_1, c_2]; rfl)) rfl dX1_isHost_14
    · have c_2r := c_2
      refine lv_iconst (v := nI 1) hx hb dX1_isHost_9 (by decide) ?_
      refine lv_goto (tgt := 14) hx hb dX1_isHost_10 (by decide) ?_
      exact lh_rz hx hb hr hlk hK hP hD hS (by first | (simp [nI_0, nI_o, isHo, b2i, c_1, c_2]; done) | (simp [nI_0, nI_o, isHo, b2i, c_1, c_2]; rfl)) rfl dX1_isHost_14
set_option maxRecDepth 100000 in
set_option maxHeartbeats 4000000 in
theorem kX1_isObject (l : Launch) (D : va_G) (cI : ClassId) (ad : Nat → Nat) (u : XS) (a : Int32) : CI l D [(cI, .int)] yX1_isObject wsX1_isObject ({ frames := 0, cells := 0, slots := 0, locals := 0 }) [.ref (ad 0), .int (a)] (wX cI ad u) (wX cI ad u) (b2i (isObj u a)) := by
  refine lh_CIof (cc := cX1_isObject) (maxL := 2) (ret := (some .boolean)) (own := RX1) (by decide) rfl rfl (Nat.le_of_ble_eq_true rfl) ?_
  intro p e s m below meth c A ls hx hb hr hlk hts hown hml hK hN hA hP hD hS hl
  have fX1_35 := hts (.fieldLink RX1 35 "LostHosts" "made" "I") (by decide +kernel)
  have hinX1 : ∀ w ∈ u_ws RX1 TX1 10, w ∈ wsX1_isObject := by decide +kernel
  have hl : lv_has ls 2 [(0, .ref (ad 0)), (1, .int (a))] := hl
  refine lv_iload_n hx hb dX1_isObject_0 rfl (lv_at hl 1 rfl) ?_
  refine lv_if_lt (tgt := 16) hx hb dX1_isObject_1 (by decide) (fun c_1 => ?_) (fun c_1 => ?_)
  · have c_1r := c_1
    refine lv_iconst (v := nI 0) hx hb dX1_isObject_16 (by decide) ?_
    exact lh_rz hx hb hr hlk hK hP hD hS (by first | (simp [nI_0, nI_o, isObj, b2i, c_1]; done) | (simp [nI_0, nI_o, isObj, b2i, c_1]; rfl)) rfl dX1_isObject_17
  · have c_1r := c_1
    refine lv_iload_n hx hb dX1_isObject_4 rfl (lv_at hl 1 rfl) ?_
    refine lv_aload_n hx hb dX1_isObject_5 rfl (lv_at hl 0 rfl) ?_
    refine va_get (D := D) (ci := 1) (v := .int (nI (xM u))) (C := RX1) (T := TX1) (N := 10) hx hb hts hinX1 hown hK hP 0 rfl rfl 5 (by decide) fX1_35 (fun _ h9 => h9) rfl dX1_isObject_6 ?_
    refine lv_icmp_ge (tgt := 16) hx hb dX1_isObject_9 (by decide) (fun c_2 => ?_) (fun c_2 => ?_)
    · have c_2r := c_2
      refine lv_iconst (v := nI 0) hx hb dX1_isObject_16 (by decide) ?_
      exact lh_rz hx hb hr hlk hK hP hD hS (by first | (simp [nI_0, nI_o, isObj, b2i, c_1, c_2]; done) | (simp [nI_0, nI_o, isObj, b2i, c_1, c_2]; rfl)) rfl dX1_isObject_17
    · have c_2r := c_2
      refine lv_iconst (v := nI 1) hx hb dX1_isObject_12 (by decide) ?_
      refine lv_goto (tgt := 17) hx hb dX1_isObject_13 (by decide) ?_
      exact lh_rz hx hb hr hlk hK hP hD hS (by first | (simp [nI_0, nI_o, isObj, b2i, c_1, c_2]; done) | (simp [nI_0, nI_o, isObj, b2i, c_1, c_2]; rfl)) rfl dX1_isObject_17
set_option maxRecDepth 100000 in
set_option maxHeartbeats 4000000 in
theorem kX1_isDead (l : Launch) (D : va_G) (cI : ClassId) (ad : Nat → Nat) (u : XS) (h : Nat) (hh : h < 31) : CI l D [(cI, .int)] yX1_isDead wsX1_isDead ({ frames := 2, cells := 0, slots := 0, locals := 41 }) [.ref (ad 0), .int (nI h)] (wX cI ad u) (wX cI ad u) (b2i ((xD u).testBit h)) := by
  refine lh_CIof (cc := cX1_isDead) (maxL := 2) (ret := (some .boolean)) (own := RX1) (by decide) rfl rfl (Nat.le_of_ble_eq_true rfl) ?_
  intro p e s m below meth c A ls hx hb hr hlk hts hown hml hK hN hA hP hD hS hl
  have fX1_45 := hts (.fieldLink RX1 45 "LostHosts" "deadHosts" "I") (by decide +kernel)
  have hinX1 : ∀ w ∈ u_ws RX1 TX1 10, w ∈ wsX1_isDead := by decide +kernel
  have hl : lv_has ls 2 [(0, .ref (ad 0)), (1, .int (nI h))] := hl
  refine lv_aload_n hx hb dX1_isDead_0 rfl (lv_at hl 0 rfl) ?_
  refine va_get (D := D) (ci := 1) (v := .int (nI (xD u))) (C := RX1) (T := TX1) (N := 10) hx hb hts hinX1 hown hK hP 0 rfl rfl 8 (by decide) fX1_45 (fun _ h9 => h9) rfl dX1_isDead_1 ?_
  refine lv_iload_n hx hb dX1_isDead_4 rfl (lv_at hl 1 rfl) ?_
  refine lh_cSi ⟨hx, hb, hml, hown, hts⟩ (kX1_isIn l D _ _ (xD u) h (by omega)) (va_cwS 2 hts gX1_isDead_X1_isIn rfl rfl rfl (by decide +kernel) ⟨Nat.le_of_ble_eq_true rfl, Nat.le_of_ble_eq_true rfl⟩) hK hN hP hD hS hA rfl hl.1 rfl (Nat.le_of_ble_eq_true rfl) ⟨Nat.le_of_ble_eq_true rfl, Nat.le_of_ble_eq_true rfl⟩ dX1_isDead_5 (fun H locs hP hD hS => ?_)
  exact lh_rz hx hb hr hlk hK hP hD hS rfl rfl dX1_isDead_8
set_option maxRecDepth 100000 in
set_option maxHeartbeats 4000000 in
theorem kX1_isLive (l : Launch) (D : va_G) (cI : ClassId) (ad : Nat → Nat) (u : XS) (a : Nat) (ha : a < 31) : CI l D [(cI, .int)] yX1_isLive wsX1_isLive ({ frames := 2, cells := 0, slots := 0, locals := 41 }) [.ref (ad 0), .int (nI a)] (wX cI ad u) (wX cI ad u) (b2i ((xL u).testBit a)) := by
  refine lh_CIof (cc := cX1_isLive) (maxL := 2) (ret := (some .boolean)) (own := RX1) (by decide) rfl rfl (Nat.le_of_ble_eq_true rfl) ?_
  intro p e s m below meth c A ls hx hb hr hlk hts hown hml hK hN hA hP hD hS hl
  have fX1_39 := hts (.fieldLink RX1 39 "LostHosts" "live" "I") (by decide +kernel)
  have hinX1 : ∀ w ∈ u_ws RX1 TX1 10, w ∈ wsX1_isLive := by decide +kernel
  have hl : lv_has ls 2 [(0, .ref (ad 0)), (1, .int (nI a))] := hl
  refine lv_aload_n hx hb dX1_isLive_0 rfl (lv_at hl 0 rfl) ?_
  refine va_get (D := D) (ci := 1) (v := .int (nI (xL u))) (C := RX1) (T := TX1) (N := 10) hx hb hts hinX1 hown hK hP 0 rfl rfl 6 (by decide) fX1_39 (fun _ h9 => h9) rfl dX1_isLive_1 ?_
  refine lv_iload_n hx hb dX1_isLive_4 rfl (lv_at hl 1 rfl) ?_
  refine lh_cSi ⟨hx, hb, hml, hown, hts⟩ (kX1_isIn l D _ _ (xL u) a (by omega)) (va_cwS 2 hts gX1_isLive_X1_isIn rfl rfl rfl (by decide +kernel) ⟨Nat.le_of_ble_eq_true rfl, Nat.le_of_ble_eq_true rfl⟩) hK hN hP hD hS hA rfl hl.1 rfl (Nat.le_of_ble_eq_true rfl) ⟨Nat.le_of_ble_eq_true rfl, Nat.le_of_ble_eq_true rfl⟩ dX1_isLive_5 (fun H locs hP hD hS => ?_)
  exact lh_rz hx hb hr hlk hK hP hD hS rfl rfl dX1_isLive_8
set_option maxRecDepth 100000 in
set_option maxHeartbeats 4000000 in
theorem kX1_livesOn (l : Launch) (D : va_G) (cI : ClassId) (ad : Nat → Nat) (u : XS) (a : Nat) (h : Nat) (ok : okB u) (ha : a < 10) (hh : h < 4) : CI l D [(cI, .int)] yX1_livesOn wsX1_livesOn ({ frames := 3, cells := 0, slots := 0, locals := 62 }) [.ref (ad 0), .int (nI a), .int (nI h)] (wX cI ad u) (wX cI ad u) (b2i (lvo u a h)) := by
  obtain ⟨hM, hW, hHo, hAb, hLb, hRb, hDb⟩ := id ok
  refine lh_CIof (cc := cX1_livesOn) (maxL := 3) (ret := (some .boolean)) (own := RX1) (by decide) rfl rfl (Nat.le_of_ble_eq_true rfl) ?_
  intro p e s m below meth c A ls hx hb hr hlk hts hown hml hK hN hA hP hD hS hl
  have fX1_9 := hts (.fieldLink RX1 9 "LostHosts" "hostOf" "[I") (by decide +kernel)
  have hinX1 : ∀ w ∈ u_ws RX1 TX1 10, w ∈ wsX1_livesOn := by decide +kernel
  have hl : lv_has ls 3 [(0, .ref (ad 0)), (1, .int (nI a)), (2, .int (nI h))] := hl
  refine lv_aload_n hx hb dX1_livesOn_0 rfl (lv_at hl 0 rfl) ?_
  refine lv_iload_n hx hb dX1_livesOn_1 rfl (lv_at hl 1 rfl) ?_
  refine lh_cVi ⟨hx, hb, hml, hown, hts⟩ (kX1_isLive l D cI ad u a (by omega)) (cwV 1 hts gX1_livesOn_X1_isLive rfl rfl rfl (by decide +kernel) ⟨Nat.le_of_ble_eq_true rfl, Nat.le_of_ble_eq_true rfl⟩) hK hN hP hD hS hA 0 1 rfl rfl rfl rfl hl.1 rfl (Nat.le_of_ble_eq_true rfl) ⟨Nat.le_of_ble_eq_true rfl, Nat.le_of_ble_eq_true rfl⟩ dX1_livesOn_2 (fun H locs hP hD hS => ?_)
  refine lv_if_eq (tgt := 22) hx hb dX1_livesOn_5 (by decide) (fun c_1 => ?_) (fun c_1 => ?_)
  · have c_1 : ((xL u).testBit a) = false := b2i_e0 c_1
    refine lv_iconst (v := nI 0) hx hb dX1_livesOn_22 (by decide) ?_
    exact lh_rz hx hb hr hlk hK hP hD hS (by first | (simp [nI_0, nI_o, lvo, b2i, c_1]; done) | (simp [nI_0, nI_o, lvo, b2i, c_1]; rfl)) rfl dX1_livesOn_23
  · have c_1 : ((xL u).testBit a) = true := b2i_n0 c_1
    refine lv_aload_n hx hb dX1_livesOn_8 rfl (lv_at hl 0 rfl) ?_
    refine va_get (D := D) (ci := 1) (v := .ref (ad 1)) (C := RX1) (T := TX1) (N := 10) hx hb hts hinX1 hown hK hP 0 rfl rfl 0 (by decide) fX1_9 (fun _ h9 => h9) rfl dX1_livesOn_9 ?_
    refine lv_iload_n hx hb dX1_livesOn_12 rfl (lv_at hl 1 rfl) ?_
    refine lh_ild (k := a) (N := 10) hx hb hK hP 1 0 rfl rfl (by omega) (by decide) dX1_livesOn_13 ?_
    refine W.eq (g2 := F0 m 14 ls (.int (nI (xHo u a)) :: [])) rfl ?_
    refine lv_iload_n hx hb dX1_livesOn_14 rfl (lv_at hl 2 rfl) ?_
    refine lv_icmp_ne (tgt := 22) hx hb dX1_livesOn_15 (by decide) (fun c_2 => ?_) (fun c_2 => ?_)
    · have c_2 : ¬ xHo u a = h := fun h => c_2 ((nI_eq (by have h9 := hHo a; omega) (by have h9 := hHo a; omega)).mpr h)
      refine lv_iconst (v := nI 0) hx hb dX1_livesOn_22 (by decide) ?_
      exact lh_rz hx hb hr hlk hK hP hD hS (by first | (simp [nI_0, nI_o, lvo, b2i, c_1, c_2]; done) | (simp [nI_0, nI_o, lvo, b2i, c_1, c_2]; rfl)) rfl dX1_livesOn_23
    · have c_2 : xHo u a = h := (nI_eq (by have h9 := hHo a; omega) (by have h9 := hHo a; omega)).mp c_2
      refine lv_iconst (v := nI 1) hx hb dX1_livesOn_18 (by decide) ?_
      refine lv_goto (tgt := 23) hx hb dX1_livesOn_19 (by decide) ?_
      exact lh_rz hx hb hr hlk hK hP hD hS (by first | (simp [nI_0, nI_o, lvo, b2i, c_1, c_2]; done) | (simp [nI_0, nI_o, lvo, b2i, c_1, c_2]; rfl)) rfl dX1_livesOn_23
set_option maxRecDepth 100000 in
set_option maxHeartbeats 4000000 in
theorem kX1_onOneHost (l : Launch) (D : va_G) (cI : ClassId) (ad : Nat → Nat) (u : XS) (a : Nat) (b : Nat) (ok : okB u) (ha : a < 10) (hb2 : b < 10) : CI l D [(cI, .int)] yX1_onOneHost wsX1_onOneHost ({ frames := 0, cells := 0, slots := 0, locals := 0 }) [.ref (ad 0), .int (nI a), .int (nI b)] (wX cI ad u) (wX cI ad u) (b2i (nbr u a b)) := by
  obtain ⟨hM, hW, hHo, hAb, hLb, hRb, hDb⟩ := id ok
  refine lh_CIof (cc := cX1_onOneHost) (maxL := 3) (ret := (some .boolean)) (own := RX1) (by decide) rfl rfl (Nat.le_of_ble_eq_true rfl) ?_
  intro p e s m below meth c A ls hx hb hr hlk hts hown hml hK hN hA hP hD hS hl
  have fX1_9 := hts (.fieldLink RX1 9 "LostHosts" "hostOf" "[I") (by decide +kernel)
  have hinX1 : ∀ w ∈ u_ws RX1 TX1 10, w ∈ wsX1_onOneHost := by decide +kernel
  have hl : lv_has ls 3 [(0, .ref (ad 0)), (1, .int (nI a)), (2, .int (nI b))] := hl
  refine lv_aload_n hx hb dX1_onOneHost_0 rfl (lv_at hl 0 rfl) ?_
  refine va_get (D := D) (ci := 1) (v := .ref (ad 1)) (C := RX1) (T := TX1) (N := 10) hx hb hts hinX1 hown hK hP 0 rfl rfl 0 (by decide) fX1_9 (fun _ h9 => h9) rfl dX1_onOneHost_1 ?_
  refine lv_iload_n hx hb dX1_onOneHost_4 rfl (lv_at hl 1 rfl) ?_
  refine lh_ild (k := a) (N := 10) hx hb hK hP 1 0 rfl rfl (by omega) (by decide) dX1_onOneHost_5 ?_
  refine W.eq (g2 := F0 m 6 ls (.int (nI (xHo u a)) :: [])) rfl ?_
  refine lv_aload_n hx hb dX1_onOneHost_6 rfl (lv_at hl 0 rfl) ?_
  refine va_get (D := D) (ci := 1) (v := .ref (ad 1)) (C := RX1) (T := TX1) (N := 10) hx hb hts hinX1 hown hK hP 0 rfl rfl 0 (by decide) fX1_9 (fun _ h9 => h9) rfl dX1_onOneHost_7 ?_
  refine lv_iload_n hx hb dX1_onOneHost_10 rfl (lv_at hl 2 rfl) ?_
  refine lh_ild (k := b) (N := 10) hx hb hK hP 1 0 rfl rfl (by omega) (by decide) dX1_onOneHost_11 ?_
  refine W.eq (g2 := F0 m 12 ls (.int (nI (xHo u b)) :: [.int (nI (xHo u a))])) rfl ?_
  refine lv_icmp_ne (tgt := 19) hx hb dX1_onOneHost_12 (by decide) (fun c_1 => ?_) (fun c_1 => ?_)
  · have c_1 : ¬ xHo u a = xHo u b := fun h => c_1 ((nI_eq (by have h9 := hHo a; have h8 := hHo b; omega) (by have h9 := hHo a; have h8 := hHo b; omega)).mpr h)
    refine lv_iconst (v := nI 0) hx hb dX1_onOneHost_19 (by decide) ?_
    exact lh_rz hx hb hr hlk hK hP hD hS (by first | (simp [nI_0, nI_o, nbr, b2i, c_1]; done) | (simp [nI_0, nI_o, nbr, b2i, c_1]; rfl)) rfl dX1_onOneHost_20
  · have c_1 : xHo u a = xHo u b := (nI_eq (by have h9 := hHo a; have h8 := hHo b; omega) (by have h9 := hHo a; have h8 := hHo b; omega)).mp c_1
    refine lv_iconst (v := nI 1) hx hb dX1_onOneHost_15 (by decide) ?_
    refine lv_goto (tgt := 20) hx hb dX1_onOneHost_16 (by decide) ?_
    exact lh_rz hx hb hr hlk hK hP hD hS (by first | (simp [nI_0, nI_o, nbr, b2i, c_1]; done) | (simp [nI_0, nI_o, nbr, b2i, c_1]; rfl)) rfl dX1_onOneHost_20
set_option maxRecDepth 100000 in
set_option maxHeartbeats 4000000 in
theorem kX1_hasLink (l : Launch) (D : va_G) (cI : ClassId) (ad : Nat → Nat) (u : XS) (a : Nat) (b : Nat) (ha : a < 10) (hb2 : b < 10) : CI l D [(cI, .int)] yX1_hasLink wsX1_hasLink ({ frames := 1, cells := 0, slots := 0, locals := 21 }) [.ref (ad 0), .int (nI a), .int (nI b)] (wX cI ad u) (wX cI ad u) (b2i (lnk u a b)) := by
  refine lh_CIof (cc := cX1_hasLink) (maxL := 3) (ret := (some .boolean)) (own := RX1) (by decide) rfl rfl (Nat.le_of_ble_eq_true rfl) ?_
  intro p e s m below meth c A ls hx hb hr hlk hts hown hml hK hN hA hP hD hS hl
  have fX1_19 := hts (.fieldLink RX1 19 "LostHosts" "links" "[I") (by decide +kernel)
  have hinX1 : ∀ w ∈ u_ws RX1 TX1 10, w ∈ wsX1_hasLink := by decide +kernel
  have hl : lv_has ls 3 [(0, .ref (ad 0)), (1, .int (nI a)), (2, .int (nI b))] := hl
  refine lv_aload_n hx hb dX1_hasLink_0 rfl (lv_at hl 0 rfl) ?_
  refine va_get (D := D) (ci := 1) (v := .ref (ad 4)) (C := RX1) (T := TX1) (N := 10) hx hb hts hinX1 hown hK hP 0 rfl rfl 3 (by decide) fX1_19 (fun _ h9 => h9) rfl dX1_hasLink_1 ?_
  refine lv_iload_n hx hb dX1_hasLink_4 rfl (lv_at hl 1 rfl) ?_
  refine lv_iload_n hx hb dX1_hasLink_5 rfl (lv_at hl 2 rfl) ?_
  refine lh_cSi ⟨hx, hb, hml, hown, hts⟩ (kX1_at l D _ _ a b) (va_cwS 2 hts gX1_hasLink_X1_at rfl rfl rfl (by decide +kernel) ⟨Nat.le_of_ble_eq_true rfl, Nat.le_of_ble_eq_true rfl⟩) hK hN hP hD hS hA rfl hl.1 rfl (Nat.le_of_ble_eq_true rfl) ⟨Nat.le_of_ble_eq_true rfl, Nat.le_of_ble_eq_true rfl⟩ dX1_hasLink_6 (fun H locs hP hD hS => ?_)
  refine lh_ild (k := (a * 10 + b)) (N := 100) hx hb hK hP 4 0 rfl rfl (by omega) (by decide) dX1_hasLink_9 ?_
  refine W.eq (g2 := F0 m 10 ls (.int ((xLi u (a * 10 + b))) :: [])) rfl ?_
  refine lv_bipush (v := (-9)) hx hb dX1_hasLink_10 (by decide) ?_
  refine lv_icmp_eq (tgt := 19) hx hb dX1_hasLink_12 (by decide) (fun c_1 => ?_) (fun c_1 => ?_)
  · have c_1r := c_1
    refine lv_iconst (v := nI 0) hx hb dX1_hasLink_19 (by decide) ?_
    exact lh_rz hx hb hr hlk hK hP hD hS (by first | (simp [nI_0, nI_o, lnk, b2i, c_1]; done) | (simp [nI_0, nI_o, lnk, b2i, c_1]; rfl)) rfl dX1_hasLink_20
  · have c_1r := c_1
    refine lv_iconst (v := nI 1) hx hb dX1_hasLink_15 (by decide) ?_
    refine lv_goto (tgt := 20) hx hb dX1_hasLink_16 (by decide) ?_
    exact lh_rz hx hb hr hlk hK hP hD hS (by first | (simp [nI_0, nI_o, lnk, b2i, c_1]; done) | (simp [nI_0, nI_o, lnk, b2i, c_1]; rfl)) rfl dX1_hasLink_20
set_option maxRecDepth 100000 in
set_option maxHeartbeats 4000000 in
theorem kX1_addLink (l : Launch) (D : va_G) (cI : ClassId) (ad : Nat → Nat) (u : XS) (a : Nat) (b : Nat) (w : Int32) (ha : a < 10) (hb2 : b < 10) : CV l D [(cI, .int)] yX1_addLink wsX1_addLink ({ frames := 2, cells := 0, slots := 0, locals := 43 }) [.ref (ad 0), .int (nI a), .int (nI b), .int (w)] (wX cI ad u) (wX cI ad (adL u a b w)) := by
  refine lh_CVof (cc := cX1_addLink) (maxL := 4) (ret := none) (own := RX1) (by decide) rfl rfl (Nat.le_of_ble_eq_true rfl) ?_
  intro p e s m below meth c A ls hx hb hr hlk hts hown hml hK hN hA hP hD hS hl
  have fX1_19 := hts (.fieldLink RX1 19 "LostHosts" "links" "[I") (by decide +kernel)
  have fX1_16 := hts (.fieldLink RX1 16 "LostHosts" "age" "[I") (by decide +kernel)
  have hinX1 : ∀ w ∈ u_ws RX1 TX1 10, w ∈ wsX1_addLink := by decide +kernel
  have hl : lv_has ls 4 [(0, .ref (ad 0)), (1, .int (nI a)), (2, .int (nI b)), (3, .int (w))] := hl
  refine lv_aload_n hx hb dX1_addLink_0 rfl (lv_at hl 0 rfl) ?_
  refine lv_iload_n hx hb dX1_addLink_1 rfl (lv_at hl 1 rfl) ?_
  refine lv_iload_n hx hb dX1_addLink_2 rfl (lv_at hl 2 rfl) ?_
  refine lh_cVi ⟨hx, hb, hml, hown, hts⟩ (kX1_hasLink l D cI ad u a b (by omega) (by omega)) (cwV 2 hts gX1_addLink_X1_hasLink rfl rfl rfl (by decide +kernel) ⟨Nat.le_of_ble_eq_true rfl, Nat.le_of_ble_eq_true rfl⟩) hK hN hP hD hS hA 0 1 rfl rfl rfl rfl hl.1 rfl (Nat.le_of_ble_eq_true rfl) ⟨Nat.le_of_ble_eq_true rfl, Nat.le_of_ble_eq_true rfl⟩ dX1_addLink_3 (fun H locs hP hD hS => ?_)
  refine lv_if_eq (tgt := 26) hx hb dX1_addLink_6 (by decide) (fun c_1 => ?_) (fun c_1 => ?_)
  · have c_1 : (lnk u a b) = false := b2i_e0 c_1
    refine lv_aload_n hx hb dX1_addLink_26 rfl (lv_at hl 0 rfl) ?_
    refine va_get (D := D) (ci := 1) (v := .ref (ad 4)) (C := RX1) (T := TX1) (N := 10) hx hb hts hinX1 hown hK hP 0 rfl rfl 3 (by decide) fX1_19 (fun _ h9 => h9) rfl dX1_addLink_27 ?_
    refine lv_iload_n hx hb dX1_addLink_30 rfl (lv_at hl 1 rfl) ?_
    refine lv_iload_n hx hb dX1_addLink_31 rfl (lv_at hl 2 rfl) ?_
    refine lh_cSi ⟨hx, hb, hml, hown, hts⟩ (kX1_at l D _ _ a b) (va_cwS 2 hts gX1_addLink_X1_at rfl rfl rfl (by decide +kernel) ⟨Nat.le_of_ble_eq_true rfl, Nat.le_of_ble_eq_true rfl⟩) hK hN hP hD hS hA rfl hl.1 rfl (Nat.le_of_ble_eq_true rfl) ⟨Nat.le_of_ble_eq_true rfl, Nat.le_of_ble_eq_true rfl⟩ dX1_addLink_32 (fun H locs hP hD hS => ?_)
    refine lv_iload_n hx hb dX1_addLink_35 rfl (lv_at hl 3 rfl) ?_
    refine lh_ist (k := (a * 10 + b)) (N := 100) (f2 := upd (xLi u) (a * 10 + b) (w)) hx hb hK hP hD hS 4 0 rfl rfl (by omega) (by decide) (rfl) dX1_addLink_36 (fun H locs hP hD hS => ?_)
    have hP : va_P D vwCl (wX cI ad (sLi u (upd (xLi u) (a * 10 + b) (w)))) H := hP
    have hD : va_D A (wX cI ad (sLi u (upd (xLi u) (a * 10 + b) (w)))) := hD
    refine lv_aload_n hx hb dX1_addLink_37 rfl (lv_at hl 0 rfl) ?_
    refine va_get (D := D) (ci := 1) (v := .ref (ad 3)) (C := RX1) (T := TX1) (N := 10) hx hb hts hinX1 hown hK hP 0 rfl rfl 2 (by decide) fX1_16 (fun _ h9 => h9) rfl dX1_addLink_38 ?_
    refine lv_iload_n hx hb dX1_addLink_41 rfl (lv_at hl 2 rfl) ?_
    refine lv_iconst (v := nI 0) hx hb dX1_addLink_42 (by decide) ?_
    refine lh_ist (k := b) (N := 10) (f2 := upd (xAg u) b (nI 0)) hx hb hK hP hD hS 3 0 rfl rfl (by omega) (by decide) (rfl) dX1_addLink_43 (fun H locs hP hD hS => ?_)
    have hP : va_P D vwCl (wX cI ad (sLi (sAg u (upd (xAg u) b (nI 0))) (upd (xLi u) (a * 10 + b) (w)))) H := hP
    have hD : va_D A (wX cI ad (sLi (sAg u (upd (xAg u) b (nI 0))) (upd (xLi u) (a * 10 + b) (w)))) := hD
    exact lh_rv hx hb hr hlk hK hP hD hS (by first | (simp [nI_0, nI_o, adL, c_1]; done) | (simp [nI_0, nI_o, adL, c_1]; rfl)) dX1_addLink_44
  · have c_1 : (lnk u a b) = true := b2i_n0 c_1
    refine lv_aload_n hx hb dX1_addLink_9 rfl (lv_at hl 0 rfl) ?_
    refine va_get (D := D) (ci := 1) (v := .ref (ad 4)) (C := RX1) (T := TX1) (N := 10) hx hb hts hinX1 hown hK hP 0 rfl rfl 3 (by decide) fX1_19 (fun _ h9 => h9) rfl dX1_addLink_10 ?_
    refine lv_iload_n hx hb dX1_addLink_13 rfl (lv_at hl 1 rfl) ?_
    refine lv_iload_n hx hb dX1_addLink_14 rfl (lv_at hl 2 rfl) ?_
    refine lh_cSi ⟨hx, hb, hml, hown, hts⟩ (kX1_at l D _ _ a b) (va_cwS 2 hts gX1_addLink_X1_at rfl rfl rfl (by decide +kernel) ⟨Nat.le_of_ble_eq_true rfl, Nat.le_of_ble_eq_true rfl⟩) hK hN hP hD hS hA rfl hl.1 rfl (Nat.le_of_ble_eq_true rfl) ⟨Nat.le_of_ble_eq_true rfl, Nat.le_of_ble_eq_true rfl⟩ dX1_addLink_15 (fun H locs hP hD hS => ?_)
    refine lv_dup2_11 hx hb dX1_addLink_18 rfl rfl ?_
    refine lh_ild (k := (a * 10 + b)) (N := 100) hx hb hK hP 4 0 rfl rfl (by omega) (by decide) dX1_addLink_19 ?_
    refine W.eq (g2 := F0 m 20 ls (.int ((xLi u (a * 10 + b))) :: [.int (nI (a * 10 + b)), .ref (ad 4)])) rfl ?_
    refine lv_iload_n hx hb dX1_addLink_20 rfl (lv_at hl 3 rfl) ?_
    refine lv_iadd hx hb dX1_addLink_21 ?_
    refine lh_ist (k := (a * 10 + b)) (N := 100) (f2 := upd (xLi u) (a * 10 + b) (((xLi u (a * 10 + b)) + w))) hx hb hK hP hD hS 4 0 rfl rfl (by omega) (by decide) (rfl) dX1_addLink_22 (fun H locs hP hD hS => ?_)
    have hP : va_P D vwCl (wX cI ad (sLi u (upd (xLi u) (a * 10 + b) (((xLi u (a * 10 + b)) + w))))) H := hP
    have hD : va_D A (wX cI ad (sLi u (upd (xLi u) (a * 10 + b) (((xLi u (a * 10 + b)) + w))))) := hD
    refine lv_goto (tgt := 44) hx hb dX1_addLink_23 (by decide) ?_
    exact lh_rv hx hb hr hlk hK hP hD hS (by first | (simp [nI_0, nI_o, adL, c_1]; done) | (simp [nI_0, nI_o, adL, c_1]; rfl)) dX1_addLink_44

set_option maxRecDepth 100000 in
set_option maxHeartbeats 4000000 in
theorem kX1_object (l : Launch) (D : va_G) (cI : ClassId) (ad : Nat → Nat) (u : XS) (h : Int32) (r : Bool) (T : Nat) (inv : Inv T u) : CI l D [(cI, .int)] yX1_object wsX1_object ({ frames := 3, cells := 0, slots := 0, locals := 62 }) [.ref (ad 0), .int (h), .int (b2i r)] (wX cI ad u) (wX cI ad (objS u h r)) (objR u h) := by
  have ok := inv.1
  obtain ⟨hM, hW, hHo, hAb, hLb, hRb, hDb⟩ := id ok
  refine lh_CIof (cc := cX1_object) (maxL := 4) (ret := (some .int)) (own := RX1) (by decide) rfl rfl (Nat.le_of_ble_eq_true rfl) ?_
  intro p e s m below meth c A ls hx hb hr hlk hts hown hml hK hN hA hP hD hS hl
  have fX1_35 := hts (.fieldLink RX1 35 "LostHosts" "made" "I") (by decide +kernel)
  have fX1_9 := hts (.fieldLink RX1 9 "LostHosts" "hostOf" "[I") (by decide +kernel)
  have fX1_39 := hts (.fieldLink RX1 39 "LostHosts" "live" "I") (by decide +kernel)
  have fX1_42 := hts (.fieldLink RX1 42 "LostHosts" "roots" "I") (by decide +kernel)
  have hinX1 : ∀ w ∈ u_ws RX1 TX1 10, w ∈ wsX1_object := by decide +kernel
  have hl : lv_has ls 4 [(0, .ref (ad 0)), (1, .int (h)), (2, .int (b2i r))] := hl
  refine lv_iload_n hx hb dX1_object_0 rfl (lv_at hl 1 rfl) ?_
  refine lh_cSi ⟨hx, hb, hml, hown, hts⟩ (kX1_isHost l D _ _ h) (va_cwS 1 hts gX1_object_X1_isHost rfl rfl rfl (by decide +kernel) ⟨Nat.le_of_ble_eq_true rfl, Nat.le_of_ble_eq_true rfl⟩) hK hN hP hD hS hA rfl hl.1 rfl (Nat.le_of_ble_eq_true rfl) ⟨Nat.le_of_ble_eq_true rfl, Nat.le_of_ble_eq_true rfl⟩ dX1_object_1 (fun H locs hP hD hS => ?_)
  refine lv_if_ne (tgt := 9) hx hb dX1_object_4 (by decide) (fun c_1 => ?_) (fun c_1 => ?_)
  · have c_1 : (isHo h) = true := b2i_n0 c_1
    obtain ⟨h1, hh1, eh1⟩ := isHo_ex c_1
    subst eh1
    have eh1 : (nI h1).toNatClampNeg = h1 := nI_clamp (by omega)
    refine lv_aload_n hx hb dX1_object_9 rfl (lv_at hl 0 rfl) ?_
    refine lv_iload_n hx hb dX1_object_10 rfl (lv_at hl 1 rfl) ?_
    refine lh_cVi ⟨hx, hb, hml, hown, hts⟩ (kX1_isDead l D cI ad u h1 (by omega)) (cwV 1 hts gX1_object_X1_isDead rfl rfl rfl (by decide +kernel) ⟨Nat.le_of_ble_eq_true rfl, Nat.le_of_ble_eq_true rfl⟩) hK hN hP hD hS hA 0 1 rfl rfl rfl rfl hl.1 rfl (Nat.le_of_ble_eq_true rfl) ⟨Nat.le_of_ble_eq_true rfl, Nat.le_of_ble_eq_true rfl⟩ dX1_object_11 (fun H locs hP hD hS => ?_)
    refine lv_if_eq (tgt := 20) hx hb dX1_object_14 (by decide) (fun c_2 => ?_) (fun c_2 => ?_)
    · have c_2 : ((xD u).testBit h1) = false := b2i_e0 c_2
      refine lv_aload_n hx hb dX1_object_20 rfl (lv_at hl 0 rfl) ?_
      refine va_get (D := D) (ci := 1) (v := .int (nI (xM u))) (C := RX1) (T := TX1) (N := 10) hx hb hts hinX1 hown hK hP 0 rfl rfl 5 (by decide) fX1_35 (fun _ h9 => h9) rfl dX1_object_21 ?_
      refine lv_bipush (v := nI 10) hx hb dX1_object_24 (by decide) ?_
      refine lv_icmp_lt (tgt := 32) hx hb dX1_object_26 (by decide) (fun c_3 => ?_) (fun c_3 => ?_)
      · have c_3 : xM u < 10 := (nI_ltI (by omega) (by omega)).mp c_3
        refine lv_aload_n hx hb dX1_object_32 rfl (lv_at hl 0 rfl) ?_
        refine va_get (D := D) (ci := 1) (v := .int (nI (xM u))) (C := RX1) (T := TX1) (N := 10) hx hb hts hinX1 hown hK hP 0 rfl rfl 5 (by decide) fX1_35 (fun _ h9 => h9) rfl dX1_object_33 ?_
        refine lv_istore_n (lv' := [(3, .int (nI (xM u))), (0, .ref (ad 0)), (1, .int (nI h1)), (2, .int (b2i r))]) hx hb dX1_object_36 rfl hl (by decide) rfl (fun ls hl => ?_)
        refine lv_aload_n hx hb dX1_object_37 rfl (lv_at hl 1 rfl) ?_
        refine lv_dup hx hb dX1_object_38 rfl ?_
        refine va_get (D := D) (ci := 1) (v := .int (nI (xM u))) (C := RX1) (T := TX1) (N := 10) hx hb hts hinX1 hown hK hP 0 rfl rfl 5 (by decide) fX1_35 (fun _ h9 => h9) rfl dX1_object_39 ?_
        refine lv_iconst (v := nI 1) hx hb dX1_object_42 (by decide) ?_
        refine lv_iadd hx hb dX1_object_43 ?_
        refine lh_top (y := nI (xM u + 1)) (nI_add _ _) ?_
        refine va_put (D := D) (ci := 1) (v := .int (nI (xM u + 1))) (ty := .int) (C := RX1) (T := TX1) (N := 10) hx hb hts hinX1 tyX1 tyX1_ok nmX1 hown hK hP hD hS 0 rfl rfl 5 (by decide) fX1_35 (fun _ h9 => h9) rfl (by decide +kernel) rfl rfl (Nat.le_of_ble_eq_true rfl) dX1_object_44 (fun H locs hP hD hS => ?_)
        have hP : va_P D vwCl (wX cI ad (sM u ((xM u + 1)))) H := hP
        have hD : va_D A (wX cI ad (sM u ((xM u + 1)))) := hD
        refine lv_aload_n hx hb dX1_object_47 rfl (lv_at hl 1 rfl) ?_
        refine va_get (D := D) (ci := 1) (v := .ref (ad 1)) (C := RX1) (T := TX1) (N := 10) hx hb hts hinX1 hown hK hP 0 rfl rfl 0 (by decide) fX1_9 (fun _ h9 => h9) rfl dX1_object_48 ?_
        refine lv_iload_n hx hb dX1_object_51 rfl (lv_at hl 0 rfl) ?_
        refine lv_iload_n hx hb dX1_object_52 rfl (lv_at hl 2 rfl) ?_
        refine lh_ist (k := xM u) (N := 10) (f2 := fun zz => nI ((va_up (xHo u) (xM u) h1) zz)) hx hb hK hP hD hS 1 0 rfl rfl (by omega) (by decide) (lh_updN (xHo u) _ _) dX1_object_53 (fun H locs hP hD hS => ?_)
        have hP : va_P D vwCl (wX cI ad (sHo (sM u ((xM u + 1))) (va_up (xHo u) (xM u) h1))) H := hP
        have hD : va_D A (wX cI ad (sHo (sM u ((xM u + 1))) (va_up (xHo u) (xM u) h1))) := hD
        refine lv_aload_n hx hb dX1_object_54 rfl (lv_at hl 1 rfl) ?_
        refine lv_dup hx hb dX1_object_55 rfl ?_
        refine va_get (D := D) (ci := 1) (v := .int (nI (xL u))) (C := RX1) (T := TX1) (N := 10) hx hb hts hinX1 hown hK hP 0 rfl rfl 6 (by decide) fX1_39 (fun _ h9 => h9) rfl dX1_object_56 ?_
        refine lv_iload_n hx hb dX1_object_59 rfl (lv_at hl 0 rfl) ?_
        refine lh_cSi ⟨hx, hb, hml, hown, hts⟩ (kX1_bit l D _ _ (xM u) (by omega)) (va_cwS 1 hts gX1_object_X1_bit rfl rfl rfl (by decide +kernel) ⟨Nat.le_of_ble_eq_true rfl, Nat.le_of_ble_eq_true rfl⟩) hK hN hP hD hS hA rfl hl.1 rfl (Nat.le_of_ble_eq_true rfl) ⟨Nat.le_of_ble_eq_true rfl, Nat.le_of_ble_eq_true rfl⟩ dX1_object_60 (fun H locs hP hD hS => ?_)
        refine lv_ior hx hb dX1_object_63 ?_
        refine lh_top (y := nI (xL u ||| (2 ^ (xM u)))) (fa_or _ _) ?_
        refine va_put (D := D) (ci := 1) (v := .int (nI (xL u ||| (2 ^ (xM u))))) (ty := .int) (C := RX1) (T := TX1) (N := 10) hx hb hts hinX1 tyX1 tyX1_ok nmX1 hown hK hP hD hS 0 rfl rfl 6 (by decide) fX1_39 (fun _ h9 => h9) rfl (by decide +kernel) rfl rfl (Nat.le_of_ble_eq_true rfl) dX1_object_64 (fun H locs hP hD hS => ?_)
        have hP : va_P D vwCl (wX cI ad (sHo (sL (sM u ((xM u + 1))) ((xL u ||| (2 ^ (xM u))))) (va_up (xHo u) (xM u) h1))) H := hP
        have hD : va_D A (wX cI ad (sHo (sL (sM u ((xM u + 1))) ((xL u ||| (2 ^ (xM u))))) (va_up (xHo u) (xM u) h1))) := hD
        refine lv_iload_n hx hb dX1_object_67 rfl (lv_at hl 3 rfl) ?_
        refine lv_if_eq (tgt := 84) hx hb dX1_object_68 (by decide) (fun c_4 => ?_) (fun c_4 => ?_)
        · have c_4 : r = false := b2i_e0 c_4
          refine lv_iload_n hx hb dX1_object_84 rfl (lv_at hl 0 rfl) ?_
          exact lh_ri hx hb hr hlk hK hP hD hS (by first | (simp [nI_0, nI_o, objR, c_1, eh1, c_2, c_3, c_4]; done) | (simp [nI_0, nI_o, objR, c_1, eh1, c_2, c_3, c_4]; rfl)) (by first | (simp [nI_0, nI_o, objS, c_1, eh1, c_2, c_3, c_4]; done) | (simp [nI_0, nI_o, objS, c_1, eh1, c_2, c_3, c_4]; rfl)) dX1_object_85
        · have c_4 : r = true := b2i_n0 c_4
          refine lv_aload_n hx hb dX1_object_71 rfl (lv_at hl 1 rfl) ?_
          refine lv_dup hx hb dX1_object_72 rfl ?_
          refine va_get (D := D) (ci := 1) (v := .int (nI (xR u))) (C := RX1) (T := TX1) (N := 10) hx hb hts hinX1 hown hK hP 0 rfl rfl 7 (by decide) fX1_42 (fun _ h9 => h9) rfl dX1_object_73 ?_
          refine lv_iload_n hx hb dX1_object_76 rfl (lv_at hl 0 rfl) ?_
          refine lh_cSi ⟨hx, hb, hml, hown, hts⟩ (kX1_bit l D _ _ (xM u) (by omega)) (va_cwS 1 hts gX1_object_X1_bit rfl rfl rfl (by decide +kernel) ⟨Nat.le_of_ble_eq_true rfl, Nat.le_of_ble_eq_true rfl⟩) hK hN hP hD hS hA rfl hl.1 rfl (Nat.le_of_ble_eq_true rfl) ⟨Nat.le_of_ble_eq_true rfl, Nat.le_of_ble_eq_true rfl⟩ dX1_object_77 (fun H locs hP hD hS => ?_)
          refine lv_ior hx hb dX1_object_80 ?_
          refine lh_top (y := nI (xR u ||| (2 ^ (xM u)))) (fa_or _ _) ?_
          refine va_put (D := D) (ci := 1) (v := .int (nI (xR u ||| (2 ^ (xM u))))) (ty := .int) (C := RX1) (T := TX1) (N := 10) hx hb hts hinX1 tyX1 tyX1_ok nmX1 hown hK hP hD hS 0 rfl rfl 7 (by decide) fX1_42 (fun _ h9 => h9) rfl (by decide +kernel) rfl rfl (Nat.le_of_ble_eq_true rfl) dX1_object_81 (fun H locs hP hD hS => ?_)
          have hP : va_P D vwCl (wX cI ad (sHo (sR (sL (sM u ((xM u + 1))) ((xL u ||| (2 ^ (xM u))))) ((xR u ||| (2 ^ (xM u))))) (va_up (xHo u) (xM u) h1))) H := hP
          have hD : va_D A (wX cI ad (sHo (sR (sL (sM u ((xM u + 1))) ((xL u ||| (2 ^ (xM u))))) ((xR u ||| (2 ^ (xM u))))) (va_up (xHo u) (xM u) h1))) := hD
          refine lv_iload_n hx hb dX1_object_84 rfl (lv_at hl 0 rfl) ?_
          exact lh_ri hx hb hr hlk hK hP hD hS (by first | (simp [nI_0, nI_o, objR, c_1, eh1, c_2, c_3, c_4]; done) | (simp [nI_0, nI_o, objR, c_1, eh1, c_2, c_3, c_4]; rfl)) (by first | (simp [nI_0, nI_o, objS, c_1, eh1, c_2, c_3, c_4]; done) | (simp [nI_0, nI_o, objS, c_1, eh1, c_2, c_3, c_4]; rfl)) dX1_object_85
      · have c_3 : 10 ≤ xM u := Nat.le_of_not_lt (fun h => c_3 ((nI_ltI (by omega) (by omega)).mpr h))
        have c_3n : ¬ xM u < 10 := by omega
        refine lv_bipush (v := (-4)) hx hb dX1_object_29 (by decide) ?_
        exact lh_ri hx hb hr hlk hK hP hD hS (by first | (simp [nI_0, nI_o, objR, c_1, eh1, c_2, c_3n, c_3]; done) | (simp [nI_0, nI_o, objR, c_1, eh1, c_2, c_3n, c_3]; rfl)) (by first | (simp [nI_0, nI_o, objS, c_1, eh1, c_2, c_3n, c_3]; done) | (simp [nI_0, nI_o, objS, c_1, eh1, c_2, c_3n, c_3]; rfl)) dX1_object_31
    · have c_2 : ((xD u).testBit h1) = true := b2i_n0 c_2
      refine lv_bipush (v := (-3)) hx hb dX1_object_17 (by decide) ?_
      exact lh_ri hx hb hr hlk hK hP hD hS (by first | (simp [nI_0, nI_o, objR, c_1, eh1, c_2]; done) | (simp [nI_0, nI_o, objR, c_1, eh1, c_2]; rfl)) (by first | (simp [nI_0, nI_o, objS, c_1, eh1, c_2]; done) | (simp [nI_0, nI_o, objS, c_1, eh1, c_2]; rfl)) dX1_object_19
  · have c_1 : (isHo h) = false := b2i_e0 c_1
    refine lv_iconst (v := (-1)) hx hb dX1_object_7 (by decide) ?_
    exact lh_ri hx hb hr hlk hK hP hD hS (by first | (simp [nI_0, nI_o, objR, c_1]; done) | (simp [nI_0, nI_o, objR, c_1]; rfl)) (by first | (simp [nI_0, nI_o, objS, c_1]; done) | (simp [nI_0, nI_o, objS, c_1]; rfl)) dX1_object_8
set_option maxRecDepth 100000 in
set_option maxHeartbeats 4000000 in
theorem kX1_root (l : Launch) (D : va_G) (cI : ClassId) (ad : Nat → Nat) (u : XS) (a : Int32) (is : Bool) (T : Nat) (inv : Inv T u) : CI l D [(cI, .int)] yX1_root wsX1_root ({ frames := 3, cells := 0, slots := 0, locals := 62 }) [.ref (ad 0), .int (a), .int (b2i is)] (wX cI ad u) (wX cI ad (rooS u a is)) (rooR u a is) := by
  have ok := inv.1
  obtain ⟨hM, hW, hHo, hAb, hLb, hRb, hDb⟩ := id ok
  refine lh_CIof (cc := cX1_root) (maxL := 3) (ret := (some .int)) (own := RX1) (by decide) rfl rfl (Nat.le_of_ble_eq_true rfl) ?_
  intro p e s m below meth c A ls hx hb hr hlk hts hown hml hK hN hA hP hD hS hl
  have fX1_42 := hts (.fieldLink RX1 42 "LostHosts" "roots" "I") (by decide +kernel)
  have hinX1 : ∀ w ∈ u_ws RX1 TX1 10, w ∈ wsX1_root := by decide +kernel
  have hl : lv_has ls 3 [(0, .ref (ad 0)), (1, .int (a)), (2, .int (b2i is))] := hl
  refine lv_aload_n hx hb dX1_root_0 rfl (lv_at hl 0 rfl) ?_
  refine lv_iload_n hx hb dX1_root_1 rfl (lv_at hl 1 rfl) ?_
  refine lh_cVi ⟨hx, hb, hml, hown, hts⟩ (kX1_isObject l D cI ad u a) (cwV 1 hts gX1_root_X1_isObject rfl rfl rfl (by decide +kernel) ⟨Nat.le_of_ble_eq_true rfl, Nat.le_of_ble_eq_true rfl⟩) hK hN hP hD hS hA 0 1 rfl rfl rfl rfl hl.1 rfl (Nat.le_of_ble_eq_true rfl) ⟨Nat.le_of_ble_eq_true rfl, Nat.le_of_ble_eq_true rfl⟩ dX1_root_2 (fun H locs hP hD hS => ?_)
  refine lv_if_ne (tgt := 10) hx hb dX1_root_5 (by decide) (fun c_1 => ?_) (fun c_1 => ?_)
  · have c_1 : (isObj u a) = true := b2i_n0 c_1
    obtain ⟨a1, ha1, ea1⟩ := isObj_ex hM c_1
    subst ea1
    have ea1 : (nI a1).toNatClampNeg = a1 := nI_clamp (by omega)
    refine lv_aload_n hx hb dX1_root_10 rfl (lv_at hl 0 rfl) ?_
    refine lv_iload_n hx hb dX1_root_11 rfl (lv_at hl 1 rfl) ?_
    refine lh_cVi ⟨hx, hb, hml, hown, hts⟩ (kX1_isLive l D cI ad u a1 (by omega)) (cwV 1 hts gX1_root_X1_isLive rfl rfl rfl (by decide +kernel) ⟨Nat.le_of_ble_eq_true rfl, Nat.le_of_ble_eq_true rfl⟩) hK hN hP hD hS hA 0 1 rfl rfl rfl rfl hl.1 rfl (Nat.le_of_ble_eq_true rfl) ⟨Nat.le_of_ble_eq_true rfl, Nat.le_of_ble_eq_true rfl⟩ dX1_root_12 (fun H locs hP hD hS => ?_)
    refine lv_if_ne (tgt := 21) hx hb dX1_root_15 (by decide) (fun c_2 => ?_) (fun c_2 => ?_)
    · have c_2 : ((xL u).testBit a1) = true := b2i_n0 c_2
      refine lv_aload_n hx hb dX1_root_21 rfl (lv_at hl 0 rfl) ?_
      refine va_get (D := D) (ci := 1) (v := .int (nI (xR u))) (C := RX1) (T := TX1) (N := 10) hx hb hts hinX1 hown hK hP 0 rfl rfl 7 (by decide) fX1_42 (fun _ h9 => h9) rfl dX1_root_22 ?_
      refine lv_iload_n hx hb dX1_root_25 rfl (lv_at hl 1 rfl) ?_
      refine lh_cSi ⟨hx, hb, hml, hown, hts⟩ (kX1_isIn l D _ _ (xR u) a1 (by omega)) (va_cwS 2 hts gX1_root_X1_isIn rfl rfl rfl (by decide +kernel) ⟨Nat.le_of_ble_eq_true rfl, Nat.le_of_ble_eq_true rfl⟩) hK hN hP hD hS hA rfl hl.1 rfl (Nat.le_of_ble_eq_true rfl) ⟨Nat.le_of_ble_eq_true rfl, Nat.le_of_ble_eq_true rfl⟩ dX1_root_26 (fun H locs hP hD hS => ?_)
      refine lv_iload_n hx hb dX1_root_29 rfl (lv_at hl 2 rfl) ?_
      refine lv_icmp_ne (tgt := 35) hx hb dX1_root_30 (by decide) (fun c_3 => ?_) (fun c_3 => ?_)
      · have c_3 : ¬ ((xR u).testBit a1) = is := fun h => c_3 (congrArg b2i h)
        refine lv_aload_n hx hb dX1_root_35 rfl (lv_at hl 0 rfl) ?_
        refine lv_dup hx hb dX1_root_36 rfl ?_
        refine va_get (D := D) (ci := 1) (v := .int (nI (xR u))) (C := RX1) (T := TX1) (N := 10) hx hb hts hinX1 hown hK hP 0 rfl rfl 7 (by decide) fX1_42 (fun _ h9 => h9) rfl dX1_root_37 ?_
        refine lv_iload_n hx hb dX1_root_40 rfl (lv_at hl 1 rfl) ?_
        refine lh_cSi ⟨hx, hb, hml, hown, hts⟩ (kX1_bit l D _ _ a1 (by omega)) (va_cwS 1 hts gX1_root_X1_bit rfl rfl rfl (by decide +kernel) ⟨Nat.le_of_ble_eq_true rfl, Nat.le_of_ble_eq_true rfl⟩) hK hN hP hD hS hA rfl hl.1 rfl (Nat.le_of_ble_eq_true rfl) ⟨Nat.le_of_ble_eq_true rfl, Nat.le_of_ble_eq_true rfl⟩ dX1_root_41 (fun H locs hP hD hS => ?_)
        refine lv_ixor hx hb dX1_root_44 ?_
        refine lh_top (y := nI (xR u ^^^ (2 ^ a1))) (fb_xorI _ _) ?_
        refine va_put (D := D) (ci := 1) (v := .int (nI (xR u ^^^ (2 ^ a1)))) (ty := .int) (C := RX1) (T := TX1) (N := 10) hx hb hts hinX1 tyX1 tyX1_ok nmX1 hown hK hP hD hS 0 rfl rfl 7 (by decide) fX1_42 (fun _ h9 => h9) rfl (by decide +kernel) rfl rfl (Nat.le_of_ble_eq_true rfl) dX1_root_45 (fun H locs hP hD hS => ?_)
        have hP : va_P D vwCl (wX cI ad (sR u ((xR u ^^^ (2 ^ a1))))) H := hP
        have hD : va_D A (wX cI ad (sR u ((xR u ^^^ (2 ^ a1))))) := hD
        refine lv_iconst (v := nI 1) hx hb dX1_root_48 (by decide) ?_
        exact lh_ri hx hb hr hlk hK hP hD hS (by first | (simp [nI_0, nI_o, rooR, c_1, ea1, c_2, c_3]; done) | (simp [nI_0, nI_o, rooR, c_1, ea1, c_2, c_3]; rfl)) (by first | (simp [nI_0, nI_o, rooS, c_1, ea1, c_2, c_3]; done) | (simp [nI_0, nI_o, rooS, c_1, ea1, c_2, c_3]; rfl)) dX1_root_49
      · have c_3 : ((xR u).testBit a1) = is := b2i_inj c_3
        refine lv_iconst (v := nI 0) hx hb dX1_root_33 (by decide) ?_
        exact lh_ri hx hb hr hlk hK hP hD hS (by first | (simp [nI_0, nI_o, rooR, c_1, ea1, c_2, c_3]; done) | (simp [nI_0, nI_o, rooR, c_1, ea1, c_2, c_3]; rfl)) (by first | (simp [nI_0, nI_o, rooS, c_1, ea1, c_2, c_3]; done) | (simp [nI_0, nI_o, rooS, c_1, ea1, c_2, c_3]; rfl)) dX1_root_34
    · have c_2 : ((xL u).testBit a1) = false := b2i_e0 c_2
      refine lv_bipush (v := (-3)) hx hb dX1_root_18 (by decide) ?_
      exact lh_ri hx hb hr hlk hK hP hD hS (by first | (simp [nI_0, nI_o, rooR, c_1, ea1, c_2]; done) | (simp [nI_0, nI_o, rooR, c_1, ea1, c_2]; rfl)) (by first | (simp [nI_0, nI_o, rooS, c_1, ea1, c_2]; done) | (simp [nI_0, nI_o, rooS, c_1, ea1, c_2]; rfl)) dX1_root_20
  · have c_1 : (isObj u a) = false := b2i_e0 c_1
    refine lv_iconst (v := (-1)) hx hb dX1_root_8 (by decide) ?_
    exact lh_ri hx hb hr hlk hK hP hD hS (by first | (simp [nI_0, nI_o, rooR, c_1]; done) | (simp [nI_0, nI_o, rooR, c_1]; rfl)) (by first | (simp [nI_0, nI_o, rooS, c_1]; done) | (simp [nI_0, nI_o, rooS, c_1]; rfl)) dX1_root_9
set_option maxRecDepth 100000 in
set_option maxHeartbeats 4000000 in
theorem kX1_link (l : Launch) (D : va_G) (cI : ClassId) (ad : Nat → Nat) (u : XS) (a : Int32) (b : Int32) (T : Nat) (inv : Inv T u) : CI l D [(cI, .int)] yX1_link wsX1_link ({ frames := 3, cells := 0, slots := 0, locals := 66 }) [.ref (ad 0), .int (a), .int (b)] (wX cI ad u) (wX cI ad (lnkS u a b)) (lnkR u a b) := by
  have ok := inv.1
  obtain ⟨hM, hW, hHo, hAb, hLb, hRb, hDb⟩ := id ok
  refine lh_CIof (cc := cX1_link) (maxL := 4) (ret := (some .int)) (own := RX1) (by decide) rfl rfl (Nat.le_of_ble_eq_true rfl) ?_
  intro p e s m below meth c A ls hx hb hr hlk hts hown hml hK hN hA hP hD hS hl
  have fX1_42 := hts (.fieldLink RX1 42 "LostHosts" "roots" "I") (by decide +kernel)
  have fX1_13 := hts (.fieldLink RX1 13 "LostHosts" "out" "[I") (by decide +kernel)
  have hinX1 : ∀ w ∈ u_ws RX1 TX1 10, w ∈ wsX1_link := by decide +kernel
  have hl : lv_has ls 4 [(0, .ref (ad 0)), (1, .int (a)), (2, .int (b))] := hl
  refine lv_aload_n hx hb dX1_link_0 rfl (lv_at hl 0 rfl) ?_
  refine lv_iload_n hx hb dX1_link_1 rfl (lv_at hl 1 rfl) ?_
  refine lh_cVi ⟨hx, hb, hml, hown, hts⟩ (kX1_isObject l D cI ad u a) (cwV 1 hts gX1_link_X1_isObject rfl rfl rfl (by decide +kernel) ⟨Nat.le_of_ble_eq_true rfl, Nat.le_of_ble_eq_true rfl⟩) hK hN hP hD hS hA 0 1 rfl rfl rfl rfl hl.1 rfl (Nat.le_of_ble_eq_true rfl) ⟨Nat.le_of_ble_eq_true rfl, Nat.le_of_ble_eq_true rfl⟩ dX1_link_2 (fun H locs hP hD hS => ?_)
  refine lv_if_eq (tgt := 16) hx hb dX1_link_5 (by decide) (fun c_1 => ?_) (fun c_1 => ?_)
  · have c_1 : (isObj u a) = false := b2i_e0 c_1
    refine lv_iconst (v := (-1)) hx hb dX1_link_16 (by decide) ?_
    exact lh_ri hx hb hr hlk hK hP hD hS (by first | (simp [nI_0, nI_o, lnkR, lnkQ, c_1]; done) | (simp [nI_0, nI_o, lnkR, lnkQ, c_1]; rfl)) (by first | (simp [lnkS, lnkQ, lnkT, nI_0, nI_o, c_1]; done) | (simp [lnkS, lnkQ, lnkT, c_1]; done) | (simp [lnkS, lnkQ, lnkT, c_1]; rfl)) dX1_link_17
  · have c_1 : (isObj u a) = true := b2i_n0 c_1
    obtain ⟨a1, ha1, ea1⟩ := isObj_ex hM c_1
    subst ea1
    have ea1 : (nI a1).toNatClampNeg = a1 := nI_clamp (by omega)
    refine lv_aload_n hx hb dX1_link_8 rfl (lv_at hl 0 rfl) ?_
    refine lv_iload_n hx hb dX1_link_9 rfl (lv_at hl 2 rfl) ?_
    refine lh_cVi ⟨hx, hb, hml, hown, hts⟩ (kX1_isObject l D cI ad u b) (cwV 1 hts gX1_link_X1_isObject rfl rfl rfl (by decide +kernel) ⟨Nat.le_of_ble_eq_true rfl, Nat.le_of_ble_eq_true rfl⟩) hK hN hP hD hS hA 0 1 rfl rfl rfl rfl hl.1 rfl (Nat.le_of_ble_eq_true rfl) ⟨Nat.le_of_ble_eq_true rfl, Nat.le_of_ble_eq_true rfl⟩ dX1_link_10 (fun H locs hP hD hS => ?_)
    refine lv_if_ne (tgt := 18) hx hb dX1_link_13 (by decide) (fun c_2 => ?_) (fun c_2 => ?_)
    · have c_2 : (isObj u b) = true := b2i_n0 c_2
      obtain ⟨b1, hb1, eb1⟩ := isObj_ex hM c_2
      subst eb1
      have eb1 : (nI b1).toNatClampNeg = b1 := nI_clamp (by omega)
      refine lv_iload_n hx hb dX1_link_18 rfl (lv_at hl 1 rfl) ?_
      refine lv_iload_n hx hb dX1_link_19 rfl (lv_at hl 2 rfl) ?_
      refine lv_icmp_eq (tgt := 39) hx hb dX1_link_20 (by decide) (fun c_3 => ?_) (fun c_3 => ?_)
      · have c_3 : a1 = b1 := (nI_eq (by omega) (by omega)).mp c_3
        refine lv_bipush (v := (-3)) hx hb dX1_link_39 (by decide) ?_
        exact lh_ri hx hb hr hlk hK hP hD hS (by first | (simp [nI_0, nI_o, lnkR, lnkQ, c_1, ea1, c_2, eb1, c_3]; done) | (simp [nI_0, nI_o, lnkR, lnkQ, c_1, ea1, c_2, eb1, c_3]; rfl)) (by first | (simp [lnkS, lnkQ, lnkT, nI_0, nI_o, c_1, ea1, c_2, eb1, c_3]; done) | (simp [lnkS, lnkQ, lnkT, c_1, ea1, c_2, eb1, c_3]; done) | (simp [lnkS, lnkQ, lnkT, c_1, ea1, c_2, eb1, c_3]; rfl)) dX1_link_41
      · have c_3 : ¬ a1 = b1 := fun h => c_3 ((nI_eq (by omega) (by omega)).mpr h)
        refine lv_aload_n hx hb dX1_link_23 rfl (lv_at hl 0 rfl) ?_
        refine lv_iload_n hx hb dX1_link_24 rfl (lv_at hl 1 rfl) ?_
        refine lh_cVi ⟨hx, hb, hml, hown, hts⟩ (kX1_isLive l D cI ad u a1 (by omega)) (cwV 1 hts gX1_link_X1_isLive rfl rfl rfl (by decide +kernel) ⟨Nat.le_of_ble_eq_true rfl, Nat.le_of_ble_eq_true rfl⟩) hK hN hP hD hS hA 0 1 rfl rfl rfl rfl hl.1 rfl (Nat.le_of_ble_eq_true rfl) ⟨Nat.le_of_ble_eq_true rfl, Nat.le_of_ble_eq_true rfl⟩ dX1_link_25 (fun H locs hP hD hS => ?_)
        refine lv_if_eq (tgt := 39) hx hb dX1_link_28 (by decide) (fun c_4 => ?_) (fun c_4 => ?_)
        · have c_4 : ((xL u).testBit a1) = false := b2i_e0 c_4
          refine lv_bipush (v := (-3)) hx hb dX1_link_39 (by decide) ?_
          exact lh_ri hx hb hr hlk hK hP hD hS (by first | (simp [nI_0, nI_o, lnkR, lnkQ, c_1, ea1, c_2, eb1, c_3, c_4]; done) | (simp [nI_0, nI_o, lnkR, lnkQ, c_1, ea1, c_2, eb1, c_3, c_4]; rfl)) (by first | (simp [lnkS, lnkQ, lnkT, nI_0, nI_o, c_1, ea1, c_2, eb1, c_3, c_4]; done) | (simp [lnkS, lnkQ, lnkT, c_1, ea1, c_2, eb1, c_3, c_4]; done) | (simp [lnkS, lnkQ, lnkT, c_1, ea1, c_2, eb1, c_3, c_4]; rfl)) dX1_link_41
        · have c_4 : ((xL u).testBit a1) = true := b2i_n0 c_4
          refine lv_aload_n hx hb dX1_link_31 rfl (lv_at hl 0 rfl) ?_
          refine lv_iload_n hx hb dX1_link_32 rfl (lv_at hl 2 rfl) ?_
          refine lh_cVi ⟨hx, hb, hml, hown, hts⟩ (kX1_isLive l D cI ad u b1 (by omega)) (cwV 1 hts gX1_link_X1_isLive rfl rfl rfl (by decide +kernel) ⟨Nat.le_of_ble_eq_true rfl, Nat.le_of_ble_eq_true rfl⟩) hK hN hP hD hS hA 0 1 rfl rfl rfl rfl hl.1 rfl (Nat.le_of_ble_eq_true rfl) ⟨Nat.le_of_ble_eq_true rfl, Nat.le_of_ble_eq_true rfl⟩ dX1_link_33 (fun H locs hP hD hS => ?_)
          refine lv_if_ne (tgt := 42) hx hb dX1_link_36 (by decide) (fun c_5 => ?_) (fun c_5 => ?_)
          · have c_5 : ((xL u).testBit b1) = true := b2i_n0 c_5
            refine lv_aload_n hx hb dX1_link_42 rfl (lv_at hl 0 rfl) ?_
            refine lv_iload_n hx hb dX1_link_43 rfl (lv_at hl 1 rfl) ?_
            refine lv_iload_n hx hb dX1_link_44 rfl (lv_at hl 2 rfl) ?_
            refine lh_cVi ⟨hx, hb, hml, hown, hts⟩ (kX1_onOneHost l D cI ad u a1 b1 ok (by omega) (by omega)) (cwV 2 hts gX1_link_X1_onOneHost rfl rfl rfl (by decide +kernel) ⟨Nat.le_of_ble_eq_true rfl, Nat.le_of_ble_eq_true rfl⟩) hK hN hP hD hS hA 0 1 rfl rfl rfl rfl hl.1 rfl (Nat.le_of_ble_eq_true rfl) ⟨Nat.le_of_ble_eq_true rfl, Nat.le_of_ble_eq_true rfl⟩ dX1_link_45 (fun H locs hP hD hS => ?_)
            refine lv_istore_n (lv' := [(3, .int (b2i (nbr u a1 b1))), (0, .ref (ad 0)), (1, .int (nI a1)), (2, .int (nI b1))]) hx hb dX1_link_48 rfl hl (by decide) rfl (fun ls hl => ?_)
            refine lv_iload_n hx hb dX1_link_49 rfl (lv_at hl 0 rfl) ?_
            refine lv_if_ne (tgt := 67) hx hb dX1_link_50 (by decide) (fun c_6 => ?_) (fun c_6 => ?_)
            · have c_6 : (nbr u a1 b1) = true := b2i_n0 c_6
              refine lv_aload_n hx hb dX1_link_67 rfl (lv_at hl 1 rfl) ?_
              refine lv_iload_n hx hb dX1_link_68 rfl (lv_at hl 2 rfl) ?_
              refine lv_iload_n hx hb dX1_link_69 rfl (lv_at hl 3 rfl) ?_
              refine lh_cVi ⟨hx, hb, hml, hown, hts⟩ (kX1_hasLink l D cI ad u a1 b1 (by omega) (by omega)) (cwV 2 hts gX1_link_X1_hasLink rfl rfl rfl (by decide +kernel) ⟨Nat.le_of_ble_eq_true rfl, Nat.le_of_ble_eq_true rfl⟩) hK hN hP hD hS hA 0 1 rfl rfl rfl rfl hl.1 rfl (Nat.le_of_ble_eq_true rfl) ⟨Nat.le_of_ble_eq_true rfl, Nat.le_of_ble_eq_true rfl⟩ dX1_link_70 (fun H locs hP hD hS => ?_)
              refine lv_if_eq (tgt := 78) hx hb dX1_link_73 (by decide) (fun c_7 => ?_) (fun c_7 => ?_)
              · have c_7 : (lnk u a1 b1) = false := b2i_e0 c_7
                refine lv_iload_n hx hb dX1_link_78 rfl (lv_at hl 0 rfl) ?_
                refine lv_if_eq (tgt := 92) hx hb dX1_link_79 (by decide) (fun c_8 => ?_) (fun c_8 => ?_)
                · have c_8 : (nbr u a1 b1) = false := b2i_e0 c_8
                  exact absurd (c_8.symm.trans c_6) (by decide)
                · have c_8 : (nbr u a1 b1) = true := b2i_n0 c_8
                  refine lv_aload_n hx hb dX1_link_82 rfl (lv_at hl 1 rfl) ?_
                  refine lv_iload_n hx hb dX1_link_83 rfl (lv_at hl 2 rfl) ?_
                  refine lv_iload_n hx hb dX1_link_84 rfl (lv_at hl 3 rfl) ?_
                  refine lv_iconst (v := nI 0) hx hb dX1_link_85 (by decide) ?_
                  refine lh_cVv ⟨hx, hb, hml, hown, hts⟩ (kX1_addLink l D cI ad u a1 b1 (nI 0) (by omega) (by omega)) (cwV 3 hts gX1_link_X1_addLink rfl rfl rfl (by decide +kernel) ⟨Nat.le_of_ble_eq_true rfl, Nat.le_of_ble_eq_true rfl⟩) hK hN hP hD hS hA 0 1 rfl rfl rfl rfl hl.1 rfl (Nat.le_of_ble_eq_true rfl) ⟨Nat.le_of_ble_eq_true rfl, Nat.le_of_ble_eq_true rfl⟩ dX1_link_86 (fun H locs hP hD hS => ?_)
                  have hP : va_P D vwCl (wX cI ad (adL u a1 b1 (nI 0))) H := hP
                  have hD : va_D A (wX cI ad (adL u a1 b1 (nI 0))) := hD
                  refine lv_goto (tgt := 111) hx hb dX1_link_89 (by decide) ?_
                  refine lv_iconst (v := nI 1) hx hb dX1_link_111 (by decide) ?_
                  exact lh_ri hx hb hr hlk hK hP hD hS (by first | (simp [nI_0, nI_o, lnkR, lnkQ, c_1, ea1, c_2, eb1, c_3, c_4, c_5, c_6, c_7, c_8]; done) | (simp [nI_0, nI_o, lnkR, lnkQ, c_1, ea1, c_2, eb1, c_3, c_4, c_5, c_6, c_7, c_8]; rfl)) (by first | (simp [lnkS, lnkQ, lnkT, nI_0, nI_o, c_1, ea1, c_2, eb1, c_3, c_4, c_5, c_6, c_7, c_8]; done) | (simp [lnkS, lnkQ, lnkT, c_1, ea1, c_2, eb1, c_3, c_4, c_5, c_6, c_7, c_8]; done) | (simp [lnkS, lnkQ, lnkT, c_1, ea1, c_2, eb1, c_3, c_4, c_5, c_6, c_7, c_8]; rfl)) dX1_link_112
              · have c_7 : (lnk u a1 b1) = true := b2i_n0 c_7
                refine lv_iconst (v := nI 0) hx hb dX1_link_76 (by decide) ?_
                exact lh_ri hx hb hr hlk hK hP hD hS (by first | (simp [nI_0, nI_o, lnkR, lnkQ, c_1, ea1, c_2, eb1, c_3, c_4, c_5, c_6, c_7]; done) | (simp [nI_0, nI_o, lnkR, lnkQ, c_1, ea1, c_2, eb1, c_3, c_4, c_5, c_6, c_7]; rfl)) (by first | (simp [lnkS, lnkQ, lnkT, nI_0, nI_o, c_1, ea1, c_2, eb1, c_3, c_4, c_5, c_6, c_7]; done) | (simp [lnkS, lnkQ, lnkT, c_1, ea1, c_2, eb1, c_3, c_4, c_5, c_6, c_7]; done) | (simp [lnkS, lnkQ, lnkT, c_1, ea1, c_2, eb1, c_3, c_4, c_5, c_6, c_7]; rfl)) dX1_link_77
            · have c_6 : (nbr u a1 b1) = false := b2i_e0 c_6
              refine lv_aload_n hx hb dX1_link_53 rfl (lv_at hl 1 rfl) ?_
              refine va_get (D := D) (ci := 1) (v := .int (nI (xR u))) (C := RX1) (T := TX1) (N := 10) hx hb hts hinX1 hown hK hP 0 rfl rfl 7 (by decide) fX1_42 (fun _ h9 => h9) rfl dX1_link_54 ?_
              refine lv_iload_n hx hb dX1_link_57 rfl (lv_at hl 3 rfl) ?_
              refine lh_cSi ⟨hx, hb, hml, hown, hts⟩ (kX1_isIn l D _ _ (xR u) b1 (by omega)) (va_cwS 2 hts gX1_link_X1_isIn rfl rfl rfl (by decide +kernel) ⟨Nat.le_of_ble_eq_true rfl, Nat.le_of_ble_eq_true rfl⟩) hK hN hP hD hS hA rfl hl.1 rfl (Nat.le_of_ble_eq_true rfl) ⟨Nat.le_of_ble_eq_true rfl, Nat.le_of_ble_eq_true rfl⟩ dX1_link_58 (fun H locs hP hD hS => ?_)
              refine lv_if_ne (tgt := 67) hx hb dX1_link_61 (by decide) (fun c_9 => ?_) (fun c_9 => ?_)
              · have c_9 : ((xR u).testBit b1) = true := b2i_n0 c_9
                refine lv_aload_n hx hb dX1_link_67 rfl (lv_at hl 1 rfl) ?_
                refine lv_iload_n hx hb dX1_link_68 rfl (lv_at hl 2 rfl) ?_
                refine lv_iload_n hx hb dX1_link_69 rfl (lv_at hl 3 rfl) ?_
                refine lh_cVi ⟨hx, hb, hml, hown, hts⟩ (kX1_hasLink l D cI ad u a1 b1 (by omega) (by omega)) (cwV 2 hts gX1_link_X1_hasLink rfl rfl rfl (by decide +kernel) ⟨Nat.le_of_ble_eq_true rfl, Nat.le_of_ble_eq_true rfl⟩) hK hN hP hD hS hA 0 1 rfl rfl rfl rfl hl.1 rfl (Nat.le_of_ble_eq_true rfl) ⟨Nat.le_of_ble_eq_true rfl, Nat.le_of_ble_eq_true rfl⟩ dX1_link_70 (fun H locs hP hD hS => ?_)
                refine lv_if_eq (tgt := 78) hx hb dX1_link_73 (by decide) (fun c_10 => ?_) (fun c_10 => ?_)
                · have c_10 : (lnk u a1 b1) = false := b2i_e0 c_10
                  refine lv_iload_n hx hb dX1_link_78 rfl (lv_at hl 0 rfl) ?_
                  refine lv_if_eq (tgt := 92) hx hb dX1_link_79 (by decide) (fun c_11 => ?_) (fun c_11 => ?_)
                  · have c_11 : (nbr u a1 b1) = false := b2i_e0 c_11
                    refine lv_aload_n hx hb dX1_link_92 rfl (lv_at hl 1 rfl) ?_
                    refine va_get (D := D) (ci := 1) (v := .ref (ad 2)) (C := RX1) (T := TX1) (N := 10) hx hb hts hinX1 hown hK hP 0 rfl rfl 1 (by decide) fX1_13 (fun _ h9 => h9) rfl dX1_link_93 ?_
                    refine lv_iload_n hx hb dX1_link_96 rfl (lv_at hl 3 rfl) ?_
                    refine lv_dup2_11 hx hb dX1_link_97 rfl rfl ?_
                    refine lh_ild (k := b1) (N := 10) hx hb hK hP 2 0 rfl rfl (by omega) (by decide) dX1_link_98 ?_
                    refine W.eq (g2 := F0 m 99 ls (.int ((xOu u b1)) :: [.int (nI b1), .ref (ad 2)])) rfl ?_
                    refine lv_bipush (v := nI 64) hx hb dX1_link_99 (by decide) ?_
                    refine lv_iadd hx hb dX1_link_101 ?_
                    refine lh_ist (k := b1) (N := 10) (f2 := upd (xOu u) b1 (((xOu u b1) + nI 64))) hx hb hK hP hD hS 2 0 rfl rfl (by omega) (by decide) (rfl) dX1_link_102 (fun H locs hP hD hS => ?_)
                    have hP : va_P D vwCl (wX cI ad (sOu u (upd (xOu u) b1 (((xOu u b1) + nI 64))))) H := hP
                    have hD : va_D A (wX cI ad (sOu u (upd (xOu u) b1 (((xOu u b1) + nI 64))))) := hD
                    refine lv_aload_n hx hb dX1_link_103 rfl (lv_at hl 1 rfl) ?_
                    refine lv_iload_n hx hb dX1_link_104 rfl (lv_at hl 2 rfl) ?_
                    refine lv_iload_n hx hb dX1_link_105 rfl (lv_at hl 3 rfl) ?_
                    refine lv_bipush (v := nI 64) hx hb dX1_link_106 (by decide) ?_
                    refine lh_cVv ⟨hx, hb, hml, hown, hts⟩ (kX1_addLink l D cI ad (sOu u (upd (xOu u) b1 (((xOu u b1) + nI 64)))) a1 b1 (nI 64) (by omega) (by omega)) (cwV 3 hts gX1_link_X1_addLink rfl rfl rfl (by decide +kernel) ⟨Nat.le_of_ble_eq_true rfl, Nat.le_of_ble_eq_true rfl⟩) hK hN hP hD hS hA 0 1 rfl rfl rfl rfl hl.1 rfl (Nat.le_of_ble_eq_true rfl) ⟨Nat.le_of_ble_eq_true rfl, Nat.le_of_ble_eq_true rfl⟩ dX1_link_108 (fun H locs hP hD hS => ?_)
                    have hP : va_P D vwCl (wX cI ad (adL (sOu u (upd (xOu u) b1 (((xOu u b1) + nI 64)))) a1 b1 (nI 64))) H := hP
                    have hD : va_D A (wX cI ad (adL (sOu u (upd (xOu u) b1 (((xOu u b1) + nI 64)))) a1 b1 (nI 64))) := hD
                    refine lv_iconst (v := nI 1) hx hb dX1_link_111 (by decide) ?_
                    exact lh_ri hx hb hr hlk hK hP hD hS (by first | (simp [nI_0, nI_o, lnkR, lnkQ, c_1, ea1, c_2, eb1, c_3, c_4, c_5, c_6, c_9, c_10, c_11]; done) | (simp [nI_0, nI_o, lnkR, lnkQ, c_1, ea1, c_2, eb1, c_3, c_4, c_5, c_6, c_9, c_10, c_11]; rfl)) (by first | (simp [lnkS, lnkQ, lnkT, nI_0, nI_o, c_1, ea1, c_2, eb1, c_3, c_4, c_5, c_6, c_9, c_10, c_11]; done) | (simp [lnkS, lnkQ, lnkT, c_1, ea1, c_2, eb1, c_3, c_4, c_5, c_6, c_9, c_10, c_11]; done) | (simp [lnkS, lnkQ, lnkT, c_1, ea1, c_2, eb1, c_3, c_4, c_5, c_6, c_9, c_10, c_11]; rfl)) dX1_link_112
                  · have c_11 : (nbr u a1 b1) = true := b2i_n0 c_11
                    exact absurd (c_11.symm.trans c_6) (by decide)
                · have c_10 : (lnk u a1 b1) = true := b2i_n0 c_10
                  refine lv_iconst (v := nI 0) hx hb dX1_link_76 (by decide) ?_
                  exact lh_ri hx hb hr hlk hK hP hD hS (by first | (simp [nI_0, nI_o, lnkR, lnkQ, c_1, ea1, c_2, eb1, c_3, c_4, c_5, c_6, c_9, c_10]; done) | (simp [nI_0, nI_o, lnkR, lnkQ, c_1, ea1, c_2, eb1, c_3, c_4, c_5, c_6, c_9, c_10]; rfl)) (by first | (simp [lnkS, lnkQ, lnkT, nI_0, nI_o, c_1, ea1, c_2, eb1, c_3, c_4, c_5, c_6, c_9, c_10]; done) | (simp [lnkS, lnkQ, lnkT, c_1, ea1, c_2, eb1, c_3, c_4, c_5, c_6, c_9, c_10]; done) | (simp [lnkS, lnkQ, lnkT, c_1, ea1, c_2, eb1, c_3, c_4, c_5, c_6, c_9, c_10]; rfl)) dX1_link_77
              · have c_9 : ((xR u).testBit b1) = false := b2i_e0 c_9
                refine lv_bipush (v := (-3)) hx hb dX1_link_64 (by decide) ?_
                exact lh_ri hx hb hr hlk hK hP hD hS (by first | (simp [nI_0, nI_o, lnkR, lnkQ, c_1, ea1, c_2, eb1, c_3, c_4, c_5, c_6, c_9]; done) | (simp [nI_0, nI_o, lnkR, lnkQ, c_1, ea1, c_2, eb1, c_3, c_4, c_5, c_6, c_9]; rfl)) (by first | (simp [lnkS, lnkQ, lnkT, nI_0, nI_o, c_1, ea1, c_2, eb1, c_3, c_4, c_5, c_6, c_9]; done) | (simp [lnkS, lnkQ, lnkT, c_1, ea1, c_2, eb1, c_3, c_4, c_5, c_6, c_9]; done) | (simp [lnkS, lnkQ, lnkT, c_1, ea1, c_2, eb1, c_3, c_4, c_5, c_6, c_9]; rfl)) dX1_link_66
          · have c_5 : ((xL u).testBit b1) = false := b2i_e0 c_5
            refine lv_bipush (v := (-3)) hx hb dX1_link_39 (by decide) ?_
            exact lh_ri hx hb hr hlk hK hP hD hS (by first | (simp [nI_0, nI_o, lnkR, lnkQ, c_1, ea1, c_2, eb1, c_3, c_4, c_5]; done) | (simp [nI_0, nI_o, lnkR, lnkQ, c_1, ea1, c_2, eb1, c_3, c_4, c_5]; rfl)) (by first | (simp [lnkS, lnkQ, lnkT, nI_0, nI_o, c_1, ea1, c_2, eb1, c_3, c_4, c_5]; done) | (simp [lnkS, lnkQ, lnkT, c_1, ea1, c_2, eb1, c_3, c_4, c_5]; done) | (simp [lnkS, lnkQ, lnkT, c_1, ea1, c_2, eb1, c_3, c_4, c_5]; rfl)) dX1_link_41
    · have c_2 : (isObj u b) = false := b2i_e0 c_2
      refine lv_iconst (v := (-1)) hx hb dX1_link_16 (by decide) ?_
      exact lh_ri hx hb hr hlk hK hP hD hS (by first | (simp [nI_0, nI_o, lnkR, lnkQ, c_1, ea1, c_2]; done) | (simp [nI_0, nI_o, lnkR, lnkQ, c_1, ea1, c_2]; rfl)) (by first | (simp [lnkS, lnkQ, lnkT, nI_0, nI_o, c_1, ea1, c_2]; done) | (simp [lnkS, lnkQ, lnkT, c_1, ea1, c_2]; done) | (simp [lnkS, lnkQ, lnkT, c_1, ea1, c_2]; rfl)) dX1_link_17
set_option maxRecDepth 100000 in
set_option maxHeartbeats 4000000 in
theorem kX1_unlink (l : Launch) (D : va_G) (cI : ClassId) (ad : Nat → Nat) (u : XS) (a : Int32) (b : Int32) (T : Nat) (inv : Inv T u) : CI l D [(cI, .int)] yX1_unlink wsX1_unlink ({ frames := 2, cells := 0, slots := 0, locals := 45 }) [.ref (ad 0), .int (a), .int (b)] (wX cI ad u) (wX cI ad (unlS u a b)) (unlR u a b) := by
  have ok := inv.1
  obtain ⟨hM, hW, hHo, hAb, hLb, hRb, hDb⟩ := id ok
  refine lh_CIof (cc := cX1_unlink) (maxL := 4) (ret := (some .int)) (own := RX1) (by decide) rfl rfl (Nat.le_of_ble_eq_true rfl) ?_
  intro p e s m below meth c A ls hx hb hr hlk hts hown hml hK hN hA hP hD hS hl
  have fX1_19 := hts (.fieldLink RX1 19 "LostHosts" "links" "[I") (by decide +kernel)
  have fX1_31 := hts (.fieldLink RX1 31 "LostHosts" "letters" "LLostHosts$Letters;") (by decide +kernel)
  have fX0_86 := va_Nw.use (A := [.ref (ad 0), .int (a), .int (b)].toArray) rfl hN.1
  have hinX0 : ∀ w ∈ u_ws RX0 TX0 4, w ∈ wsX1_unlink := by decide +kernel
  have hinX1 : ∀ w ∈ u_ws RX1 TX1 10, w ∈ wsX1_unlink := by decide +kernel
  have hl : lv_has ls 4 [(0, .ref (ad 0)), (1, .int (a)), (2, .int (b))] := hl
  refine lv_aload_n hx hb dX1_unlink_0 rfl (lv_at hl 0 rfl) ?_
  refine lv_iload_n hx hb dX1_unlink_1 rfl (lv_at hl 1 rfl) ?_
  refine lh_cVi ⟨hx, hb, hml, hown, hts⟩ (kX1_isObject l D cI ad u a) (cwV 1 hts gX1_unlink_X1_isObject rfl rfl rfl (by decide +kernel) ⟨Nat.le_of_ble_eq_true rfl, Nat.le_of_ble_eq_true rfl⟩) hK hN hP hD hS hA 0 1 rfl rfl rfl rfl hl.1 rfl (Nat.le_of_ble_eq_true rfl) ⟨Nat.le_of_ble_eq_true rfl, Nat.le_of_ble_eq_true rfl⟩ dX1_unlink_2 (fun H locs hP hD hS => ?_)
  refine lv_if_eq (tgt := 16) hx hb dX1_unlink_5 (by decide) (fun c_1 => ?_) (fun c_1 => ?_)
  · have c_1 : (isObj u a) = false := b2i_e0 c_1
    refine lv_iconst (v := (-1)) hx hb dX1_unlink_16 (by decide) ?_
    exact lh_ri hx hb hr hlk hK hP hD hS (by first | (simp [nI_0, nI_o, unlR, c_1]; done) | (simp [nI_0, nI_o, unlR, c_1]; rfl)) (by first | (simp [nI_0, nI_o, unlS, unlC, c_1]; done) | (simp [nI_0, nI_o, unlS, unlC, c_1]; rfl)) dX1_unlink_17
  · have c_1 : (isObj u a) = true := b2i_n0 c_1
    obtain ⟨a1, ha1, ea1⟩ := isObj_ex hM c_1
    subst ea1
    have ea1 : (nI a1).toNatClampNeg = a1 := nI_clamp (by omega)
    refine lv_aload_n hx hb dX1_unlink_8 rfl (lv_at hl 0 rfl) ?_
    refine lv_iload_n hx hb dX1_unlink_9 rfl (lv_at hl 2 rfl) ?_
    refine lh_cVi ⟨hx, hb, hml, hown, hts⟩ (kX1_isObject l D cI ad u b) (cwV 1 hts gX1_unlink_X1_isObject rfl rfl rfl (by decide +kernel) ⟨Nat.le_of_ble_eq_true rfl, Nat.le_of_ble_eq_true rfl⟩) hK hN hP hD hS hA 0 1 rfl rfl rfl rfl hl.1 rfl (Nat.le_of_ble_eq_true rfl) ⟨Nat.le_of_ble_eq_true rfl, Nat.le_of_ble_eq_true rfl⟩ dX1_unlink_10 (fun H locs hP hD hS => ?_)
    refine lv_if_ne (tgt := 18) hx hb dX1_unlink_13 (by decide) (fun c_2 => ?_) (fun c_2 => ?_)
    · have c_2 : (isObj u b) = true := b2i_n0 c_2
      obtain ⟨b1, hb1, eb1⟩ := isObj_ex hM c_2
      subst eb1
      have eb1 : (nI b1).toNatClampNeg = b1 := nI_clamp (by omega)
      refine lv_aload_n hx hb dX1_unlink_18 rfl (lv_at hl 0 rfl) ?_
      refine lv_iload_n hx hb dX1_unlink_19 rfl (lv_at hl 1 rfl) ?_
      refine lv_iload_n hx hb dX1_unlink_20 rfl (lv_at hl 2 rfl) ?_
      refine lh_cVi ⟨hx, hb, hml, hown, hts⟩ (kX1_hasLink l D cI ad u a1 b1 (by omega) (by omega)) (cwV 2 hts gX1_unlink_X1_hasLink rfl rfl rfl (by decide +kernel) ⟨Nat.le_of_ble_eq_true rfl, Nat.le_of_ble_eq_true rfl⟩) hK hN hP hD hS hA 0 1 rfl rfl rfl rfl hl.1 rfl (Nat.le_of_ble_eq_true rfl) ⟨Nat.le_of_ble_eq_true rfl, Nat.le_of_ble_eq_true rfl⟩ dX1_unlink_21 (fun H locs hP hD hS => ?_)
      refine lv_if_ne (tgt := 30) hx hb dX1_unlink_24 (by decide) (fun c_3 => ?_) (fun c_3 => ?_)
      · have c_3 : (lnk u a1 b1) = true := b2i_n0 c_3
        refine lv_aload_n hx hb dX1_unlink_30 rfl (lv_at hl 0 rfl) ?_
        refine va_get (D := D) (ci := 1) (v := .ref (ad 4)) (C := RX1) (T := TX1) (N := 10) hx hb hts hinX1 hown hK hP 0 rfl rfl 3 (by decide) fX1_19 (fun _ h9 => h9) rfl dX1_unlink_31 ?_
        refine lv_iload_n hx hb dX1_unlink_34 rfl (lv_at hl 1 rfl) ?_
        refine lv_iload_n hx hb dX1_unlink_35 rfl (lv_at hl 2 rfl) ?_
        refine lh_cSi ⟨hx, hb, hml, hown, hts⟩ (kX1_at l D _ _ a1 b1) (va_cwS 2 hts gX1_unlink_X1_at rfl rfl rfl (by decide +kernel) ⟨Nat.le_of_ble_eq_true rfl, Nat.le_of_ble_eq_true rfl⟩) hK hN hP hD hS hA rfl hl.1 rfl (Nat.le_of_ble_eq_true rfl) ⟨Nat.le_of_ble_eq_true rfl, Nat.le_of_ble_eq_true rfl⟩ dX1_unlink_36 (fun H locs hP hD hS => ?_)
        refine lh_ild (k := (a1 * 10 + b1)) (N := 100) hx hb hK hP 4 0 rfl rfl (by omega) (by decide) dX1_unlink_39 ?_
        refine W.eq (g2 := F0 m 40 ls (.int ((xLi u (a1 * 10 + b1))) :: [])) rfl ?_
        refine lv_istore_n (lv' := [(3, .int ((xLi u (a1 * 10 + b1)))), (0, .ref (ad 0)), (1, .int (nI a1)), (2, .int (nI b1))]) hx hb dX1_unlink_40 rfl hl (by decide) rfl (fun ls hl => ?_)
        refine lv_iload_n hx hb dX1_unlink_41 rfl (lv_at hl 0 rfl) ?_
        refine lv_if_ne (tgt := 59) hx hb dX1_unlink_42 (by decide) (fun c_4 => ?_) (fun c_4 => ?_)
        · have c_4r := c_4
          refine lv_aload_n hx hb dX1_unlink_59 rfl (lv_at hl 1 rfl) ?_
          refine va_get (D := D) (ci := 1) (v := .ref (ad 5)) (C := RX1) (T := TX1) (N := 10) hx hb hts hinX1 hown hK hP 0 rfl rfl 4 (by decide) fX1_31 (fun _ h9 => h9) rfl dX1_unlink_60 ?_
          refine va_getN (D := D) (ci := 0) (v := .int (nI (xW u))) (C := RX0) (T := TX0) (N := 4) hx hb hts hinX0 hown hK hP 5 rfl rfl 3 (by decide) fX0_86 (fun _ h9 => h9) rfl dX1_unlink_63 ?_
          refine lv_bipush (v := nI 60) hx hb dX1_unlink_66 (by decide) ?_
          refine lv_icmp_lt (tgt := 74) hx hb dX1_unlink_68 (by decide) (fun c_5 => ?_) (fun c_5 => ?_)
          · have c_5 : xW u < 60 := (nI_ltI (by omega) (by omega)).mp c_5
            refine lv_aload_n hx hb dX1_unlink_74 rfl (lv_at hl 1 rfl) ?_
            refine va_get (D := D) (ci := 1) (v := .ref (ad 4)) (C := RX1) (T := TX1) (N := 10) hx hb hts hinX1 hown hK hP 0 rfl rfl 3 (by decide) fX1_19 (fun _ h9 => h9) rfl dX1_unlink_75 ?_
            refine lv_iload_n hx hb dX1_unlink_78 rfl (lv_at hl 2 rfl) ?_
            refine lv_iload_n hx hb dX1_unlink_79 rfl (lv_at hl 3 rfl) ?_
            refine lh_cSi ⟨hx, hb, hml, hown, hts⟩ (kX1_at l D _ _ a1 b1) (va_cwS 2 hts gX1_unlink_X1_at rfl rfl rfl (by decide +kernel) ⟨Nat.le_of_ble_eq_true rfl, Nat.le_of_ble_eq_true rfl⟩) hK hN hP hD hS hA rfl hl.1 rfl (Nat.le_of_ble_eq_true rfl) ⟨Nat.le_of_ble_eq_true rfl, Nat.le_of_ble_eq_true rfl⟩ dX1_unlink_80 (fun H locs hP hD hS => ?_)
            refine lv_bipush (v := (-9)) hx hb dX1_unlink_83 (by decide) ?_
            refine lh_ist (k := (a1 * 10 + b1)) (N := 100) (f2 := upd (xLi u) (a1 * 10 + b1) ((-9))) hx hb hK hP hD hS 4 0 rfl rfl (by omega) (by decide) (rfl) dX1_unlink_85 (fun H locs hP hD hS => ?_)
            have hP : va_P D vwCl (wX cI ad (sLi u (upd (xLi u) (a1 * 10 + b1) ((-9))))) H := hP
            have hD : va_D A (wX cI ad (sLi u (upd (xLi u) (a1 * 10 + b1) ((-9))))) := hD
            refine lv_aload_n hx hb dX1_unlink_86 rfl (lv_at hl 1 rfl) ?_
            refine va_get (D := D) (ci := 1) (v := .ref (ad 5)) (C := RX1) (T := TX1) (N := 10) hx hb hts hinX1 hown hK hP 0 rfl rfl 4 (by decide) fX1_31 (fun _ h9 => h9) rfl dX1_unlink_87 ?_
            refine lv_iload_n hx hb dX1_unlink_90 rfl (lv_at hl 3 rfl) ?_
            refine lv_iload_n hx hb dX1_unlink_91 rfl (lv_at hl 0 rfl) ?_
            refine lh_cVv ⟨hx, hb, hml, hown, hts⟩ (kX0_sendReturn l D cI ad (sLi u (upd (xLi u) (a1 * 10 + b1) ((-9)))) b1 (xLi u (a1 * 10 + b1)) (by show xW u < 150; omega)) (cwV 2 hts gX1_unlink_X0_sendReturn rfl rfl rfl (by decide +kernel) ⟨Nat.le_of_ble_eq_true rfl, Nat.le_of_ble_eq_true rfl⟩) hK hN hP hD hS hA 5 0 rfl rfl rfl rfl hl.1 rfl (Nat.le_of_ble_eq_true rfl) ⟨Nat.le_of_ble_eq_true rfl, Nat.le_of_ble_eq_true rfl⟩ dX1_unlink_92 (fun H locs hP hD hS => ?_)
            have hP : va_P D vwCl (wX cI ad (app (sLi u (upd (xLi u) (a1 * 10 + b1) ((-9)))) b1 10 (xLi u (a1 * 10 + b1)))) H := hP
            have hD : va_D A (wX cI ad (app (sLi u (upd (xLi u) (a1 * 10 + b1) ((-9)))) b1 10 (xLi u (a1 * 10 + b1)))) := hD
            refine lv_iconst (v := nI 1) hx hb dX1_unlink_95 (by decide) ?_
            exact lh_ri hx hb hr hlk hK hP hD hS (by first | (simp [nI_0, nI_o, unlR, c_1, ea1, c_2, eb1, c_3, c_4, c_5]; done) | (simp [nI_0, nI_o, unlR, c_1, ea1, c_2, eb1, c_3, c_4, c_5]; rfl)) (by first | (simp [nI_0, nI_o, unlS, unlC, c_1, ea1, c_2, eb1, c_3, c_4, c_5]; done) | (simp [nI_0, nI_o, unlS, unlC, c_1, ea1, c_2, eb1, c_3, c_4, c_5]; rfl)) dX1_unlink_96
          · have c_5 : 60 ≤ xW u := Nat.le_of_not_lt (fun h => c_5 ((nI_ltI (by omega) (by omega)).mpr h))
            have c_5n : ¬ xW u < 60 := by omega
            refine lv_bipush (v := (-4)) hx hb dX1_unlink_71 (by decide) ?_
            exact lh_ri hx hb hr hlk hK hP hD hS (by first | (simp [nI_0, nI_o, unlR, c_1, ea1, c_2, eb1, c_3, c_4, c_5n, c_5]; done) | (simp [nI_0, nI_o, unlR, c_1, ea1, c_2, eb1, c_3, c_4, c_5n, c_5]; rfl)) (by first | (simp [nI_0, nI_o, unlS, unlC, c_1, ea1, c_2, eb1, c_3, c_4, c_5n, c_5]; done) | (simp [nI_0, nI_o, unlS, unlC, c_1, ea1, c_2, eb1, c_3, c_4, c_5n, c_5]; rfl)) dX1_unlink_73
        · have c_4r := c_4
          refine lv_aload_n hx hb dX1_unlink_45 rfl (lv_at hl 1 rfl) ?_
          refine va_get (D := D) (ci := 1) (v := .ref (ad 4)) (C := RX1) (T := TX1) (N := 10) hx hb hts hinX1 hown hK hP 0 rfl rfl 3 (by decide) fX1_19 (fun _ h9 => h9) rfl dX1_unlink_46 ?_
          refine lv_iload_n hx hb dX1_unlink_49 rfl (lv_at hl 2 rfl) ?_
          refine lv_iload_n hx hb dX1_unlink_50 rfl (lv_at hl 3 rfl) ?_
          refine lh_cSi ⟨hx, hb, hml, hown, hts⟩ (kX1_at l D _ _ a1 b1) (va_cwS 2 hts gX1_unlink_X1_at rfl rfl rfl (by decide +kernel) ⟨Nat.le_of_ble_eq_true rfl, Nat.le_of_ble_eq_true rfl⟩) hK hN hP hD hS hA rfl hl.1 rfl (Nat.le_of_ble_eq_true rfl) ⟨Nat.le_of_ble_eq_true rfl, Nat.le_of_ble_eq_true rfl⟩ dX1_unlink_51 (fun H locs hP hD hS => ?_)
          refine lv_bipush (v := (-9)) hx hb dX1_unlink_54 (by decide) ?_
          refine lh_ist (k := (a1 * 10 + b1)) (N := 100) (f2 := upd (xLi u) (a1 * 10 + b1) ((-9))) hx hb hK hP hD hS 4 0 rfl rfl (by omega) (by decide) (rfl) dX1_unlink_56 (fun H locs hP hD hS => ?_)
          have hP : va_P D vwCl (wX cI ad (sLi u (upd (xLi u) (a1 * 10 + b1) ((-9))))) H := hP
          have hD : va_D A (wX cI ad (sLi u (upd (xLi u) (a1 * 10 + b1) ((-9))))) := hD
          refine lv_iconst (v := nI 0) hx hb dX1_unlink_57 (by decide) ?_
          exact lh_ri hx hb hr hlk hK hP hD hS (by first | (simp [nI_0, nI_o, unlR, c_1, ea1, c_2, eb1, c_3, c_4]; done) | (simp [nI_0, nI_o, unlR, c_1, ea1, c_2, eb1, c_3, c_4]; rfl)) (by first | (simp [nI_0, nI_o, unlS, unlC, c_1, ea1, c_2, eb1, c_3, c_4]; done) | (simp [nI_0, nI_o, unlS, unlC, c_1, ea1, c_2, eb1, c_3, c_4]; rfl)) dX1_unlink_58
      · have c_3 : (lnk u a1 b1) = false := b2i_e0 c_3
        refine lv_bipush (v := (-3)) hx hb dX1_unlink_27 (by decide) ?_
        exact lh_ri hx hb hr hlk hK hP hD hS (by first | (simp [nI_0, nI_o, unlR, c_1, ea1, c_2, eb1, c_3]; done) | (simp [nI_0, nI_o, unlR, c_1, ea1, c_2, eb1, c_3]; rfl)) (by first | (simp [nI_0, nI_o, unlS, unlC, c_1, ea1, c_2, eb1, c_3]; done) | (simp [nI_0, nI_o, unlS, unlC, c_1, ea1, c_2, eb1, c_3]; rfl)) dX1_unlink_29
    · have c_2 : (isObj u b) = false := b2i_e0 c_2
      refine lv_iconst (v := (-1)) hx hb dX1_unlink_16 (by decide) ?_
      exact lh_ri hx hb hr hlk hK hP hD hS (by first | (simp [nI_0, nI_o, unlR, c_1, ea1, c_2]; done) | (simp [nI_0, nI_o, unlR, c_1, ea1, c_2]; rfl)) (by first | (simp [nI_0, nI_o, unlS, unlC, c_1, ea1, c_2]; done) | (simp [nI_0, nI_o, unlS, unlC, c_1, ea1, c_2]; rfl)) dX1_unlink_17
set_option maxRecDepth 100000 in
set_option maxHeartbeats 4000000 in
theorem kX1_ofObject (l : Launch) (D : va_G) (cI : ClassId) (ad : Nat → Nat) (u : XS) (a : Int32) (w : Int32) (T : Nat) (inv : Inv T u) : CI l D [(cI, .int)] yX1_ofObject wsX1_ofObject ({ frames := 3, cells := 0, slots := 0, locals := 66 }) [.ref (ad 0), .int (a), .int (w)] (wX cI ad u) (wX cI ad u) (ofoR u a w) := by
  have ok := inv.1
  obtain ⟨hM, hW, hHo, hAb, hLb, hRb, hDb⟩ := id ok
  refine lh_CIof (cc := cX1_ofObject) (maxL := 3) (ret := (some .int)) (own := RX1) (by decide) rfl rfl (Nat.le_of_ble_eq_true rfl) ?_
  intro p e s m below meth c A ls hx hb hr hlk hts hown hml hK hN hA hP hD hS hl
  have fX1_9 := hts (.fieldLink RX1 9 "LostHosts" "hostOf" "[I") (by decide +kernel)
  have fX1_42 := hts (.fieldLink RX1 42 "LostHosts" "roots" "I") (by decide +kernel)
  have fX1_13 := hts (.fieldLink RX1 13 "LostHosts" "out" "[I") (by decide +kernel)
  have fX1_16 := hts (.fieldLink RX1 16 "LostHosts" "age" "[I") (by decide +kernel)
  have hinX1 : ∀ w ∈ u_ws RX1 TX1 10, w ∈ wsX1_ofObject := by decide +kernel
  have hl : lv_has ls 3 [(0, .ref (ad 0)), (1, .int (a)), (2, .int (w))] := hl
  refine lv_aload_n hx hb dX1_ofObject_0 rfl (lv_at hl 0 rfl) ?_
  refine lv_iload_n hx hb dX1_ofObject_1 rfl (lv_at hl 1 rfl) ?_
  refine lh_cVi ⟨hx, hb, hml, hown, hts⟩ (kX1_isObject l D cI ad u a) (cwV 1 hts gX1_ofObject_X1_isObject rfl rfl rfl (by decide +kernel) ⟨Nat.le_of_ble_eq_true rfl, Nat.le_of_ble_eq_true rfl⟩) hK hN hP hD hS hA 0 1 rfl rfl rfl rfl hl.1 rfl (Nat.le_of_ble_eq_true rfl) ⟨Nat.le_of_ble_eq_true rfl, Nat.le_of_ble_eq_true rfl⟩ dX1_ofObject_2 (fun H locs hP hD hS => ?_)
  refine lv_if_ne (tgt := 10) hx hb dX1_ofObject_5 (by decide) (fun c_1 => ?_) (fun c_1 => ?_)
  · have c_1 : (isObj u a) = true := b2i_n0 c_1
    obtain ⟨a1, ha1, ea1⟩ := isObj_ex hM c_1
    subst ea1
    have ea1 : (nI a1).toNatClampNeg = a1 := nI_clamp (by omega)
    refine lv_iload_n hx hb dX1_ofObject_10 rfl (lv_at hl 2 rfl) ?_
    rcases lh_sw (n := 7) (hi := 6) (x := w) (by decide) (by decide) with c_2 | c_2
    · refine lv_tableOut (tgt := 116) hx hb dX1_ofObject_11 c_2 (by decide) ?_
      refine lv_bipush (v := (-2)) hx hb dX1_ofObject_116 (by decide) ?_
      exact lh_ri hx hb hr hlk hK hP hD hS (by have hk := swO (n := 7) (hi := 6) (by decide) c_2 (by decide); simp [ofoR, hk 0 (by decide), hk 1 (by decide), hk 2 (by decide), hk 3 (by decide), hk 4 (by decide), hk 5 (by decide), hk 6 (by decide), c_1, ea1, c_2]) rfl dX1_ofObject_118
    · obtain ⟨c_2k, c_2l, c_2⟩ := c_2
      by_cases c_2e : c_2k = 0
      · subst c_2e
        refine lv_tableIn (off := 41) (tgt := 52) hx hb dX1_ofObject_11 (by rw [c_2]; decide) (by rw [c_2]; decide) (by rw [c_2]; decide) (by decide) ?_
        refine lv_aload_n hx hb dX1_ofObject_52 rfl (lv_at hl 0 rfl) ?_
        refine va_get (D := D) (ci := 1) (v := .ref (ad 1)) (C := RX1) (T := TX1) (N := 10) hx hb hts hinX1 hown hK hP 0 rfl rfl 0 (by decide) fX1_9 (fun _ h9 => h9) rfl dX1_ofObject_53 ?_
        refine lv_iload_n hx hb dX1_ofObject_56 rfl (lv_at hl 1 rfl) ?_
        refine lh_ild (k := a1) (N := 10) hx hb hK hP 1 0 rfl rfl (by omega) (by decide) dX1_ofObject_57 ?_
        refine W.eq (g2 := F0 m 58 ls (.int (nI (xHo u a1)) :: [])) rfl ?_
        exact lh_ri hx hb hr hlk hK hP hD hS (by first | (simp [ofoR, nI_eqL, c_1, ea1, c_2]; done) | (simp [ofoR, nI_eqL, b2i, nI_0, nI_o, c_1, ea1, c_2]; done) | (simp [ofoR, nI_eqL, b2i, c_1, ea1, c_2]; rfl)) rfl dX1_ofObject_58
      by_cases c_2e : c_2k = 1
      · subst c_2e
        refine lv_tableIn (off := 48) (tgt := 59) hx hb dX1_ofObject_11 (by rw [c_2]; decide) (by rw [c_2]; decide) (by rw [c_2]; decide) (by decide) ?_
        refine lv_aload_n hx hb dX1_ofObject_59 rfl (lv_at hl 0 rfl) ?_
        refine va_get (D := D) (ci := 1) (v := .int (nI (xR u))) (C := RX1) (T := TX1) (N := 10) hx hb hts hinX1 hown hK hP 0 rfl rfl 7 (by decide) fX1_42 (fun _ h9 => h9) rfl dX1_ofObject_60 ?_
        refine lv_iload_n hx hb dX1_ofObject_63 rfl (lv_at hl 1 rfl) ?_
        refine lh_cSi ⟨hx, hb, hml, hown, hts⟩ (kX1_isIn l D _ _ (xR u) a1 (by omega)) (va_cwS 2 hts gX1_ofObject_X1_isIn rfl rfl rfl (by decide +kernel) ⟨Nat.le_of_ble_eq_true rfl, Nat.le_of_ble_eq_true rfl⟩) hK hN hP hD hS hA rfl hl.1 rfl (Nat.le_of_ble_eq_true rfl) ⟨Nat.le_of_ble_eq_true rfl, Nat.le_of_ble_eq_true rfl⟩ dX1_ofObject_64 (fun H locs hP hD hS => ?_)
        refine lv_if_eq (tgt := 74) hx hb dX1_ofObject_67 (by decide) (fun c_3 => ?_) (fun c_3 => ?_)
        · have c_3 : ((xR u).testBit a1) = false := b2i_e0 c_3
          refine lv_iconst (v := nI 0) hx hb dX1_ofObject_74 (by decide) ?_
          exact lh_ri hx hb hr hlk hK hP hD hS (by first | (simp [ofoR, nI_eqL, c_1, ea1, c_2, c_3]; done) | (simp [ofoR, nI_eqL, b2i, nI_0, nI_o, c_1, ea1, c_2, c_3]; done) | (simp [ofoR, nI_eqL, b2i, c_1, ea1, c_2, c_3]; rfl)) rfl dX1_ofObject_75
        · have c_3 : ((xR u).testBit a1) = true := b2i_n0 c_3
          refine lv_iconst (v := nI 1) hx hb dX1_ofObject_70 (by decide) ?_
          refine lv_goto (tgt := 75) hx hb dX1_ofObject_71 (by decide) ?_
          exact lh_ri hx hb hr hlk hK hP hD hS (by first | (simp [ofoR, nI_eqL, c_1, ea1, c_2, c_3]; done) | (simp [ofoR, nI_eqL, b2i, nI_0, nI_o, c_1, ea1, c_2, c_3]; done) | (simp [ofoR, nI_eqL, b2i, c_1, ea1, c_2, c_3]; rfl)) rfl dX1_ofObject_75
      by_cases c_2e : c_2k = 2
      · subst c_2e
        refine lv_tableIn (off := 65) (tgt := 76) hx hb dX1_ofObject_11 (by rw [c_2]; decide) (by rw [c_2]; decide) (by rw [c_2]; decide) (by decide) ?_
        refine lv_aload_n hx hb dX1_ofObject_76 rfl (lv_at hl 0 rfl) ?_
        refine lv_iload_n hx hb dX1_ofObject_77 rfl (lv_at hl 1 rfl) ?_
        refine lh_cVi ⟨hx, hb, hml, hown, hts⟩ (kX1_isLive l D cI ad u a1 (by omega)) (cwV 1 hts gX1_ofObject_X1_isLive rfl rfl rfl (by decide +kernel) ⟨Nat.le_of_ble_eq_true rfl, Nat.le_of_ble_eq_true rfl⟩) hK hN hP hD hS hA 0 1 rfl rfl rfl rfl hl.1 rfl (Nat.le_of_ble_eq_true rfl) ⟨Nat.le_of_ble_eq_true rfl, Nat.le_of_ble_eq_true rfl⟩ dX1_ofObject_78 (fun H locs hP hD hS => ?_)
        refine lv_if_eq (tgt := 88) hx hb dX1_ofObject_81 (by decide) (fun c_4 => ?_) (fun c_4 => ?_)
        · have c_4 : ((xL u).testBit a1) = false := b2i_e0 c_4
          refine lv_iconst (v := nI 0) hx hb dX1_ofObject_88 (by decide) ?_
          exact lh_ri hx hb hr hlk hK hP hD hS (by first | (simp [ofoR, nI_eqL, c_1, ea1, c_2, c_4]; done) | (simp [ofoR, nI_eqL, b2i, nI_0, nI_o, c_1, ea1, c_2, c_4]; done) | (simp [ofoR, nI_eqL, b2i, c_1, ea1, c_2, c_4]; rfl)) rfl dX1_ofObject_89
        · have c_4 : ((xL u).testBit a1) = true := b2i_n0 c_4
          refine lv_iconst (v := nI 1) hx hb dX1_ofObject_84 (by decide) ?_
          refine lv_goto (tgt := 89) hx hb dX1_ofObject_85 (by decide) ?_
          exact lh_ri hx hb hr hlk hK hP hD hS (by first | (simp [ofoR, nI_eqL, c_1, ea1, c_2, c_4]; done) | (simp [ofoR, nI_eqL, b2i, nI_0, nI_o, c_1, ea1, c_2, c_4]; done) | (simp [ofoR, nI_eqL, b2i, c_1, ea1, c_2, c_4]; rfl)) rfl dX1_ofObject_89
      by_cases c_2e : c_2k = 3
      · subst c_2e
        refine lv_tableIn (off := 79) (tgt := 90) hx hb dX1_ofObject_11 (by rw [c_2]; decide) (by rw [c_2]; decide) (by rw [c_2]; decide) (by decide) ?_
        refine lv_aload_n hx hb dX1_ofObject_90 rfl (lv_at hl 0 rfl) ?_
        refine va_get (D := D) (ci := 1) (v := .ref (ad 2)) (C := RX1) (T := TX1) (N := 10) hx hb hts hinX1 hown hK hP 0 rfl rfl 1 (by decide) fX1_13 (fun _ h9 => h9) rfl dX1_ofObject_91 ?_
        refine lv_iload_n hx hb dX1_ofObject_94 rfl (lv_at hl 1 rfl) ?_
        refine lh_ild (k := a1) (N := 10) hx hb hK hP 2 0 rfl rfl (by omega) (by decide) dX1_ofObject_95 ?_
        refine W.eq (g2 := F0 m 96 ls (.int ((xOu u a1)) :: [])) rfl ?_
        exact lh_ri hx hb hr hlk hK hP hD hS (by first | (simp [ofoR, nI_eqL, c_1, ea1, c_2]; done) | (simp [ofoR, nI_eqL, b2i, nI_0, nI_o, c_1, ea1, c_2]; done) | (simp [ofoR, nI_eqL, b2i, c_1, ea1, c_2]; rfl)) rfl dX1_ofObject_96
      by_cases c_2e : c_2k = 4
      · subst c_2e
        refine lv_tableIn (off := 86) (tgt := 97) hx hb dX1_ofObject_11 (by rw [c_2]; decide) (by rw [c_2]; decide) (by rw [c_2]; decide) (by decide) ?_
        refine lv_aload_n hx hb dX1_ofObject_97 rfl (lv_at hl 0 rfl) ?_
        refine va_get (D := D) (ci := 1) (v := .ref (ad 3)) (C := RX1) (T := TX1) (N := 10) hx hb hts hinX1 hown hK hP 0 rfl rfl 2 (by decide) fX1_16 (fun _ h9 => h9) rfl dX1_ofObject_98 ?_
        refine lv_iload_n hx hb dX1_ofObject_101 rfl (lv_at hl 1 rfl) ?_
        refine lh_ild (k := a1) (N := 10) hx hb hK hP 3 0 rfl rfl (by omega) (by decide) dX1_ofObject_102 ?_
        refine W.eq (g2 := F0 m 103 ls (.int ((xAg u a1)) :: [])) rfl ?_
        exact lh_ri hx hb hr hlk hK hP hD hS (by first | (simp [ofoR, nI_eqL, c_1, ea1, c_2]; done) | (simp [ofoR, nI_eqL, b2i, nI_0, nI_o, c_1, ea1, c_2]; done) | (simp [ofoR, nI_eqL, b2i, c_1, ea1, c_2]; rfl)) rfl dX1_ofObject_103
      by_cases c_2e : c_2k = 5
      · subst c_2e
        refine lv_tableIn (off := 93) (tgt := 104) hx hb dX1_ofObject_11 (by rw [c_2]; decide) (by rw [c_2]; decide) (by rw [c_2]; decide) (by decide) ?_
        refine lv_aload_n hx hb dX1_ofObject_104 rfl (lv_at hl 0 rfl) ?_
        refine lv_iload_n hx hb dX1_ofObject_105 rfl (lv_at hl 1 rfl) ?_
        refine lh_cVi ⟨hx, hb, hml, hown, hts⟩ (kX1_linkedFrom l D cI ad u a1 ok (by omega)) (cwV 1 hts gX1_ofObject_X1_linkedFrom rfl rfl rfl (by decide +kernel) ⟨Nat.le_of_ble_eq_true rfl, Nat.le_of_ble_eq_true rfl⟩) hK hN hP hD hS hA 0 1 rfl rfl rfl rfl hl.1 rfl (Nat.le_of_ble_eq_true rfl) ⟨Nat.le_of_ble_eq_true rfl, Nat.le_of_ble_eq_true rfl⟩ dX1_ofObject_106 (fun H locs hP hD hS => ?_)
        exact lh_ri hx hb hr hlk hK hP hD hS (by first | (simp [ofoR, nI_eqL, c_1, ea1, c_2]; done) | (simp [ofoR, nI_eqL, b2i, nI_0, nI_o, c_1, ea1, c_2]; done) | (simp [ofoR, nI_eqL, b2i, c_1, ea1, c_2]; rfl)) rfl dX1_ofObject_109
      by_cases c_2e : c_2k = 6
      · subst c_2e
        refine lv_tableIn (off := 99) (tgt := 110) hx hb dX1_ofObject_11 (by rw [c_2]; decide) (by rw [c_2]; decide) (by rw [c_2]; decide) (by decide) ?_
        refine lv_aload_n hx hb dX1_ofObject_110 rfl (lv_at hl 0 rfl) ?_
        refine lv_iload_n hx hb dX1_ofObject_111 rfl (lv_at hl 1 rfl) ?_
        refine lh_cVi ⟨hx, hb, hml, hown, hts⟩ (kX1_linkedTo l D cI ad u a1 ok (by omega)) (cwV 1 hts gX1_ofObject_X1_linkedTo rfl rfl rfl (by decide +kernel) ⟨Nat.le_of_ble_eq_true rfl, Nat.le_of_ble_eq_true rfl⟩) hK hN hP hD hS hA 0 1 rfl rfl rfl rfl hl.1 rfl (Nat.le_of_ble_eq_true rfl) ⟨Nat.le_of_ble_eq_true rfl, Nat.le_of_ble_eq_true rfl⟩ dX1_ofObject_112 (fun H locs hP hD hS => ?_)
        exact lh_ri hx hb hr hlk hK hP hD hS (by first | (simp [ofoR, nI_eqL, c_1, ea1, c_2]; done) | (simp [ofoR, nI_eqL, b2i, nI_0, nI_o, c_1, ea1, c_2]; done) | (simp [ofoR, nI_eqL, b2i, c_1, ea1, c_2]; rfl)) rfl dX1_ofObject_115
      exact absurd c_2l (by omega)
  · have c_1 : (isObj u a) = false := b2i_e0 c_1
    refine lv_iconst (v := (-1)) hx hb dX1_ofObject_8 (by decide) ?_
    exact lh_ri hx hb hr hlk hK hP hD hS (by first | (simp [nI_0, nI_o, ofoR, c_1]; done) | (simp [nI_0, nI_o, ofoR, c_1]; rfl)) rfl dX1_ofObject_9
set_option maxRecDepth 100000 in
set_option maxHeartbeats 4000000 in
theorem kX1_weight (l : Launch) (D : va_G) (cI : ClassId) (ad : Nat → Nat) (u : XS) (a : Int32) (b : Int32) (T : Nat) (inv : Inv T u) : CI l D [(cI, .int)] yX1_weight wsX1_weight ({ frames := 1, cells := 0, slots := 0, locals := 21 }) [.ref (ad 0), .int (a), .int (b)] (wX cI ad u) (wX cI ad u) (wgtR u a b) := by
  have ok := inv.1
  obtain ⟨hM, hW, hHo, hAb, hLb, hRb, hDb⟩ := id ok
  refine lh_CIof (cc := cX1_weight) (maxL := 3) (ret := (some .int)) (own := RX1) (by decide) rfl rfl (Nat.le_of_ble_eq_true rfl) ?_
  intro p e s m below meth c A ls hx hb hr hlk hts hown hml hK hN hA hP hD hS hl
  have fX1_19 := hts (.fieldLink RX1 19 "LostHosts" "links" "[I") (by decide +kernel)
  have hinX1 : ∀ w ∈ u_ws RX1 TX1 10, w ∈ wsX1_weight := by decide +kernel
  have hl : lv_has ls 3 [(0, .ref (ad 0)), (1, .int (a)), (2, .int (b))] := hl
  refine lv_aload_n hx hb dX1_weight_0 rfl (lv_at hl 0 rfl) ?_
  refine lv_iload_n hx hb dX1_weight_1 rfl (lv_at hl 1 rfl) ?_
  refine lh_cVi ⟨hx, hb, hml, hown, hts⟩ (kX1_isObject l D cI ad u a) (cwV 1 hts gX1_weight_X1_isObject rfl rfl rfl (by decide +kernel) ⟨Nat.le_of_ble_eq_true rfl, Nat.le_of_ble_eq_true rfl⟩) hK hN hP hD hS hA 0 1 rfl rfl rfl rfl hl.1 rfl (Nat.le_of_ble_eq_true rfl) ⟨Nat.le_of_ble_eq_true rfl, Nat.le_of_ble_eq_true rfl⟩ dX1_weight_2 (fun H locs hP hD hS => ?_)
  refine lv_if_eq (tgt := 16) hx hb dX1_weight_5 (by decide) (fun c_1 => ?_) (fun c_1 => ?_)
  · have c_1 : (isObj u a) = false := b2i_e0 c_1
    refine lv_iconst (v := (-1)) hx hb dX1_weight_16 (by decide) ?_
    exact lh_ri hx hb hr hlk hK hP hD hS (by first | (simp [nI_0, nI_o, wgtR, c_1]; done) | (simp [nI_0, nI_o, wgtR, c_1]; rfl)) rfl dX1_weight_17
  · have c_1 : (isObj u a) = true := b2i_n0 c_1
    obtain ⟨a1, ha1, ea1⟩ := isObj_ex hM c_1
    subst ea1
    have ea1 : (nI a1).toNatClampNeg = a1 := nI_clamp (by omega)
    refine lv_aload_n hx hb dX1_weight_8 rfl (lv_at hl 0 rfl) ?_
    refine lv_iload_n hx hb dX1_weight_9 rfl (lv_at hl 2 rfl) ?_
    refine lh_cVi ⟨hx, hb, hml, hown, hts⟩ (kX1_isObject l D cI ad u b) (cwV 1 hts gX1_weight_X1_isObject rfl rfl rfl (by decide +kernel) ⟨Nat.le_of_ble_eq_true rfl, Nat.le_of_ble_eq_true rfl⟩) hK hN hP hD hS hA 0 1 rfl rfl rfl rfl hl.1 rfl (Nat.le_of_ble_eq_true rfl) ⟨Nat.le_of_ble_eq_true rfl, Nat.le_of_ble_eq_true rfl⟩ dX1_weight_10 (fun H locs hP hD hS => ?_)
    refine lv_if_ne (tgt := 18) hx hb dX1_weight_13 (by decide) (fun c_2 => ?_) (fun c_2 => ?_)
    · have c_2 : (isObj u b) = true := b2i_n0 c_2
      obtain ⟨b1, hb1, eb1⟩ := isObj_ex hM c_2
      subst eb1
      have eb1 : (nI b1).toNatClampNeg = b1 := nI_clamp (by omega)
      refine lv_aload_n hx hb dX1_weight_18 rfl (lv_at hl 0 rfl) ?_
      refine va_get (D := D) (ci := 1) (v := .ref (ad 4)) (C := RX1) (T := TX1) (N := 10) hx hb hts hinX1 hown hK hP 0 rfl rfl 3 (by decide) fX1_19 (fun _ h9 => h9) rfl dX1_weight_19 ?_
      refine lv_iload_n hx hb dX1_weight_22 rfl (lv_at hl 1 rfl) ?_
      refine lv_iload_n hx hb dX1_weight_23 rfl (lv_at hl 2 rfl) ?_
      refine lh_cSi ⟨hx, hb, hml, hown, hts⟩ (kX1_at l D _ _ a1 b1) (va_cwS 2 hts gX1_weight_X1_at rfl rfl rfl (by decide +kernel) ⟨Nat.le_of_ble_eq_true rfl, Nat.le_of_ble_eq_true rfl⟩) hK hN hP hD hS hA rfl hl.1 rfl (Nat.le_of_ble_eq_true rfl) ⟨Nat.le_of_ble_eq_true rfl, Nat.le_of_ble_eq_true rfl⟩ dX1_weight_24 (fun H locs hP hD hS => ?_)
      refine lh_ild (k := (a1 * 10 + b1)) (N := 100) hx hb hK hP 4 0 rfl rfl (by omega) (by decide) dX1_weight_27 ?_
      refine W.eq (g2 := F0 m 28 ls (.int ((xLi u (a1 * 10 + b1))) :: [])) rfl ?_
      exact lh_ri hx hb hr hlk hK hP hD hS (by first | (simp [nI_0, nI_o, wgtR, c_1, ea1, c_2, eb1]; done) | (simp [nI_0, nI_o, wgtR, c_1, ea1, c_2, eb1]; rfl)) rfl dX1_weight_28
    · have c_2 : (isObj u b) = false := b2i_e0 c_2
      refine lv_iconst (v := (-1)) hx hb dX1_weight_16 (by decide) ?_
      exact lh_ri hx hb hr hlk hK hP hD hS (by first | (simp [nI_0, nI_o, wgtR, c_1, ea1, c_2]; done) | (simp [nI_0, nI_o, wgtR, c_1, ea1, c_2]; rfl)) rfl dX1_weight_17
set_option maxRecDepth 100000 in
set_option maxHeartbeats 4000000 in
theorem kX1_give (l : Launch) (D : va_G) (cI : ClassId) (ad : Nat → Nat) (u : XS) (x : Int32) (a : Int32) (b : Int32) (T : Nat) (inv : Inv T u) : CI l D [(cI, .int)] yX1_give wsX1_give ({ frames := 4, cells := 0, slots := 0, locals := 85 }) [.ref (ad 0), .int (x), .int (a), .int (b)] (wX cI ad u) (wX cI ad (givS u x a b)) (givR u x a b) := by
  have ok := inv.1
  obtain ⟨hM, hW, hHo, hAb, hLb, hRb, hDb⟩ := id ok
  refine lh_CIof (cc := cX1_give) (maxL := 4) (ret := (some .int)) (own := RX1) (by decide) rfl rfl (Nat.le_of_ble_eq_true rfl) ?_
  intro p e s m below meth c A ls hx hb hr hlk hts hown hml hK hN hA hP hD hS hl
  have fX1_31 := hts (.fieldLink RX1 31 "LostHosts" "letters" "LLostHosts$Letters;") (by decide +kernel)
  have fX0_86 := va_Nw.use (A := [.ref (ad 0), .int (x), .int (a), .int (b)].toArray) rfl hN.1
  have fX1_13 := hts (.fieldLink RX1 13 "LostHosts" "out" "[I") (by decide +kernel)
  have hinX0 : ∀ w ∈ u_ws RX0 TX0 4, w ∈ wsX1_give := by decide +kernel
  have hinX1 : ∀ w ∈ u_ws RX1 TX1 10, w ∈ wsX1_give := by decide +kernel
  have hl : lv_has ls 4 [(0, .ref (ad 0)), (1, .int (x)), (2, .int (a)), (3, .int (b))] := hl
  refine lv_aload_n hx hb dX1_give_0 rfl (lv_at hl 0 rfl) ?_
  refine lv_iload_n hx hb dX1_give_1 rfl (lv_at hl 1 rfl) ?_
  refine lh_cVi ⟨hx, hb, hml, hown, hts⟩ (kX1_isObject l D cI ad u x) (cwV 1 hts gX1_give_X1_isObject rfl rfl rfl (by decide +kernel) ⟨Nat.le_of_ble_eq_true rfl, Nat.le_of_ble_eq_true rfl⟩) hK hN hP hD hS hA 0 1 rfl rfl rfl rfl hl.1 rfl (Nat.le_of_ble_eq_true rfl) ⟨Nat.le_of_ble_eq_true rfl, Nat.le_of_ble_eq_true rfl⟩ dX1_give_2 (fun H locs hP hD hS => ?_)
  refine lv_if_eq (tgt := 24) hx hb dX1_give_5 (by decide) (fun c_1 => ?_) (fun c_1 => ?_)
  · have c_1 : (isObj u x) = false := b2i_e0 c_1
    refine lv_iconst (v := (-1)) hx hb dX1_give_24 (by decide) ?_
    exact lh_ri hx hb hr hlk hK hP hD hS (by first | (simp [nI_0, nI_o, givR, c_1]; done) | (simp [nI_0, nI_o, givR, c_1]; rfl)) (by first | (simp [givS, givT, nI_0, nI_o, c_1]; done) | (simp [givS, givT, c_1]; done) | (simp [givS, givT, c_1]; rfl)) dX1_give_25
  · have c_1 : (isObj u x) = true := b2i_n0 c_1
    obtain ⟨x1, hx1, ex1⟩ := isObj_ex hM c_1
    subst ex1
    have ex1 : (nI x1).toNatClampNeg = x1 := nI_clamp (by omega)
    refine lv_aload_n hx hb dX1_give_8 rfl (lv_at hl 0 rfl) ?_
    refine lv_iload_n hx hb dX1_give_9 rfl (lv_at hl 2 rfl) ?_
    refine lh_cVi ⟨hx, hb, hml, hown, hts⟩ (kX1_isObject l D cI ad u a) (cwV 1 hts gX1_give_X1_isObject rfl rfl rfl (by decide +kernel) ⟨Nat.le_of_ble_eq_true rfl, Nat.le_of_ble_eq_true rfl⟩) hK hN hP hD hS hA 0 1 rfl rfl rfl rfl hl.1 rfl (Nat.le_of_ble_eq_true rfl) ⟨Nat.le_of_ble_eq_true rfl, Nat.le_of_ble_eq_true rfl⟩ dX1_give_10 (fun H locs hP hD hS => ?_)
    refine lv_if_eq (tgt := 24) hx hb dX1_give_13 (by decide) (fun c_2 => ?_) (fun c_2 => ?_)
    · have c_2 : (isObj u a) = false := b2i_e0 c_2
      refine lv_iconst (v := (-1)) hx hb dX1_give_24 (by decide) ?_
      exact lh_ri hx hb hr hlk hK hP hD hS (by first | (simp [nI_0, nI_o, givR, c_1, ex1, c_2]; done) | (simp [nI_0, nI_o, givR, c_1, ex1, c_2]; rfl)) (by first | (simp [givS, givT, nI_0, nI_o, c_1, ex1, c_2]; done) | (simp [givS, givT, c_1, ex1, c_2]; done) | (simp [givS, givT, c_1, ex1, c_2]; rfl)) dX1_give_25
    · have c_2 : (isObj u a) = true := b2i_n0 c_2
      obtain ⟨a1, ha1, ea1⟩ := isObj_ex hM c_2
      subst ea1
      have ea1 : (nI a1).toNatClampNeg = a1 := nI_clamp (by omega)
      refine lv_aload_n hx hb dX1_give_16 rfl (lv_at hl 0 rfl) ?_
      refine lv_iload_n hx hb dX1_give_17 rfl (lv_at hl 3 rfl) ?_
      refine lh_cVi ⟨hx, hb, hml, hown, hts⟩ (kX1_isObject l D cI ad u b) (cwV 1 hts gX1_give_X1_isObject rfl rfl rfl (by decide +kernel) ⟨Nat.le_of_ble_eq_true rfl, Nat.le_of_ble_eq_true rfl⟩) hK hN hP hD hS hA 0 1 rfl rfl rfl rfl hl.1 rfl (Nat.le_of_ble_eq_true rfl) ⟨Nat.le_of_ble_eq_true rfl, Nat.le_of_ble_eq_true rfl⟩ dX1_give_18 (fun H locs hP hD hS => ?_)
      refine lv_if_ne (tgt := 26) hx hb dX1_give_21 (by decide) (fun c_3 => ?_) (fun c_3 => ?_)
      · have c_3 : (isObj u b) = true := b2i_n0 c_3
        obtain ⟨b1, hb1, eb1⟩ := isObj_ex hM c_3
        subst eb1
        have eb1 : (nI b1).toNatClampNeg = b1 := nI_clamp (by omega)
        refine lv_aload_n hx hb dX1_give_26 rfl (lv_at hl 0 rfl) ?_
        refine lv_iload_n hx hb dX1_give_27 rfl (lv_at hl 1 rfl) ?_
        refine lv_iload_n hx hb dX1_give_28 rfl (lv_at hl 2 rfl) ?_
        refine lv_iload_n hx hb dX1_give_29 rfl (lv_at hl 3 rfl) ?_
        refine lh_cVi ⟨hx, hb, hml, hown, hts⟩ (kX1_mayGive l D cI ad u x1 a1 b1 (by omega) (by omega) (by omega)) (cwV 3 hts gX1_give_X1_mayGive rfl rfl rfl (by decide +kernel) ⟨Nat.le_of_ble_eq_true rfl, Nat.le_of_ble_eq_true rfl⟩) hK hN hP hD hS hA 0 1 rfl rfl rfl rfl hl.1 rfl (Nat.le_of_ble_eq_true rfl) ⟨Nat.le_of_ble_eq_true rfl, Nat.le_of_ble_eq_true rfl⟩ dX1_give_30 (fun H locs hP hD hS => ?_)
        refine lv_if_ne (tgt := 39) hx hb dX1_give_33 (by decide) (fun c_4 => ?_) (fun c_4 => ?_)
        · have c_4 : (mayG u x1 a1 b1) = true := b2i_n0 c_4
          refine lv_aload_n hx hb dX1_give_39 rfl (lv_at hl 0 rfl) ?_
          refine lv_iload_n hx hb dX1_give_40 rfl (lv_at hl 1 rfl) ?_
          refine lv_iload_n hx hb dX1_give_41 rfl (lv_at hl 2 rfl) ?_
          refine lh_cVi ⟨hx, hb, hml, hown, hts⟩ (kX1_onOneHost l D cI ad u x1 a1 ok (by omega) (by omega)) (cwV 2 hts gX1_give_X1_onOneHost rfl rfl rfl (by decide +kernel) ⟨Nat.le_of_ble_eq_true rfl, Nat.le_of_ble_eq_true rfl⟩) hK hN hP hD hS hA 0 1 rfl rfl rfl rfl hl.1 rfl (Nat.le_of_ble_eq_true rfl) ⟨Nat.le_of_ble_eq_true rfl, Nat.le_of_ble_eq_true rfl⟩ dX1_give_42 (fun H locs hP hD hS => ?_)
          refine lv_if_eq (tgt := 75) hx hb dX1_give_45 (by decide) (fun c_5 => ?_) (fun c_5 => ?_)
          · have c_5 : (nbr u x1 a1) = false := b2i_e0 c_5
            refine lv_aload_n hx hb dX1_give_75 rfl (lv_at hl 0 rfl) ?_
            refine va_get (D := D) (ci := 1) (v := .ref (ad 5)) (C := RX1) (T := TX1) (N := 10) hx hb hts hinX1 hown hK hP 0 rfl rfl 4 (by decide) fX1_31 (fun _ h9 => h9) rfl dX1_give_76 ?_
            refine va_getN (D := D) (ci := 0) (v := .int (nI (xW u))) (C := RX0) (T := TX0) (N := 4) hx hb hts hinX0 hown hK hP 5 rfl rfl 3 (by decide) fX0_86 (fun _ h9 => h9) rfl dX1_give_79 ?_
            refine lv_bipush (v := nI 60) hx hb dX1_give_82 (by decide) ?_
            refine lv_icmp_lt (tgt := 90) hx hb dX1_give_84 (by decide) (fun c_6 => ?_) (fun c_6 => ?_)
            · have c_6 : xW u < 60 := (nI_ltI (by omega) (by omega)).mp c_6
              refine lv_aload_n hx hb dX1_give_90 rfl (lv_at hl 0 rfl) ?_
              refine lv_iload_n hx hb dX1_give_91 rfl (lv_at hl 1 rfl) ?_
              refine lv_iload_n hx hb dX1_give_92 rfl (lv_at hl 3 rfl) ?_
              refine lh_cVi ⟨hx, hb, hml, hown, hts⟩ (kX1_onOneHost l D cI ad u x1 b1 ok (by omega) (by omega)) (cwV 2 hts gX1_give_X1_onOneHost rfl rfl rfl (by decide +kernel) ⟨Nat.le_of_ble_eq_true rfl, Nat.le_of_ble_eq_true rfl⟩) hK hN hP hD hS hA 0 1 rfl rfl rfl rfl hl.1 rfl (Nat.le_of_ble_eq_true rfl) ⟨Nat.le_of_ble_eq_true rfl, Nat.le_of_ble_eq_true rfl⟩ dX1_give_93 (fun H locs hP hD hS => ?_)
              refine lv_if_eq (tgt := 124) hx hb dX1_give_96 (by decide) (fun c_7 => ?_) (fun c_7 => ?_)
              · have c_7 : (nbr u x1 b1) = false := b2i_e0 c_7
                refine lv_aload_n hx hb dX1_give_124 rfl (lv_at hl 0 rfl) ?_
                refine va_get (D := D) (ci := 1) (v := .ref (ad 5)) (C := RX1) (T := TX1) (N := 10) hx hb hts hinX1 hown hK hP 0 rfl rfl 4 (by decide) fX1_31 (fun _ h9 => h9) rfl dX1_give_125 ?_
                refine lv_iload_n hx hb dX1_give_128 rfl (lv_at hl 3 rfl) ?_
                refine lv_iload_n hx hb dX1_give_129 rfl (lv_at hl 2 rfl) ?_
                refine lv_aload_n hx hb dX1_give_130 rfl (lv_at hl 0 rfl) ?_
                refine lv_iload_n hx hb dX1_give_131 rfl (lv_at hl 1 rfl) ?_
                refine lv_iload_n hx hb dX1_give_132 rfl (lv_at hl 3 rfl) ?_
                refine lh_cVi ⟨hx, hb, hml, hown, hts⟩ (kX1_split l D cI ad u x1 b1 (by omega) (by omega)) (cwV 2 hts gX1_give_X1_split rfl rfl rfl (by decide +kernel) ⟨Nat.le_of_ble_eq_true rfl, Nat.le_of_ble_eq_true rfl⟩) hK hN hP hD hS hA 0 1 rfl rfl rfl rfl hl.1 rfl (Nat.le_of_ble_eq_true rfl) ⟨Nat.le_of_ble_eq_true rfl, Nat.le_of_ble_eq_true rfl⟩ dX1_give_133 (fun H locs hP hD hS => ?_)
                have hP : va_P D vwCl (wX cI ad (splS u x1 b1)) H := hP
                have hD : va_D A (wX cI ad (splS u x1 b1)) := hD
                refine lh_cVv ⟨hx, hb, hml, hown, hts⟩ (kX0_sendGrant l D cI ad (splS u x1 b1) b1 a1 (splR u x1 b1) (by first | omega | (show xW u < 150; omega))) (cwV 3 hts gX1_give_X0_sendGrant rfl rfl rfl (by decide +kernel) ⟨Nat.le_of_ble_eq_true rfl, Nat.le_of_ble_eq_true rfl⟩) hK hN hP hD hS hA 5 0 rfl rfl rfl rfl hl.1 (by rw [rv_lt (k := a1) (by omega)]; rfl) (Nat.le_of_ble_eq_true rfl) ⟨Nat.le_of_ble_eq_true rfl, Nat.le_of_ble_eq_true rfl⟩ dX1_give_136 (fun H locs hP hD hS => ?_)
                have hP : va_P D vwCl (wX cI ad (app (splS u x1 b1) b1 a1 (splR u x1 b1))) H := hP
                have hD : va_D A (wX cI ad (app (splS u x1 b1) b1 a1 (splR u x1 b1))) := hD
                refine lv_iconst (v := nI 1) hx hb dX1_give_139 (by decide) ?_
                exact lh_ri hx hb hr hlk hK hP hD hS (by first | (simp [nI_0, nI_o, givR, c_1, ex1, c_2, ea1, c_3, eb1, c_4, c_5, c_6, c_7]; done) | (simp [nI_0, nI_o, givR, c_1, ex1, c_2, ea1, c_3, eb1, c_4, c_5, c_6, c_7]; rfl)) (by first | (simp [givS, givT, nI_0, nI_o, c_1, ex1, c_2, ea1, c_3, eb1, c_4, c_5, c_6, c_7]; done) | (simp [givS, givT, c_1, ex1, c_2, ea1, c_3, eb1, c_4, c_5, c_6, c_7]; done) | (simp [givS, givT, c_1, ex1, c_2, ea1, c_3, eb1, c_4, c_5, c_6, c_7]; rfl)) dX1_give_140
              · have c_7 : (nbr u x1 b1) = true := b2i_n0 c_7
                refine lv_aload_n hx hb dX1_give_99 rfl (lv_at hl 0 rfl) ?_
                refine va_get (D := D) (ci := 1) (v := .ref (ad 2)) (C := RX1) (T := TX1) (N := 10) hx hb hts hinX1 hown hK hP 0 rfl rfl 1 (by decide) fX1_13 (fun _ h9 => h9) rfl dX1_give_100 ?_
                refine lv_iload_n hx hb dX1_give_103 rfl (lv_at hl 3 rfl) ?_
                refine lv_dup2_11 hx hb dX1_give_104 rfl rfl ?_
                refine lh_ild (k := b1) (N := 10) hx hb hK hP 2 0 rfl rfl (by omega) (by decide) dX1_give_105 ?_
                refine W.eq (g2 := F0 m 106 ls (.int ((xOu u b1)) :: [.int (nI b1), .ref (ad 2)])) rfl ?_
                refine lv_bipush (v := nI 64) hx hb dX1_give_106 (by decide) ?_
                refine lv_iadd hx hb dX1_give_108 ?_
                refine lh_ist (k := b1) (N := 10) (f2 := upd (xOu u) b1 (((xOu u b1) + nI 64))) hx hb hK hP hD hS 2 0 rfl rfl (by omega) (by decide) (rfl) dX1_give_109 (fun H locs hP hD hS => ?_)
                have hP : va_P D vwCl (wX cI ad (sOu u (upd (xOu u) b1 (((xOu u b1) + nI 64))))) H := hP
                have hD : va_D A (wX cI ad (sOu u (upd (xOu u) b1 (((xOu u b1) + nI 64))))) := hD
                refine lv_aload_n hx hb dX1_give_110 rfl (lv_at hl 0 rfl) ?_
                refine va_get (D := D) (ci := 1) (v := .ref (ad 5)) (C := RX1) (T := TX1) (N := 10) hx hb hts hinX1 hown hK hP 0 rfl rfl 4 (by decide) fX1_31 (fun _ h9 => h9) rfl dX1_give_111 ?_
                refine lv_iload_n hx hb dX1_give_114 rfl (lv_at hl 3 rfl) ?_
                refine lv_iload_n hx hb dX1_give_115 rfl (lv_at hl 2 rfl) ?_
                refine lv_bipush (v := nI 64) hx hb dX1_give_116 (by decide) ?_
                refine lh_cVv ⟨hx, hb, hml, hown, hts⟩ (kX0_sendGrant l D cI ad (sOu u (upd (xOu u) b1 (((xOu u b1) + nI 64)))) b1 a1 (nI 64) (by first | omega | (show xW u < 150; omega))) (cwV 3 hts gX1_give_X0_sendGrant rfl rfl rfl (by decide +kernel) ⟨Nat.le_of_ble_eq_true rfl, Nat.le_of_ble_eq_true rfl⟩) hK hN hP hD hS hA 5 0 rfl rfl rfl rfl hl.1 (by rw [rv_lt (k := a1) (by omega)]; rfl) (Nat.le_of_ble_eq_true rfl) ⟨Nat.le_of_ble_eq_true rfl, Nat.le_of_ble_eq_true rfl⟩ dX1_give_118 (fun H locs hP hD hS => ?_)
                have hP : va_P D vwCl (wX cI ad (app (sOu u (upd (xOu u) b1 (((xOu u b1) + nI 64)))) b1 a1 (nI 64))) H := hP
                have hD : va_D A (wX cI ad (app (sOu u (upd (xOu u) b1 (((xOu u b1) + nI 64)))) b1 a1 (nI 64))) := hD
                refine lv_goto (tgt := 139) hx hb dX1_give_121 (by decide) ?_
                refine lv_iconst (v := nI 1) hx hb dX1_give_139 (by decide) ?_
                exact lh_ri hx hb hr hlk hK hP hD hS (by first | (simp [nI_0, nI_o, givR, c_1, ex1, c_2, ea1, c_3, eb1, c_4, c_5, c_6, c_7]; done) | (simp [nI_0, nI_o, givR, c_1, ex1, c_2, ea1, c_3, eb1, c_4, c_5, c_6, c_7]; rfl)) (by first | (simp [givS, givT, nI_0, nI_o, c_1, ex1, c_2, ea1, c_3, eb1, c_4, c_5, c_6, c_7]; done) | (simp [givS, givT, c_1, ex1, c_2, ea1, c_3, eb1, c_4, c_5, c_6, c_7]; done) | (simp [givS, givT, c_1, ex1, c_2, ea1, c_3, eb1, c_4, c_5, c_6, c_7]; rfl)) dX1_give_140
            · have c_6 : 60 ≤ xW u := Nat.le_of_not_lt (fun h => c_6 ((nI_ltI (by omega) (by omega)).mpr h))
              have c_6n : ¬ xW u < 60 := by omega
              refine lv_bipush (v := (-4)) hx hb dX1_give_87 (by decide) ?_
              exact lh_ri hx hb hr hlk hK hP hD hS (by first | (simp [nI_0, nI_o, givR, c_1, ex1, c_2, ea1, c_3, eb1, c_4, c_5, c_6n, c_6]; done) | (simp [nI_0, nI_o, givR, c_1, ex1, c_2, ea1, c_3, eb1, c_4, c_5, c_6n, c_6]; rfl)) (by first | (simp [givS, givT, nI_0, nI_o, c_1, ex1, c_2, ea1, c_3, eb1, c_4, c_5, c_6n, c_6]; done) | (simp [givS, givT, c_1, ex1, c_2, ea1, c_3, eb1, c_4, c_5, c_6n, c_6]; done) | (simp [givS, givT, c_1, ex1, c_2, ea1, c_3, eb1, c_4, c_5, c_6n, c_6]; rfl)) dX1_give_89
          · have c_5 : (nbr u x1 a1) = true := b2i_n0 c_5
            refine lv_aload_n hx hb dX1_give_48 rfl (lv_at hl 0 rfl) ?_
            refine lv_iload_n hx hb dX1_give_49 rfl (lv_at hl 2 rfl) ?_
            refine lv_iload_n hx hb dX1_give_50 rfl (lv_at hl 3 rfl) ?_
            refine lv_aload_n hx hb dX1_give_51 rfl (lv_at hl 0 rfl) ?_
            refine lv_iload_n hx hb dX1_give_52 rfl (lv_at hl 1 rfl) ?_
            refine lv_iload_n hx hb dX1_give_53 rfl (lv_at hl 3 rfl) ?_
            refine lh_cVi ⟨hx, hb, hml, hown, hts⟩ (kX1_onOneHost l D cI ad u x1 b1 ok (by omega) (by omega)) (cwV 2 hts gX1_give_X1_onOneHost rfl rfl rfl (by decide +kernel) ⟨Nat.le_of_ble_eq_true rfl, Nat.le_of_ble_eq_true rfl⟩) hK hN hP hD hS hA 0 1 rfl rfl rfl rfl hl.1 rfl (Nat.le_of_ble_eq_true rfl) ⟨Nat.le_of_ble_eq_true rfl, Nat.le_of_ble_eq_true rfl⟩ dX1_give_54 (fun H locs hP hD hS => ?_)
            refine lv_if_eq (tgt := 64) hx hb dX1_give_57 (by decide) (fun c_8 => ?_) (fun c_8 => ?_)
            · have c_8 : (nbr u x1 b1) = false := b2i_e0 c_8
              refine lv_aload_n hx hb dX1_give_64 rfl (lv_at hl 0 rfl) ?_
              refine lv_iload_n hx hb dX1_give_65 rfl (lv_at hl 1 rfl) ?_
              refine lv_iload_n hx hb dX1_give_66 rfl (lv_at hl 3 rfl) ?_
              refine lh_cVi ⟨hx, hb, hml, hown, hts⟩ (kX1_split l D cI ad u x1 b1 (by omega) (by omega)) (cwV 2 hts gX1_give_X1_split rfl rfl rfl (by decide +kernel) ⟨Nat.le_of_ble_eq_true rfl, Nat.le_of_ble_eq_true rfl⟩) hK hN hP hD hS hA 0 1 rfl rfl rfl rfl hl.1 rfl (Nat.le_of_ble_eq_true rfl) ⟨Nat.le_of_ble_eq_true rfl, Nat.le_of_ble_eq_true rfl⟩ dX1_give_67 (fun H locs hP hD hS => ?_)
              have hP : va_P D vwCl (wX cI ad (splS u x1 b1)) H := hP
              have hD : va_D A (wX cI ad (splS u x1 b1)) := hD
              refine lh_cVv ⟨hx, hb, hml, hown, hts⟩ (kX1_addLink l D cI ad (splS u x1 b1) a1 b1 (splR u x1 b1) (by omega) (by omega)) (cwV 3 hts gX1_give_X1_addLink rfl rfl rfl (by decide +kernel) ⟨Nat.le_of_ble_eq_true rfl, Nat.le_of_ble_eq_true rfl⟩) hK hN hP hD hS hA 0 1 rfl rfl rfl rfl hl.1 rfl (Nat.le_of_ble_eq_true rfl) ⟨Nat.le_of_ble_eq_true rfl, Nat.le_of_ble_eq_true rfl⟩ dX1_give_70 (fun H locs hP hD hS => ?_)
              have hP : va_P D vwCl (wX cI ad (adL (splS u x1 b1) a1 b1 (splR u x1 b1))) H := hP
              have hD : va_D A (wX cI ad (adL (splS u x1 b1) a1 b1 (splR u x1 b1))) := hD
              refine lv_iconst (v := nI 0) hx hb dX1_give_73 (by decide) ?_
              exact lh_ri hx hb hr hlk hK hP hD hS (by first | (simp [nI_0, nI_o, givR, c_1, ex1, c_2, ea1, c_3, eb1, c_4, c_5, c_8]; done) | (simp [nI_0, nI_o, givR, c_1, ex1, c_2, ea1, c_3, eb1, c_4, c_5, c_8]; rfl)) (by first | (simp [givS, givT, nI_0, nI_o, c_1, ex1, c_2, ea1, c_3, eb1, c_4, c_5, c_8]; done) | (simp [givS, givT, c_1, ex1, c_2, ea1, c_3, eb1, c_4, c_5, c_8]; done) | (simp [givS, givT, c_1, ex1, c_2, ea1, c_3, eb1, c_4, c_5, c_8]; rfl)) dX1_give_74
            · have c_8 : (nbr u x1 b1) = true := b2i_n0 c_8
              refine lv_iconst (v := nI 0) hx hb dX1_give_60 (by decide) ?_
              refine lv_goto (tgt := 70) hx hb dX1_give_61 (by decide) ?_
              refine lh_cVv ⟨hx, hb, hml, hown, hts⟩ (kX1_addLink l D cI ad u a1 b1 (nI 0) (by omega) (by omega)) (cwV 3 hts gX1_give_X1_addLink rfl rfl rfl (by decide +kernel) ⟨Nat.le_of_ble_eq_true rfl, Nat.le_of_ble_eq_true rfl⟩) hK hN hP hD hS hA 0 1 rfl rfl rfl rfl hl.1 rfl (Nat.le_of_ble_eq_true rfl) ⟨Nat.le_of_ble_eq_true rfl, Nat.le_of_ble_eq_true rfl⟩ dX1_give_70 (fun H locs hP hD hS => ?_)
              have hP : va_P D vwCl (wX cI ad (adL u a1 b1 (nI 0))) H := hP
              have hD : va_D A (wX cI ad (adL u a1 b1 (nI 0))) := hD
              refine lv_iconst (v := nI 0) hx hb dX1_give_73 (by decide) ?_
              exact lh_ri hx hb hr hlk hK hP hD hS (by first | (simp [nI_0, nI_o, givR, c_1, ex1, c_2, ea1, c_3, eb1, c_4, c_5, c_8]; done) | (simp [nI_0, nI_o, givR, c_1, ex1, c_2, ea1, c_3, eb1, c_4, c_5, c_8]; rfl)) (by first | (simp [givS, givT, nI_0, nI_o, c_1, ex1, c_2, ea1, c_3, eb1, c_4, c_5, c_8]; done) | (simp [givS, givT, c_1, ex1, c_2, ea1, c_3, eb1, c_4, c_5, c_8]; done) | (simp [givS, givT, c_1, ex1, c_2, ea1, c_3, eb1, c_4, c_5, c_8]; rfl)) dX1_give_74
        · have c_4 : (mayG u x1 a1 b1) = false := b2i_e0 c_4
          refine lv_bipush (v := (-3)) hx hb dX1_give_36 (by decide) ?_
          exact lh_ri hx hb hr hlk hK hP hD hS (by first | (simp [nI_0, nI_o, givR, c_1, ex1, c_2, ea1, c_3, eb1, c_4]; done) | (simp [nI_0, nI_o, givR, c_1, ex1, c_2, ea1, c_3, eb1, c_4]; rfl)) (by first | (simp [givS, givT, nI_0, nI_o, c_1, ex1, c_2, ea1, c_3, eb1, c_4]; done) | (simp [givS, givT, c_1, ex1, c_2, ea1, c_3, eb1, c_4]; done) | (simp [givS, givT, c_1, ex1, c_2, ea1, c_3, eb1, c_4]; rfl)) dX1_give_38
      · have c_3 : (isObj u b) = false := b2i_e0 c_3
        refine lv_iconst (v := (-1)) hx hb dX1_give_24 (by decide) ?_
        exact lh_ri hx hb hr hlk hK hP hD hS (by first | (simp [nI_0, nI_o, givR, c_1, ex1, c_2, ea1, c_3]; done) | (simp [nI_0, nI_o, givR, c_1, ex1, c_2, ea1, c_3]; rfl)) (by first | (simp [givS, givT, nI_0, nI_o, c_1, ex1, c_2, ea1, c_3]; done) | (simp [givS, givT, c_1, ex1, c_2, ea1, c_3]; done) | (simp [givS, givT, c_1, ex1, c_2, ea1, c_3]; rfl)) dX1_give_25
set_option maxRecDepth 100000 in
set_option maxHeartbeats 4000000 in
theorem kX1_deliver (l : Launch) (D : va_G) (cI : ClassId) (ad : Nat → Nat) (u : XS) (k : Int32) (T : Nat) (inv : Inv T u) : CI l D [(cI, .int)] yX1_deliver wsX1_deliver ({ frames := 5, cells := 0, slots := 0, locals := 115 }) [.ref (ad 0), .int (k)] (wX cI ad u) (wX cI ad (delS u k)) (delR u k) := by
  have ok := inv.1
  obtain ⟨hM, hW, hHo, hAb, hLb, hRb, hDb⟩ := id ok
  refine lh_CIof (cc := cX1_deliver) (maxL := 2) (ret := (some .int)) (own := RX1) (by decide) rfl rfl (Nat.le_of_ble_eq_true rfl) ?_
  intro p e s m below meth c A ls hx hb hr hlk hts hown hml hK hN hA hP hD hS hl
  have fX1_31 := hts (.fieldLink RX1 31 "LostHosts" "letters" "LLostHosts$Letters;") (by decide +kernel)
  have hinX1 : ∀ w ∈ u_ws RX1 TX1 10, w ∈ wsX1_deliver := by decide +kernel
  have hl : lv_has ls 2 [(0, .ref (ad 0)), (1, .int (k))] := hl
  refine lv_aload_n hx hb dX1_deliver_0 rfl (lv_at hl 0 rfl) ?_
  refine va_get (D := D) (ci := 1) (v := .ref (ad 5)) (C := RX1) (T := TX1) (N := 10) hx hb hts hinX1 hown hK hP 0 rfl rfl 4 (by decide) fX1_31 (fun _ h9 => h9) rfl dX1_deliver_1 ?_
  refine lv_iload_n hx hb dX1_deliver_4 rfl (lv_at hl 1 rfl) ?_
  refine lh_cVi ⟨hx, hb, hml, hown, hts⟩ (kX0_has l D cI ad u k ok) (cwV 1 hts gX1_deliver_X0_has rfl rfl rfl (by decide +kernel) ⟨Nat.le_of_ble_eq_true rfl, Nat.le_of_ble_eq_true rfl⟩) hK hN hP hD hS hA 5 0 rfl rfl rfl rfl hl.1 rfl (Nat.le_of_ble_eq_true rfl) ⟨Nat.le_of_ble_eq_true rfl, Nat.le_of_ble_eq_true rfl⟩ dX1_deliver_5 (fun H locs hP hD hS => ?_)
  refine lv_if_ne (tgt := 13) hx hb dX1_deliver_8 (by decide) (fun c_1 => ?_) (fun c_1 => ?_)
  · have c_1 : (isLe u k) = true := b2i_n0 c_1
    obtain ⟨k1, hk1, ek1⟩ := isLe_ex hW c_1
    subst ek1
    have ek1 : (nI k1).toNatClampNeg = k1 := nI_clamp (by omega)
    refine lv_aload_n hx hb dX1_deliver_13 rfl (lv_at hl 0 rfl) ?_
    refine lv_iload_n hx hb dX1_deliver_14 rfl (lv_at hl 1 rfl) ?_
    refine lh_cVi ⟨hx, hb, hml, hown, hts⟩ (kX1_arrive l D cI ad u k1 ok (by omega)) (cwV 1 hts gX1_deliver_X1_arrive rfl rfl rfl (by decide +kernel) ⟨Nat.le_of_ble_eq_true rfl, Nat.le_of_ble_eq_true rfl⟩) hK hN hP hD hS hA 0 1 rfl rfl rfl rfl hl.1 rfl (Nat.le_of_ble_eq_true rfl) ⟨Nat.le_of_ble_eq_true rfl, Nat.le_of_ble_eq_true rfl⟩ dX1_deliver_15 (fun H locs hP hD hS => ?_)
    have hP : va_P D vwCl (wX cI ad (arr u k1)) H := hP
    have hD : va_D A (wX cI ad (arr u k1)) := hD
    exact lh_ri hx hb hr hlk hK hP hD hS (by first | (simp [nI_0, nI_o, delR, c_1, ek1]; done) | (simp [nI_0, nI_o, delR, c_1, ek1]; rfl)) (by first | (simp [nI_0, nI_o, delS, c_1, ek1]; done) | (simp [nI_0, nI_o, delS, c_1, ek1]; rfl)) dX1_deliver_18
  · have c_1 : (isLe u k) = false := b2i_e0 c_1
    refine lv_iconst (v := (-1)) hx hb dX1_deliver_11 (by decide) ?_
    exact lh_ri hx hb hr hlk hK hP hD hS (by first | (simp [nI_0, nI_o, delR, c_1]; done) | (simp [nI_0, nI_o, delR, c_1]; rfl)) (by first | (simp [nI_0, nI_o, delS, c_1]; done) | (simp [nI_0, nI_o, delS, c_1]; rfl)) dX1_deliver_12
set_option maxRecDepth 100000 in
set_option maxHeartbeats 4000000 in
theorem kX1_letter (l : Launch) (D : va_G) (cI : ClassId) (ad : Nat → Nat) (u : XS) (k : Int32) (w : Int32) (T : Nat) (inv : Inv T u) : CI l D [(cI, .int)] yX1_letter wsX1_letter ({ frames := 1, cells := 0, slots := 0, locals := 22 }) [.ref (ad 0), .int (k), .int (w)] (wX cI ad u) (wX cI ad u) (letR u k w) := by
  have ok := inv.1
  obtain ⟨hM, hW, hHo, hAb, hLb, hRb, hDb⟩ := id ok
  refine lh_CIof (cc := cX1_letter) (maxL := 3) (ret := (some .int)) (own := RX1) (by decide) rfl rfl (Nat.le_of_ble_eq_true rfl) ?_
  intro p e s m below meth c A ls hx hb hr hlk hts hown hml hK hN hA hP hD hS hl
  have fX1_31 := hts (.fieldLink RX1 31 "LostHosts" "letters" "LLostHosts$Letters;") (by decide +kernel)
  have fX0_121 := va_Nw.use (A := [.ref (ad 0), .int (k), .int (w)].toArray) rfl hN.2.1
  have fX0_124 := va_Nw.use (A := [.ref (ad 0), .int (k), .int (w)].toArray) rfl hN.2.2.1
  have fX0_127 := va_Nw.use (A := [.ref (ad 0), .int (k), .int (w)].toArray) rfl hN.2.2.2
  have hinX0 : ∀ w ∈ u_ws RX0 TX0 4, w ∈ wsX1_letter := by decide +kernel
  have hinX1 : ∀ w ∈ u_ws RX1 TX1 10, w ∈ wsX1_letter := by decide +kernel
  have hl : lv_has ls 3 [(0, .ref (ad 0)), (1, .int (k)), (2, .int (w))] := hl
  refine lv_aload_n hx hb dX1_letter_0 rfl (lv_at hl 0 rfl) ?_
  refine va_get (D := D) (ci := 1) (v := .ref (ad 5)) (C := RX1) (T := TX1) (N := 10) hx hb hts hinX1 hown hK hP 0 rfl rfl 4 (by decide) fX1_31 (fun _ h9 => h9) rfl dX1_letter_1 ?_
  refine lv_iload_n hx hb dX1_letter_4 rfl (lv_at hl 1 rfl) ?_
  refine lh_cVi ⟨hx, hb, hml, hown, hts⟩ (kX0_has l D cI ad u k ok) (cwV 1 hts gX1_letter_X0_has rfl rfl rfl (by decide +kernel) ⟨Nat.le_of_ble_eq_true rfl, Nat.le_of_ble_eq_true rfl⟩) hK hN hP hD hS hA 5 0 rfl rfl rfl rfl hl.1 rfl (Nat.le_of_ble_eq_true rfl) ⟨Nat.le_of_ble_eq_true rfl, Nat.le_of_ble_eq_true rfl⟩ dX1_letter_5 (fun H locs hP hD hS => ?_)
  refine lv_if_ne (tgt := 13) hx hb dX1_letter_8 (by decide) (fun c_1 => ?_) (fun c_1 => ?_)
  · have c_1 : (isLe u k) = true := b2i_n0 c_1
    obtain ⟨k1, hk1, ek1⟩ := isLe_ex hW c_1
    subst ek1
    have ek1 : (nI k1).toNatClampNeg = k1 := nI_clamp (by omega)
    refine lv_iload_n hx hb dX1_letter_13 rfl (lv_at hl 2 rfl) ?_
    rcases lh_sw (n := 5) (hi := 4) (x := w) (by decide) (by decide) with c_2 | c_2
    · refine lv_tableOut (tgt := 93) hx hb dX1_letter_14 c_2 (by decide) ?_
      refine lv_bipush (v := (-2)) hx hb dX1_letter_93 (by decide) ?_
      exact lh_ri hx hb hr hlk hK hP hD hS (by have hk := swO (n := 5) (hi := 4) (by decide) c_2 (by decide); simp [letR, hk 0 (by decide), hk 1 (by decide), hk 2 (by decide), hk 3 (by decide), hk 4 (by decide), c_1, ek1, c_2]) rfl dX1_letter_95
    · obtain ⟨c_2k, c_2l, c_2⟩ := c_2
      by_cases c_2e : c_2k = 0
      · subst c_2e
        refine lv_tableIn (off := 34) (tgt := 48) hx hb dX1_letter_14 (by rw [c_2]; decide) (by rw [c_2]; decide) (by rw [c_2]; decide) (by decide) ?_
        refine lv_aload_n hx hb dX1_letter_48 rfl (lv_at hl 0 rfl) ?_
        refine va_get (D := D) (ci := 1) (v := .ref (ad 5)) (C := RX1) (T := TX1) (N := 10) hx hb hts hinX1 hown hK hP 0 rfl rfl 4 (by decide) fX1_31 (fun _ h9 => h9) rfl dX1_letter_49 ?_
        refine lv_iload_n hx hb dX1_letter_52 rfl (lv_at hl 1 rfl) ?_
        refine lh_cVi ⟨hx, hb, hml, hown, hts⟩ (kX0_kind l D cI ad u k1 (by omega)) (cwV 1 hts gX1_letter_X0_kind rfl rfl rfl (by decide +kernel) ⟨Nat.le_of_ble_eq_true rfl, Nat.le_of_ble_eq_true rfl⟩) hK hN hP hD hS hA 5 0 rfl rfl rfl rfl hl.1 rfl (Nat.le_of_ble_eq_true rfl) ⟨Nat.le_of_ble_eq_true rfl, Nat.le_of_ble_eq_true rfl⟩ dX1_letter_53 (fun H locs hP hD hS => ?_)
        exact lh_ri hx hb hr hlk hK hP hD hS (by first | (simp [letR, nI_eqL, c_1, ek1, c_2]; done) | (simp [letR, nI_eqL, b2i, c_1, ek1, c_2]; rfl)) rfl dX1_letter_56
      by_cases c_2e : c_2k = 1
      · subst c_2e
        refine lv_tableIn (off := 43) (tgt := 57) hx hb dX1_letter_14 (by rw [c_2]; decide) (by rw [c_2]; decide) (by rw [c_2]; decide) (by decide) ?_
        refine lv_aload_n hx hb dX1_letter_57 rfl (lv_at hl 0 rfl) ?_
        refine lv_iload_n hx hb dX1_letter_58 rfl (lv_at hl 1 rfl) ?_
        refine lh_cVi ⟨hx, hb, hml, hown, hts⟩ (kX1_goesTo l D cI ad u k1 ok (by omega)) (cwV 1 hts gX1_letter_X1_goesTo rfl rfl rfl (by decide +kernel) ⟨Nat.le_of_ble_eq_true rfl, Nat.le_of_ble_eq_true rfl⟩) hK hN hP hD hS hA 0 1 rfl rfl rfl rfl hl.1 rfl (Nat.le_of_ble_eq_true rfl) ⟨Nat.le_of_ble_eq_true rfl, Nat.le_of_ble_eq_true rfl⟩ dX1_letter_59 (fun H locs hP hD hS => ?_)
        exact lh_ri hx hb hr hlk hK hP hD hS (by first | (simp [letR, nI_eqL, c_1, ek1, c_2]; done) | (simp [letR, nI_eqL, b2i, c_1, ek1, c_2]; rfl)) rfl dX1_letter_62
      by_cases c_2e : c_2k = 2
      · subst c_2e
        refine lv_tableIn (off := 49) (tgt := 63) hx hb dX1_letter_14 (by rw [c_2]; decide) (by rw [c_2]; decide) (by rw [c_2]; decide) (by decide) ?_
        refine lv_aload_n hx hb dX1_letter_63 rfl (lv_at hl 0 rfl) ?_
        refine va_get (D := D) (ci := 1) (v := .ref (ad 5)) (C := RX1) (T := TX1) (N := 10) hx hb hts hinX1 hown hK hP 0 rfl rfl 4 (by decide) fX1_31 (fun _ h9 => h9) rfl dX1_letter_64 ?_
        refine va_getN (D := D) (ci := 0) (v := .ref (ad 8)) (C := RX0) (T := TX0) (N := 4) hx hb hts hinX0 hown hK hP 5 rfl rfl 2 (by decide) fX0_121 (fun _ h9 => h9) rfl dX1_letter_67 ?_
        refine lv_iload_n hx hb dX1_letter_70 rfl (lv_at hl 1 rfl) ?_
        refine lh_ild (k := k1) (N := 150) hx hb hK hP 8 0 rfl rfl (by omega) (by decide) dX1_letter_71 ?_
        refine W.eq (g2 := F0 m 72 ls (.int ((xLo u k1)) :: [])) rfl ?_
        exact lh_ri hx hb hr hlk hK hP hD hS (by first | (simp [letR, nI_eqL, c_1, ek1, c_2]; done) | (simp [letR, nI_eqL, b2i, c_1, ek1, c_2]; rfl)) rfl dX1_letter_72
      by_cases c_2e : c_2k = 3
      · subst c_2e
        refine lv_tableIn (off := 59) (tgt := 73) hx hb dX1_letter_14 (by rw [c_2]; decide) (by rw [c_2]; decide) (by rw [c_2]; decide) (by decide) ?_
        refine lv_aload_n hx hb dX1_letter_73 rfl (lv_at hl 0 rfl) ?_
        refine va_get (D := D) (ci := 1) (v := .ref (ad 5)) (C := RX1) (T := TX1) (N := 10) hx hb hts hinX1 hown hK hP 0 rfl rfl 4 (by decide) fX1_31 (fun _ h9 => h9) rfl dX1_letter_74 ?_
        refine va_getN (D := D) (ci := 0) (v := .ref (ad 6)) (C := RX0) (T := TX0) (N := 4) hx hb hts hinX0 hown hK hP 5 rfl rfl 0 (by decide) fX0_124 (fun _ h9 => h9) rfl dX1_letter_77 ?_
        refine lv_iload_n hx hb dX1_letter_80 rfl (lv_at hl 1 rfl) ?_
        refine lh_ild (k := k1) (N := 150) hx hb hK hP 6 0 rfl rfl (by omega) (by decide) dX1_letter_81 ?_
        refine W.eq (g2 := F0 m 82 ls (.int (nI (xAb u k1)) :: [])) rfl ?_
        exact lh_ri hx hb hr hlk hK hP hD hS (by first | (simp [letR, nI_eqL, c_1, ek1, c_2]; done) | (simp [letR, nI_eqL, b2i, c_1, ek1, c_2]; rfl)) rfl dX1_letter_82
      by_cases c_2e : c_2k = 4
      · subst c_2e
        refine lv_tableIn (off := 69) (tgt := 83) hx hb dX1_letter_14 (by rw [c_2]; decide) (by rw [c_2]; decide) (by rw [c_2]; decide) (by decide) ?_
        refine lv_aload_n hx hb dX1_letter_83 rfl (lv_at hl 0 rfl) ?_
        refine va_get (D := D) (ci := 1) (v := .ref (ad 5)) (C := RX1) (T := TX1) (N := 10) hx hb hts hinX1 hown hK hP 0 rfl rfl 4 (by decide) fX1_31 (fun _ h9 => h9) rfl dX1_letter_84 ?_
        refine va_getN (D := D) (ci := 0) (v := .ref (ad 7)) (C := RX0) (T := TX0) (N := 4) hx hb hts hinX0 hown hK hP 5 rfl rfl 1 (by decide) fX0_127 (fun _ h9 => h9) rfl dX1_letter_87 ?_
        refine lv_iload_n hx hb dX1_letter_90 rfl (lv_at hl 1 rfl) ?_
        refine lh_ild (k := k1) (N := 150) hx hb hK hP 7 0 rfl rfl (by omega) (by decide) dX1_letter_91 ?_
        refine W.eq (g2 := F0 m 92 ls (.int (rv (xRc u k1)) :: [])) rfl ?_
        exact lh_ri hx hb hr hlk hK hP hD hS (by first | (simp [letR, nI_eqL, c_1, ek1, c_2]; done) | (simp [letR, nI_eqL, b2i, c_1, ek1, c_2]; rfl)) rfl dX1_letter_92
      exact absurd c_2l (by omega)
  · have c_1 : (isLe u k) = false := b2i_e0 c_1
    refine lv_iconst (v := (-1)) hx hb dX1_letter_11 (by decide) ?_
    exact lh_ri hx hb hr hlk hK hP hD hS (by first | (simp [nI_0, nI_o, letR, c_1]; done) | (simp [nI_0, nI_o, letR, c_1]; rfl)) rfl dX1_letter_12
set_option maxRecDepth 100000 in
set_option maxHeartbeats 4000000 in
theorem kX1_collect (l : Launch) (D : va_G) (cI : ClassId) (ad : Nat → Nat) (u : XS) (h : Int32) (T : Nat) (inv : Inv T u) : CI l D [(cI, .int)] yX1_collect wsX1_collect ({ frames := 6, cells := 0, slots := 0, locals := 131 }) [.ref (ad 0), .int (h)] (wX cI ad u) (wX cI ad (clcS u h)) (clcR u h) := by
  have ok := inv.1
  obtain ⟨hM, hW, hHo, hAb, hLb, hRb, hDb⟩ := id ok
  refine lh_CIof (cc := cX1_collect) (maxL := 2) (ret := (some .int)) (own := RX1) (by decide) rfl rfl (Nat.le_of_ble_eq_true rfl) ?_
  intro p e s m below meth c A ls hx hb hr hlk hts hown hml hK hN hA hP hD hS hl
  have hl : lv_has ls 2 [(0, .ref (ad 0)), (1, .int (h))] := hl
  refine lv_iload_n hx hb dX1_collect_0 rfl (lv_at hl 1 rfl) ?_
  refine lh_cSi ⟨hx, hb, hml, hown, hts⟩ (kX1_isHost l D _ _ h) (va_cwS 1 hts gX1_collect_X1_isHost rfl rfl rfl (by decide +kernel) ⟨Nat.le_of_ble_eq_true rfl, Nat.le_of_ble_eq_true rfl⟩) hK hN hP hD hS hA rfl hl.1 rfl (Nat.le_of_ble_eq_true rfl) ⟨Nat.le_of_ble_eq_true rfl, Nat.le_of_ble_eq_true rfl⟩ dX1_collect_1 (fun H locs hP hD hS => ?_)
  refine lv_if_ne (tgt := 9) hx hb dX1_collect_4 (by decide) (fun c_1 => ?_) (fun c_1 => ?_)
  · have c_1 : (isHo h) = true := b2i_n0 c_1
    obtain ⟨h1, hh1, eh1⟩ := isHo_ex c_1
    subst eh1
    have eh1 : (nI h1).toNatClampNeg = h1 := nI_clamp (by omega)
    refine lv_aload_n hx hb dX1_collect_9 rfl (lv_at hl 0 rfl) ?_
    refine lv_iload_n hx hb dX1_collect_10 rfl (lv_at hl 1 rfl) ?_
    refine lh_cVi ⟨hx, hb, hml, hown, hts⟩ (kX1_isDead l D cI ad u h1 (by omega)) (cwV 1 hts gX1_collect_X1_isDead rfl rfl rfl (by decide +kernel) ⟨Nat.le_of_ble_eq_true rfl, Nat.le_of_ble_eq_true rfl⟩) hK hN hP hD hS hA 0 1 rfl rfl rfl rfl hl.1 rfl (Nat.le_of_ble_eq_true rfl) ⟨Nat.le_of_ble_eq_true rfl, Nat.le_of_ble_eq_true rfl⟩ dX1_collect_11 (fun H locs hP hD hS => ?_)
    refine lv_if_eq (tgt := 20) hx hb dX1_collect_14 (by decide) (fun c_2 => ?_) (fun c_2 => ?_)
    · have c_2 : ((xD u).testBit h1) = false := b2i_e0 c_2
      refine lv_aload_n hx hb dX1_collect_20 rfl (lv_at hl 0 rfl) ?_
      refine lv_iload_n hx hb dX1_collect_21 rfl (lv_at hl 1 rfl) ?_
      refine lh_cVi ⟨hx, hb, hml, hown, hts⟩ (kX1_collectOn l D cI ad u h1 ok (by omega) (by exact Inv_W inv)) (cwV 1 hts gX1_collect_X1_collectOn rfl rfl rfl (by decide +kernel) ⟨Nat.le_of_ble_eq_true rfl, Nat.le_of_ble_eq_true rfl⟩) hK hN hP hD hS hA 0 1 rfl rfl rfl rfl hl.1 rfl (Nat.le_of_ble_eq_true rfl) ⟨Nat.le_of_ble_eq_true rfl, Nat.le_of_ble_eq_true rfl⟩ dX1_collect_22 (fun H locs hP hD hS => ?_)
      have hP : va_P D vwCl (wX cI ad (colS u h1)) H := hP
      have hD : va_D A (wX cI ad (colS u h1)) := hD
      exact lh_ri hx hb hr hlk hK hP hD hS (by first | (simp [nI_0, nI_o, clcR, c_1, eh1, c_2]; done) | (simp [nI_0, nI_o, clcR, c_1, eh1, c_2]; rfl)) (by first | (simp [nI_0, nI_o, clcS, c_1, eh1, c_2]; done) | (simp [nI_0, nI_o, clcS, c_1, eh1, c_2]; rfl)) dX1_collect_25
    · have c_2 : ((xD u).testBit h1) = true := b2i_n0 c_2
      refine lv_bipush (v := (-3)) hx hb dX1_collect_17 (by decide) ?_
      exact lh_ri hx hb hr hlk hK hP hD hS (by first | (simp [nI_0, nI_o, clcR, c_1, eh1, c_2]; done) | (simp [nI_0, nI_o, clcR, c_1, eh1, c_2]; rfl)) (by first | (simp [nI_0, nI_o, clcS, c_1, eh1, c_2]; done) | (simp [nI_0, nI_o, clcS, c_1, eh1, c_2]; rfl)) dX1_collect_19
  · have c_1 : (isHo h) = false := b2i_e0 c_1
    refine lv_iconst (v := (-1)) hx hb dX1_collect_7 (by decide) ?_
    exact lh_ri hx hb hr hlk hK hP hD hS (by first | (simp [nI_0, nI_o, clcR, c_1]; done) | (simp [nI_0, nI_o, clcR, c_1]; rfl)) (by first | (simp [nI_0, nI_o, clcS, c_1]; done) | (simp [nI_0, nI_o, clcS, c_1]; rfl)) dX1_collect_8
set_option maxRecDepth 100000 in
set_option maxHeartbeats 4000000 in
theorem kX1_stays (l : Launch) (D : va_G) (cI : ClassId) (ad : Nat → Nat) (u : XS) (h : Int32) (T : Nat) (inv : Inv T u) : CI l D [(cI, .int)] yX1_stays wsX1_stays ({ frames := 5, cells := 0, slots := 0, locals := 107 }) [.ref (ad 0), .int (h)] (wX cI ad u) (wX cI ad u) (staR u h) := by
  have ok := inv.1
  obtain ⟨hM, hW, hHo, hAb, hLb, hRb, hDb⟩ := id ok
  refine lh_CIof (cc := cX1_stays) (maxL := 2) (ret := (some .int)) (own := RX1) (by decide) rfl rfl (Nat.le_of_ble_eq_true rfl) ?_
  intro p e s m below meth c A ls hx hb hr hlk hts hown hml hK hN hA hP hD hS hl
  have hl : lv_has ls 2 [(0, .ref (ad 0)), (1, .int (h))] := hl
  refine lv_iload_n hx hb dX1_stays_0 rfl (lv_at hl 1 rfl) ?_
  refine lh_cSi ⟨hx, hb, hml, hown, hts⟩ (kX1_isHost l D _ _ h) (va_cwS 1 hts gX1_stays_X1_isHost rfl rfl rfl (by decide +kernel) ⟨Nat.le_of_ble_eq_true rfl, Nat.le_of_ble_eq_true rfl⟩) hK hN hP hD hS hA rfl hl.1 rfl (Nat.le_of_ble_eq_true rfl) ⟨Nat.le_of_ble_eq_true rfl, Nat.le_of_ble_eq_true rfl⟩ dX1_stays_1 (fun H locs hP hD hS => ?_)
  refine lv_if_ne (tgt := 9) hx hb dX1_stays_4 (by decide) (fun c_1 => ?_) (fun c_1 => ?_)
  · have c_1 : (isHo h) = true := b2i_n0 c_1
    obtain ⟨h1, hh1, eh1⟩ := isHo_ex c_1
    subst eh1
    have eh1 : (nI h1).toNatClampNeg = h1 := nI_clamp (by omega)
    refine lv_aload_n hx hb dX1_stays_9 rfl (lv_at hl 0 rfl) ?_
    refine lv_iload_n hx hb dX1_stays_10 rfl (lv_at hl 1 rfl) ?_
    refine lh_cVi ⟨hx, hb, hml, hown, hts⟩ (kX1_staying l D cI ad u h1 ok (by omega)) (cwV 1 hts gX1_stays_X1_staying rfl rfl rfl (by decide +kernel) ⟨Nat.le_of_ble_eq_true rfl, Nat.le_of_ble_eq_true rfl⟩) hK hN hP hD hS hA 0 1 rfl rfl rfl rfl hl.1 rfl (Nat.le_of_ble_eq_true rfl) ⟨Nat.le_of_ble_eq_true rfl, Nat.le_of_ble_eq_true rfl⟩ dX1_stays_11 (fun H locs hP hD hS => ?_)
    exact lh_ri hx hb hr hlk hK hP hD hS (by first | (simp [nI_0, nI_o, staR, c_1, eh1]; done) | (simp [nI_0, nI_o, staR, c_1, eh1]; rfl)) rfl dX1_stays_14
  · have c_1 : (isHo h) = false := b2i_e0 c_1
    refine lv_iconst (v := (-1)) hx hb dX1_stays_7 (by decide) ?_
    exact lh_ri hx hb hr hlk hK hP hD hS (by first | (simp [nI_0, nI_o, staR, c_1]; done) | (simp [nI_0, nI_o, staR, c_1]; rfl)) rfl dX1_stays_8
set_option maxRecDepth 100000 in
set_option maxHeartbeats 4000000 in
theorem kX1_old (l : Launch) (D : va_G) (cI : ClassId) (ad : Nat → Nat) (u : XS) (h : Int32) (v : Int32) (T : Nat) (inv : Inv T u) : CI l D [(cI, .int)] yX1_old wsX1_old ({ frames := 4, cells := 0, slots := 0, locals := 84 }) [.ref (ad 0), .int (h), .int (v)] (wX cI ad u) (wX cI ad u) (oldR u h v) := by
  have ok := inv.1
  obtain ⟨hM, hW, hHo, hAb, hLb, hRb, hDb⟩ := id ok
  refine lh_CIof (cc := cX1_old) (maxL := 5) (ret := (some .int)) (own := RX1) (by decide) rfl rfl (Nat.le_of_ble_eq_true rfl) ?_
  intro p e s m below meth c A ls hx hb hr hlk hts hown hml hK hN hA hP hD hS hl
  have fX1_35 := hts (.fieldLink RX1 35 "LostHosts" "made" "I") (by decide +kernel)
  have fX1_16 := hts (.fieldLink RX1 16 "LostHosts" "age" "[I") (by decide +kernel)
  have hinX1 : ∀ w ∈ u_ws RX1 TX1 10, w ∈ wsX1_old := by decide +kernel
  have hl : lv_has ls 5 [(0, .ref (ad 0)), (1, .int (h)), (2, .int (v))] := hl
  refine lv_iload_n hx hb dX1_old_0 rfl (lv_at hl 1 rfl) ?_
  refine lh_cSi ⟨hx, hb, hml, hown, hts⟩ (kX1_isHost l D _ _ h) (va_cwS 1 hts gX1_old_X1_isHost rfl rfl rfl (by decide +kernel) ⟨Nat.le_of_ble_eq_true rfl, Nat.le_of_ble_eq_true rfl⟩) hK hN hP hD hS hA rfl hl.1 rfl (Nat.le_of_ble_eq_true rfl) ⟨Nat.le_of_ble_eq_true rfl, Nat.le_of_ble_eq_true rfl⟩ dX1_old_1 (fun H locs hP hD hS => ?_)
  refine lv_if_ne (tgt := 9) hx hb dX1_old_4 (by decide) (fun c_1 => ?_) (fun c_1 => ?_)
  · have c_1 : (isHo h) = true := b2i_n0 c_1
    obtain ⟨h1, hh1, eh1⟩ := isHo_ex c_1
    subst eh1
    have eh1 : (nI h1).toNatClampNeg = h1 := nI_clamp (by omega)
    refine lv_iload_n hx hb dX1_old_9 rfl (lv_at hl 2 rfl) ?_
    refine lv_if_lt (tgt := 19) hx hb dX1_old_10 (by decide) (fun c_2 => ?_) (fun c_2 => ?_)
    · have c_2r := c_2
      refine lv_bipush (v := (-2)) hx hb dX1_old_19 (by decide) ?_
      exact lh_ri hx hb hr hlk hK hP hD hS (by (simp [oldR, c_1, eh1, c_2])) rfl dX1_old_21
    · have c_2r := c_2
      refine lv_iload_n hx hb dX1_old_13 rfl (lv_at hl 2 rfl) ?_
      refine lv_bipush (v := nI 9) hx hb dX1_old_14 (by decide) ?_
      refine lv_icmp_le (tgt := 22) hx hb dX1_old_16 (by decide) (fun c_3 => ?_) (fun c_3 => ?_)
      · have c_3r := c_3
        refine lv_iconst (v := nI 0) hx hb dX1_old_22 (by decide) ?_
        refine lv_istore_n (lv' := [(3, .int (nI 0)), (0, .ref (ad 0)), (1, .int (nI h1)), (2, .int (v))]) hx hb dX1_old_23 rfl hl (by decide) rfl (fun ls hl => ?_)
        refine lv_iconst (v := nI 0) hx hb dX1_old_24 (by decide) ?_
        refine lv_istore (lv' := [(4, .int (nI 0)), (3, .int (nI 0)), (0, .ref (ad 0)), (1, .int (nI h1)), (2, .int (v))]) hx hb dX1_old_25 hl (by decide) rfl (fun ls hl => ?_)
        have L27 : ∀ (n : Nat) (k : Nat) (acc : Nat), xM u - k < n → (k ≤ xM u) → (acc = mk (oldP u h1 v) k) → ∀ (H : Heap) (locs : List Loc), va_P D vwCl (wX cI ad u) H → va_D A (wX cI ad u) → va_S A s.heap H locs → ∀ (ls : Array Slot), lv_has ls 5 [(4, .int (nI k)), (3, .int (nI acc)), (0, .ref (ad 0)), (1, .int (nI h1)), (2, .int (v))] → W p l e ({ frames := 4, cells := 0, slots := 0, locals := 84 }) s m [.ref (ad 0), .int ((nI h1)), .int (v)].toArray below meth c H locs 0 0 (QI below D [(cI, .int)] A (wX cI ad u) (oldR u (nI h1) v) [.ref (ad 0), .int ((nI h1)), .int (v)].toArray s) (F0 m 27 ls []) := by
          intro n
          induction n with
          | zero => intro k acc hmu; exact absurd hmu (Nat.not_lt_zero _)
          | succ n ih27 =>
            intro k acc hmu27 hk hacc H locs hP hD hS ls hl
            refine lv_iload hx hb dX1_old_27 (lv_at hl 0 rfl) ?_
            refine lv_aload_n hx hb dX1_old_29 rfl (lv_at hl 2 rfl) ?_
            refine va_get (D := D) (ci := 1) (v := .int (nI (xM u))) (C := RX1) (T := TX1) (N := 10) hx hb hts hinX1 hown hK hP 0 rfl rfl 5 (by decide) fX1_35 (fun _ h9 => h9) rfl dX1_old_30 ?_
            refine lv_icmp_ge (tgt := 71) hx hb dX1_old_33 (by decide) (fun c_4 => ?_) (fun c_4 => ?_)
            · have c_4 : xM u ≤ k := (nI_leI (by omega) (by omega)).mp c_4
              have c_4n : ¬ k < xM u := by omega
              refine lv_iload_n hx hb dX1_old_71 rfl (lv_at hl 1 rfl) ?_
              exact lh_ri hx hb hr hlk hK hP hD hS (by rw [hacc, show k = xM u by omega]; first | (simp [oldR, c_1, eh1, c_2, c_3, c_4n, c_4]; done) | (simp [oldR, Int32.not_lt, Int32.not_le, c_1, eh1, c_2, c_3, c_4n, c_4]; done)) rfl dX1_old_72
            · have c_4 : k < xM u := Nat.lt_of_not_le (fun h => c_4 ((nI_leI (by omega) (by omega)).mpr h))
              refine lv_aload_n hx hb dX1_old_36 rfl (lv_at hl 2 rfl) ?_
              refine lv_iload hx hb dX1_old_37 (lv_at hl 0 rfl) ?_
              refine lv_iload_n hx hb dX1_old_39 rfl (lv_at hl 3 rfl) ?_
              refine lh_cVi ⟨hx, hb, hml, hown, hts⟩ (kX1_livesOn l D cI ad u k h1 ok (by omega) (by omega)) (cwV 2 hts gX1_old_X1_livesOn rfl rfl rfl (by decide +kernel) ⟨Nat.le_of_ble_eq_true rfl, Nat.le_of_ble_eq_true rfl⟩) hK hN hP hD hS hA 0 1 rfl rfl rfl rfl hl.1 rfl (Nat.le_of_ble_eq_true rfl) ⟨Nat.le_of_ble_eq_true rfl, Nat.le_of_ble_eq_true rfl⟩ dX1_old_40 (fun H locs hP hD hS => ?_)
              refine lv_if_eq (tgt := 65) hx hb dX1_old_43 (by decide) (fun c_5 => ?_) (fun c_5 => ?_)
              · have c_5 : (lvo u k h1) = false := b2i_e0 c_5
                refine lv_iinc (v := nI (k + 1)) (lv' := [(4, .int (nI (k + 1))), (3, .int (nI acc)), (0, .ref (ad 0)), (1, .int (nI h1)), (2, .int (v))]) hx hb dX1_old_65 hl (k := 0) rfl (lh_inc _) (by decide) rfl (fun ls hl => ?_)
                refine lv_goto (tgt := 27) hx hb dX1_old_68 (by decide) ?_
                exact ih27 (k + 1) acc (by omega) (by omega) (by first | exact lh_mkt hacc (by simp [oldP, c_1, eh1, c_2, c_3, c_4, c_5]) | exact lh_mkf hacc (by simp [oldP, c_1, eh1, c_2, c_3, c_4, c_5])) _ _ hP hD hS ls (lv_sub hl [0, 1, 2, 3, 4] rfl)
              · have c_5 : (lvo u k h1) = true := b2i_n0 c_5
                refine lv_aload_n hx hb dX1_old_46 rfl (lv_at hl 2 rfl) ?_
                refine va_get (D := D) (ci := 1) (v := .ref (ad 3)) (C := RX1) (T := TX1) (N := 10) hx hb hts hinX1 hown hK hP 0 rfl rfl 2 (by decide) fX1_16 (fun _ h9 => h9) rfl dX1_old_47 ?_
                refine lv_iload hx hb dX1_old_50 (lv_at hl 0 rfl) ?_
                refine lh_ild (k := k) (N := 10) hx hb hK hP 3 0 rfl rfl (by omega) (by decide) dX1_old_52 ?_
                refine W.eq (g2 := F0 m 53 ls (.int ((xAg u k)) :: [])) rfl ?_
                refine lv_iload_n hx hb dX1_old_53 rfl (lv_at hl 4 rfl) ?_
                refine lv_icmp_lt (tgt := 65) hx hb dX1_old_54 (by decide) (fun c_6 => ?_) (fun c_6 => ?_)
                · have c_6r := c_6
                  refine lv_iinc (v := nI (k + 1)) (lv' := [(4, .int (nI (k + 1))), (3, .int (nI acc)), (0, .ref (ad 0)), (1, .int (nI h1)), (2, .int (v))]) hx hb dX1_old_65 hl (k := 0) rfl (lh_inc _) (by decide) rfl (fun ls hl => ?_)
                  refine lv_goto (tgt := 27) hx hb dX1_old_68 (by decide) ?_
                  exact ih27 (k + 1) acc (by omega) (by omega) (by first | exact lh_mkt hacc (by simp [oldP, c_1, eh1, c_2, c_3, c_4, c_5, c_6]) | exact lh_mkf hacc (by simp [oldP, c_1, eh1, c_2, c_3, c_4, c_5, c_6])) _ _ hP hD hS ls (lv_sub hl [0, 1, 2, 3, 4] rfl)
                · have c_6r := c_6
                  refine lv_iload_n hx hb dX1_old_57 rfl (lv_at hl 1 rfl) ?_
                  refine lv_iload hx hb dX1_old_58 (lv_at hl 0 rfl) ?_
                  refine lh_cSi ⟨hx, hb, hml, hown, hts⟩ (kX1_bit l D _ _ k (by omega)) (va_cwS 1 hts gX1_old_X1_bit rfl rfl rfl (by decide +kernel) ⟨Nat.le_of_ble_eq_true rfl, Nat.le_of_ble_eq_true rfl⟩) hK hN hP hD hS hA rfl hl.1 rfl (Nat.le_of_ble_eq_true rfl) ⟨Nat.le_of_ble_eq_true rfl, Nat.le_of_ble_eq_true rfl⟩ dX1_old_60 (fun H locs hP hD hS => ?_)
                  refine lv_ior hx hb dX1_old_63 ?_
                  refine lh_top (y := nI (acc ||| (2 ^ k))) (fa_or _ _) ?_
                  refine lv_istore_n (lv' := [(3, .int (nI (acc ||| (2 ^ k)))), (4, .int (nI k)), (0, .ref (ad 0)), (1, .int (nI h1)), (2, .int (v))]) hx hb dX1_old_64 rfl hl (by decide) rfl (fun ls hl => ?_)
                  refine lv_iinc (v := nI (k + 1)) (lv' := [(4, .int (nI (k + 1))), (3, .int (nI (acc ||| (2 ^ k)))), (0, .ref (ad 0)), (1, .int (nI h1)), (2, .int (v))]) hx hb dX1_old_65 hl (k := 1) rfl (lh_inc _) (by decide) rfl (fun ls hl => ?_)
                  refine lv_goto (tgt := 27) hx hb dX1_old_68 (by decide) ?_
                  exact ih27 (k + 1) (acc ||| (2 ^ k)) (by omega) (by omega) (by first | exact lh_mkt hacc (by simp [oldP, c_1, eh1, c_2, c_3, c_4, c_5, c_6]) | exact lh_mkf hacc (by simp [oldP, c_1, eh1, c_2, c_3, c_4, c_5, c_6])) _ _ hP hD hS ls (lv_sub hl [0, 1, 2, 3, 4] rfl)
        exact L27 _ 0 0 (Nat.lt_succ_self _) (by omega) (by rfl) _ _ hP hD hS ls (lv_sub hl [0, 1, 2, 3, 4] rfl)
      · have c_3r := c_3
        refine lv_bipush (v := (-2)) hx hb dX1_old_19 (by decide) ?_
        exact lh_ri hx hb hr hlk hK hP hD hS (by (simp [oldR, c_1, eh1, c_2, c_3])) rfl dX1_old_21
  · have c_1 : (isHo h) = false := b2i_e0 c_1
    refine lv_iconst (v := (-1)) hx hb dX1_old_7 (by decide) ?_
    exact lh_ri hx hb hr hlk hK hP hD hS (by first | (simp [nI_0, nI_o, oldR, c_1]; done) | (simp [nI_0, nI_o, oldR, c_1]; rfl)) rfl dX1_old_8
set_option maxRecDepth 100000 in
set_option maxHeartbeats 4000000 in
theorem kX1_trace (l : Launch) (D : va_G) (cI : ClassId) (ad : Nat → Nat) (u : XS) (b : Int32) (T : Nat) (inv : Inv T u) : CI l D [(cI, .int)] yX1_trace wsX1_trace ({ frames := 4, cells := 0, slots := 0, locals := 90 }) [.ref (ad 0), .int (b)] (wX cI ad u) (wX cI ad (traS u b)) (traR u b) := by
  have ok := inv.1
  obtain ⟨hM, hW, hHo, hAb, hLb, hRb, hDb⟩ := id ok
  refine lh_CIof (cc := cX1_trace) (maxL := 3) (ret := (some .int)) (own := RX1) (by decide) rfl rfl (Nat.le_of_ble_eq_true rfl) ?_
  intro p e s m below meth c A ls hx hb hr hlk hts hown hml hK hN hA hP hD hS hl
  have hl : lv_has ls 3 [(0, .ref (ad 0)), (1, .int (b))] := hl
  refine lv_aload_n hx hb dX1_trace_0 rfl (lv_at hl 0 rfl) ?_
  refine lv_iload_n hx hb dX1_trace_1 rfl (lv_at hl 1 rfl) ?_
  refine lh_cVi ⟨hx, hb, hml, hown, hts⟩ (kX1_isObject l D cI ad u b) (cwV 1 hts gX1_trace_X1_isObject rfl rfl rfl (by decide +kernel) ⟨Nat.le_of_ble_eq_true rfl, Nat.le_of_ble_eq_true rfl⟩) hK hN hP hD hS hA 0 1 rfl rfl rfl rfl hl.1 rfl (Nat.le_of_ble_eq_true rfl) ⟨Nat.le_of_ble_eq_true rfl, Nat.le_of_ble_eq_true rfl⟩ dX1_trace_2 (fun H locs hP hD hS => ?_)
  refine lv_if_ne (tgt := 10) hx hb dX1_trace_5 (by decide) (fun c_1 => ?_) (fun c_1 => ?_)
  · have c_1 : (isObj u b) = true := b2i_n0 c_1
    obtain ⟨b1, hb1, eb1⟩ := isObj_ex hM c_1
    subst eb1
    have eb1 : (nI b1).toNatClampNeg = b1 := nI_clamp (by omega)
    refine lv_aload_n hx hb dX1_trace_10 rfl (lv_at hl 0 rfl) ?_
    refine lv_iload_n hx hb dX1_trace_11 rfl (lv_at hl 1 rfl) ?_
    refine lh_cVi ⟨hx, hb, hml, hown, hts⟩ (kX1_isLive l D cI ad u b1 (by omega)) (cwV 1 hts gX1_trace_X1_isLive rfl rfl rfl (by decide +kernel) ⟨Nat.le_of_ble_eq_true rfl, Nat.le_of_ble_eq_true rfl⟩) hK hN hP hD hS hA 0 1 rfl rfl rfl rfl hl.1 rfl (Nat.le_of_ble_eq_true rfl) ⟨Nat.le_of_ble_eq_true rfl, Nat.le_of_ble_eq_true rfl⟩ dX1_trace_12 (fun H locs hP hD hS => ?_)
    refine lv_if_ne (tgt := 21) hx hb dX1_trace_15 (by decide) (fun c_2 => ?_) (fun c_2 => ?_)
    · have c_2 : ((xL u).testBit b1) = true := b2i_n0 c_2
      refine lv_aload_n hx hb dX1_trace_21 rfl (lv_at hl 0 rfl) ?_
      refine lv_iload_n hx hb dX1_trace_22 rfl (lv_at hl 1 rfl) ?_
      refine lh_cVi ⟨hx, hb, hml, hown, hts⟩ (kX1_backOf l D cI ad u b1 ok (by omega)) (cwV 1 hts gX1_trace_X1_backOf rfl rfl rfl (by decide +kernel) ⟨Nat.le_of_ble_eq_true rfl, Nat.le_of_ble_eq_true rfl⟩) hK hN hP hD hS hA 0 1 rfl rfl rfl rfl hl.1 rfl (Nat.le_of_ble_eq_true rfl) ⟨Nat.le_of_ble_eq_true rfl, Nat.le_of_ble_eq_true rfl⟩ dX1_trace_23 (fun H locs hP hD hS => ?_)
      refine lv_istore_n (lv' := [(2, .int (nI (clo (backR u) (2 ^ b1)))), (0, .ref (ad 0)), (1, .int (nI b1))]) hx hb dX1_trace_26 rfl hl (by decide) rfl (fun ls hl => ?_)
      refine lv_aload_n hx hb dX1_trace_27 rfl (lv_at hl 1 rfl) ?_
      refine lv_iload_n hx hb dX1_trace_28 rfl (lv_at hl 0 rfl) ?_
      refine lh_cVi ⟨hx, hb, hml, hown, hts⟩ (kX1_heldBy l D cI ad u (clo (backR u) (2 ^ b1)) ok (by exact clo_lt (pow_lt (by omega)))) (cwV 1 hts gX1_trace_X1_heldBy rfl rfl rfl (by decide +kernel) ⟨Nat.le_of_ble_eq_true rfl, Nat.le_of_ble_eq_true rfl⟩) hK hN hP hD hS hA 0 1 rfl rfl rfl rfl hl.1 rfl (Nat.le_of_ble_eq_true rfl) ⟨Nat.le_of_ble_eq_true rfl, Nat.le_of_ble_eq_true rfl⟩ dX1_trace_29 (fun H locs hP hD hS => ?_)
      refine lv_if_eq (tgt := 37) hx hb dX1_trace_32 (by decide) (fun c_3 => ?_) (fun c_3 => ?_)
      · have c_3 : (hel u (clo (backR u) (2 ^ b1))) = 0 := lh_z (by unfold hel; split <;> (try split) <;> omega) c_3
        refine lv_aload_n hx hb dX1_trace_37 rfl (lv_at hl 1 rfl) ?_
        refine lv_iload_n hx hb dX1_trace_38 rfl (lv_at hl 0 rfl) ?_
        refine lh_cVv ⟨hx, hb, hml, hown, hts⟩ (kX1_sendReturnsOf l D cI ad u (clo (backR u) (2 ^ b1)) (by exact hM) (by exact back_W inv (by omega) (by assumption))) (cwV 1 hts gX1_trace_X1_sendReturnsOf rfl rfl rfl (by decide +kernel) ⟨Nat.le_of_ble_eq_true rfl, Nat.le_of_ble_eq_true rfl⟩) hK hN hP hD hS hA 0 1 rfl rfl rfl rfl hl.1 rfl (Nat.le_of_ble_eq_true rfl) ⟨Nat.le_of_ble_eq_true rfl, Nat.le_of_ble_eq_true rfl⟩ dX1_trace_39 (fun H locs hP hD hS => ?_)
        have hP : va_P D vwCl (wX cI ad (sro u (clo (backR u) (2 ^ b1)))) H := hP
        have hD : va_D A (wX cI ad (sro u (clo (backR u) (2 ^ b1)))) := hD
        refine lv_aload_n hx hb dX1_trace_42 rfl (lv_at hl 1 rfl) ?_
        refine lv_iload_n hx hb dX1_trace_43 rfl (lv_at hl 0 rfl) ?_
        refine lh_cVi ⟨hx, hb, hml, hown, hts⟩ (kX1_becomeGone l D cI ad (sro u (clo (backR u) (2 ^ b1))) (clo (backR u) (2 ^ b1)) (okB_sro ok (back_W inv (by omega) (by assumption))) (by exact clo_lt (pow_lt (by omega)))) (cwV 1 hts gX1_trace_X1_becomeGone rfl rfl rfl (by decide +kernel) ⟨Nat.le_of_ble_eq_true rfl, Nat.le_of_ble_eq_true rfl⟩) hK hN hP hD hS hA 0 1 rfl rfl rfl rfl hl.1 rfl (Nat.le_of_ble_eq_true rfl) ⟨Nat.le_of_ble_eq_true rfl, Nat.le_of_ble_eq_true rfl⟩ dX1_trace_44 (fun H locs hP hD hS => ?_)
        have hP : va_P D vwCl (wX cI ad (bgo (sro u (clo (backR u) (2 ^ b1))) (clo (backR u) (2 ^ b1)))) H := hP
        have hD : va_D A (wX cI ad (bgo (sro u (clo (backR u) (2 ^ b1))) (clo (backR u) (2 ^ b1)))) := hD
        exact lh_ri hx hb hr hlk hK hP hD hS (by first | (simp [nI_0, nI_o, traR, c_1, eb1, c_2, c_3]; done) | (simp [nI_0, nI_o, traR, c_1, eb1, c_2, c_3]; rfl)) (by first | (simp [nI_0, nI_o, traS, c_1, eb1, c_2, c_3]; done) | (simp [nI_0, nI_o, traS, c_1, eb1, c_2, c_3]; rfl)) dX1_trace_47
      · have c_3 : ¬ (hel u (clo (backR u) (2 ^ b1))) = 0 := lh_nz c_3
        refine lv_iconst (v := nI 0) hx hb dX1_trace_35 (by decide) ?_
        exact lh_ri hx hb hr hlk hK hP hD hS (by first | (simp [nI_0, nI_o, traR, c_1, eb1, c_2, c_3]; done) | (simp [nI_0, nI_o, traR, c_1, eb1, c_2, c_3]; rfl)) (by first | (simp [nI_0, nI_o, traS, c_1, eb1, c_2, c_3]; done) | (simp [nI_0, nI_o, traS, c_1, eb1, c_2, c_3]; rfl)) dX1_trace_36
    · have c_2 : ((xL u).testBit b1) = false := b2i_e0 c_2
      refine lv_bipush (v := (-3)) hx hb dX1_trace_18 (by decide) ?_
      exact lh_ri hx hb hr hlk hK hP hD hS (by first | (simp [nI_0, nI_o, traR, c_1, eb1, c_2]; done) | (simp [nI_0, nI_o, traR, c_1, eb1, c_2]; rfl)) (by first | (simp [nI_0, nI_o, traS, c_1, eb1, c_2]; done) | (simp [nI_0, nI_o, traS, c_1, eb1, c_2]; rfl)) dX1_trace_20
  · have c_1 : (isObj u b) = false := b2i_e0 c_1
    refine lv_iconst (v := (-1)) hx hb dX1_trace_8 (by decide) ?_
    exact lh_ri hx hb hr hlk hK hP hD hS (by first | (simp [nI_0, nI_o, traR, c_1]; done) | (simp [nI_0, nI_o, traR, c_1]; rfl)) (by first | (simp [nI_0, nI_o, traS, c_1]; done) | (simp [nI_0, nI_o, traS, c_1]; rfl)) dX1_trace_9
set_option maxRecDepth 100000 in
set_option maxHeartbeats 4000000 in
theorem kX1_back (l : Launch) (D : va_G) (cI : ClassId) (ad : Nat → Nat) (u : XS) (b : Int32) (w : Int32) (T : Nat) (inv : Inv T u) : CI l D [(cI, .int)] yX1_back wsX1_back ({ frames := 4, cells := 0, slots := 0, locals := 90 }) [.ref (ad 0), .int (b), .int (w)] (wX cI ad u) (wX cI ad u) (bacR u b w) := by
  have ok := inv.1
  obtain ⟨hM, hW, hHo, hAb, hLb, hRb, hDb⟩ := id ok
  refine lh_CIof (cc := cX1_back) (maxL := 4) (ret := (some .int)) (own := RX1) (by decide) rfl rfl (Nat.le_of_ble_eq_true rfl) ?_
  intro p e s m below meth c A ls hx hb hr hlk hts hown hml hK hN hA hP hD hS hl
  have hl : lv_has ls 4 [(0, .ref (ad 0)), (1, .int (b)), (2, .int (w))] := hl
  refine lv_aload_n hx hb dX1_back_0 rfl (lv_at hl 0 rfl) ?_
  refine lv_iload_n hx hb dX1_back_1 rfl (lv_at hl 1 rfl) ?_
  refine lh_cVi ⟨hx, hb, hml, hown, hts⟩ (kX1_isObject l D cI ad u b) (cwV 1 hts gX1_back_X1_isObject rfl rfl rfl (by decide +kernel) ⟨Nat.le_of_ble_eq_true rfl, Nat.le_of_ble_eq_true rfl⟩) hK hN hP hD hS hA 0 1 rfl rfl rfl rfl hl.1 rfl (Nat.le_of_ble_eq_true rfl) ⟨Nat.le_of_ble_eq_true rfl, Nat.le_of_ble_eq_true rfl⟩ dX1_back_2 (fun H locs hP hD hS => ?_)
  refine lv_if_ne (tgt := 10) hx hb dX1_back_5 (by decide) (fun c_1 => ?_) (fun c_1 => ?_)
  · have c_1 : (isObj u b) = true := b2i_n0 c_1
    obtain ⟨b1, hb1, eb1⟩ := isObj_ex hM c_1
    subst eb1
    have eb1 : (nI b1).toNatClampNeg = b1 := nI_clamp (by omega)
    refine lv_iload_n hx hb dX1_back_10 rfl (lv_at hl 2 rfl) ?_
    refine lv_if_lt (tgt := 19) hx hb dX1_back_11 (by decide) (fun c_2 => ?_) (fun c_2 => ?_)
    · have c_2r := c_2
      refine lv_bipush (v := (-2)) hx hb dX1_back_19 (by decide) ?_
      exact lh_ri hx hb hr hlk hK hP hD hS (by first | (simp [bacR, c_1, eb1, c_2]; done) | (simp [bacR, (by decide : (0 : Int32) ≤ nI 1), c_1, eb1, c_2]; done)) rfl dX1_back_21
    · have c_2r := c_2
      refine lv_iload_n hx hb dX1_back_14 rfl (lv_at hl 2 rfl) ?_
      refine lv_iconst (v := nI 1) hx hb dX1_back_15 (by decide) ?_
      refine lv_icmp_le (tgt := 22) hx hb dX1_back_16 (by decide) (fun c_3 => ?_) (fun c_3 => ?_)
      · have c_3r := c_3
        refine lv_aload_n hx hb dX1_back_22 rfl (lv_at hl 0 rfl) ?_
        refine lv_iload_n hx hb dX1_back_23 rfl (lv_at hl 1 rfl) ?_
        refine lh_cVi ⟨hx, hb, hml, hown, hts⟩ (kX1_isLive l D cI ad u b1 (by omega)) (cwV 1 hts gX1_back_X1_isLive rfl rfl rfl (by decide +kernel) ⟨Nat.le_of_ble_eq_true rfl, Nat.le_of_ble_eq_true rfl⟩) hK hN hP hD hS hA 0 1 rfl rfl rfl rfl hl.1 rfl (Nat.le_of_ble_eq_true rfl) ⟨Nat.le_of_ble_eq_true rfl, Nat.le_of_ble_eq_true rfl⟩ dX1_back_24 (fun H locs hP hD hS => ?_)
        refine lv_if_ne (tgt := 33) hx hb dX1_back_27 (by decide) (fun c_4 => ?_) (fun c_4 => ?_)
        · have c_4 : ((xL u).testBit b1) = true := b2i_n0 c_4
          refine lv_aload_n hx hb dX1_back_33 rfl (lv_at hl 0 rfl) ?_
          refine lv_iload_n hx hb dX1_back_34 rfl (lv_at hl 1 rfl) ?_
          refine lh_cVi ⟨hx, hb, hml, hown, hts⟩ (kX1_backOf l D cI ad u b1 ok (by omega)) (cwV 1 hts gX1_back_X1_backOf rfl rfl rfl (by decide +kernel) ⟨Nat.le_of_ble_eq_true rfl, Nat.le_of_ble_eq_true rfl⟩) hK hN hP hD hS hA 0 1 rfl rfl rfl rfl hl.1 rfl (Nat.le_of_ble_eq_true rfl) ⟨Nat.le_of_ble_eq_true rfl, Nat.le_of_ble_eq_true rfl⟩ dX1_back_35 (fun H locs hP hD hS => ?_)
          refine lv_istore_n (lv' := [(3, .int (nI (clo (backR u) (2 ^ b1)))), (0, .ref (ad 0)), (1, .int (nI b1)), (2, .int (w))]) hx hb dX1_back_38 rfl hl (by decide) rfl (fun ls hl => ?_)
          refine lv_iload_n hx hb dX1_back_39 rfl (lv_at hl 3 rfl) ?_
          refine lv_if_ne (tgt := 47) hx hb dX1_back_40 (by decide) (fun c_5 => ?_) (fun c_5 => ?_)
          · have c_5r := c_5
            refine lv_aload_n hx hb dX1_back_47 rfl (lv_at hl 1 rfl) ?_
            refine lv_iload_n hx hb dX1_back_48 rfl (lv_at hl 0 rfl) ?_
            refine lh_cVi ⟨hx, hb, hml, hown, hts⟩ (kX1_heldBy l D cI ad u (clo (backR u) (2 ^ b1)) ok (by exact clo_lt (pow_lt (by omega)))) (cwV 1 hts gX1_back_X1_heldBy rfl rfl rfl (by decide +kernel) ⟨Nat.le_of_ble_eq_true rfl, Nat.le_of_ble_eq_true rfl⟩) hK hN hP hD hS hA 0 1 rfl rfl rfl rfl hl.1 rfl (Nat.le_of_ble_eq_true rfl) ⟨Nat.le_of_ble_eq_true rfl, Nat.le_of_ble_eq_true rfl⟩ dX1_back_49 (fun H locs hP hD hS => ?_)
            exact lh_ri hx hb hr hlk hK hP hD hS (by first | (simp [bacR, c_1, eb1, c_2, c_3, c_4, c_5]; done) | (simp [bacR, (by decide : (0 : Int32) ≤ nI 1), c_1, eb1, c_2, c_3, c_4, c_5]; done)) rfl dX1_back_52
          · have c_5r := c_5
            refine lv_iload_n hx hb dX1_back_43 rfl (lv_at hl 0 rfl) ?_
            refine lv_goto (tgt := 52) hx hb dX1_back_44 (by decide) ?_
            exact lh_ri hx hb hr hlk hK hP hD hS (by first | (simp [bacR, c_1, eb1, c_2, c_3, c_4, c_5]; done) | (simp [bacR, (by decide : (0 : Int32) ≤ nI 1), c_1, eb1, c_2, c_3, c_4, c_5]; done)) rfl dX1_back_52
        · have c_4 : ((xL u).testBit b1) = false := b2i_e0 c_4
          refine lv_bipush (v := (-3)) hx hb dX1_back_30 (by decide) ?_
          exact lh_ri hx hb hr hlk hK hP hD hS (by first | (simp [bacR, c_1, eb1, c_2, c_3, c_4]; done) | (simp [bacR, (by decide : (0 : Int32) ≤ nI 1), c_1, eb1, c_2, c_3, c_4]; done)) rfl dX1_back_32
      · have c_3r := c_3
        refine lv_bipush (v := (-2)) hx hb dX1_back_19 (by decide) ?_
        exact lh_ri hx hb hr hlk hK hP hD hS (by first | (simp [bacR, c_1, eb1, c_2, c_3]; done) | (simp [bacR, (by decide : (0 : Int32) ≤ nI 1), c_1, eb1, c_2, c_3]; done)) rfl dX1_back_21
  · have c_1 : (isObj u b) = false := b2i_e0 c_1
    refine lv_iconst (v := (-1)) hx hb dX1_back_8 (by decide) ?_
    exact lh_ri hx hb hr hlk hK hP hD hS (by first | (simp [bacR, c_1]; done) | (simp [bacR, (by decide : (0 : Int32) ≤ nI 1), c_1]; done)) rfl dX1_back_9
set_option maxRecDepth 100000 in
set_option maxHeartbeats 4000000 in
theorem kX1_kill (l : Launch) (D : va_G) (cI : ClassId) (ad : Nat → Nat) (u : XS) (h : Int32) (T : Nat) (inv : Inv T u) : CI l D [(cI, .int)] yX1_kill wsX1_kill ({ frames := 5, cells := 0, slots := 0, locals := 107 }) [.ref (ad 0), .int (h)] (wX cI ad u) (wX cI ad (kilS u h)) (kilR u h) := by
  have ok := inv.1
  obtain ⟨hM, hW, hHo, hAb, hLb, hRb, hDb⟩ := id ok
  refine lh_CIof (cc := cX1_kill) (maxL := 2) (ret := (some .int)) (own := RX1) (by decide) rfl rfl (Nat.le_of_ble_eq_true rfl) ?_
  intro p e s m below meth c A ls hx hb hr hlk hts hown hml hK hN hA hP hD hS hl
  have fX1_45 := hts (.fieldLink RX1 45 "LostHosts" "deadHosts" "I") (by decide +kernel)
  have hinX1 : ∀ w ∈ u_ws RX1 TX1 10, w ∈ wsX1_kill := by decide +kernel
  have hl : lv_has ls 2 [(0, .ref (ad 0)), (1, .int (h))] := hl
  refine lv_iload_n hx hb dX1_kill_0 rfl (lv_at hl 1 rfl) ?_
  refine lh_cSi ⟨hx, hb, hml, hown, hts⟩ (kX1_isHost l D _ _ h) (va_cwS 1 hts gX1_kill_X1_isHost rfl rfl rfl (by decide +kernel) ⟨Nat.le_of_ble_eq_true rfl, Nat.le_of_ble_eq_true rfl⟩) hK hN hP hD hS hA rfl hl.1 rfl (Nat.le_of_ble_eq_true rfl) ⟨Nat.le_of_ble_eq_true rfl, Nat.le_of_ble_eq_true rfl⟩ dX1_kill_1 (fun H locs hP hD hS => ?_)
  refine lv_if_ne (tgt := 9) hx hb dX1_kill_4 (by decide) (fun c_1 => ?_) (fun c_1 => ?_)
  · have c_1 : (isHo h) = true := b2i_n0 c_1
    obtain ⟨h1, hh1, eh1⟩ := isHo_ex c_1
    subst eh1
    have eh1 : (nI h1).toNatClampNeg = h1 := nI_clamp (by omega)
    refine lv_aload_n hx hb dX1_kill_9 rfl (lv_at hl 0 rfl) ?_
    refine lv_iload_n hx hb dX1_kill_10 rfl (lv_at hl 1 rfl) ?_
    refine lh_cVi ⟨hx, hb, hml, hown, hts⟩ (kX1_isDead l D cI ad u h1 (by omega)) (cwV 1 hts gX1_kill_X1_isDead rfl rfl rfl (by decide +kernel) ⟨Nat.le_of_ble_eq_true rfl, Nat.le_of_ble_eq_true rfl⟩) hK hN hP hD hS hA 0 1 rfl rfl rfl rfl hl.1 rfl (Nat.le_of_ble_eq_true rfl) ⟨Nat.le_of_ble_eq_true rfl, Nat.le_of_ble_eq_true rfl⟩ dX1_kill_11 (fun H locs hP hD hS => ?_)
    refine lv_if_eq (tgt := 20) hx hb dX1_kill_14 (by decide) (fun c_2 => ?_) (fun c_2 => ?_)
    · have c_2 : ((xD u).testBit h1) = false := b2i_e0 c_2
      refine lv_aload_n hx hb dX1_kill_20 rfl (lv_at hl 0 rfl) ?_
      refine lv_dup hx hb dX1_kill_21 rfl ?_
      refine va_get (D := D) (ci := 1) (v := .int (nI (xD u))) (C := RX1) (T := TX1) (N := 10) hx hb hts hinX1 hown hK hP 0 rfl rfl 8 (by decide) fX1_45 (fun _ h9 => h9) rfl dX1_kill_22 ?_
      refine lv_iload_n hx hb dX1_kill_25 rfl (lv_at hl 1 rfl) ?_
      refine lh_cSi ⟨hx, hb, hml, hown, hts⟩ (kX1_bit l D _ _ h1 (by omega)) (va_cwS 1 hts gX1_kill_X1_bit rfl rfl rfl (by decide +kernel) ⟨Nat.le_of_ble_eq_true rfl, Nat.le_of_ble_eq_true rfl⟩) hK hN hP hD hS hA rfl hl.1 rfl (Nat.le_of_ble_eq_true rfl) ⟨Nat.le_of_ble_eq_true rfl, Nat.le_of_ble_eq_true rfl⟩ dX1_kill_26 (fun H locs hP hD hS => ?_)
      refine lv_ior hx hb dX1_kill_29 ?_
      refine lh_top (y := nI (xD u ||| (2 ^ h1))) (fa_or _ _) ?_
      refine va_put (D := D) (ci := 1) (v := .int (nI (xD u ||| (2 ^ h1)))) (ty := .int) (C := RX1) (T := TX1) (N := 10) hx hb hts hinX1 tyX1 tyX1_ok nmX1 hown hK hP hD hS 0 rfl rfl 8 (by decide) fX1_45 (fun _ h9 => h9) rfl (by decide +kernel) rfl rfl (Nat.le_of_ble_eq_true rfl) dX1_kill_30 (fun H locs hP hD hS => ?_)
      have hP : va_P D vwCl (wX cI ad (sD u ((xD u ||| (2 ^ h1))))) H := hP
      have hD : va_D A (wX cI ad (sD u ((xD u ||| (2 ^ h1))))) := hD
      refine lv_aload_n hx hb dX1_kill_33 rfl (lv_at hl 0 rfl) ?_
      refine lv_aload_n hx hb dX1_kill_34 rfl (lv_at hl 0 rfl) ?_
      refine lv_iload_n hx hb dX1_kill_35 rfl (lv_at hl 1 rfl) ?_
      refine lh_cVi ⟨hx, hb, hml, hown, hts⟩ (kX1_livingOn l D cI ad (sD u ((xD u ||| (2 ^ h1)))) h1 (okB_sD ok hh1) (by omega)) (cwV 1 hts gX1_kill_X1_livingOn rfl rfl rfl (by decide +kernel) ⟨Nat.le_of_ble_eq_true rfl, Nat.le_of_ble_eq_true rfl⟩) hK hN hP hD hS hA 0 1 rfl rfl rfl rfl hl.1 rfl (Nat.le_of_ble_eq_true rfl) ⟨Nat.le_of_ble_eq_true rfl, Nat.le_of_ble_eq_true rfl⟩ dX1_kill_36 (fun H locs hP hD hS => ?_)
      refine lh_cVi ⟨hx, hb, hml, hown, hts⟩ (kX1_becomeGone l D cI ad (sD u ((xD u ||| (2 ^ h1)))) (onH (sD u ((xD u ||| (2 ^ h1)))) h1) (okB_sD ok hh1) (by exact onH_lt hM h1)) (cwV 1 hts gX1_kill_X1_becomeGone rfl rfl rfl (by decide +kernel) ⟨Nat.le_of_ble_eq_true rfl, Nat.le_of_ble_eq_true rfl⟩) hK hN hP hD hS hA 0 1 rfl rfl rfl rfl hl.1 rfl (Nat.le_of_ble_eq_true rfl) ⟨Nat.le_of_ble_eq_true rfl, Nat.le_of_ble_eq_true rfl⟩ dX1_kill_39 (fun H locs hP hD hS => ?_)
      have hP : va_P D vwCl (wX cI ad (bgo (sD u ((xD u ||| (2 ^ h1)))) (onH (sD u ((xD u ||| (2 ^ h1)))) h1))) H := hP
      have hD : va_D A (wX cI ad (bgo (sD u ((xD u ||| (2 ^ h1)))) (onH (sD u ((xD u ||| (2 ^ h1)))) h1))) := hD
      exact lh_ri hx hb hr hlk hK hP hD hS (by first | (simp [nI_0, nI_o, kilR, c_1, eh1, c_2]; done) | (simp [nI_0, nI_o, kilR, c_1, eh1, c_2]; rfl)) (by first | (simp [nI_0, nI_o, kilS, kilT, c_1, eh1, c_2]; done) | (simp [nI_0, nI_o, kilS, kilT, c_1, eh1, c_2]; rfl)) dX1_kill_42
    · have c_2 : ((xD u).testBit h1) = true := b2i_n0 c_2
      refine lv_bipush (v := (-3)) hx hb dX1_kill_17 (by decide) ?_
      exact lh_ri hx hb hr hlk hK hP hD hS (by first | (simp [nI_0, nI_o, kilR, c_1, eh1, c_2]; done) | (simp [nI_0, nI_o, kilR, c_1, eh1, c_2]; rfl)) (by first | (simp [nI_0, nI_o, kilS, kilT, c_1, eh1, c_2]; done) | (simp [nI_0, nI_o, kilS, kilT, c_1, eh1, c_2]; rfl)) dX1_kill_19
  · have c_1 : (isHo h) = false := b2i_e0 c_1
    refine lv_iconst (v := (-1)) hx hb dX1_kill_7 (by decide) ?_
    exact lh_ri hx hb hr hlk hK hP hD hS (by first | (simp [nI_0, nI_o, kilR, c_1]; done) | (simp [nI_0, nI_o, kilR, c_1]; rfl)) (by first | (simp [nI_0, nI_o, kilS, kilT, c_1]; done) | (simp [nI_0, nI_o, kilS, kilT, c_1]; rfl)) dX1_kill_8
set_option maxRecDepth 100000 in
set_option maxHeartbeats 4000000 in
theorem kX1_recover (l : Launch) (D : va_G) (cI : ClassId) (ad : Nat → Nat) (u : XS) (T : Nat) (inv : Inv T u) : CI l D [(cI, .int)] yX1_recover wsX1_recover ({ frames := 4, cells := 0, slots := 0, locals := 86 }) [.ref (ad 0)] (wX cI ad u) (wX cI ad (recS u)) (recR u) := by
  have ok := inv.1
  obtain ⟨hM, hW, hHo, hAb, hLb, hRb, hDb⟩ := id ok
  refine lh_CIof (cc := cX1_recover) (maxL := 4) (ret := (some .int)) (own := RX1) (by decide) rfl rfl (Nat.le_of_ble_eq_true rfl) ?_
  intro p e s m below meth c A ls hx hb hr hlk hts hown hml hK hN hA hP hD hS hl
  have fX1_35 := hts (.fieldLink RX1 35 "LostHosts" "made" "I") (by decide +kernel)
  have fX1_13 := hts (.fieldLink RX1 13 "LostHosts" "out" "[I") (by decide +kernel)
  have hinX1 : ∀ w ∈ u_ws RX1 TX1 10, w ∈ wsX1_recover := by decide +kernel
  have hl : lv_has ls 4 [(0, .ref (ad 0))] := hl
  refine lv_iconst (v := nI 0) hx hb dX1_recover_0 (by decide) ?_
  refine lv_istore_n (lv' := [(1, .int (nI 0)), (0, .ref (ad 0))]) hx hb dX1_recover_1 rfl hl (by decide) rfl (fun ls hl => ?_)
  refine lv_iconst (v := nI 0) hx hb dX1_recover_2 (by decide) ?_
  refine lv_istore_n (lv' := [(2, .int (nI 0)), (1, .int (nI 0)), (0, .ref (ad 0))]) hx hb dX1_recover_3 rfl hl (by decide) rfl (fun ls hl => ?_)
  have L4 : ∀ (n : Nat) (k : Nat) (less : Int32) (t : XS), xM u - k < n → (k ≤ xM u) → (less = sum (fun b => if (xL u).testBit b then xOu u b - held u b else 0) k) → (t = sOu u (recO u k)) → ∀ (H : Heap) (locs : List Loc), va_P D vwCl (wX cI ad t) H → va_D A (wX cI ad t) → va_S A s.heap H locs → ∀ (ls : Array Slot), lv_has ls 4 [(2, .int (nI k)), (1, .int (less)), (0, .ref (ad 0))] → W p l e ({ frames := 4, cells := 0, slots := 0, locals := 86 }) s m [.ref (ad 0)].toArray below meth c H locs 0 0 (QI below D [(cI, .int)] A (wX cI ad (recS u)) (recR u) [.ref (ad 0)].toArray s) (F0 m 4 ls []) := by
    intro n
    induction n with
    | zero => intro k less t hmu; exact absurd hmu (Nat.not_lt_zero _)
    | succ n ih4 =>
      intro k less t hmu4 hk hless ht H locs hP hD hS ls hl
      have htM : xM t = xM u := by rw [ht]
      have okt : okB t := by rw [ht]; exact ok
      refine lv_iload_n hx hb dX1_recover_4 rfl (lv_at hl 0 rfl) ?_
      refine lv_aload_n hx hb dX1_recover_5 rfl (lv_at hl 2 rfl) ?_
      refine va_get (D := D) (ci := 1) (v := .int (nI (xM t))) (C := RX1) (T := TX1) (N := 10) hx hb hts hinX1 hown hK hP 0 rfl rfl 5 (by decide) fX1_35 (fun _ h9 => h9) rfl dX1_recover_6 ?_
      refine lv_icmp_ge (tgt := 57) hx hb dX1_recover_9 (by decide) (fun c_1 => ?_) (fun c_1 => ?_)
      · have c_1 : xM t ≤ k := (nI_leI (by omega) (by omega)).mp c_1
        have c_1n : ¬ k < xM t := by omega
        refine lv_iload_n hx hb dX1_recover_57 rfl (lv_at hl 1 rfl) ?_
        exact lh_ri hx hb hr hlk hK hP hD hS (by rw [hless, show k = xM u by omega]; rfl) (by rw [ht, show k = xM u by omega]; rfl) dX1_recover_58
      · have c_1 : k < xM t := Nat.lt_of_not_le (fun h => c_1 ((nI_leI (by omega) (by omega)).mpr h))
        refine lv_aload_n hx hb dX1_recover_12 rfl (lv_at hl 2 rfl) ?_
        refine lv_iload_n hx hb dX1_recover_13 rfl (lv_at hl 0 rfl) ?_
        refine lh_cVi ⟨hx, hb, hml, hown, hts⟩ (kX1_isLive l D cI ad t k (by omega)) (cwV 1 hts gX1_recover_X1_isLive rfl rfl rfl (by decide +kernel) ⟨Nat.le_of_ble_eq_true rfl, Nat.le_of_ble_eq_true rfl⟩) hK hN hP hD hS hA 0 1 rfl rfl rfl rfl hl.1 rfl (Nat.le_of_ble_eq_true rfl) ⟨Nat.le_of_ble_eq_true rfl, Nat.le_of_ble_eq_true rfl⟩ dX1_recover_14 (fun H locs hP hD hS => ?_)
        refine lv_if_eq (tgt := 51) hx hb dX1_recover_17 (by decide) (fun c_2 => ?_) (fun c_2 => ?_)
        · have c_2 : ((xL t).testBit k) = false := b2i_e0 c_2
          refine lv_iinc (v := nI (k + 1)) (lv' := [(2, .int (nI (k + 1))), (1, .int (less)), (0, .ref (ad 0))]) hx hb dX1_recover_51 hl (k := 0) rfl (lh_inc _) (by decide) rfl (fun ls hl => ?_)
          refine lv_goto (tgt := 4) hx hb dX1_recover_54 (by decide) ?_
          exact ih4 (k + 1) less t (by omega) (by omega) (by subst ht; first | exact recR_t hless c_2 | exact lh_sumf hless (if_neg (by rw [show (xL u).testBit k = false from c_2]; decide))) (by subst ht; first | exact congrArg (fun f => sOu u f) (recO_t c_2) | exact congrArg (fun f => sOu u f) (recO_f c_2)) _ _ hP hD hS ls (lv_sub hl [0, 1, 2] rfl)
        · have c_2 : ((xL t).testBit k) = true := b2i_n0 c_2
          refine lv_aload_n hx hb dX1_recover_20 rfl (lv_at hl 2 rfl) ?_
          refine lv_iload_n hx hb dX1_recover_21 rfl (lv_at hl 0 rfl) ?_
          refine lh_cVi ⟨hx, hb, hml, hown, hts⟩ (kX1_inLinksTo l D cI ad t k okt (by omega)) (cwV 1 hts gX1_recover_X1_inLinksTo rfl rfl rfl (by decide +kernel) ⟨Nat.le_of_ble_eq_true rfl, Nat.le_of_ble_eq_true rfl⟩) hK hN hP hD hS hA 0 1 rfl rfl rfl rfl hl.1 rfl (Nat.le_of_ble_eq_true rfl) ⟨Nat.le_of_ble_eq_true rfl, Nat.le_of_ble_eq_true rfl⟩ dX1_recover_22 (fun H locs hP hD hS => ?_)
          refine lv_aload_n hx hb dX1_recover_25 rfl (lv_at hl 2 rfl) ?_
          refine lv_iload_n hx hb dX1_recover_26 rfl (lv_at hl 0 rfl) ?_
          refine lv_iconst (v := nI 0) hx hb dX1_recover_27 (by decide) ?_
          refine lh_cVi ⟨hx, hb, hml, hown, hts⟩ (kX1_inLettersAbout l D cI ad t k false okt (by omega)) (cwV 2 hts gX1_recover_X1_inLettersAbout rfl rfl rfl (by decide +kernel) ⟨Nat.le_of_ble_eq_true rfl, Nat.le_of_ble_eq_true rfl⟩) hK hN hP hD hS hA 0 1 rfl rfl rfl rfl hl.1 rfl (Nat.le_of_ble_eq_true rfl) ⟨Nat.le_of_ble_eq_true rfl, Nat.le_of_ble_eq_true rfl⟩ dX1_recover_28 (fun H locs hP hD hS => ?_)
          refine lv_iadd hx hb dX1_recover_31 ?_
          refine lv_istore_n (lv' := [(3, .int (((inL t k) + (inE t k false)))), (2, .int (nI k)), (1, .int (less)), (0, .ref (ad 0))]) hx hb dX1_recover_32 rfl hl (by decide) rfl (fun ls hl => ?_)
          refine lv_iload_n hx hb dX1_recover_33 rfl (lv_at hl 2 rfl) ?_
          refine lv_aload_n hx hb dX1_recover_34 rfl (lv_at hl 3 rfl) ?_
          refine va_get (D := D) (ci := 1) (v := .ref (ad 2)) (C := RX1) (T := TX1) (N := 10) hx hb hts hinX1 hown hK hP 0 rfl rfl 1 (by decide) fX1_13 (fun _ h9 => h9) rfl dX1_recover_35 ?_
          refine lv_iload_n hx hb dX1_recover_38 rfl (lv_at hl 1 rfl) ?_
          refine lh_ild (k := k) (N := 10) hx hb hK hP 2 0 rfl rfl (by omega) (by decide) dX1_recover_39 ?_
          refine W.eq (g2 := F0 m 40 ls (.int ((xOu t k)) :: [.int (less)])) rfl ?_
          refine lv_iload_n hx hb dX1_recover_40 rfl (lv_at hl 0 rfl) ?_
          refine lv_isub hx hb dX1_recover_41 ?_
          refine lv_iadd hx hb dX1_recover_42 ?_
          refine lv_istore_n (lv' := [(1, .int ((less + ((xOu t k) - ((inL t k) + (inE t k false)))))), (3, .int (((inL t k) + (inE t k false)))), (2, .int (nI k)), (0, .ref (ad 0))]) hx hb dX1_recover_43 rfl hl (by decide) rfl (fun ls hl => ?_)
          refine lv_aload_n hx hb dX1_recover_44 rfl (lv_at hl 3 rfl) ?_
          refine va_get (D := D) (ci := 1) (v := .ref (ad 2)) (C := RX1) (T := TX1) (N := 10) hx hb hts hinX1 hown hK hP 0 rfl rfl 1 (by decide) fX1_13 (fun _ h9 => h9) rfl dX1_recover_45 ?_
          refine lv_iload_n hx hb dX1_recover_48 rfl (lv_at hl 2 rfl) ?_
          refine lv_iload_n hx hb dX1_recover_49 rfl (lv_at hl 1 rfl) ?_
          refine lh_ist (k := k) (N := 10) (f2 := upd (xOu t) k (((inL t k) + (inE t k false)))) hx hb hK hP hD hS 2 0 rfl rfl (by omega) (by decide) (rfl) dX1_recover_50 (fun H locs hP hD hS => ?_)
          have hP : va_P D vwCl (wX cI ad (sOu t (upd (xOu t) k (((inL t k) + (inE t k false)))))) H := hP
          have hD : va_D A (wX cI ad (sOu t (upd (xOu t) k (((inL t k) + (inE t k false)))))) := hD
          refine lv_iinc (v := nI (k + 1)) (lv' := [(2, .int (nI (k + 1))), (1, .int ((less + ((xOu t k) - ((inL t k) + (inE t k false)))))), (3, .int (((inL t k) + (inE t k false)))), (0, .ref (ad 0))]) hx hb dX1_recover_51 hl (k := 2) rfl (lh_inc _) (by decide) rfl (fun ls hl => ?_)
          refine lv_goto (tgt := 4) hx hb dX1_recover_54 (by decide) ?_
          exact ih4 (k + 1) (less + ((xOu t k) - ((inL t k) + (inE t k false)))) (sOu t (upd (xOu t) k (((inL t k) + (inE t k false))))) (by omega) (by omega) (by subst ht; first | exact recR_t hless c_2 | exact lh_sumf hless (if_neg (by rw [show (xL u).testBit k = false from c_2]; decide))) (by subst ht; first | exact congrArg (fun f => sOu u f) (recO_t c_2) | exact congrArg (fun f => sOu u f) (recO_f c_2)) _ _ hP hD hS ls (lv_sub hl [0, 1, 3] rfl)
  exact L4 _ 0 (nI 0) u (Nat.lt_succ_self _) (by omega) (by rfl) (by show u = sOu u (recO u 0); unfold recO; simp) _ _ hP hD hS ls (lv_sub hl [0, 1, 2] rfl)
set_option maxRecDepth 100000 in
set_option maxHeartbeats 4000000 in
theorem kX1_reached (l : Launch) (D : va_G) (cI : ClassId) (ad : Nat → Nat) (u : XS) (T : Nat) (inv : Inv T u) : CI l D [(cI, .int)] yX1_reached wsX1_reached ({ frames := 4, cells := 0, slots := 0, locals := 89 }) [.ref (ad 0)] (wX cI ad u) (wX cI ad u) (nI (reaX u)) := by
  have ok := inv.1
  obtain ⟨hM, hW, hHo, hAb, hLb, hRb, hDb⟩ := id ok
  refine lh_CIof (cc := cX1_reached) (maxL := 3) (ret := (some .int)) (own := RX1) (by decide) rfl rfl (Nat.le_of_ble_eq_true rfl) ?_
  intro p e s m below meth c A ls hx hb hr hlk hts hown hml hK hN hA hP hD hS hl
  have fX1_39 := hts (.fieldLink RX1 39 "LostHosts" "live" "I") (by decide +kernel)
  have fX1_42 := hts (.fieldLink RX1 42 "LostHosts" "roots" "I") (by decide +kernel)
  have hinX1 : ∀ w ∈ u_ws RX1 TX1 10, w ∈ wsX1_reached := by decide +kernel
  have hl : lv_has ls 3 [(0, .ref (ad 0))] := hl
  refine lv_aload_n hx hb dX1_reached_0 rfl (lv_at hl 0 rfl) ?_
  refine va_get (D := D) (ci := 1) (v := .int (nI (xL u))) (C := RX1) (T := TX1) (N := 10) hx hb hts hinX1 hown hK hP 0 rfl rfl 6 (by decide) fX1_39 (fun _ h9 => h9) rfl dX1_reached_1 ?_
  refine lv_aload_n hx hb dX1_reached_4 rfl (lv_at hl 0 rfl) ?_
  refine va_get (D := D) (ci := 1) (v := .int (nI (xR u))) (C := RX1) (T := TX1) (N := 10) hx hb hts hinX1 hown hK hP 0 rfl rfl 7 (by decide) fX1_42 (fun _ h9 => h9) rfl dX1_reached_5 ?_
  refine lv_iand hx hb dX1_reached_8 ?_
  refine lh_top (y := nI (xL u &&& xR u)) (fa_and _ _) ?_
  refine lv_istore_n (lv' := [(1, .int (nI (xL u &&& xR u))), (0, .ref (ad 0))]) hx hb dX1_reached_9 rfl hl (by decide) rfl (fun ls hl => ?_)
  refine lv_iconst (v := nI 0) hx hb dX1_reached_10 (by decide) ?_
  refine lv_istore_n (lv' := [(2, .int (nI 0)), (1, .int (nI (xL u &&& xR u))), (0, .ref (ad 0))]) hx hb dX1_reached_11 rfl hl (by decide) rfl (fun ls hl => ?_)
  have L12 : ∀ (n : Nat) (r : Nat) (acc : Nat), 10 - r < n → (r ≤ 10) → (acc = rep (ons u) r (xL u &&& xR u)) → ∀ (H : Heap) (locs : List Loc), va_P D vwCl (wX cI ad u) H → va_D A (wX cI ad u) → va_S A s.heap H locs → ∀ (ls : Array Slot), lv_has ls 3 [(2, .int (nI r)), (1, .int (nI acc)), (0, .ref (ad 0))] → W p l e ({ frames := 4, cells := 0, slots := 0, locals := 89 }) s m [.ref (ad 0)].toArray below meth c H locs 0 0 (QI below D [(cI, .int)] A (wX cI ad u) (nI (reaX u)) [.ref (ad 0)].toArray s) (F0 m 12 ls []) := by
    intro n
    induction n with
    | zero => intro r acc hmu; exact absurd hmu (Nat.not_lt_zero _)
    | succ n ih12 =>
      intro r acc hmu12 hr9 hacc H locs hP hD hS ls hl
      refine lv_iload_n hx hb dX1_reached_12 rfl (lv_at hl 0 rfl) ?_
      refine lv_bipush (v := nI 10) hx hb dX1_reached_13 (by decide) ?_
      refine lv_icmp_ge (tgt := 30) hx hb dX1_reached_15 (by decide) (fun c_1 => ?_) (fun c_1 => ?_)
      · have c_1 : 10 ≤ r := (nI_leI (by omega) (by omega)).mp c_1
        have c_1n : ¬ r < 10 := by omega
        refine lv_iload_n hx hb dX1_reached_30 rfl (lv_at hl 1 rfl) ?_
        exact lh_ri hx hb hr hlk hK hP hD hS (by rw [hacc, show r = 10 by omega]; rfl) rfl dX1_reached_31
      · have c_1 : r < 10 := Nat.lt_of_not_le (fun h => c_1 ((nI_leI (by omega) (by omega)).mpr h))
        refine lv_aload_n hx hb dX1_reached_18 rfl (lv_at hl 2 rfl) ?_
        refine lv_iload_n hx hb dX1_reached_19 rfl (lv_at hl 1 rfl) ?_
        refine lh_cVi ⟨hx, hb, hml, hown, hts⟩ (kX1_oneStepOn l D cI ad u acc ok) (cwV 1 hts gX1_reached_X1_oneStepOn rfl rfl rfl (by decide +kernel) ⟨Nat.le_of_ble_eq_true rfl, Nat.le_of_ble_eq_true rfl⟩) hK hN hP hD hS hA 0 1 rfl rfl rfl rfl hl.1 rfl (Nat.le_of_ble_eq_true rfl) ⟨Nat.le_of_ble_eq_true rfl, Nat.le_of_ble_eq_true rfl⟩ dX1_reached_20 (fun H locs hP hD hS => ?_)
        refine lv_istore_n (lv' := [(1, .int (nI (ons u acc))), (2, .int (nI r)), (0, .ref (ad 0))]) hx hb dX1_reached_23 rfl hl (by decide) rfl (fun ls hl => ?_)
        refine lv_iinc (v := nI (r + 1)) (lv' := [(2, .int (nI (r + 1))), (1, .int (nI (ons u acc))), (0, .ref (ad 0))]) hx hb dX1_reached_24 hl (k := 1) rfl (lh_inc _) (by decide) rfl (fun ls hl => ?_)
        refine lv_goto (tgt := 12) hx hb dX1_reached_27 (by decide) ?_
        exact ih12 (r + 1) (ons u acc) (by omega) (by omega) (by rw [hacc]; rfl) _ _ hP hD hS ls (lv_sub hl [0, 1, 2] rfl)
  exact L12 _ 0 (xL u &&& xR u) (Nat.lt_succ_self _) (by omega) (by rfl) _ _ hP hD hS ls (lv_sub hl [0, 1, 2] rfl)
set_option maxRecDepth 100000 in
set_option maxHeartbeats 4000000 in
theorem kX1_far (l : Launch) (D : va_G) (cI : ClassId) (ad : Nat → Nat) (u : XS) (b : Int32) (T : Nat) (inv : Inv T u) : CI l D [(cI, .int)] yX1_far wsX1_far ({ frames := 4, cells := 0, slots := 0, locals := 89 }) [.ref (ad 0), .int (b)] (wX cI ad u) (wX cI ad u) (farR u b) := by
  have ok := inv.1
  obtain ⟨hM, hW, hHo, hAb, hLb, hRb, hDb⟩ := id ok
  refine lh_CIof (cc := cX1_far) (maxL := 4) (ret := (some .int)) (own := RX1) (by decide) rfl rfl (Nat.le_of_ble_eq_true rfl) ?_
  intro p e s m below meth c A ls hx hb hr hlk hts hown hml hK hN hA hP hD hS hl
  have fX1_39 := hts (.fieldLink RX1 39 "LostHosts" "live" "I") (by decide +kernel)
  have fX1_42 := hts (.fieldLink RX1 42 "LostHosts" "roots" "I") (by decide +kernel)
  have hinX1 : ∀ w ∈ u_ws RX1 TX1 10, w ∈ wsX1_far := by decide +kernel
  have hl : lv_has ls 4 [(0, .ref (ad 0)), (1, .int (b))] := hl
  refine lv_aload_n hx hb dX1_far_0 rfl (lv_at hl 0 rfl) ?_
  refine lv_iload_n hx hb dX1_far_1 rfl (lv_at hl 1 rfl) ?_
  refine lh_cVi ⟨hx, hb, hml, hown, hts⟩ (kX1_isObject l D cI ad u b) (cwV 1 hts gX1_far_X1_isObject rfl rfl rfl (by decide +kernel) ⟨Nat.le_of_ble_eq_true rfl, Nat.le_of_ble_eq_true rfl⟩) hK hN hP hD hS hA 0 1 rfl rfl rfl rfl hl.1 rfl (Nat.le_of_ble_eq_true rfl) ⟨Nat.le_of_ble_eq_true rfl, Nat.le_of_ble_eq_true rfl⟩ dX1_far_2 (fun H locs hP hD hS => ?_)
  refine lv_if_ne (tgt := 10) hx hb dX1_far_5 (by decide) (fun c_1 => ?_) (fun c_1 => ?_)
  · have c_1 : (isObj u b) = true := b2i_n0 c_1
    obtain ⟨b1, hb1, eb1⟩ := isObj_ex hM c_1
    subst eb1
    have eb1 : (nI b1).toNatClampNeg = b1 := nI_clamp (by omega)
    refine lv_aload_n hx hb dX1_far_10 rfl (lv_at hl 0 rfl) ?_
    refine lv_iload_n hx hb dX1_far_11 rfl (lv_at hl 1 rfl) ?_
    refine lh_cVi ⟨hx, hb, hml, hown, hts⟩ (kX1_isLive l D cI ad u b1 (by omega)) (cwV 1 hts gX1_far_X1_isLive rfl rfl rfl (by decide +kernel) ⟨Nat.le_of_ble_eq_true rfl, Nat.le_of_ble_eq_true rfl⟩) hK hN hP hD hS hA 0 1 rfl rfl rfl rfl hl.1 rfl (Nat.le_of_ble_eq_true rfl) ⟨Nat.le_of_ble_eq_true rfl, Nat.le_of_ble_eq_true rfl⟩ dX1_far_12 (fun H locs hP hD hS => ?_)
    refine lv_if_ne (tgt := 21) hx hb dX1_far_15 (by decide) (fun c_2 => ?_) (fun c_2 => ?_)
    · have c_2 : ((xL u).testBit b1) = true := b2i_n0 c_2
      refine lv_aload_n hx hb dX1_far_21 rfl (lv_at hl 0 rfl) ?_
      refine va_get (D := D) (ci := 1) (v := .int (nI (xL u))) (C := RX1) (T := TX1) (N := 10) hx hb hts hinX1 hown hK hP 0 rfl rfl 6 (by decide) fX1_39 (fun _ h9 => h9) rfl dX1_far_22 ?_
      refine lv_aload_n hx hb dX1_far_25 rfl (lv_at hl 0 rfl) ?_
      refine va_get (D := D) (ci := 1) (v := .int (nI (xR u))) (C := RX1) (T := TX1) (N := 10) hx hb hts hinX1 hown hK hP 0 rfl rfl 7 (by decide) fX1_42 (fun _ h9 => h9) rfl dX1_far_26 ?_
      refine lv_iand hx hb dX1_far_29 ?_
      refine lh_top (y := nI (xL u &&& xR u)) (fa_and _ _) ?_
      refine lv_istore_n (lv' := [(2, .int (nI (xL u &&& xR u))), (0, .ref (ad 0)), (1, .int (nI b1))]) hx hb dX1_far_30 rfl hl (by decide) rfl (fun ls hl => ?_)
      refine lv_iconst (v := nI 0) hx hb dX1_far_31 (by decide) ?_
      refine lv_istore_n (lv' := [(3, .int (nI 0)), (2, .int (nI (xL u &&& xR u))), (0, .ref (ad 0)), (1, .int (nI b1))]) hx hb dX1_far_32 rfl hl (by decide) rfl (fun ls hl => ?_)
      have L33 : ∀ (n : Nat) (k : Nat) (acc : Nat), 10 - k < n → (k ≤ 10) → (acc = rep (ons u) k (xL u &&& xR u)) → (∀ j, j < k → farP u b1 j = false) → ∀ (H : Heap) (locs : List Loc), va_P D vwCl (wX cI ad u) H → va_D A (wX cI ad u) → va_S A s.heap H locs → ∀ (ls : Array Slot), lv_has ls 4 [(3, .int (nI k)), (2, .int (nI acc)), (0, .ref (ad 0)), (1, .int (nI b1))] → W p l e ({ frames := 4, cells := 0, slots := 0, locals := 89 }) s m [.ref (ad 0), .int ((nI b1))].toArray below meth c H locs 0 0 (QI below D [(cI, .int)] A (wX cI ad u) (farR u (nI b1)) [.ref (ad 0), .int ((nI b1))].toArray s) (F0 m 33 ls []) := by
        intro n
        induction n with
        | zero => intro k acc hmu; exact absurd hmu (Nat.not_lt_zero _)
        | succ n ih33 =>
          intro k acc hmu33 hk hacc hno H locs hP hD hS ls hl
          refine lv_iload_n hx hb dX1_far_33 rfl (lv_at hl 0 rfl) ?_
          refine lv_bipush (v := nI 10) hx hb dX1_far_34 (by decide) ?_
          refine lv_icmp_ge (tgt := 61) hx hb dX1_far_36 (by decide) (fun c_3 => ?_) (fun c_3 => ?_)
          · have c_3 : 10 ≤ k := (nI_leI (by omega) (by omega)).mp c_3
            have c_3n : ¬ k < 10 := by omega
            refine lv_bipush (v := (-9)) hx hb dX1_far_61 (by decide) ?_
            exact lh_ri hx hb hr hlk hK hP hD hS (by have e9 := fst_no (p := farP u b1) (n := 10) (fun j hj => hno j (by omega)); simp [farR, e9, c_1, eb1, c_2, c_3n, c_3]) rfl dX1_far_63
          · have c_3 : k < 10 := Nat.lt_of_not_le (fun h => c_3 ((nI_leI (by omega) (by omega)).mpr h))
            refine lv_iload_n hx hb dX1_far_39 rfl (lv_at hl 1 rfl) ?_
            refine lv_iload_n hx hb dX1_far_40 rfl (lv_at hl 3 rfl) ?_
            refine lh_cSi ⟨hx, hb, hml, hown, hts⟩ (kX1_isIn l D _ _ acc b1 (by omega)) (va_cwS 2 hts gX1_far_X1_isIn rfl rfl rfl (by decide +kernel) ⟨Nat.le_of_ble_eq_true rfl, Nat.le_of_ble_eq_true rfl⟩) hK hN hP hD hS hA rfl hl.1 rfl (Nat.le_of_ble_eq_true rfl) ⟨Nat.le_of_ble_eq_true rfl, Nat.le_of_ble_eq_true rfl⟩ dX1_far_41 (fun H locs hP hD hS => ?_)
            refine lv_if_eq (tgt := 49) hx hb dX1_far_44 (by decide) (fun c_4 => ?_) (fun c_4 => ?_)
            · have c_4 : (acc.testBit b1) = false := b2i_e0 c_4
              refine lv_aload_n hx hb dX1_far_49 rfl (lv_at hl 2 rfl) ?_
              refine lv_iload_n hx hb dX1_far_50 rfl (lv_at hl 1 rfl) ?_
              refine lh_cVi ⟨hx, hb, hml, hown, hts⟩ (kX1_oneStepOn l D cI ad u acc ok) (cwV 1 hts gX1_far_X1_oneStepOn rfl rfl rfl (by decide +kernel) ⟨Nat.le_of_ble_eq_true rfl, Nat.le_of_ble_eq_true rfl⟩) hK hN hP hD hS hA 0 1 rfl rfl rfl rfl hl.1 rfl (Nat.le_of_ble_eq_true rfl) ⟨Nat.le_of_ble_eq_true rfl, Nat.le_of_ble_eq_true rfl⟩ dX1_far_51 (fun H locs hP hD hS => ?_)
              refine lv_istore_n (lv' := [(2, .int (nI (ons u acc))), (3, .int (nI k)), (0, .ref (ad 0)), (1, .int (nI b1))]) hx hb dX1_far_54 rfl hl (by decide) rfl (fun ls hl => ?_)
              refine lv_iinc (v := nI (k + 1)) (lv' := [(3, .int (nI (k + 1))), (2, .int (nI (ons u acc))), (0, .ref (ad 0)), (1, .int (nI b1))]) hx hb dX1_far_55 hl (k := 1) rfl (lh_inc _) (by decide) rfl (fun ls hl => ?_)
              refine lv_goto (tgt := 33) hx hb dX1_far_58 (by decide) ?_
              exact ih33 (k + 1) (ons u acc) (by omega) (by omega) (by rw [hacc]; rfl) (by exact fst_ext hno (by unfold farP; rw [← hacc]; exact c_4)) _ _ hP hD hS ls (lv_sub hl [0, 1, 2, 3] rfl)
            · have c_4 : (acc.testBit b1) = true := b2i_n0 c_4
              refine lv_iload_n hx hb dX1_far_47 rfl (lv_at hl 0 rfl) ?_
              exact lh_ri hx hb hr hlk hK hP hD hS (by have e9 := fst_at (p := farP u b1) (n := 10) hno (by unfold farP; rw [← hacc]; exact c_4) (by omega); have h9 : k < 10 := (by omega); simp [farR, e9, h9, c_1, eb1, c_2, c_3, c_4]) rfl dX1_far_48
      exact L33 _ 0 (xL u &&& xR u) (Nat.lt_succ_self _) (by omega) (by rfl) (by exact fun j hj => absurd hj (Nat.not_lt_zero j)) _ _ hP hD hS ls (lv_sub hl [0, 1, 2, 3] rfl)
    · have c_2 : ((xL u).testBit b1) = false := b2i_e0 c_2
      refine lv_bipush (v := (-3)) hx hb dX1_far_18 (by decide) ?_
      exact lh_ri hx hb hr hlk hK hP hD hS (by first | (simp [nI_0, nI_o, farR, c_1, eb1, c_2]; done) | (simp [nI_0, nI_o, farR, c_1, eb1, c_2]; rfl)) rfl dX1_far_20
  · have c_1 : (isObj u b) = false := b2i_e0 c_1
    refine lv_iconst (v := (-1)) hx hb dX1_far_8 (by decide) ?_
    exact lh_ri hx hb hr hlk hK hP hD hS (by first | (simp [nI_0, nI_o, farR, c_1]; done) | (simp [nI_0, nI_o, farR, c_1]; rfl)) rfl dX1_far_9
set_option maxRecDepth 100000 in
set_option maxHeartbeats 4000000 in
theorem kX1_many (l : Launch) (D : va_G) (cI : ClassId) (ad : Nat → Nat) (u : XS) (w : Int32) (T : Nat) (inv : Inv T u) : CI l D [(cI, .int)] yX1_many wsX1_many ({ frames := 5, cells := 0, slots := 0, locals := 111 }) [.ref (ad 0), .int (w)] (wX cI ad u) (wX cI ad u) (manR u w) := by
  have ok := inv.1
  obtain ⟨hM, hW, hHo, hAb, hLb, hRb, hDb⟩ := id ok
  refine lh_CIof (cc := cX1_many) (maxL := 2) (ret := (some .int)) (own := RX1) (by decide) rfl rfl (Nat.le_of_ble_eq_true rfl) ?_
  intro p e s m below meth c A ls hx hb hr hlk hts hown hml hK hN hA hP hD hS hl
  have fX1_39 := hts (.fieldLink RX1 39 "LostHosts" "live" "I") (by decide +kernel)
  have fX1_31 := hts (.fieldLink RX1 31 "LostHosts" "letters" "LLostHosts$Letters;") (by decide +kernel)
  have fX0_86 := va_Nw.use (A := [.ref (ad 0), .int (w)].toArray) rfl hN.1
  have fX1_45 := hts (.fieldLink RX1 45 "LostHosts" "deadHosts" "I") (by decide +kernel)
  have fX1_48 := hts (.fieldLink RX1 48 "LostHosts" "filled" "I") (by decide +kernel)
  have hinX0 : ∀ w ∈ u_ws RX0 TX0 4, w ∈ wsX1_many := by decide +kernel
  have hinX1 : ∀ w ∈ u_ws RX1 TX1 10, w ∈ wsX1_many := by decide +kernel
  have hl : lv_has ls 2 [(0, .ref (ad 0)), (1, .int (w))] := hl
  refine lv_iload_n hx hb dX1_many_0 rfl (lv_at hl 1 rfl) ?_
  rcases lh_sw (n := 8) (hi := 7) (x := w) (by decide) (by decide) with c_1 | c_1
  · refine lv_tableOut (tgt := 117) hx hb dX1_many_1 c_1 (by decide) ?_
    refine lv_bipush (v := (-2)) hx hb dX1_many_117 (by decide) ?_
    exact lh_ri hx hb hr hlk hK hP hD hS (by have hk := swO (n := 8) (hi := 7) (by decide) c_1 (by decide); simp [manR, hk 0 (by decide), hk 1 (by decide), hk 2 (by decide), hk 3 (by decide), hk 4 (by decide), hk 5 (by decide), hk 6 (by decide), hk 7 (by decide), c_1]) rfl dX1_many_119
  · obtain ⟨c_1k, c_1l, c_1⟩ := c_1
    by_cases c_1e : c_1k = 0
    · subst c_1e
      refine lv_tableIn (off := 47) (tgt := 48) hx hb dX1_many_1 (by rw [c_1]; decide) (by rw [c_1]; decide) (by rw [c_1]; decide) (by decide) ?_
      refine lv_aload_n hx hb dX1_many_48 rfl (lv_at hl 0 rfl) ?_
      refine va_get (D := D) (ci := 1) (v := .int (nI (xL u))) (C := RX1) (T := TX1) (N := 10) hx hb hts hinX1 hown hK hP 0 rfl rfl 6 (by decide) fX1_39 (fun _ h9 => h9) rfl dX1_many_49 ?_
      refine lh_cSi ⟨hx, hb, hml, hown, hts⟩ (kJ6_bitCount_0f7a4 l D _ _ (xL u) (by omega)) (va_cwS 1 hts gX1_many_J6_bitCount_0f7a4 rfl rfl rfl (by decide +kernel) ⟨Nat.le_of_ble_eq_true rfl, Nat.le_of_ble_eq_true rfl⟩) hK hN hP hD hS hA rfl hl.1 rfl (Nat.le_of_ble_eq_true rfl) ⟨Nat.le_of_ble_eq_true rfl, Nat.le_of_ble_eq_true rfl⟩ dX1_many_52 (fun H locs hP hD hS => ?_)
      exact lh_ri hx hb hr hlk hK hP hD hS (by first | (simp [manR, nI_eqL, c_1]; done) | (simp [manR, nI_eqL, b2i, nI_0, nI_o, c_1]; done) | (simp [manR, nI_eqL, b2i, c_1]; rfl)) rfl dX1_many_55
    by_cases c_1e : c_1k = 1
    · subst c_1e
      refine lv_tableIn (off := 55) (tgt := 56) hx hb dX1_many_1 (by rw [c_1]; decide) (by rw [c_1]; decide) (by rw [c_1]; decide) (by decide) ?_
      refine lv_aload_n hx hb dX1_many_56 rfl (lv_at hl 0 rfl) ?_
      refine va_get (D := D) (ci := 1) (v := .ref (ad 5)) (C := RX1) (T := TX1) (N := 10) hx hb hts hinX1 hown hK hP 0 rfl rfl 4 (by decide) fX1_31 (fun _ h9 => h9) rfl dX1_many_57 ?_
      refine va_getN (D := D) (ci := 0) (v := .int (nI (xW u))) (C := RX0) (T := TX0) (N := 4) hx hb hts hinX0 hown hK hP 5 rfl rfl 3 (by decide) fX0_86 (fun _ h9 => h9) rfl dX1_many_60 ?_
      exact lh_ri hx hb hr hlk hK hP hD hS (by first | (simp [manR, nI_eqL, c_1]; done) | (simp [manR, nI_eqL, b2i, nI_0, nI_o, c_1]; done) | (simp [manR, nI_eqL, b2i, c_1]; rfl)) rfl dX1_many_63
    by_cases c_1e : c_1k = 2
    · subst c_1e
      refine lv_tableIn (off := 63) (tgt := 64) hx hb dX1_many_1 (by rw [c_1]; decide) (by rw [c_1]; decide) (by rw [c_1]; decide) (by decide) ?_
      refine lv_aload_n hx hb dX1_many_64 rfl (lv_at hl 0 rfl) ?_
      refine lh_cVi ⟨hx, hb, hml, hown, hts⟩ (kX1_nearLinks l D cI ad u ) (cwV 0 hts gX1_many_X1_nearLinks rfl rfl rfl (by decide +kernel) ⟨Nat.le_of_ble_eq_true rfl, Nat.le_of_ble_eq_true rfl⟩) hK hN hP hD hS hA 0 1 rfl rfl rfl rfl hl.1 rfl (Nat.le_of_ble_eq_true rfl) ⟨Nat.le_of_ble_eq_true rfl, Nat.le_of_ble_eq_true rfl⟩ dX1_many_65 (fun H locs hP hD hS => ?_)
      exact lh_ri hx hb hr hlk hK hP hD hS (by first | (simp [manR, nI_eqL, c_1]; done) | (simp [manR, nI_eqL, b2i, nI_0, nI_o, c_1]; done) | (simp [manR, nI_eqL, b2i, c_1]; rfl)) rfl dX1_many_68
    by_cases c_1e : c_1k = 3
    · subst c_1e
      refine lv_tableIn (off := 68) (tgt := 69) hx hb dX1_many_1 (by rw [c_1]; decide) (by rw [c_1]; decide) (by rw [c_1]; decide) (by decide) ?_
      refine lv_aload_n hx hb dX1_many_69 rfl (lv_at hl 0 rfl) ?_
      refine lh_cVi ⟨hx, hb, hml, hown, hts⟩ (kX1_farLinks l D cI ad u ) (cwV 0 hts gX1_many_X1_farLinks rfl rfl rfl (by decide +kernel) ⟨Nat.le_of_ble_eq_true rfl, Nat.le_of_ble_eq_true rfl⟩) hK hN hP hD hS hA 0 1 rfl rfl rfl rfl hl.1 rfl (Nat.le_of_ble_eq_true rfl) ⟨Nat.le_of_ble_eq_true rfl, Nat.le_of_ble_eq_true rfl⟩ dX1_many_70 (fun H locs hP hD hS => ?_)
      exact lh_ri hx hb hr hlk hK hP hD hS (by first | (simp [manR, nI_eqL, c_1]; done) | (simp [manR, nI_eqL, b2i, nI_0, nI_o, c_1]; done) | (simp [manR, nI_eqL, b2i, c_1]; rfl)) rfl dX1_many_73
    by_cases c_1e : c_1k = 4
    · subst c_1e
      refine lv_tableIn (off := 73) (tgt := 74) hx hb dX1_many_1 (by rw [c_1]; decide) (by rw [c_1]; decide) (by rw [c_1]; decide) (by decide) ?_
      refine lv_iconst (v := nI 4) hx hb dX1_many_74 (by decide) ?_
      refine lv_aload_n hx hb dX1_many_75 rfl (lv_at hl 0 rfl) ?_
      refine va_get (D := D) (ci := 1) (v := .int (nI (xD u))) (C := RX1) (T := TX1) (N := 10) hx hb hts hinX1 hown hK hP 0 rfl rfl 8 (by decide) fX1_45 (fun _ h9 => h9) rfl dX1_many_76 ?_
      refine lh_cSi ⟨hx, hb, hml, hown, hts⟩ (kJ6_bitCount_0f7a4 l D _ _ (xD u) (by omega)) (va_cwS 1 hts gX1_many_J6_bitCount_0f7a4 rfl rfl rfl (by decide +kernel) ⟨Nat.le_of_ble_eq_true rfl, Nat.le_of_ble_eq_true rfl⟩) hK hN hP hD hS hA rfl hl.1 rfl (Nat.le_of_ble_eq_true rfl) ⟨Nat.le_of_ble_eq_true rfl, Nat.le_of_ble_eq_true rfl⟩ dX1_many_79 (fun H locs hP hD hS => ?_)
      refine lv_isub hx hb dX1_many_82 ?_
      exact lh_ri hx hb hr hlk hK hP hD hS (by first | (simp [manR, nI_eqL, c_1]; done) | (simp [manR, nI_eqL, b2i, nI_0, nI_o, c_1]; done) | (simp [manR, nI_eqL, b2i, c_1]; rfl)) rfl dX1_many_83
    by_cases c_1e : c_1k = 5
    · subst c_1e
      refine lv_tableIn (off := 83) (tgt := 84) hx hb dX1_many_1 (by rw [c_1]; decide) (by rw [c_1]; decide) (by rw [c_1]; decide) (by decide) ?_
      refine lv_aload_n hx hb dX1_many_84 rfl (lv_at hl 0 rfl) ?_
      refine va_get (D := D) (ci := 1) (v := .int (nI (xL u))) (C := RX1) (T := TX1) (N := 10) hx hb hts hinX1 hown hK hP 0 rfl rfl 6 (by decide) fX1_39 (fun _ h9 => h9) rfl dX1_many_85 ?_
      refine lv_aload_n hx hb dX1_many_88 rfl (lv_at hl 0 rfl) ?_
      refine lh_cVi ⟨hx, hb, hml, hown, hts⟩ (kX1_reached l D cI ad u T (by exact inv)) (cwV 0 hts gX1_many_X1_reached rfl rfl rfl (by decide +kernel) ⟨Nat.le_of_ble_eq_true rfl, Nat.le_of_ble_eq_true rfl⟩) hK hN hP hD hS hA 0 1 rfl rfl rfl rfl hl.1 rfl (Nat.le_of_ble_eq_true rfl) ⟨Nat.le_of_ble_eq_true rfl, Nat.le_of_ble_eq_true rfl⟩ dX1_many_89 (fun H locs hP hD hS => ?_)
      refine lv_iconst (v := (-1)) hx hb dX1_many_92 (by decide) ?_
      refine lv_ixor hx hb dX1_many_93 ?_
      refine lv_iand hx hb dX1_many_94 ?_
      refine lh_top (y := nI (dif (xL u) (reaX u))) (lh_not _ (by omega)) ?_
      refine lh_cSi ⟨hx, hb, hml, hown, hts⟩ (kJ6_bitCount_0f7a4 l D _ _ (dif (xL u) (reaX u)) (by exact dif_lt hLb)) (va_cwS 1 hts gX1_many_J6_bitCount_0f7a4 rfl rfl rfl (by decide +kernel) ⟨Nat.le_of_ble_eq_true rfl, Nat.le_of_ble_eq_true rfl⟩) hK hN hP hD hS hA rfl hl.1 rfl (Nat.le_of_ble_eq_true rfl) ⟨Nat.le_of_ble_eq_true rfl, Nat.le_of_ble_eq_true rfl⟩ dX1_many_95 (fun H locs hP hD hS => ?_)
      exact lh_ri hx hb hr hlk hK hP hD hS (by first | (simp [manR, nI_eqL, c_1]; done) | (simp [manR, nI_eqL, b2i, nI_0, nI_o, c_1]; done) | (simp [manR, nI_eqL, b2i, c_1]; rfl)) rfl dX1_many_98
    by_cases c_1e : c_1k = 6
    · subst c_1e
      refine lv_tableIn (off := 98) (tgt := 99) hx hb dX1_many_1 (by rw [c_1]; decide) (by rw [c_1]; decide) (by rw [c_1]; decide) (by decide) ?_
      refine lv_aload_n hx hb dX1_many_99 rfl (lv_at hl 0 rfl) ?_
      refine va_get (D := D) (ci := 1) (v := .int (xF u)) (C := RX1) (T := TX1) (N := 10) hx hb hts hinX1 hown hK hP 0 rfl rfl 9 (by decide) fX1_48 (fun _ h9 => h9) rfl dX1_many_100 ?_
      exact lh_ri hx hb hr hlk hK hP hD hS (by first | (simp [manR, nI_eqL, c_1]; done) | (simp [manR, nI_eqL, b2i, nI_0, nI_o, c_1]; done) | (simp [manR, nI_eqL, b2i, c_1]; rfl)) rfl dX1_many_103
    by_cases c_1e : c_1k = 7
    · subst c_1e
      refine lv_tableIn (off := 103) (tgt := 104) hx hb dX1_many_1 (by rw [c_1]; decide) (by rw [c_1]; decide) (by rw [c_1]; decide) (by decide) ?_
      refine lv_aload_n hx hb dX1_many_104 rfl (lv_at hl 0 rfl) ?_
      refine lh_cVi ⟨hx, hb, hml, hown, hts⟩ (kX1_isBalanced l D cI ad u ok) (cwV 0 hts gX1_many_X1_isBalanced rfl rfl rfl (by decide +kernel) ⟨Nat.le_of_ble_eq_true rfl, Nat.le_of_ble_eq_true rfl⟩) hK hN hP hD hS hA 0 1 rfl rfl rfl rfl hl.1 rfl (Nat.le_of_ble_eq_true rfl) ⟨Nat.le_of_ble_eq_true rfl, Nat.le_of_ble_eq_true rfl⟩ dX1_many_105 (fun H locs hP hD hS => ?_)
      refine lv_if_eq (tgt := 115) hx hb dX1_many_108 (by decide) (fun c_2 => ?_) (fun c_2 => ?_)
      · have c_2 : (bal u) = false := b2i_e0 c_2
        refine lv_iconst (v := nI 0) hx hb dX1_many_115 (by decide) ?_
        exact lh_ri hx hb hr hlk hK hP hD hS (by first | (simp [manR, nI_eqL, c_1, c_2]; done) | (simp [manR, nI_eqL, b2i, nI_0, nI_o, c_1, c_2]; done) | (simp [manR, nI_eqL, b2i, c_1, c_2]; rfl)) rfl dX1_many_116
      · have c_2 : (bal u) = true := b2i_n0 c_2
        refine lv_iconst (v := nI 1) hx hb dX1_many_111 (by decide) ?_
        refine lv_goto (tgt := 116) hx hb dX1_many_112 (by decide) ?_
        exact lh_ri hx hb hr hlk hK hP hD hS (by first | (simp [manR, nI_eqL, c_1, c_2]; done) | (simp [manR, nI_eqL, b2i, nI_0, nI_o, c_1, c_2]; done) | (simp [manR, nI_eqL, b2i, c_1, c_2]; rfl)) rfl dX1_many_116
    exact absurd c_1l (by omega)

set_option maxRecDepth 100000 in
set_option maxHeartbeats 4000000 in
theorem kX2_object (l : Launch) (D : va_G) (cI cZ : ClassId) (ad : Nat → Nat) (u : XS) (h : Int32) (r : Bool) (T : Nat) (inv : Inv T u) : CI l D [(cI, .int), (cZ, .boolean)] yX2_object wsX2_object ({ frames := 2, cells := 0, slots := 0, locals := 42 }) [.ref (ad 0), .int (h), .int (b2i r)] (wM cI cZ ad u) (wM cI cZ ad (objS u h r)) (objR u h) := by
  have ok := inv.1
  obtain ⟨hM, hW, hHo, hAb, hLb, hRb, hDb⟩ := id ok
  refine lh_CIof (cc := cX2_object) (maxL := 3) (ret := (some .int)) (own := RX2) (by decide) rfl rfl (Nat.le_of_ble_eq_true rfl) ?_
  intro p e s m below meth c A ls hx hb hr hlk hts hown hml hK hN hA hP hD hS hl
  have fX2_51 := hts (.fieldLink RX2 51 "LostHostsModel" "dead" "I") (by decide +kernel)
  have fX2_39 := hts (.fieldLink RX2 39 "LostHostsModel" "objects" "I") (by decide +kernel)
  have fX2_7 := hts (.fieldLink RX2 7 "LostHostsModel" "hostOf" "[I") (by decide +kernel)
  have fX2_13 := hts (.fieldLink RX2 13 "LostHostsModel" "isRoot" "[Z") (by decide +kernel)
  have hinX2 : ∀ w ∈ u_ws RX2 TX2 13, w ∈ wsX2_object := by decide +kernel
  have hl : lv_has ls 3 [(0, .ref (ad 0)), (1, .int (h)), (2, .int (b2i r))] := hl
  refine lv_iload_n hx hb dX2_object_0 rfl (lv_at hl 1 rfl) ?_
  refine lh_cSi ⟨hx, hb, hml, hown, hts⟩ (kX2_isHost l D _ _ h) (va_cwS 1 hts gX2_object_X2_isHost rfl rfl rfl (by decide +kernel) ⟨Nat.le_of_ble_eq_true rfl, Nat.le_of_ble_eq_true rfl⟩) hK hN hP hD hS hA rfl hl.1 rfl (Nat.le_of_ble_eq_true rfl) ⟨Nat.le_of_ble_eq_true rfl, Nat.le_of_ble_eq_true rfl⟩ dX2_object_1 (fun H locs hP hD hS => ?_)
  refine lv_if_ne (tgt := 9) hx hb dX2_object_4 (by decide) (fun c_1 => ?_) (fun c_1 => ?_)
  · have c_1 : (isHo h) = true := b2i_n0 c_1
    obtain ⟨h1, hh1, eh1⟩ := isHo_ex c_1
    subst eh1
    have eh1 : (nI h1).toNatClampNeg = h1 := nI_clamp (by omega)
    refine lv_aload_n hx hb dX2_object_9 rfl (lv_at hl 0 rfl) ?_
    refine va_get (D := D) (ci := 2) (v := .int (nI (xD u))) (C := RX2) (T := TX2) (N := 13) hx hb hts hinX2 hown hK hP 0 rfl rfl 0 (by decide) fX2_51 (fun _ h9 => h9) rfl dX2_object_10 ?_
    refine lv_iload_n hx hb dX2_object_13 rfl (lv_at hl 1 rfl) ?_
    refine lh_cSi ⟨hx, hb, hml, hown, hts⟩ (kX2_has l D _ _ (xD u) h1 (by first | omega | exact gn_lt31 hM | exact gn_lt31 (by omega)) (by omega)) (va_cwS 2 hts gX2_object_X2_has rfl rfl rfl (by decide +kernel) ⟨Nat.le_of_ble_eq_true rfl, Nat.le_of_ble_eq_true rfl⟩) hK hN hP hD hS hA rfl hl.1 rfl (Nat.le_of_ble_eq_true rfl) ⟨Nat.le_of_ble_eq_true rfl, Nat.le_of_ble_eq_true rfl⟩ dX2_object_14 (fun H locs hP hD hS => ?_)
    refine lv_if_eq (tgt := 23) hx hb dX2_object_17 (by decide) (fun c_2 => ?_) (fun c_2 => ?_)
    · have c_2 : ((xD u).testBit h1) = false := b2i_e0 c_2
      refine lv_aload_n hx hb dX2_object_23 rfl (lv_at hl 0 rfl) ?_
      refine va_get (D := D) (ci := 2) (v := .int (nI (xM u))) (C := RX2) (T := TX2) (N := 13) hx hb hts hinX2 hown hK hP 0 rfl rfl 1 (by decide) fX2_39 (fun _ h9 => h9) rfl dX2_object_24 ?_
      refine lv_bipush (v := nI 10) hx hb dX2_object_27 (by decide) ?_
      refine lv_icmp_ne (tgt := 35) hx hb dX2_object_29 (by decide) (fun c_3 => ?_) (fun c_3 => ?_)
      · have c_3 : ¬ xM u = 10 := fun h => c_3 ((nI_eq (by omega) (by omega)).mpr h)
        have c_3 : xM u < 10 := by omega
        refine lv_aload_n hx hb dX2_object_35 rfl (lv_at hl 0 rfl) ?_
        refine va_get (D := D) (ci := 2) (v := .ref (ad 1)) (C := RX2) (T := TX2) (N := 13) hx hb hts hinX2 hown hK hP 0 rfl rfl 2 (by decide) fX2_7 (fun _ h9 => h9) rfl dX2_object_36 ?_
        refine lv_aload_n hx hb dX2_object_39 rfl (lv_at hl 0 rfl) ?_
        refine va_get (D := D) (ci := 2) (v := .int (nI (xM u))) (C := RX2) (T := TX2) (N := 13) hx hb hts hinX2 hown hK hP 0 rfl rfl 1 (by decide) fX2_39 (fun _ h9 => h9) rfl dX2_object_40 ?_
        refine lv_iload_n hx hb dX2_object_43 rfl (lv_at hl 1 rfl) ?_
        refine lh_ist (k := xM u) (N := 10) (f2 := fun zz => nI ((va_up (xHo u) (xM u) h1) zz)) hx hb hK hP hD hS 1 0 rfl rfl (by omega) (by decide) (lh_updN (xHo u) _ _) dX2_object_44 (fun H locs hP hD hS => ?_)
        have hP : va_P D vwCl (wM cI cZ ad (sHo u (va_up (xHo u) (xM u) h1))) H := hP
        have hD : va_D A (wM cI cZ ad (sHo u (va_up (xHo u) (xM u) h1))) := hD
        refine lv_aload_n hx hb dX2_object_45 rfl (lv_at hl 0 rfl) ?_
        refine va_get (D := D) (ci := 2) (v := .ref (ad 2)) (C := RX2) (T := TX2) (N := 13) hx hb hts hinX2 hown hK hP 0 rfl rfl 3 (by decide) fX2_13 (fun _ h9 => h9) rfl dX2_object_46 ?_
        refine lv_aload_n hx hb dX2_object_49 rfl (lv_at hl 0 rfl) ?_
        refine va_get (D := D) (ci := 2) (v := .int (nI (xM u))) (C := RX2) (T := TX2) (N := 13) hx hb hts hinX2 hown hK hP 0 rfl rfl 1 (by decide) fX2_39 (fun _ h9 => h9) rfl dX2_object_50 ?_
        refine lv_iload_n hx hb dX2_object_53 rfl (lv_at hl 2 rfl) ?_
        refine lh_zst (k := xM u) (N := 10) (f2 := fun zz => b2i ((va_up ((fun zz => (xR (sHo u (va_up (xHo u) (xM u) h1))).testBit zz)) (xM u) r) zz)) hx hb hK hP hD hS 2 1 rfl rfl (by omega) (by decide) (lh_updB ((fun zz => (xR (sHo u (va_up (xHo u) (xM u) h1))).testBit zz)) _ _) dX2_object_54 (fun H locs hP hD hS => ?_)
        have hP : va_P D vwCl (wG cI cZ ad (sHo u (va_up (xHo u) (xM u) h1)) (gn u) (va_up ((fun zz => (xR (sHo u (va_up (xHo u) (xM u) h1))).testBit zz)) (xM u) r)) H := hP
        have hD : va_D A (wG cI cZ ad (sHo u (va_up (xHo u) (xM u) h1)) (gn u) (va_up ((fun zz => (xR (sHo u (va_up (xHo u) (xM u) h1))).testBit zz)) (xM u) r)) := hD
        refine lv_aload_n hx hb dX2_object_55 rfl (lv_at hl 0 rfl) ?_
        refine lv_dup hx hb dX2_object_56 rfl ?_
        refine va_get (D := D) (ci := 2) (v := .int (nI (xM u))) (C := RX2) (T := TX2) (N := 13) hx hb hts hinX2 hown hK hP 0 rfl rfl 1 (by decide) fX2_39 (fun _ h9 => h9) rfl dX2_object_57 ?_
        refine lv_iconst (v := nI 1) hx hb dX2_object_60 (by decide) ?_
        refine lv_iadd hx hb dX2_object_61 ?_
        refine lh_top (y := nI (xM u + 1)) (nI_add _ _) ?_
        refine va_put (D := D) (ci := 2) (v := .int (nI (xM u + 1))) (ty := .int) (C := RX2) (T := TX2) (N := 13) hx hb hts hinX2 tyX2 tyX2_ok nmX2 hown hK hP hD hS 0 rfl rfl 1 (by decide) fX2_39 (fun _ h9 => h9) rfl (by decide +kernel) rfl rfl (Nat.le_of_ble_eq_true rfl) dX2_object_62 (fun H locs hP hD hS => ?_)
        have hP : va_P D vwCl (wG cI cZ ad (sHo (sM u ((xM u + 1))) (va_up (xHo u) (xM u) h1)) (gn u) (va_up ((fun zz => (xR (sHo u (va_up (xHo u) (xM u) h1))).testBit zz)) (xM u) r)) H := hP
        have hD : va_D A (wG cI cZ ad (sHo (sM u ((xM u + 1))) (va_up (xHo u) (xM u) h1)) (gn u) (va_up ((fun zz => (xR (sHo u (va_up (xHo u) (xM u) h1))).testBit zz)) (xM u) r)) := hD
        refine lv_aload_n hx hb dX2_object_65 rfl (lv_at hl 0 rfl) ?_
        refine va_get (D := D) (ci := 2) (v := .int (nI (xM u + 1))) (C := RX2) (T := TX2) (N := 13) hx hb hts hinX2 hown hK hP 0 rfl rfl 1 (by decide) fX2_39 (fun _ h9 => h9) rfl dX2_object_66 ?_
        refine lv_iconst (v := nI 1) hx hb dX2_object_69 (by decide) ?_
        refine lv_isub hx hb dX2_object_70 ?_
        refine lh_top (y := nI ((xM u + 1) - 1)) (pk_sub (by omega)) ?_
        exact lh_ri hx hb hr hlk hK hP hD hS (by first | (simp [nI_0, nI_o, objR, c_1, eh1, c_2, c_3]; done) | (simp [nI_0, nI_o, objR, c_1, eh1, c_2, c_3]; rfl)) (by exact obj_w inv cI cZ ad r (by assumption) (by assumption) (by assumption) (by assumption)) dX2_object_71
      · have c_3 : xM u = 10 := (nI_eq (by omega) (by omega)).mp c_3
        have c_3 : ¬ xM u < 10 := by omega
        refine lv_bipush (v := (-4)) hx hb dX2_object_32 (by decide) ?_
        exact lh_ri hx hb hr hlk hK hP hD hS (by first | (simp [nI_0, nI_o, objR, c_1, eh1, c_2, c_3]; done) | (simp [nI_0, nI_o, objR, c_1, eh1, c_2, c_3]; rfl)) (by first | (simp [nI_0, nI_o, objS, c_1, eh1, c_2, c_3]; done) | (simp [nI_0, nI_o, objS, c_1, eh1, c_2, c_3]; rfl)) dX2_object_34
    · have c_2 : ((xD u).testBit h1) = true := b2i_n0 c_2
      refine lv_bipush (v := (-3)) hx hb dX2_object_20 (by decide) ?_
      exact lh_ri hx hb hr hlk hK hP hD hS (by first | (simp [nI_0, nI_o, objR, c_1, eh1, c_2]; done) | (simp [nI_0, nI_o, objR, c_1, eh1, c_2]; rfl)) (by first | (simp [nI_0, nI_o, objS, c_1, eh1, c_2]; done) | (simp [nI_0, nI_o, objS, c_1, eh1, c_2]; rfl)) dX2_object_22
  · have c_1 : (isHo h) = false := b2i_e0 c_1
    refine lv_iconst (v := (-1)) hx hb dX2_object_7 (by decide) ?_
    exact lh_ri hx hb hr hlk hK hP hD hS (by first | (simp [nI_0, nI_o, objR, c_1]; done) | (simp [nI_0, nI_o, objR, c_1]; rfl)) (by first | (simp [nI_0, nI_o, objS, c_1]; done) | (simp [nI_0, nI_o, objS, c_1]; rfl)) dX2_object_8
set_option maxRecDepth 100000 in
set_option maxHeartbeats 4000000 in
theorem kX2_root (l : Launch) (D : va_G) (cI cZ : ClassId) (ad : Nat → Nat) (u : XS) (a : Int32) (is : Bool) (T : Nat) (inv : Inv T u) : CI l D [(cI, .int), (cZ, .boolean)] yX2_root wsX2_root ({ frames := 2, cells := 0, slots := 0, locals := 43 }) [.ref (ad 0), .int (a), .int (b2i is)] (wM cI cZ ad u) (wM cI cZ ad (rooS u a is)) (rooR u a is) := by
  have ok := inv.1
  obtain ⟨hM, hW, hHo, hAb, hLb, hRb, hDb⟩ := id ok
  refine lh_CIof (cc := cX2_root) (maxL := 3) (ret := (some .int)) (own := RX2) (by decide) rfl rfl (Nat.le_of_ble_eq_true rfl) ?_
  intro p e s m below meth c A ls hx hb hr hlk hts hown hml hK hN hA hP hD hS hl
  have fX2_61 := hts (.fieldLink RX2 61 "LostHostsModel" "gone" "I") (by decide +kernel)
  have fX2_13 := hts (.fieldLink RX2 13 "LostHostsModel" "isRoot" "[Z") (by decide +kernel)
  have hinX2 : ∀ w ∈ u_ws RX2 TX2 13, w ∈ wsX2_root := by decide +kernel
  have hl : lv_has ls 3 [(0, .ref (ad 0)), (1, .int (a)), (2, .int (b2i is))] := hl
  refine lv_aload_n hx hb dX2_root_0 rfl (lv_at hl 0 rfl) ?_
  refine lv_iload_n hx hb dX2_root_1 rfl (lv_at hl 1 rfl) ?_
  refine lh_cVi ⟨hx, hb, hml, hown, hts⟩ (kX2_isObject l D cI cZ ad u a ok) (cwV 1 hts gX2_root_X2_isObject rfl rfl rfl (by decide +kernel) ⟨Nat.le_of_ble_eq_true rfl, Nat.le_of_ble_eq_true rfl⟩) hK hN hP hD hS hA 0 2 rfl rfl rfl rfl hl.1 rfl (Nat.le_of_ble_eq_true rfl) ⟨Nat.le_of_ble_eq_true rfl, Nat.le_of_ble_eq_true rfl⟩ dX2_root_2 (fun H locs hP hD hS => ?_)
  refine lv_if_ne (tgt := 10) hx hb dX2_root_5 (by decide) (fun c_1 => ?_) (fun c_1 => ?_)
  · have c_1 : (isObj u a) = true := b2i_n0 c_1
    obtain ⟨a1, ha1, ea1⟩ := isObj_ex hM c_1
    subst ea1
    have ea1 : (nI a1).toNatClampNeg = a1 := nI_clamp (by omega)
    refine lv_aload_n hx hb dX2_root_10 rfl (lv_at hl 0 rfl) ?_
    refine va_get (D := D) (ci := 2) (v := .int (nI (gn u))) (C := RX2) (T := TX2) (N := 13) hx hb hts hinX2 hown hK hP 0 rfl rfl 4 (by decide) fX2_61 (fun _ h9 => h9) rfl dX2_root_11 ?_
    refine lv_iload_n hx hb dX2_root_14 rfl (lv_at hl 1 rfl) ?_
    refine lh_cSi ⟨hx, hb, hml, hown, hts⟩ (kX2_has l D _ _ (gn u) a1 (by first | omega | exact gn_lt31 hM | exact gn_lt31 (by omega)) (by omega)) (va_cwS 2 hts gX2_root_X2_has rfl rfl rfl (by decide +kernel) ⟨Nat.le_of_ble_eq_true rfl, Nat.le_of_ble_eq_true rfl⟩) hK hN hP hD hS hA rfl hl.1 rfl (Nat.le_of_ble_eq_true rfl) ⟨Nat.le_of_ble_eq_true rfl, Nat.le_of_ble_eq_true rfl⟩ dX2_root_15 (fun H locs hP hD hS => ?_)
    refine lv_if_eq (tgt := 24) hx hb dX2_root_18 (by decide) (fun c_2 => ?_) (fun c_2 => ?_)
    · have c_2 : ((gn u).testBit a1) = false := b2i_e0 c_2
      have c_2 := gnF (k := a1) (by omega) c_2
      refine lv_aload_n hx hb dX2_root_24 rfl (lv_at hl 0 rfl) ?_
      refine va_get (D := D) (ci := 2) (v := .ref (ad 2)) (C := RX2) (T := TX2) (N := 13) hx hb hts hinX2 hown hK hP 0 rfl rfl 3 (by decide) fX2_13 (fun _ h9 => h9) rfl dX2_root_25 ?_
      refine lv_iload_n hx hb dX2_root_28 rfl (lv_at hl 1 rfl) ?_
      refine lh_zld (k := a1) (N := 10) hx hb hK hP 2 1 rfl rfl (by omega) (by decide) dX2_root_29 ?_
      refine W.eq (g2 := F0 m 30 ls (.int (b2i ((xR u).testBit a1)) :: [])) rfl ?_
      refine lv_iload_n hx hb dX2_root_30 rfl (lv_at hl 2 rfl) ?_
      refine lv_icmp_ne (tgt := 36) hx hb dX2_root_31 (by decide) (fun c_3 => ?_) (fun c_3 => ?_)
      · have c_3 : ¬ (xR u).testBit a1 = is := fun h => c_3 (congrArg b2i h)
        refine lv_aload_n hx hb dX2_root_36 rfl (lv_at hl 0 rfl) ?_
        refine va_get (D := D) (ci := 2) (v := .ref (ad 2)) (C := RX2) (T := TX2) (N := 13) hx hb hts hinX2 hown hK hP 0 rfl rfl 3 (by decide) fX2_13 (fun _ h9 => h9) rfl dX2_root_37 ?_
        refine lv_iload_n hx hb dX2_root_40 rfl (lv_at hl 1 rfl) ?_
        refine lv_iload_n hx hb dX2_root_41 rfl (lv_at hl 2 rfl) ?_
        refine lh_zst (k := a1) (N := 10) (f2 := fun zz => b2i ((va_up ((fun zz => (xR u).testBit zz)) a1 is) zz)) hx hb hK hP hD hS 2 1 rfl rfl (by omega) (by decide) (lh_updB ((fun zz => (xR u).testBit zz)) _ _) dX2_root_42 (fun H locs hP hD hS => ?_)
        have hP : va_P D vwCl (wG cI cZ ad u (gn u) (va_up ((fun zz => (xR u).testBit zz)) a1 is)) H := hP
        have hD : va_D A (wG cI cZ ad u (gn u) (va_up ((fun zz => (xR u).testBit zz)) a1 is)) := hD
        refine lv_iconst (v := nI 1) hx hb dX2_root_43 (by decide) ?_
        exact lh_ri hx hb hr hlk hK hP hD hS (by first | (simp [nI_0, nI_o, rooR, c_1, ea1, c_2, c_3]; done) | (simp [nI_0, nI_o, rooR, c_1, ea1, c_2, c_3]; rfl)) (by rw [roo_w cI cZ ad is c_3]; simp [rooS, c_1, ea1, c_2, c_3]) dX2_root_44
      · have c_3 : (xR u).testBit a1 = is := b2i_inj c_3
        refine lv_iconst (v := nI 0) hx hb dX2_root_34 (by decide) ?_
        exact lh_ri hx hb hr hlk hK hP hD hS (by first | (simp [nI_0, nI_o, rooR, c_1, ea1, c_2, c_3]; done) | (simp [nI_0, nI_o, rooR, c_1, ea1, c_2, c_3]; rfl)) (by first | (simp [nI_0, nI_o, rooS, c_1, ea1, c_2, c_3]; done) | (simp [nI_0, nI_o, rooS, c_1, ea1, c_2, c_3]; rfl)) dX2_root_35
    · have c_2 : ((gn u).testBit a1) = true := b2i_n0 c_2
      have c_2 := gnT (k := a1) (by omega) c_2
      refine lv_bipush (v := (-3)) hx hb dX2_root_21 (by decide) ?_
      exact lh_ri hx hb hr hlk hK hP hD hS (by first | (simp [nI_0, nI_o, rooR, c_1, ea1, c_2]; done) | (simp [nI_0, nI_o, rooR, c_1, ea1, c_2]; rfl)) (by first | (simp [nI_0, nI_o, rooS, c_1, ea1, c_2]; done) | (simp [nI_0, nI_o, rooS, c_1, ea1, c_2]; rfl)) dX2_root_23
  · have c_1 : (isObj u a) = false := b2i_e0 c_1
    refine lv_iconst (v := (-1)) hx hb dX2_root_8 (by decide) ?_
    exact lh_ri hx hb hr hlk hK hP hD hS (by first | (simp [nI_0, nI_o, rooR, c_1]; done) | (simp [nI_0, nI_o, rooR, c_1]; rfl)) (by first | (simp [nI_0, nI_o, rooS, c_1]; done) | (simp [nI_0, nI_o, rooS, c_1]; rfl)) dX2_root_9
set_option maxRecDepth 100000 in
set_option maxHeartbeats 4000000 in
theorem kX2_link (l : Launch) (D : va_G) (cI cZ : ClassId) (ad : Nat → Nat) (u : XS) (a : Int32) (b : Int32) (T : Nat) (inv : Inv T u) : CI l D [(cI, .int), (cZ, .boolean)] yX2_link wsX2_link ({ frames := 3, cells := 0, slots := 0, locals := 67 }) [.ref (ad 0), .int (a), .int (b)] (wM cI cZ ad u) (wM cI cZ ad (lnkS u a b)) (lnkR u a b) := by
  have ok := inv.1
  obtain ⟨hM, hW, hHo, hAb, hLb, hRb, hDb⟩ := id ok
  refine lh_CIof (cc := cX2_link) (maxL := 4) (ret := (some .int)) (own := RX2) (by decide) rfl rfl (Nat.le_of_ble_eq_true rfl) ?_
  intro p e s m below meth c A ls hx hb hr hlk hts hown hml hK hN hA hP hD hS hl
  have fX2_61 := hts (.fieldLink RX2 61 "LostHostsModel" "gone" "I") (by decide +kernel)
  have fX2_17 := hts (.fieldLink RX2 17 "LostHostsModel" "outOf" "[I") (by decide +kernel)
  have fX2_13 := hts (.fieldLink RX2 13 "LostHostsModel" "isRoot" "[Z") (by decide +kernel)
  have hinX2 : ∀ w ∈ u_ws RX2 TX2 13, w ∈ wsX2_link := by decide +kernel
  have hl : lv_has ls 4 [(0, .ref (ad 0)), (1, .int (a)), (2, .int (b))] := hl
  refine lv_aload_n hx hb dX2_link_0 rfl (lv_at hl 0 rfl) ?_
  refine lv_iload_n hx hb dX2_link_1 rfl (lv_at hl 1 rfl) ?_
  refine lh_cVi ⟨hx, hb, hml, hown, hts⟩ (kX2_isObject l D cI cZ ad u a ok) (cwV 1 hts gX2_link_X2_isObject rfl rfl rfl (by decide +kernel) ⟨Nat.le_of_ble_eq_true rfl, Nat.le_of_ble_eq_true rfl⟩) hK hN hP hD hS hA 0 2 rfl rfl rfl rfl hl.1 rfl (Nat.le_of_ble_eq_true rfl) ⟨Nat.le_of_ble_eq_true rfl, Nat.le_of_ble_eq_true rfl⟩ dX2_link_2 (fun H locs hP hD hS => ?_)
  refine lv_if_eq (tgt := 16) hx hb dX2_link_5 (by decide) (fun c_1 => ?_) (fun c_1 => ?_)
  · have c_1 : (isObj u a) = false := b2i_e0 c_1
    refine lv_iconst (v := (-1)) hx hb dX2_link_16 (by decide) ?_
    exact lh_ri hx hb hr hlk hK hP hD hS (by first | (simp [nI_0, nI_o, lnkR, lnkQ, c_1]; done) | (simp [nI_0, nI_o, lnkR, lnkQ, c_1]; rfl)) (by first | (simp [lnkS, lnkQ, lnkT, sOu_0, c_1]; done) | (simp [lnkS, lnkQ, lnkT, sOu_0, c_1]; rfl)) dX2_link_17
  · have c_1 : (isObj u a) = true := b2i_n0 c_1
    obtain ⟨a1, ha1, ea1⟩ := isObj_ex hM c_1
    subst ea1
    have ea1 : (nI a1).toNatClampNeg = a1 := nI_clamp (by omega)
    refine lv_aload_n hx hb dX2_link_8 rfl (lv_at hl 0 rfl) ?_
    refine lv_iload_n hx hb dX2_link_9 rfl (lv_at hl 2 rfl) ?_
    refine lh_cVi ⟨hx, hb, hml, hown, hts⟩ (kX2_isObject l D cI cZ ad u b ok) (cwV 1 hts gX2_link_X2_isObject rfl rfl rfl (by decide +kernel) ⟨Nat.le_of_ble_eq_true rfl, Nat.le_of_ble_eq_true rfl⟩) hK hN hP hD hS hA 0 2 rfl rfl rfl rfl hl.1 rfl (Nat.le_of_ble_eq_true rfl) ⟨Nat.le_of_ble_eq_true rfl, Nat.le_of_ble_eq_true rfl⟩ dX2_link_10 (fun H locs hP hD hS => ?_)
    refine lv_if_ne (tgt := 18) hx hb dX2_link_13 (by decide) (fun c_2 => ?_) (fun c_2 => ?_)
    · have c_2 : (isObj u b) = true := b2i_n0 c_2
      obtain ⟨b1, hb1, eb1⟩ := isObj_ex hM c_2
      subst eb1
      have eb1 : (nI b1).toNatClampNeg = b1 := nI_clamp (by omega)
      refine lv_iload_n hx hb dX2_link_18 rfl (lv_at hl 1 rfl) ?_
      refine lv_iload_n hx hb dX2_link_19 rfl (lv_at hl 2 rfl) ?_
      refine lv_icmp_eq (tgt := 63) hx hb dX2_link_20 (by decide) (fun c_3 => ?_) (fun c_3 => ?_)
      · have c_3 : a1 = b1 := (nI_eq (by omega) (by omega)).mp c_3
        refine lv_bipush (v := (-3)) hx hb dX2_link_63 (by decide) ?_
        exact lh_ri hx hb hr hlk hK hP hD hS (by first | (simp [nI_0, nI_o, lnkR, lnkQ, c_1, ea1, c_2, eb1, c_3]; done) | (simp [nI_0, nI_o, lnkR, lnkQ, c_1, ea1, c_2, eb1, c_3]; rfl)) (by first | (simp [lnkS, lnkQ, lnkT, sOu_0, c_1, ea1, c_2, eb1, c_3]; done) | (simp [lnkS, lnkQ, lnkT, sOu_0, c_1, ea1, c_2, eb1, c_3]; rfl)) dX2_link_65
      · have c_3 : ¬ a1 = b1 := fun h => c_3 ((nI_eq (by omega) (by omega)).mpr h)
        refine lv_aload_n hx hb dX2_link_23 rfl (lv_at hl 0 rfl) ?_
        refine va_get (D := D) (ci := 2) (v := .int (nI (gn u))) (C := RX2) (T := TX2) (N := 13) hx hb hts hinX2 hown hK hP 0 rfl rfl 4 (by decide) fX2_61 (fun _ h9 => h9) rfl dX2_link_24 ?_
        refine lv_iload_n hx hb dX2_link_27 rfl (lv_at hl 1 rfl) ?_
        refine lh_cSi ⟨hx, hb, hml, hown, hts⟩ (kX2_has l D _ _ (gn u) a1 (by first | omega | exact gn_lt31 hM | exact gn_lt31 (by omega)) (by omega)) (va_cwS 2 hts gX2_link_X2_has rfl rfl rfl (by decide +kernel) ⟨Nat.le_of_ble_eq_true rfl, Nat.le_of_ble_eq_true rfl⟩) hK hN hP hD hS hA rfl hl.1 rfl (Nat.le_of_ble_eq_true rfl) ⟨Nat.le_of_ble_eq_true rfl, Nat.le_of_ble_eq_true rfl⟩ dX2_link_28 (fun H locs hP hD hS => ?_)
        refine lv_if_ne (tgt := 63) hx hb dX2_link_31 (by decide) (fun c_4 => ?_) (fun c_4 => ?_)
        · have c_4 : ((gn u).testBit a1) = true := b2i_n0 c_4
          have c_4 := gnT (k := a1) (by omega) c_4
          refine lv_bipush (v := (-3)) hx hb dX2_link_63 (by decide) ?_
          exact lh_ri hx hb hr hlk hK hP hD hS (by first | (simp [nI_0, nI_o, lnkR, lnkQ, c_1, ea1, c_2, eb1, c_3, c_4]; done) | (simp [nI_0, nI_o, lnkR, lnkQ, c_1, ea1, c_2, eb1, c_3, c_4]; rfl)) (by first | (simp [lnkS, lnkQ, lnkT, sOu_0, c_1, ea1, c_2, eb1, c_3, c_4]; done) | (simp [lnkS, lnkQ, lnkT, sOu_0, c_1, ea1, c_2, eb1, c_3, c_4]; rfl)) dX2_link_65
        · have c_4 : ((gn u).testBit a1) = false := b2i_e0 c_4
          have c_4 := gnF (k := a1) (by omega) c_4
          refine lv_aload_n hx hb dX2_link_34 rfl (lv_at hl 0 rfl) ?_
          refine va_get (D := D) (ci := 2) (v := .int (nI (gn u))) (C := RX2) (T := TX2) (N := 13) hx hb hts hinX2 hown hK hP 0 rfl rfl 4 (by decide) fX2_61 (fun _ h9 => h9) rfl dX2_link_35 ?_
          refine lv_iload_n hx hb dX2_link_38 rfl (lv_at hl 2 rfl) ?_
          refine lh_cSi ⟨hx, hb, hml, hown, hts⟩ (kX2_has l D _ _ (gn u) b1 (by first | omega | exact gn_lt31 hM | exact gn_lt31 (by omega)) (by omega)) (va_cwS 2 hts gX2_link_X2_has rfl rfl rfl (by decide +kernel) ⟨Nat.le_of_ble_eq_true rfl, Nat.le_of_ble_eq_true rfl⟩) hK hN hP hD hS hA rfl hl.1 rfl (Nat.le_of_ble_eq_true rfl) ⟨Nat.le_of_ble_eq_true rfl, Nat.le_of_ble_eq_true rfl⟩ dX2_link_39 (fun H locs hP hD hS => ?_)
          refine lv_if_ne (tgt := 63) hx hb dX2_link_42 (by decide) (fun c_5 => ?_) (fun c_5 => ?_)
          · have c_5 : ((gn u).testBit b1) = true := b2i_n0 c_5
            have c_5 := gnT (k := b1) (by omega) c_5
            refine lv_bipush (v := (-3)) hx hb dX2_link_63 (by decide) ?_
            exact lh_ri hx hb hr hlk hK hP hD hS (by first | (simp [nI_0, nI_o, lnkR, lnkQ, c_1, ea1, c_2, eb1, c_3, c_4, c_5]; done) | (simp [nI_0, nI_o, lnkR, lnkQ, c_1, ea1, c_2, eb1, c_3, c_4, c_5]; rfl)) (by first | (simp [lnkS, lnkQ, lnkT, sOu_0, c_1, ea1, c_2, eb1, c_3, c_4, c_5]; done) | (simp [lnkS, lnkQ, lnkT, sOu_0, c_1, ea1, c_2, eb1, c_3, c_4, c_5]; rfl)) dX2_link_65
          · have c_5 : ((gn u).testBit b1) = false := b2i_e0 c_5
            have c_5 := gnF (k := b1) (by omega) c_5
            refine lv_aload_n hx hb dX2_link_45 rfl (lv_at hl 0 rfl) ?_
            refine lv_iload_n hx hb dX2_link_46 rfl (lv_at hl 1 rfl) ?_
            refine lv_iload_n hx hb dX2_link_47 rfl (lv_at hl 2 rfl) ?_
            refine lh_cVi ⟨hx, hb, hml, hown, hts⟩ (kX2_areNeighbours l D cI cZ ad u a1 b1 ok (by omega) (by omega)) (cwV 2 hts gX2_link_X2_areNeighbours rfl rfl rfl (by decide +kernel) ⟨Nat.le_of_ble_eq_true rfl, Nat.le_of_ble_eq_true rfl⟩) hK hN hP hD hS hA 0 2 rfl rfl rfl rfl hl.1 rfl (Nat.le_of_ble_eq_true rfl) ⟨Nat.le_of_ble_eq_true rfl, Nat.le_of_ble_eq_true rfl⟩ dX2_link_48 (fun H locs hP hD hS => ?_)
            refine lv_if_ne (tgt := 66) hx hb dX2_link_51 (by decide) (fun c_6 => ?_) (fun c_6 => ?_)
            · have c_6 : (nbr u a1 b1) = true := b2i_n0 c_6
              refine lv_aload_n hx hb dX2_link_66 rfl (lv_at hl 0 rfl) ?_
              refine lv_iload_n hx hb dX2_link_67 rfl (lv_at hl 1 rfl) ?_
              refine lv_iload_n hx hb dX2_link_68 rfl (lv_at hl 2 rfl) ?_
              refine lh_cVi ⟨hx, hb, hml, hown, hts⟩ (kX2_isLink l D cI cZ ad u a1 b1 (by omega) (by omega)) (cwV 2 hts gX2_link_X2_isLink rfl rfl rfl (by decide +kernel) ⟨Nat.le_of_ble_eq_true rfl, Nat.le_of_ble_eq_true rfl⟩) hK hN hP hD hS hA 0 2 rfl rfl rfl rfl hl.1 rfl (Nat.le_of_ble_eq_true rfl) ⟨Nat.le_of_ble_eq_true rfl, Nat.le_of_ble_eq_true rfl⟩ dX2_link_69 (fun H locs hP hD hS => ?_)
              refine lv_if_eq (tgt := 77) hx hb dX2_link_72 (by decide) (fun c_7 => ?_) (fun c_7 => ?_)
              · have c_7 : (lnk u a1 b1) = false := b2i_e0 c_7
                refine lv_aload_n hx hb dX2_link_77 rfl (lv_at hl 0 rfl) ?_
                refine lv_iload_n hx hb dX2_link_78 rfl (lv_at hl 1 rfl) ?_
                refine lv_iload_n hx hb dX2_link_79 rfl (lv_at hl 2 rfl) ?_
                refine lh_cVi ⟨hx, hb, hml, hown, hts⟩ (kX2_areNeighbours l D cI cZ ad u a1 b1 ok (by omega) (by omega)) (cwV 2 hts gX2_link_X2_areNeighbours rfl rfl rfl (by decide +kernel) ⟨Nat.le_of_ble_eq_true rfl, Nat.le_of_ble_eq_true rfl⟩) hK hN hP hD hS hA 0 2 rfl rfl rfl rfl hl.1 rfl (Nat.le_of_ble_eq_true rfl) ⟨Nat.le_of_ble_eq_true rfl, Nat.le_of_ble_eq_true rfl⟩ dX2_link_80 (fun H locs hP hD hS => ?_)
                refine lv_if_eq (tgt := 90) hx hb dX2_link_83 (by decide) (fun c_8 => ?_) (fun c_8 => ?_)
                · have c_8 : (nbr u a1 b1) = false := b2i_e0 c_8
                  exact absurd (c_8.symm.trans c_6) (by decide)
                · have c_8 : (nbr u a1 b1) = true := b2i_n0 c_8
                  refine lv_iconst (v := nI 0) hx hb dX2_link_86 (by decide) ?_
                  refine lv_goto (tgt := 92) hx hb dX2_link_87 (by decide) ?_
                  refine lv_istore_n (lv' := [(3, .int (nI 0)), (0, .ref (ad 0)), (1, .int (nI a1)), (2, .int (nI b1))]) hx hb dX2_link_92 rfl hl (by decide) rfl (fun ls hl => ?_)
                  refine lv_aload_n hx hb dX2_link_93 rfl (lv_at hl 1 rfl) ?_
                  refine va_get (D := D) (ci := 2) (v := .ref (ad 3)) (C := RX2) (T := TX2) (N := 13) hx hb hts hinX2 hown hK hP 0 rfl rfl 5 (by decide) fX2_17 (fun _ h9 => h9) rfl dX2_link_94 ?_
                  refine lv_iload_n hx hb dX2_link_97 rfl (lv_at hl 3 rfl) ?_
                  refine lv_dup2_11 hx hb dX2_link_98 rfl rfl ?_
                  refine lh_ild (k := b1) (N := 10) hx hb hK hP 3 0 rfl rfl (by omega) (by decide) dX2_link_99 ?_
                  refine W.eq (g2 := F0 m 100 ls (.int ((xOu u b1)) :: [.int (nI b1), .ref (ad 3)])) rfl ?_
                  refine lv_iload_n hx hb dX2_link_100 rfl (lv_at hl 0 rfl) ?_
                  refine lv_iadd hx hb dX2_link_101 ?_
                  refine lh_ist (k := b1) (N := 10) (f2 := upd (xOu u) b1 (((xOu u b1) + nI 0))) hx hb hK hP hD hS 3 0 rfl rfl (by omega) (by decide) (rfl) dX2_link_102 (fun H locs hP hD hS => ?_)
                  have hP : va_P D vwCl (wM cI cZ ad (sOu u (upd (xOu u) b1 (((xOu u b1) + nI 0))))) H := hP
                  have hD : va_D A (wM cI cZ ad (sOu u (upd (xOu u) b1 (((xOu u b1) + nI 0))))) := hD
                  refine lv_aload_n hx hb dX2_link_103 rfl (lv_at hl 1 rfl) ?_
                  refine lv_iload_n hx hb dX2_link_104 rfl (lv_at hl 2 rfl) ?_
                  refine lv_iload_n hx hb dX2_link_105 rfl (lv_at hl 3 rfl) ?_
                  refine lv_iload_n hx hb dX2_link_106 rfl (lv_at hl 0 rfl) ?_
                  refine lh_cVv ⟨hx, hb, hml, hown, hts⟩ (kX2_adds l D cI cZ ad (sOu u (upd (xOu u) b1 (((xOu u b1) + nI 0)))) a1 b1 (nI 0) (by omega) (by omega)) (cwV 3 hts gX2_link_X2_adds rfl rfl rfl (by decide +kernel) ⟨Nat.le_of_ble_eq_true rfl, Nat.le_of_ble_eq_true rfl⟩) hK hN hP hD hS hA 0 2 rfl rfl rfl rfl hl.1 rfl (Nat.le_of_ble_eq_true rfl) ⟨Nat.le_of_ble_eq_true rfl, Nat.le_of_ble_eq_true rfl⟩ dX2_link_107 (fun H locs hP hD hS => ?_)
                  have hP : va_P D vwCl (wM cI cZ ad (adL (sOu u (upd (xOu u) b1 (((xOu u b1) + nI 0)))) a1 b1 (nI 0))) H := hP
                  have hD : va_D A (wM cI cZ ad (adL (sOu u (upd (xOu u) b1 (((xOu u b1) + nI 0)))) a1 b1 (nI 0))) := hD
                  refine lv_iconst (v := nI 1) hx hb dX2_link_110 (by decide) ?_
                  exact lh_ri hx hb hr hlk hK hP hD hS (by first | (simp [nI_0, nI_o, lnkR, lnkQ, c_1, ea1, c_2, eb1, c_3, c_4, c_5, c_6, c_7, c_8]; done) | (simp [nI_0, nI_o, lnkR, lnkQ, c_1, ea1, c_2, eb1, c_3, c_4, c_5, c_6, c_7, c_8]; rfl)) (by first | (simp [lnkS, lnkQ, lnkT, sOu_0, c_1, ea1, c_2, eb1, c_3, c_4, c_5, c_6, c_7, c_8]; done) | (simp [lnkS, lnkQ, lnkT, sOu_0, c_1, ea1, c_2, eb1, c_3, c_4, c_5, c_6, c_7, c_8]; rfl)) dX2_link_111
              · have c_7 : (lnk u a1 b1) = true := b2i_n0 c_7
                refine lv_iconst (v := nI 0) hx hb dX2_link_75 (by decide) ?_
                exact lh_ri hx hb hr hlk hK hP hD hS (by first | (simp [nI_0, nI_o, lnkR, lnkQ, c_1, ea1, c_2, eb1, c_3, c_4, c_5, c_6, c_7]; done) | (simp [nI_0, nI_o, lnkR, lnkQ, c_1, ea1, c_2, eb1, c_3, c_4, c_5, c_6, c_7]; rfl)) (by first | (simp [lnkS, lnkQ, lnkT, sOu_0, c_1, ea1, c_2, eb1, c_3, c_4, c_5, c_6, c_7]; done) | (simp [lnkS, lnkQ, lnkT, sOu_0, c_1, ea1, c_2, eb1, c_3, c_4, c_5, c_6, c_7]; rfl)) dX2_link_76
            · have c_6 : (nbr u a1 b1) = false := b2i_e0 c_6
              refine lv_aload_n hx hb dX2_link_54 rfl (lv_at hl 0 rfl) ?_
              refine va_get (D := D) (ci := 2) (v := .ref (ad 2)) (C := RX2) (T := TX2) (N := 13) hx hb hts hinX2 hown hK hP 0 rfl rfl 3 (by decide) fX2_13 (fun _ h9 => h9) rfl dX2_link_55 ?_
              refine lv_iload_n hx hb dX2_link_58 rfl (lv_at hl 2 rfl) ?_
              refine lh_zld (k := b1) (N := 10) hx hb hK hP 2 1 rfl rfl (by omega) (by decide) dX2_link_59 ?_
              refine W.eq (g2 := F0 m 60 ls (.int (b2i ((xR u).testBit b1)) :: [])) rfl ?_
              refine lv_if_ne (tgt := 66) hx hb dX2_link_60 (by decide) (fun c_9 => ?_) (fun c_9 => ?_)
              · have c_9 : (xR u).testBit b1 = true := b2i_n0 c_9
                refine lv_aload_n hx hb dX2_link_66 rfl (lv_at hl 0 rfl) ?_
                refine lv_iload_n hx hb dX2_link_67 rfl (lv_at hl 1 rfl) ?_
                refine lv_iload_n hx hb dX2_link_68 rfl (lv_at hl 2 rfl) ?_
                refine lh_cVi ⟨hx, hb, hml, hown, hts⟩ (kX2_isLink l D cI cZ ad u a1 b1 (by omega) (by omega)) (cwV 2 hts gX2_link_X2_isLink rfl rfl rfl (by decide +kernel) ⟨Nat.le_of_ble_eq_true rfl, Nat.le_of_ble_eq_true rfl⟩) hK hN hP hD hS hA 0 2 rfl rfl rfl rfl hl.1 rfl (Nat.le_of_ble_eq_true rfl) ⟨Nat.le_of_ble_eq_true rfl, Nat.le_of_ble_eq_true rfl⟩ dX2_link_69 (fun H locs hP hD hS => ?_)
                refine lv_if_eq (tgt := 77) hx hb dX2_link_72 (by decide) (fun c_10 => ?_) (fun c_10 => ?_)
                · have c_10 : (lnk u a1 b1) = false := b2i_e0 c_10
                  refine lv_aload_n hx hb dX2_link_77 rfl (lv_at hl 0 rfl) ?_
                  refine lv_iload_n hx hb dX2_link_78 rfl (lv_at hl 1 rfl) ?_
                  refine lv_iload_n hx hb dX2_link_79 rfl (lv_at hl 2 rfl) ?_
                  refine lh_cVi ⟨hx, hb, hml, hown, hts⟩ (kX2_areNeighbours l D cI cZ ad u a1 b1 ok (by omega) (by omega)) (cwV 2 hts gX2_link_X2_areNeighbours rfl rfl rfl (by decide +kernel) ⟨Nat.le_of_ble_eq_true rfl, Nat.le_of_ble_eq_true rfl⟩) hK hN hP hD hS hA 0 2 rfl rfl rfl rfl hl.1 rfl (Nat.le_of_ble_eq_true rfl) ⟨Nat.le_of_ble_eq_true rfl, Nat.le_of_ble_eq_true rfl⟩ dX2_link_80 (fun H locs hP hD hS => ?_)
                  refine lv_if_eq (tgt := 90) hx hb dX2_link_83 (by decide) (fun c_11 => ?_) (fun c_11 => ?_)
                  · have c_11 : (nbr u a1 b1) = false := b2i_e0 c_11
                    refine lv_bipush (v := nI 64) hx hb dX2_link_90 (by decide) ?_
                    refine lv_istore_n (lv' := [(3, .int (nI 64)), (0, .ref (ad 0)), (1, .int (nI a1)), (2, .int (nI b1))]) hx hb dX2_link_92 rfl hl (by decide) rfl (fun ls hl => ?_)
                    refine lv_aload_n hx hb dX2_link_93 rfl (lv_at hl 1 rfl) ?_
                    refine va_get (D := D) (ci := 2) (v := .ref (ad 3)) (C := RX2) (T := TX2) (N := 13) hx hb hts hinX2 hown hK hP 0 rfl rfl 5 (by decide) fX2_17 (fun _ h9 => h9) rfl dX2_link_94 ?_
                    refine lv_iload_n hx hb dX2_link_97 rfl (lv_at hl 3 rfl) ?_
                    refine lv_dup2_11 hx hb dX2_link_98 rfl rfl ?_
                    refine lh_ild (k := b1) (N := 10) hx hb hK hP 3 0 rfl rfl (by omega) (by decide) dX2_link_99 ?_
                    refine W.eq (g2 := F0 m 100 ls (.int ((xOu u b1)) :: [.int (nI b1), .ref (ad 3)])) rfl ?_
                    refine lv_iload_n hx hb dX2_link_100 rfl (lv_at hl 0 rfl) ?_
                    refine lv_iadd hx hb dX2_link_101 ?_
                    refine lh_ist (k := b1) (N := 10) (f2 := upd (xOu u) b1 (((xOu u b1) + nI 64))) hx hb hK hP hD hS 3 0 rfl rfl (by omega) (by decide) (rfl) dX2_link_102 (fun H locs hP hD hS => ?_)
                    have hP : va_P D vwCl (wM cI cZ ad (sOu u (upd (xOu u) b1 (((xOu u b1) + nI 64))))) H := hP
                    have hD : va_D A (wM cI cZ ad (sOu u (upd (xOu u) b1 (((xOu u b1) + nI 64))))) := hD
                    refine lv_aload_n hx hb dX2_link_103 rfl (lv_at hl 1 rfl) ?_
                    refine lv_iload_n hx hb dX2_link_104 rfl (lv_at hl 2 rfl) ?_
                    refine lv_iload_n hx hb dX2_link_105 rfl (lv_at hl 3 rfl) ?_
                    refine lv_iload_n hx hb dX2_link_106 rfl (lv_at hl 0 rfl) ?_
                    refine lh_cVv ⟨hx, hb, hml, hown, hts⟩ (kX2_adds l D cI cZ ad (sOu u (upd (xOu u) b1 (((xOu u b1) + nI 64)))) a1 b1 (nI 64) (by omega) (by omega)) (cwV 3 hts gX2_link_X2_adds rfl rfl rfl (by decide +kernel) ⟨Nat.le_of_ble_eq_true rfl, Nat.le_of_ble_eq_true rfl⟩) hK hN hP hD hS hA 0 2 rfl rfl rfl rfl hl.1 rfl (Nat.le_of_ble_eq_true rfl) ⟨Nat.le_of_ble_eq_true rfl, Nat.le_of_ble_eq_true rfl⟩ dX2_link_107 (fun H locs hP hD hS => ?_)
                    have hP : va_P D vwCl (wM cI cZ ad (adL (sOu u (upd (xOu u) b1 (((xOu u b1) + nI 64)))) a1 b1 (nI 64))) H := hP
                    have hD : va_D A (wM cI cZ ad (adL (sOu u (upd (xOu u) b1 (((xOu u b1) + nI 64)))) a1 b1 (nI 64))) := hD
                    refine lv_iconst (v := nI 1) hx hb dX2_link_110 (by decide) ?_
                    exact lh_ri hx hb hr hlk hK hP hD hS (by first | (simp [nI_0, nI_o, lnkR, lnkQ, c_1, ea1, c_2, eb1, c_3, c_4, c_5, c_6, c_9, c_10, c_11]; done) | (simp [nI_0, nI_o, lnkR, lnkQ, c_1, ea1, c_2, eb1, c_3, c_4, c_5, c_6, c_9, c_10, c_11]; rfl)) (by first | (simp [lnkS, lnkQ, lnkT, sOu_0, c_1, ea1, c_2, eb1, c_3, c_4, c_5, c_6, c_9, c_10, c_11]; done) | (simp [lnkS, lnkQ, lnkT, sOu_0, c_1, ea1, c_2, eb1, c_3, c_4, c_5, c_6, c_9, c_10, c_11]; rfl)) dX2_link_111
                  · have c_11 : (nbr u a1 b1) = true := b2i_n0 c_11
                    exact absurd (c_11.symm.trans c_6) (by decide)
                · have c_10 : (lnk u a1 b1) = true := b2i_n0 c_10
                  refine lv_iconst (v := nI 0) hx hb dX2_link_75 (by decide) ?_
                  exact lh_ri hx hb hr hlk hK hP hD hS (by first | (simp [nI_0, nI_o, lnkR, lnkQ, c_1, ea1, c_2, eb1, c_3, c_4, c_5, c_6, c_9, c_10]; done) | (simp [nI_0, nI_o, lnkR, lnkQ, c_1, ea1, c_2, eb1, c_3, c_4, c_5, c_6, c_9, c_10]; rfl)) (by first | (simp [lnkS, lnkQ, lnkT, sOu_0, c_1, ea1, c_2, eb1, c_3, c_4, c_5, c_6, c_9, c_10]; done) | (simp [lnkS, lnkQ, lnkT, sOu_0, c_1, ea1, c_2, eb1, c_3, c_4, c_5, c_6, c_9, c_10]; rfl)) dX2_link_76
              · have c_9 : (xR u).testBit b1 = false := b2i_e0 c_9
                refine lv_bipush (v := (-3)) hx hb dX2_link_63 (by decide) ?_
                exact lh_ri hx hb hr hlk hK hP hD hS (by first | (simp [nI_0, nI_o, lnkR, lnkQ, c_1, ea1, c_2, eb1, c_3, c_4, c_5, c_6, c_9]; done) | (simp [nI_0, nI_o, lnkR, lnkQ, c_1, ea1, c_2, eb1, c_3, c_4, c_5, c_6, c_9]; rfl)) (by first | (simp [lnkS, lnkQ, lnkT, sOu_0, c_1, ea1, c_2, eb1, c_3, c_4, c_5, c_6, c_9]; done) | (simp [lnkS, lnkQ, lnkT, sOu_0, c_1, ea1, c_2, eb1, c_3, c_4, c_5, c_6, c_9]; rfl)) dX2_link_65
    · have c_2 : (isObj u b) = false := b2i_e0 c_2
      refine lv_iconst (v := (-1)) hx hb dX2_link_16 (by decide) ?_
      exact lh_ri hx hb hr hlk hK hP hD hS (by first | (simp [nI_0, nI_o, lnkR, lnkQ, c_1, ea1, c_2]; done) | (simp [nI_0, nI_o, lnkR, lnkQ, c_1, ea1, c_2]; rfl)) (by first | (simp [lnkS, lnkQ, lnkT, sOu_0, c_1, ea1, c_2]; done) | (simp [lnkS, lnkQ, lnkT, sOu_0, c_1, ea1, c_2]; rfl)) dX2_link_17
set_option maxRecDepth 100000 in
set_option maxHeartbeats 4000000 in
theorem kX2_unlink (l : Launch) (D : va_G) (cI cZ : ClassId) (ad : Nat → Nat) (u : XS) (a : Int32) (b : Int32) (T : Nat) (inv : Inv T u) : CI l D [(cI, .int), (cZ, .boolean)] yX2_unlink wsX2_unlink ({ frames := 2, cells := 0, slots := 0, locals := 43 }) [.ref (ad 0), .int (a), .int (b)] (wM cI cZ ad u) (wM cI cZ ad (unlS u a b)) (unlR u a b) := by
  have ok := inv.1
  obtain ⟨hM, hW, hHo, hAb, hLb, hRb, hDb⟩ := id ok
  refine lh_CIof (cc := cX2_unlink) (maxL := 4) (ret := (some .int)) (own := RX2) (by decide) rfl rfl (Nat.le_of_ble_eq_true rfl) ?_
  intro p e s m below meth c A ls hx hb hr hlk hts hown hml hK hN hA hP hD hS hl
  have fX2_23 := hts (.fieldLink RX2 23 "LostHostsModel" "linkOf" "[I") (by decide +kernel)
  have fX2_74 := hts (.fieldLink RX2 74 "LostHostsModel" "letters" "I") (by decide +kernel)
  have hinX2 : ∀ w ∈ u_ws RX2 TX2 13, w ∈ wsX2_unlink := by decide +kernel
  have hl : lv_has ls 4 [(0, .ref (ad 0)), (1, .int (a)), (2, .int (b))] := hl
  refine lv_aload_n hx hb dX2_unlink_0 rfl (lv_at hl 0 rfl) ?_
  refine lv_iload_n hx hb dX2_unlink_1 rfl (lv_at hl 1 rfl) ?_
  refine lh_cVi ⟨hx, hb, hml, hown, hts⟩ (kX2_isObject l D cI cZ ad u a ok) (cwV 1 hts gX2_unlink_X2_isObject rfl rfl rfl (by decide +kernel) ⟨Nat.le_of_ble_eq_true rfl, Nat.le_of_ble_eq_true rfl⟩) hK hN hP hD hS hA 0 2 rfl rfl rfl rfl hl.1 rfl (Nat.le_of_ble_eq_true rfl) ⟨Nat.le_of_ble_eq_true rfl, Nat.le_of_ble_eq_true rfl⟩ dX2_unlink_2 (fun H locs hP hD hS => ?_)
  refine lv_if_eq (tgt := 16) hx hb dX2_unlink_5 (by decide) (fun c_1 => ?_) (fun c_1 => ?_)
  · have c_1 : (isObj u a) = false := b2i_e0 c_1
    refine lv_iconst (v := (-1)) hx hb dX2_unlink_16 (by decide) ?_
    exact lh_ri hx hb hr hlk hK hP hD hS (by first | (simp [nI_0, nI_o, unlR, c_1]; done) | (simp [nI_0, nI_o, unlR, c_1]; rfl)) (by first | (simp [nI_0, nI_o, unlS, unlC, c_1]; done) | (simp [nI_0, nI_o, unlS, unlC, c_1]; rfl)) dX2_unlink_17
  · have c_1 : (isObj u a) = true := b2i_n0 c_1
    obtain ⟨a1, ha1, ea1⟩ := isObj_ex hM c_1
    subst ea1
    have ea1 : (nI a1).toNatClampNeg = a1 := nI_clamp (by omega)
    refine lv_aload_n hx hb dX2_unlink_8 rfl (lv_at hl 0 rfl) ?_
    refine lv_iload_n hx hb dX2_unlink_9 rfl (lv_at hl 2 rfl) ?_
    refine lh_cVi ⟨hx, hb, hml, hown, hts⟩ (kX2_isObject l D cI cZ ad u b ok) (cwV 1 hts gX2_unlink_X2_isObject rfl rfl rfl (by decide +kernel) ⟨Nat.le_of_ble_eq_true rfl, Nat.le_of_ble_eq_true rfl⟩) hK hN hP hD hS hA 0 2 rfl rfl rfl rfl hl.1 rfl (Nat.le_of_ble_eq_true rfl) ⟨Nat.le_of_ble_eq_true rfl, Nat.le_of_ble_eq_true rfl⟩ dX2_unlink_10 (fun H locs hP hD hS => ?_)
    refine lv_if_ne (tgt := 18) hx hb dX2_unlink_13 (by decide) (fun c_2 => ?_) (fun c_2 => ?_)
    · have c_2 : (isObj u b) = true := b2i_n0 c_2
      obtain ⟨b1, hb1, eb1⟩ := isObj_ex hM c_2
      subst eb1
      have eb1 : (nI b1).toNatClampNeg = b1 := nI_clamp (by omega)
      refine lv_aload_n hx hb dX2_unlink_18 rfl (lv_at hl 0 rfl) ?_
      refine lv_iload_n hx hb dX2_unlink_19 rfl (lv_at hl 1 rfl) ?_
      refine lv_iload_n hx hb dX2_unlink_20 rfl (lv_at hl 2 rfl) ?_
      refine lh_cVi ⟨hx, hb, hml, hown, hts⟩ (kX2_linkFrom l D cI cZ ad u a1 b1 (by omega) (by omega)) (cwV 2 hts gX2_unlink_X2_linkFrom rfl rfl rfl (by decide +kernel) ⟨Nat.le_of_ble_eq_true rfl, Nat.le_of_ble_eq_true rfl⟩) hK hN hP hD hS hA 0 2 rfl rfl rfl rfl hl.1 rfl (Nat.le_of_ble_eq_true rfl) ⟨Nat.le_of_ble_eq_true rfl, Nat.le_of_ble_eq_true rfl⟩ dX2_unlink_21 (fun H locs hP hD hS => ?_)
      refine lv_istore_n (lv' := [(3, .int ((xLi u (a1 * 10 + b1)))), (0, .ref (ad 0)), (1, .int (nI a1)), (2, .int (nI b1))]) hx hb dX2_unlink_24 rfl hl (by decide) rfl (fun ls hl => ?_)
      refine lv_iload_n hx hb dX2_unlink_25 rfl (lv_at hl 0 rfl) ?_
      refine lv_bipush (v := (-9)) hx hb dX2_unlink_26 (by decide) ?_
      refine lv_icmp_ne (tgt := 34) hx hb dX2_unlink_28 (by decide) (fun c_3 => ?_) (fun c_3 => ?_)
      · have c_3r := c_3
        have c_3l : lnk u a1 b1 = true := by unfold lnk; simpa using c_3
        refine lv_iload_n hx hb dX2_unlink_34 rfl (lv_at hl 0 rfl) ?_
        refine lv_if_le (tgt := 50) hx hb dX2_unlink_35 (by decide) (fun c_4 => ?_) (fun c_4 => ?_)
        · have c_4r := c_4
          have z9 : xLi u (a1 * 10 + b1) = 0 := Inv_le0 inv (by omega) (by omega) c_3 c_4
          refine lv_aload_n hx hb dX2_unlink_50 rfl (lv_at hl 1 rfl) ?_
          refine va_get (D := D) (ci := 2) (v := .ref (ad 5)) (C := RX2) (T := TX2) (N := 13) hx hb hts hinX2 hown hK hP 0 rfl rfl 7 (by decide) fX2_23 (fun _ h9 => h9) rfl dX2_unlink_51 ?_
          refine lv_bipush (v := nI 10) hx hb dX2_unlink_54 (by decide) ?_
          refine lv_iload_n hx hb dX2_unlink_56 rfl (lv_at hl 2 rfl) ?_
          refine lv_imul hx hb dX2_unlink_57 ?_
          refine lh_top (y := nI (a1 * 10)) ((pk_mul _ _).trans (congrArg nI (Nat.mul_comm _ _))) ?_
          refine lv_iload_n hx hb dX2_unlink_58 rfl (lv_at hl 3 rfl) ?_
          refine lv_iadd hx hb dX2_unlink_59 ?_
          refine lh_top (y := nI ((a1 * 10) + b1)) (nI_add _ _) ?_
          refine lv_bipush (v := (-9)) hx hb dX2_unlink_60 (by decide) ?_
          refine lh_ist (k := ((a1 * 10) + b1)) (N := 100) (f2 := upd (xLi u) ((a1 * 10) + b1) ((-9))) hx hb hK hP hD hS 5 0 rfl rfl (by omega) (by decide) (rfl) dX2_unlink_62 (fun H locs hP hD hS => ?_)
          have hP : va_P D vwCl (wM cI cZ ad (sLi u (upd (xLi u) ((a1 * 10) + b1) ((-9))))) H := hP
          have hD : va_D A (wM cI cZ ad (sLi u (upd (xLi u) ((a1 * 10) + b1) ((-9))))) := hD
          refine lv_iload_n hx hb dX2_unlink_63 rfl (lv_at hl 0 rfl) ?_
          refine lv_if_le (tgt := 75) hx hb dX2_unlink_64 (by decide) (fun c_5 => ?_) (fun c_5 => ?_)
          · refine lv_iload_n hx hb dX2_unlink_75 rfl (lv_at hl 0 rfl) ?_
            refine lv_if_le (tgt := 83) hx hb dX2_unlink_76 (by decide) (fun c_6 => ?_) (fun c_6 => ?_)
            · refine lv_iconst (v := nI 0) hx hb dX2_unlink_83 (by decide) ?_
              exact lh_ri hx hb hr hlk hK hP hD hS (by first | (simp [nI_0, nI_o, unlR, c_3l, z9, c_1, ea1, c_2, eb1, c_3, c_4, c_5, c_6]; done) | (simp [nI_0, nI_o, unlR, c_3l, z9, c_1, ea1, c_2, eb1, c_3, c_4, c_5, c_6]; rfl)) (by first | (simp [nI_0, nI_o, unlS, unlC, c_3l, z9, c_1, ea1, c_2, eb1, c_3, c_4, c_5, c_6]; done) | (simp [nI_0, nI_o, unlS, unlC, c_3l, z9, c_1, ea1, c_2, eb1, c_3, c_4, c_5, c_6]; rfl)) dX2_unlink_84
            · exact absurd c_4r c_6
          · exact absurd c_4r c_5
        · have c_4r := c_4
          have z9 : ¬ xLi u (a1 * 10 + b1) = 0 := fun q => c_4 (by rw [q]; decide)
          refine lv_aload_n hx hb dX2_unlink_38 rfl (lv_at hl 1 rfl) ?_
          refine va_get (D := D) (ci := 2) (v := .int (nI (xW u))) (C := RX2) (T := TX2) (N := 13) hx hb hts hinX2 hown hK hP 0 rfl rfl 8 (by decide) fX2_74 (fun _ h9 => h9) rfl dX2_unlink_39 ?_
          refine lv_bipush (v := nI 60) hx hb dX2_unlink_42 (by decide) ?_
          refine lv_icmp_lt (tgt := 50) hx hb dX2_unlink_44 (by decide) (fun c_7 => ?_) (fun c_7 => ?_)
          · have c_7 : xW u < 60 := (nI_ltI (by omega) (by omega)).mp c_7
            refine lv_aload_n hx hb dX2_unlink_50 rfl (lv_at hl 1 rfl) ?_
            refine va_get (D := D) (ci := 2) (v := .ref (ad 5)) (C := RX2) (T := TX2) (N := 13) hx hb hts hinX2 hown hK hP 0 rfl rfl 7 (by decide) fX2_23 (fun _ h9 => h9) rfl dX2_unlink_51 ?_
            refine lv_bipush (v := nI 10) hx hb dX2_unlink_54 (by decide) ?_
            refine lv_iload_n hx hb dX2_unlink_56 rfl (lv_at hl 2 rfl) ?_
            refine lv_imul hx hb dX2_unlink_57 ?_
            refine lh_top (y := nI (a1 * 10)) ((pk_mul _ _).trans (congrArg nI (Nat.mul_comm _ _))) ?_
            refine lv_iload_n hx hb dX2_unlink_58 rfl (lv_at hl 3 rfl) ?_
            refine lv_iadd hx hb dX2_unlink_59 ?_
            refine lh_top (y := nI ((a1 * 10) + b1)) (nI_add _ _) ?_
            refine lv_bipush (v := (-9)) hx hb dX2_unlink_60 (by decide) ?_
            refine lh_ist (k := ((a1 * 10) + b1)) (N := 100) (f2 := upd (xLi u) ((a1 * 10) + b1) ((-9))) hx hb hK hP hD hS 5 0 rfl rfl (by omega) (by decide) (rfl) dX2_unlink_62 (fun H locs hP hD hS => ?_)
            have hP : va_P D vwCl (wM cI cZ ad (sLi u (upd (xLi u) ((a1 * 10) + b1) ((-9))))) H := hP
            have hD : va_D A (wM cI cZ ad (sLi u (upd (xLi u) ((a1 * 10) + b1) ((-9))))) := hD
            refine lv_iload_n hx hb dX2_unlink_63 rfl (lv_at hl 0 rfl) ?_
            refine lv_if_le (tgt := 75) hx hb dX2_unlink_64 (by decide) (fun c_8 => ?_) (fun c_8 => ?_)
            · exact absurd c_8 c_4r
            · refine lv_aload_n hx hb dX2_unlink_67 rfl (lv_at hl 1 rfl) ?_
              refine lv_iload_n hx hb dX2_unlink_68 rfl (lv_at hl 3 rfl) ?_
              refine lv_bipush (v := (-9)) hx hb dX2_unlink_69 (by decide) ?_
              refine lv_iload_n hx hb dX2_unlink_71 rfl (lv_at hl 0 rfl) ?_
              refine lh_cVv ⟨hx, hb, hml, hown, hts⟩ (kX2_sends l D cI cZ ad (sLi u (upd (xLi u) ((a1 * 10) + b1) ((-9)))) (gn (sLi u (upd (xLi u) ((a1 * 10) + b1) ((-9))))) (fun zz => (xR (sLi u (upd (xLi u) ((a1 * 10) + b1) ((-9))))).testBit zz) b1 10 (xLi u (a1 * 10 + b1)) (by show xW u < 512; omega)) (cwV 3 hts gX2_unlink_X2_sends rfl rfl rfl (by decide +kernel) ⟨Nat.le_of_ble_eq_true rfl, Nat.le_of_ble_eq_true rfl⟩) hK hN hP hD hS hA 0 2 rfl rfl rfl rfl hl.1 rfl (Nat.le_of_ble_eq_true rfl) ⟨Nat.le_of_ble_eq_true rfl, Nat.le_of_ble_eq_true rfl⟩ dX2_unlink_72 (fun H locs hP hD hS => ?_)
              have hP : va_P D vwCl (wM cI cZ ad (app (sLi u (upd (xLi u) ((a1 * 10) + b1) ((-9)))) b1 10 (xLi u (a1 * 10 + b1)))) H := hP
              have hD : va_D A (wM cI cZ ad (app (sLi u (upd (xLi u) ((a1 * 10) + b1) ((-9)))) b1 10 (xLi u (a1 * 10 + b1)))) := hD
              refine lv_iload_n hx hb dX2_unlink_75 rfl (lv_at hl 0 rfl) ?_
              refine lv_if_le (tgt := 83) hx hb dX2_unlink_76 (by decide) (fun c_9 => ?_) (fun c_9 => ?_)
              · exact absurd c_9 c_4r
              · refine lv_iconst (v := nI 1) hx hb dX2_unlink_79 (by decide) ?_
                refine lv_goto (tgt := 84) hx hb dX2_unlink_80 (by decide) ?_
                exact lh_ri hx hb hr hlk hK hP hD hS (by first | (simp [nI_0, nI_o, unlR, c_3l, z9, c_1, ea1, c_2, eb1, c_3, c_4, c_7, c_8, c_9]; done) | (simp [nI_0, nI_o, unlR, c_3l, z9, c_1, ea1, c_2, eb1, c_3, c_4, c_7, c_8, c_9]; rfl)) (by first | (simp [nI_0, nI_o, unlS, unlC, c_3l, z9, c_1, ea1, c_2, eb1, c_3, c_4, c_7, c_8, c_9]; done) | (simp [nI_0, nI_o, unlS, unlC, c_3l, z9, c_1, ea1, c_2, eb1, c_3, c_4, c_7, c_8, c_9]; rfl)) dX2_unlink_84
          · have c_7 : 60 ≤ xW u := Nat.le_of_not_lt (fun h => c_7 ((nI_ltI (by omega) (by omega)).mpr h))
            have c_7n : ¬ xW u < 60 := by omega
            refine lv_bipush (v := (-4)) hx hb dX2_unlink_47 (by decide) ?_
            exact lh_ri hx hb hr hlk hK hP hD hS (by first | (simp [nI_0, nI_o, unlR, c_3l, z9, c_1, ea1, c_2, eb1, c_3, c_4, c_7n, c_7]; done) | (simp [nI_0, nI_o, unlR, c_3l, z9, c_1, ea1, c_2, eb1, c_3, c_4, c_7n, c_7]; rfl)) (by first | (simp [nI_0, nI_o, unlS, unlC, c_3l, z9, c_1, ea1, c_2, eb1, c_3, c_4, c_7n, c_7]; done) | (simp [nI_0, nI_o, unlS, unlC, c_3l, z9, c_1, ea1, c_2, eb1, c_3, c_4, c_7n, c_7]; rfl)) dX2_unlink_49
      · have c_3r := c_3
        have c_3l : lnk u a1 b1 = false := by unfold lnk; simpa using c_3
        refine lv_bipush (v := (-3)) hx hb dX2_unlink_31 (by decide) ?_
        exact lh_ri hx hb hr hlk hK hP hD hS (by first | (simp [nI_0, nI_o, unlR, c_3l, c_1, ea1, c_2, eb1, c_3]; done) | (simp [nI_0, nI_o, unlR, c_3l, c_1, ea1, c_2, eb1, c_3]; rfl)) (by first | (simp [nI_0, nI_o, unlS, unlC, c_3l, c_1, ea1, c_2, eb1, c_3]; done) | (simp [nI_0, nI_o, unlS, unlC, c_3l, c_1, ea1, c_2, eb1, c_3]; rfl)) dX2_unlink_33
    · have c_2 : (isObj u b) = false := b2i_e0 c_2
      refine lv_iconst (v := (-1)) hx hb dX2_unlink_16 (by decide) ?_
      exact lh_ri hx hb hr hlk hK hP hD hS (by first | (simp [nI_0, nI_o, unlR, c_1, ea1, c_2]; done) | (simp [nI_0, nI_o, unlR, c_1, ea1, c_2]; rfl)) (by first | (simp [nI_0, nI_o, unlS, unlC, c_1, ea1, c_2]; done) | (simp [nI_0, nI_o, unlS, unlC, c_1, ea1, c_2]; rfl)) dX2_unlink_17
set_option maxRecDepth 100000 in
set_option maxHeartbeats 4000000 in
theorem kX2_ofObject (l : Launch) (D : va_G) (cI cZ : ClassId) (ad : Nat → Nat) (u : XS) (a : Int32) (w : Int32) (T : Nat) (inv : Inv T u) : CI l D [(cI, .int), (cZ, .boolean)] yX2_ofObject wsX2_ofObject ({ frames := 3, cells := 0, slots := 0, locals := 67 }) [.ref (ad 0), .int (a), .int (w)] (wM cI cZ ad u) (wM cI cZ ad u) (ofoR u a w) := by
  have ok := inv.1
  obtain ⟨hM, hW, hHo, hAb, hLb, hRb, hDb⟩ := id ok
  refine lh_CIof (cc := cX2_ofObject) (maxL := 3) (ret := (some .int)) (own := RX2) (by decide) rfl rfl (Nat.le_of_ble_eq_true rfl) ?_
  intro p e s m below meth c A ls hx hb hr hlk hts hown hml hK hN hA hP hD hS hl
  have fX2_7 := hts (.fieldLink RX2 7 "LostHostsModel" "hostOf" "[I") (by decide +kernel)
  have fX2_13 := hts (.fieldLink RX2 13 "LostHostsModel" "isRoot" "[Z") (by decide +kernel)
  have fX2_61 := hts (.fieldLink RX2 61 "LostHostsModel" "gone" "I") (by decide +kernel)
  have fX2_17 := hts (.fieldLink RX2 17 "LostHostsModel" "outOf" "[I") (by decide +kernel)
  have fX2_20 := hts (.fieldLink RX2 20 "LostHostsModel" "ageOf" "[I") (by decide +kernel)
  have hinX2 : ∀ w ∈ u_ws RX2 TX2 13, w ∈ wsX2_ofObject := by decide +kernel
  have hl : lv_has ls 3 [(0, .ref (ad 0)), (1, .int (a)), (2, .int (w))] := hl
  refine lv_aload_n hx hb dX2_ofObject_0 rfl (lv_at hl 0 rfl) ?_
  refine lv_iload_n hx hb dX2_ofObject_1 rfl (lv_at hl 1 rfl) ?_
  refine lh_cVi ⟨hx, hb, hml, hown, hts⟩ (kX2_isObject l D cI cZ ad u a ok) (cwV 1 hts gX2_ofObject_X2_isObject rfl rfl rfl (by decide +kernel) ⟨Nat.le_of_ble_eq_true rfl, Nat.le_of_ble_eq_true rfl⟩) hK hN hP hD hS hA 0 2 rfl rfl rfl rfl hl.1 rfl (Nat.le_of_ble_eq_true rfl) ⟨Nat.le_of_ble_eq_true rfl, Nat.le_of_ble_eq_true rfl⟩ dX2_ofObject_2 (fun H locs hP hD hS => ?_)
  refine lv_if_ne (tgt := 10) hx hb dX2_ofObject_5 (by decide) (fun c_1 => ?_) (fun c_1 => ?_)
  · have c_1 : (isObj u a) = true := b2i_n0 c_1
    obtain ⟨a1, ha1, ea1⟩ := isObj_ex hM c_1
    subst ea1
    have ea1 : (nI a1).toNatClampNeg = a1 := nI_clamp (by omega)
    refine lv_iload_n hx hb dX2_ofObject_10 rfl (lv_at hl 2 rfl) ?_
    rcases lh_sw (n := 7) (hi := 6) (x := w) (by decide) (by decide) with c_2 | c_2
    · refine lv_tableOut (tgt := 117) hx hb dX2_ofObject_11 c_2 (by decide) ?_
      refine lv_bipush (v := (-2)) hx hb dX2_ofObject_117 (by decide) ?_
      exact lh_ri hx hb hr hlk hK hP hD hS (by have hk := swO (n := 7) (hi := 6) (by decide) c_2 (by decide); simp [ofoR, hk 0 (by decide), hk 1 (by decide), hk 2 (by decide), hk 3 (by decide), hk 4 (by decide), hk 5 (by decide), hk 6 (by decide), c_1, ea1, c_2]) rfl dX2_ofObject_119
    · obtain ⟨c_2k, c_2l, c_2⟩ := c_2
      by_cases c_2e : c_2k = 0
      · subst c_2e
        refine lv_tableIn (off := 41) (tgt := 52) hx hb dX2_ofObject_11 (by rw [c_2]; decide) (by rw [c_2]; decide) (by rw [c_2]; decide) (by decide) ?_
        refine lv_aload_n hx hb dX2_ofObject_52 rfl (lv_at hl 0 rfl) ?_
        refine va_get (D := D) (ci := 2) (v := .ref (ad 1)) (C := RX2) (T := TX2) (N := 13) hx hb hts hinX2 hown hK hP 0 rfl rfl 2 (by decide) fX2_7 (fun _ h9 => h9) rfl dX2_ofObject_53 ?_
        refine lv_iload_n hx hb dX2_ofObject_56 rfl (lv_at hl 1 rfl) ?_
        refine lh_ild (k := a1) (N := 10) hx hb hK hP 1 0 rfl rfl (by omega) (by decide) dX2_ofObject_57 ?_
        refine W.eq (g2 := F0 m 58 ls (.int (nI (xHo u a1)) :: [])) rfl ?_
        exact lh_ri hx hb hr hlk hK hP hD hS (by first | (simp [ofoR, nI_eqL, c_1, ea1, c_2]; done) | (simp [ofoR, nI_eqL, b2i, nI_0, nI_o, c_1, ea1, c_2]; done) | (simp [ofoR, nI_eqL, b2i, c_1, ea1, c_2]; rfl)) rfl dX2_ofObject_58
      by_cases c_2e : c_2k = 1
      · subst c_2e
        refine lv_tableIn (off := 48) (tgt := 59) hx hb dX2_ofObject_11 (by rw [c_2]; decide) (by rw [c_2]; decide) (by rw [c_2]; decide) (by decide) ?_
        refine lv_aload_n hx hb dX2_ofObject_59 rfl (lv_at hl 0 rfl) ?_
        refine va_get (D := D) (ci := 2) (v := .ref (ad 2)) (C := RX2) (T := TX2) (N := 13) hx hb hts hinX2 hown hK hP 0 rfl rfl 3 (by decide) fX2_13 (fun _ h9 => h9) rfl dX2_ofObject_60 ?_
        refine lv_iload_n hx hb dX2_ofObject_63 rfl (lv_at hl 1 rfl) ?_
        refine lh_zld (k := a1) (N := 10) hx hb hK hP 2 1 rfl rfl (by omega) (by decide) dX2_ofObject_64 ?_
        refine W.eq (g2 := F0 m 65 ls (.int (b2i ((xR u).testBit a1)) :: [])) rfl ?_
        refine lv_if_eq (tgt := 72) hx hb dX2_ofObject_65 (by decide) (fun c_3 => ?_) (fun c_3 => ?_)
        · have c_3 : (xR u).testBit a1 = false := b2i_e0 c_3
          refine lv_iconst (v := nI 0) hx hb dX2_ofObject_72 (by decide) ?_
          exact lh_ri hx hb hr hlk hK hP hD hS (by first | (simp [ofoR, nI_eqL, c_1, ea1, c_2, c_3]; done) | (simp [ofoR, nI_eqL, b2i, nI_0, nI_o, c_1, ea1, c_2, c_3]; done) | (simp [ofoR, nI_eqL, b2i, c_1, ea1, c_2, c_3]; rfl)) rfl dX2_ofObject_73
        · have c_3 : (xR u).testBit a1 = true := b2i_n0 c_3
          refine lv_iconst (v := nI 1) hx hb dX2_ofObject_68 (by decide) ?_
          refine lv_goto (tgt := 73) hx hb dX2_ofObject_69 (by decide) ?_
          exact lh_ri hx hb hr hlk hK hP hD hS (by first | (simp [ofoR, nI_eqL, c_1, ea1, c_2, c_3]; done) | (simp [ofoR, nI_eqL, b2i, nI_0, nI_o, c_1, ea1, c_2, c_3]; done) | (simp [ofoR, nI_eqL, b2i, c_1, ea1, c_2, c_3]; rfl)) rfl dX2_ofObject_73
      by_cases c_2e : c_2k = 2
      · subst c_2e
        refine lv_tableIn (off := 63) (tgt := 74) hx hb dX2_ofObject_11 (by rw [c_2]; decide) (by rw [c_2]; decide) (by rw [c_2]; decide) (by decide) ?_
        refine lv_aload_n hx hb dX2_ofObject_74 rfl (lv_at hl 0 rfl) ?_
        refine va_get (D := D) (ci := 2) (v := .int (nI (gn u))) (C := RX2) (T := TX2) (N := 13) hx hb hts hinX2 hown hK hP 0 rfl rfl 4 (by decide) fX2_61 (fun _ h9 => h9) rfl dX2_ofObject_75 ?_
        refine lv_iload_n hx hb dX2_ofObject_78 rfl (lv_at hl 1 rfl) ?_
        refine lh_cSi ⟨hx, hb, hml, hown, hts⟩ (kX2_has l D _ _ (gn u) a1 (by first | omega | exact gn_lt31 hM | exact gn_lt31 (by omega)) (by omega)) (va_cwS 2 hts gX2_ofObject_X2_has rfl rfl rfl (by decide +kernel) ⟨Nat.le_of_ble_eq_true rfl, Nat.le_of_ble_eq_true rfl⟩) hK hN hP hD hS hA rfl hl.1 rfl (Nat.le_of_ble_eq_true rfl) ⟨Nat.le_of_ble_eq_true rfl, Nat.le_of_ble_eq_true rfl⟩ dX2_ofObject_79 (fun H locs hP hD hS => ?_)
        refine lv_if_eq (tgt := 89) hx hb dX2_ofObject_82 (by decide) (fun c_4 => ?_) (fun c_4 => ?_)
        · have c_4 : ((gn u).testBit a1) = false := b2i_e0 c_4
          have c_4 := gnF (k := a1) (by omega) c_4
          refine lv_iconst (v := nI 1) hx hb dX2_ofObject_89 (by decide) ?_
          exact lh_ri hx hb hr hlk hK hP hD hS (by first | (simp [ofoR, nI_eqL, c_1, ea1, c_2, c_4]; done) | (simp [ofoR, nI_eqL, b2i, nI_0, nI_o, c_1, ea1, c_2, c_4]; done) | (simp [ofoR, nI_eqL, b2i, c_1, ea1, c_2, c_4]; rfl)) rfl dX2_ofObject_90
        · have c_4 : ((gn u).testBit a1) = true := b2i_n0 c_4
          have c_4 := gnT (k := a1) (by omega) c_4
          refine lv_iconst (v := nI 0) hx hb dX2_ofObject_85 (by decide) ?_
          refine lv_goto (tgt := 90) hx hb dX2_ofObject_86 (by decide) ?_
          exact lh_ri hx hb hr hlk hK hP hD hS (by first | (simp [ofoR, nI_eqL, c_1, ea1, c_2, c_4]; done) | (simp [ofoR, nI_eqL, b2i, nI_0, nI_o, c_1, ea1, c_2, c_4]; done) | (simp [ofoR, nI_eqL, b2i, c_1, ea1, c_2, c_4]; rfl)) rfl dX2_ofObject_90
      by_cases c_2e : c_2k = 3
      · subst c_2e
        refine lv_tableIn (off := 80) (tgt := 91) hx hb dX2_ofObject_11 (by rw [c_2]; decide) (by rw [c_2]; decide) (by rw [c_2]; decide) (by decide) ?_
        refine lv_aload_n hx hb dX2_ofObject_91 rfl (lv_at hl 0 rfl) ?_
        refine va_get (D := D) (ci := 2) (v := .ref (ad 3)) (C := RX2) (T := TX2) (N := 13) hx hb hts hinX2 hown hK hP 0 rfl rfl 5 (by decide) fX2_17 (fun _ h9 => h9) rfl dX2_ofObject_92 ?_
        refine lv_iload_n hx hb dX2_ofObject_95 rfl (lv_at hl 1 rfl) ?_
        refine lh_ild (k := a1) (N := 10) hx hb hK hP 3 0 rfl rfl (by omega) (by decide) dX2_ofObject_96 ?_
        refine W.eq (g2 := F0 m 97 ls (.int ((xOu u a1)) :: [])) rfl ?_
        exact lh_ri hx hb hr hlk hK hP hD hS (by first | (simp [ofoR, nI_eqL, c_1, ea1, c_2]; done) | (simp [ofoR, nI_eqL, b2i, nI_0, nI_o, c_1, ea1, c_2]; done) | (simp [ofoR, nI_eqL, b2i, c_1, ea1, c_2]; rfl)) rfl dX2_ofObject_97
      by_cases c_2e : c_2k = 4
      · subst c_2e
        refine lv_tableIn (off := 87) (tgt := 98) hx hb dX2_ofObject_11 (by rw [c_2]; decide) (by rw [c_2]; decide) (by rw [c_2]; decide) (by decide) ?_
        refine lv_aload_n hx hb dX2_ofObject_98 rfl (lv_at hl 0 rfl) ?_
        refine va_get (D := D) (ci := 2) (v := .ref (ad 4)) (C := RX2) (T := TX2) (N := 13) hx hb hts hinX2 hown hK hP 0 rfl rfl 6 (by decide) fX2_20 (fun _ h9 => h9) rfl dX2_ofObject_99 ?_
        refine lv_iload_n hx hb dX2_ofObject_102 rfl (lv_at hl 1 rfl) ?_
        refine lh_ild (k := a1) (N := 10) hx hb hK hP 4 0 rfl rfl (by omega) (by decide) dX2_ofObject_103 ?_
        refine W.eq (g2 := F0 m 104 ls (.int ((xAg u a1)) :: [])) rfl ?_
        exact lh_ri hx hb hr hlk hK hP hD hS (by first | (simp [ofoR, nI_eqL, c_1, ea1, c_2]; done) | (simp [ofoR, nI_eqL, b2i, nI_0, nI_o, c_1, ea1, c_2]; done) | (simp [ofoR, nI_eqL, b2i, c_1, ea1, c_2]; rfl)) rfl dX2_ofObject_104
      by_cases c_2e : c_2k = 5
      · subst c_2e
        refine lv_tableIn (off := 94) (tgt := 105) hx hb dX2_ofObject_11 (by rw [c_2]; decide) (by rw [c_2]; decide) (by rw [c_2]; decide) (by decide) ?_
        refine lv_aload_n hx hb dX2_ofObject_105 rfl (lv_at hl 0 rfl) ?_
        refine lv_iload_n hx hb dX2_ofObject_106 rfl (lv_at hl 1 rfl) ?_
        refine lh_cVi ⟨hx, hb, hml, hown, hts⟩ (kX2_fromOf l D cI cZ ad u a1 ok (by omega)) (cwV 1 hts gX2_ofObject_X2_fromOf rfl rfl rfl (by decide +kernel) ⟨Nat.le_of_ble_eq_true rfl, Nat.le_of_ble_eq_true rfl⟩) hK hN hP hD hS hA 0 2 rfl rfl rfl rfl hl.1 rfl (Nat.le_of_ble_eq_true rfl) ⟨Nat.le_of_ble_eq_true rfl, Nat.le_of_ble_eq_true rfl⟩ dX2_ofObject_107 (fun H locs hP hD hS => ?_)
        exact lh_ri hx hb hr hlk hK hP hD hS (by first | (simp [ofoR, nI_eqL, c_1, ea1, c_2]; done) | (simp [ofoR, nI_eqL, b2i, nI_0, nI_o, c_1, ea1, c_2]; done) | (simp [ofoR, nI_eqL, b2i, c_1, ea1, c_2]; rfl)) rfl dX2_ofObject_110
      by_cases c_2e : c_2k = 6
      · subst c_2e
        refine lv_tableIn (off := 100) (tgt := 111) hx hb dX2_ofObject_11 (by rw [c_2]; decide) (by rw [c_2]; decide) (by rw [c_2]; decide) (by decide) ?_
        refine lv_aload_n hx hb dX2_ofObject_111 rfl (lv_at hl 0 rfl) ?_
        refine lv_iload_n hx hb dX2_ofObject_112 rfl (lv_at hl 1 rfl) ?_
        refine lh_cVi ⟨hx, hb, hml, hown, hts⟩ (kX2_toOf l D cI cZ ad u a1 ok (by omega)) (cwV 1 hts gX2_ofObject_X2_toOf rfl rfl rfl (by decide +kernel) ⟨Nat.le_of_ble_eq_true rfl, Nat.le_of_ble_eq_true rfl⟩) hK hN hP hD hS hA 0 2 rfl rfl rfl rfl hl.1 rfl (Nat.le_of_ble_eq_true rfl) ⟨Nat.le_of_ble_eq_true rfl, Nat.le_of_ble_eq_true rfl⟩ dX2_ofObject_113 (fun H locs hP hD hS => ?_)
        exact lh_ri hx hb hr hlk hK hP hD hS (by first | (simp [ofoR, nI_eqL, c_1, ea1, c_2]; done) | (simp [ofoR, nI_eqL, b2i, nI_0, nI_o, c_1, ea1, c_2]; done) | (simp [ofoR, nI_eqL, b2i, c_1, ea1, c_2]; rfl)) rfl dX2_ofObject_116
      exact absurd c_2l (by omega)
  · have c_1 : (isObj u a) = false := b2i_e0 c_1
    refine lv_iconst (v := (-1)) hx hb dX2_ofObject_8 (by decide) ?_
    exact lh_ri hx hb hr hlk hK hP hD hS (by first | (simp [nI_0, nI_o, ofoR, c_1]; done) | (simp [nI_0, nI_o, ofoR, c_1]; rfl)) rfl dX2_ofObject_9
set_option maxRecDepth 100000 in
set_option maxHeartbeats 4000000 in
theorem kX2_weight (l : Launch) (D : va_G) (cI cZ : ClassId) (ad : Nat → Nat) (u : XS) (a : Int32) (b : Int32) (T : Nat) (inv : Inv T u) : CI l D [(cI, .int), (cZ, .boolean)] yX2_weight wsX2_weight ({ frames := 2, cells := 0, slots := 0, locals := 43 }) [.ref (ad 0), .int (a), .int (b)] (wM cI cZ ad u) (wM cI cZ ad u) (wgtR u a b) := by
  have ok := inv.1
  obtain ⟨hM, hW, hHo, hAb, hLb, hRb, hDb⟩ := id ok
  refine lh_CIof (cc := cX2_weight) (maxL := 3) (ret := (some .int)) (own := RX2) (by decide) rfl rfl (Nat.le_of_ble_eq_true rfl) ?_
  intro p e s m below meth c A ls hx hb hr hlk hts hown hml hK hN hA hP hD hS hl
  have hl : lv_has ls 3 [(0, .ref (ad 0)), (1, .int (a)), (2, .int (b))] := hl
  refine lv_aload_n hx hb dX2_weight_0 rfl (lv_at hl 0 rfl) ?_
  refine lv_iload_n hx hb dX2_weight_1 rfl (lv_at hl 1 rfl) ?_
  refine lh_cVi ⟨hx, hb, hml, hown, hts⟩ (kX2_isObject l D cI cZ ad u a ok) (cwV 1 hts gX2_weight_X2_isObject rfl rfl rfl (by decide +kernel) ⟨Nat.le_of_ble_eq_true rfl, Nat.le_of_ble_eq_true rfl⟩) hK hN hP hD hS hA 0 2 rfl rfl rfl rfl hl.1 rfl (Nat.le_of_ble_eq_true rfl) ⟨Nat.le_of_ble_eq_true rfl, Nat.le_of_ble_eq_true rfl⟩ dX2_weight_2 (fun H locs hP hD hS => ?_)
  refine lv_if_eq (tgt := 25) hx hb dX2_weight_5 (by decide) (fun c_1 => ?_) (fun c_1 => ?_)
  · have c_1 : (isObj u a) = false := b2i_e0 c_1
    refine lv_iconst (v := (-1)) hx hb dX2_weight_25 (by decide) ?_
    exact lh_ri hx hb hr hlk hK hP hD hS (by first | (simp [nI_0, nI_o, wgtR, c_1]; done) | (simp [nI_0, nI_o, wgtR, c_1]; rfl)) rfl dX2_weight_26
  · have c_1 : (isObj u a) = true := b2i_n0 c_1
    obtain ⟨a1, ha1, ea1⟩ := isObj_ex hM c_1
    subst ea1
    have ea1 : (nI a1).toNatClampNeg = a1 := nI_clamp (by omega)
    refine lv_aload_n hx hb dX2_weight_8 rfl (lv_at hl 0 rfl) ?_
    refine lv_iload_n hx hb dX2_weight_9 rfl (lv_at hl 2 rfl) ?_
    refine lh_cVi ⟨hx, hb, hml, hown, hts⟩ (kX2_isObject l D cI cZ ad u b ok) (cwV 1 hts gX2_weight_X2_isObject rfl rfl rfl (by decide +kernel) ⟨Nat.le_of_ble_eq_true rfl, Nat.le_of_ble_eq_true rfl⟩) hK hN hP hD hS hA 0 2 rfl rfl rfl rfl hl.1 rfl (Nat.le_of_ble_eq_true rfl) ⟨Nat.le_of_ble_eq_true rfl, Nat.le_of_ble_eq_true rfl⟩ dX2_weight_10 (fun H locs hP hD hS => ?_)
    refine lv_if_eq (tgt := 25) hx hb dX2_weight_13 (by decide) (fun c_2 => ?_) (fun c_2 => ?_)
    · have c_2 : (isObj u b) = false := b2i_e0 c_2
      refine lv_iconst (v := (-1)) hx hb dX2_weight_25 (by decide) ?_
      exact lh_ri hx hb hr hlk hK hP hD hS (by first | (simp [nI_0, nI_o, wgtR, c_1, ea1, c_2]; done) | (simp [nI_0, nI_o, wgtR, c_1, ea1, c_2]; rfl)) rfl dX2_weight_26
    · have c_2 : (isObj u b) = true := b2i_n0 c_2
      obtain ⟨b1, hb1, eb1⟩ := isObj_ex hM c_2
      subst eb1
      have eb1 : (nI b1).toNatClampNeg = b1 := nI_clamp (by omega)
      refine lv_aload_n hx hb dX2_weight_16 rfl (lv_at hl 0 rfl) ?_
      refine lv_iload_n hx hb dX2_weight_17 rfl (lv_at hl 1 rfl) ?_
      refine lv_iload_n hx hb dX2_weight_18 rfl (lv_at hl 2 rfl) ?_
      refine lh_cVi ⟨hx, hb, hml, hown, hts⟩ (kX2_linkFrom l D cI cZ ad u a1 b1 (by omega) (by omega)) (cwV 2 hts gX2_weight_X2_linkFrom rfl rfl rfl (by decide +kernel) ⟨Nat.le_of_ble_eq_true rfl, Nat.le_of_ble_eq_true rfl⟩) hK hN hP hD hS hA 0 2 rfl rfl rfl rfl hl.1 rfl (Nat.le_of_ble_eq_true rfl) ⟨Nat.le_of_ble_eq_true rfl, Nat.le_of_ble_eq_true rfl⟩ dX2_weight_19 (fun H locs hP hD hS => ?_)
      refine lv_goto (tgt := 26) hx hb dX2_weight_22 (by decide) ?_
      exact lh_ri hx hb hr hlk hK hP hD hS (by first | (simp [nI_0, nI_o, wgtR, c_1, ea1, c_2, eb1]; done) | (simp [nI_0, nI_o, wgtR, c_1, ea1, c_2, eb1]; rfl)) rfl dX2_weight_26
set_option maxRecDepth 100000 in
set_option maxHeartbeats 4000000 in
theorem kX2_give (l : Launch) (D : va_G) (cI cZ : ClassId) (ad : Nat → Nat) (u : XS) (x : Int32) (a : Int32) (b : Int32) (T : Nat) (inv : Inv T u) : CI l D [(cI, .int), (cZ, .boolean)] yX2_give wsX2_give ({ frames := 3, cells := 0, slots := 0, locals := 67 }) [.ref (ad 0), .int (x), .int (a), .int (b)] (wM cI cZ ad u) (wM cI cZ ad (givS u x a b)) (givR u x a b) := by
  have ok := inv.1
  obtain ⟨hM, hW, hHo, hAb, hLb, hRb, hDb⟩ := id ok
  refine lh_CIof (cc := cX2_give) (maxL := 4) (ret := (some .int)) (own := RX2) (by decide) rfl rfl (Nat.le_of_ble_eq_true rfl) ?_
  intro p e s m below meth c A ls hx hb hr hlk hts hown hml hK hN hA hP hD hS hl
  have fX2_74 := hts (.fieldLink RX2 74 "LostHostsModel" "letters" "I") (by decide +kernel)
  have fX2_17 := hts (.fieldLink RX2 17 "LostHostsModel" "outOf" "[I") (by decide +kernel)
  have hinX2 : ∀ w ∈ u_ws RX2 TX2 13, w ∈ wsX2_give := by decide +kernel
  have hl : lv_has ls 4 [(0, .ref (ad 0)), (1, .int (x)), (2, .int (a)), (3, .int (b))] := hl
  refine lv_aload_n hx hb dX2_give_0 rfl (lv_at hl 0 rfl) ?_
  refine lv_iload_n hx hb dX2_give_1 rfl (lv_at hl 1 rfl) ?_
  refine lh_cVi ⟨hx, hb, hml, hown, hts⟩ (kX2_isObject l D cI cZ ad u x ok) (cwV 1 hts gX2_give_X2_isObject rfl rfl rfl (by decide +kernel) ⟨Nat.le_of_ble_eq_true rfl, Nat.le_of_ble_eq_true rfl⟩) hK hN hP hD hS hA 0 2 rfl rfl rfl rfl hl.1 rfl (Nat.le_of_ble_eq_true rfl) ⟨Nat.le_of_ble_eq_true rfl, Nat.le_of_ble_eq_true rfl⟩ dX2_give_2 (fun H locs hP hD hS => ?_)
  refine lv_if_eq (tgt := 24) hx hb dX2_give_5 (by decide) (fun c_1 => ?_) (fun c_1 => ?_)
  · have c_1 : (isObj u x) = false := b2i_e0 c_1
    refine lv_iconst (v := (-1)) hx hb dX2_give_24 (by decide) ?_
    exact lh_ri hx hb hr hlk hK hP hD hS (by first | (simp [nI_0, nI_o, givR, c_1]; done) | (simp [nI_0, nI_o, givR, c_1]; rfl)) (by first | (simp [givS, givT, nI_0, nI_o, c_1]; done) | (simp [givS, givT, c_1]; done) | (simp [givS, givT, c_1]; rfl)) dX2_give_25
  · have c_1 : (isObj u x) = true := b2i_n0 c_1
    obtain ⟨x1, hx1, ex1⟩ := isObj_ex hM c_1
    subst ex1
    have ex1 : (nI x1).toNatClampNeg = x1 := nI_clamp (by omega)
    refine lv_aload_n hx hb dX2_give_8 rfl (lv_at hl 0 rfl) ?_
    refine lv_iload_n hx hb dX2_give_9 rfl (lv_at hl 2 rfl) ?_
    refine lh_cVi ⟨hx, hb, hml, hown, hts⟩ (kX2_isObject l D cI cZ ad u a ok) (cwV 1 hts gX2_give_X2_isObject rfl rfl rfl (by decide +kernel) ⟨Nat.le_of_ble_eq_true rfl, Nat.le_of_ble_eq_true rfl⟩) hK hN hP hD hS hA 0 2 rfl rfl rfl rfl hl.1 rfl (Nat.le_of_ble_eq_true rfl) ⟨Nat.le_of_ble_eq_true rfl, Nat.le_of_ble_eq_true rfl⟩ dX2_give_10 (fun H locs hP hD hS => ?_)
    refine lv_if_eq (tgt := 24) hx hb dX2_give_13 (by decide) (fun c_2 => ?_) (fun c_2 => ?_)
    · have c_2 : (isObj u a) = false := b2i_e0 c_2
      refine lv_iconst (v := (-1)) hx hb dX2_give_24 (by decide) ?_
      exact lh_ri hx hb hr hlk hK hP hD hS (by first | (simp [nI_0, nI_o, givR, c_1, ex1, c_2]; done) | (simp [nI_0, nI_o, givR, c_1, ex1, c_2]; rfl)) (by first | (simp [givS, givT, nI_0, nI_o, c_1, ex1, c_2]; done) | (simp [givS, givT, c_1, ex1, c_2]; done) | (simp [givS, givT, c_1, ex1, c_2]; rfl)) dX2_give_25
    · have c_2 : (isObj u a) = true := b2i_n0 c_2
      obtain ⟨a1, ha1, ea1⟩ := isObj_ex hM c_2
      subst ea1
      have ea1 : (nI a1).toNatClampNeg = a1 := nI_clamp (by omega)
      refine lv_aload_n hx hb dX2_give_16 rfl (lv_at hl 0 rfl) ?_
      refine lv_iload_n hx hb dX2_give_17 rfl (lv_at hl 3 rfl) ?_
      refine lh_cVi ⟨hx, hb, hml, hown, hts⟩ (kX2_isObject l D cI cZ ad u b ok) (cwV 1 hts gX2_give_X2_isObject rfl rfl rfl (by decide +kernel) ⟨Nat.le_of_ble_eq_true rfl, Nat.le_of_ble_eq_true rfl⟩) hK hN hP hD hS hA 0 2 rfl rfl rfl rfl hl.1 rfl (Nat.le_of_ble_eq_true rfl) ⟨Nat.le_of_ble_eq_true rfl, Nat.le_of_ble_eq_true rfl⟩ dX2_give_18 (fun H locs hP hD hS => ?_)
      refine lv_if_ne (tgt := 26) hx hb dX2_give_21 (by decide) (fun c_3 => ?_) (fun c_3 => ?_)
      · have c_3 : (isObj u b) = true := b2i_n0 c_3
        obtain ⟨b1, hb1, eb1⟩ := isObj_ex hM c_3
        subst eb1
        have eb1 : (nI b1).toNatClampNeg = b1 := nI_clamp (by omega)
        refine lv_aload_n hx hb dX2_give_26 rfl (lv_at hl 0 rfl) ?_
        refine lv_iload_n hx hb dX2_give_27 rfl (lv_at hl 1 rfl) ?_
        refine lv_iload_n hx hb dX2_give_28 rfl (lv_at hl 2 rfl) ?_
        refine lv_iload_n hx hb dX2_give_29 rfl (lv_at hl 3 rfl) ?_
        refine lh_cVi ⟨hx, hb, hml, hown, hts⟩ (kX2_mayGive l D cI cZ ad u x1 a1 b1 ok (by omega) (by omega) (by omega)) (cwV 3 hts gX2_give_X2_mayGive rfl rfl rfl (by decide +kernel) ⟨Nat.le_of_ble_eq_true rfl, Nat.le_of_ble_eq_true rfl⟩) hK hN hP hD hS hA 0 2 rfl rfl rfl rfl hl.1 rfl (Nat.le_of_ble_eq_true rfl) ⟨Nat.le_of_ble_eq_true rfl, Nat.le_of_ble_eq_true rfl⟩ dX2_give_30 (fun H locs hP hD hS => ?_)
        refine lv_if_ne (tgt := 39) hx hb dX2_give_33 (by decide) (fun c_4 => ?_) (fun c_4 => ?_)
        · have c_4 : (mayG u x1 a1 b1) = true := b2i_n0 c_4
          refine lv_aload_n hx hb dX2_give_39 rfl (lv_at hl 0 rfl) ?_
          refine lv_iload_n hx hb dX2_give_40 rfl (lv_at hl 1 rfl) ?_
          refine lv_iload_n hx hb dX2_give_41 rfl (lv_at hl 2 rfl) ?_
          refine lh_cVi ⟨hx, hb, hml, hown, hts⟩ (kX2_areNeighbours l D cI cZ ad u x1 a1 ok (by omega) (by omega)) (cwV 2 hts gX2_give_X2_areNeighbours rfl rfl rfl (by decide +kernel) ⟨Nat.le_of_ble_eq_true rfl, Nat.le_of_ble_eq_true rfl⟩) hK hN hP hD hS hA 0 2 rfl rfl rfl rfl hl.1 rfl (Nat.le_of_ble_eq_true rfl) ⟨Nat.le_of_ble_eq_true rfl, Nat.le_of_ble_eq_true rfl⟩ dX2_give_42 (fun H locs hP hD hS => ?_)
          refine lv_if_eq (tgt := 75) hx hb dX2_give_45 (by decide) (fun c_5 => ?_) (fun c_5 => ?_)
          · have c_5 : (nbr u x1 a1) = false := b2i_e0 c_5
            refine lv_aload_n hx hb dX2_give_75 rfl (lv_at hl 0 rfl) ?_
            refine va_get (D := D) (ci := 2) (v := .int (nI (xW u))) (C := RX2) (T := TX2) (N := 13) hx hb hts hinX2 hown hK hP 0 rfl rfl 8 (by decide) fX2_74 (fun _ h9 => h9) rfl dX2_give_76 ?_
            refine lv_bipush (v := nI 60) hx hb dX2_give_79 (by decide) ?_
            refine lv_icmp_lt (tgt := 87) hx hb dX2_give_81 (by decide) (fun c_6 => ?_) (fun c_6 => ?_)
            · have c_6 : xW u < 60 := (nI_ltI (by omega) (by omega)).mp c_6
              refine lv_aload_n hx hb dX2_give_87 rfl (lv_at hl 0 rfl) ?_
              refine lv_iload_n hx hb dX2_give_88 rfl (lv_at hl 1 rfl) ?_
              refine lv_iload_n hx hb dX2_give_89 rfl (lv_at hl 3 rfl) ?_
              refine lh_cVi ⟨hx, hb, hml, hown, hts⟩ (kX2_areNeighbours l D cI cZ ad u x1 b1 ok (by omega) (by omega)) (cwV 2 hts gX2_give_X2_areNeighbours rfl rfl rfl (by decide +kernel) ⟨Nat.le_of_ble_eq_true rfl, Nat.le_of_ble_eq_true rfl⟩) hK hN hP hD hS hA 0 2 rfl rfl rfl rfl hl.1 rfl (Nat.le_of_ble_eq_true rfl) ⟨Nat.le_of_ble_eq_true rfl, Nat.le_of_ble_eq_true rfl⟩ dX2_give_90 (fun H locs hP hD hS => ?_)
              refine lv_if_eq (tgt := 118) hx hb dX2_give_93 (by decide) (fun c_7 => ?_) (fun c_7 => ?_)
              · have c_7 : (nbr u x1 b1) = false := b2i_e0 c_7
                refine lv_aload_n hx hb dX2_give_118 rfl (lv_at hl 0 rfl) ?_
                refine lv_iload_n hx hb dX2_give_119 rfl (lv_at hl 3 rfl) ?_
                refine lv_iload_n hx hb dX2_give_120 rfl (lv_at hl 2 rfl) ?_
                refine lv_aload_n hx hb dX2_give_121 rfl (lv_at hl 0 rfl) ?_
                refine lv_iload_n hx hb dX2_give_122 rfl (lv_at hl 1 rfl) ?_
                refine lv_iload_n hx hb dX2_give_123 rfl (lv_at hl 3 rfl) ?_
                refine lh_cVi ⟨hx, hb, hml, hown, hts⟩ (kX2_splits l D cI cZ ad u x1 b1 (by omega) (by omega)) (cwV 2 hts gX2_give_X2_splits rfl rfl rfl (by decide +kernel) ⟨Nat.le_of_ble_eq_true rfl, Nat.le_of_ble_eq_true rfl⟩) hK hN hP hD hS hA 0 2 rfl rfl rfl rfl hl.1 rfl (Nat.le_of_ble_eq_true rfl) ⟨Nat.le_of_ble_eq_true rfl, Nat.le_of_ble_eq_true rfl⟩ dX2_give_124 (fun H locs hP hD hS => ?_)
                have hP : va_P D vwCl (wM cI cZ ad (splS u x1 b1)) H := hP
                have hD : va_D A (wM cI cZ ad (splS u x1 b1)) := hD
                refine lh_cVv ⟨hx, hb, hml, hown, hts⟩ (kX2_sends l D cI cZ ad (splS u x1 b1) (gn (splS u x1 b1)) (fun zz => (xR (splS u x1 b1)).testBit zz) b1 a1 (splR u x1 b1) (by first | omega | (show xW u < 512; omega))) (cwV 3 hts gX2_give_X2_sends rfl rfl rfl (by decide +kernel) ⟨Nat.le_of_ble_eq_true rfl, Nat.le_of_ble_eq_true rfl⟩) hK hN hP hD hS hA 0 2 rfl rfl rfl rfl hl.1 (by rw [rv_lt (k := a1) (by omega)]; rfl) (Nat.le_of_ble_eq_true rfl) ⟨Nat.le_of_ble_eq_true rfl, Nat.le_of_ble_eq_true rfl⟩ dX2_give_127 (fun H locs hP hD hS => ?_)
                have hP : va_P D vwCl (wM cI cZ ad (app (splS u x1 b1) b1 a1 (splR u x1 b1))) H := hP
                have hD : va_D A (wM cI cZ ad (app (splS u x1 b1) b1 a1 (splR u x1 b1))) := hD
                refine lv_iconst (v := nI 1) hx hb dX2_give_130 (by decide) ?_
                exact lh_ri hx hb hr hlk hK hP hD hS (by first | (simp [nI_0, nI_o, givR, c_1, ex1, c_2, ea1, c_3, eb1, c_4, c_5, c_6, c_7]; done) | (simp [nI_0, nI_o, givR, c_1, ex1, c_2, ea1, c_3, eb1, c_4, c_5, c_6, c_7]; rfl)) (by first | (simp [givS, givT, nI_0, nI_o, c_1, ex1, c_2, ea1, c_3, eb1, c_4, c_5, c_6, c_7]; done) | (simp [givS, givT, c_1, ex1, c_2, ea1, c_3, eb1, c_4, c_5, c_6, c_7]; done) | (simp [givS, givT, c_1, ex1, c_2, ea1, c_3, eb1, c_4, c_5, c_6, c_7]; rfl)) dX2_give_131
              · have c_7 : (nbr u x1 b1) = true := b2i_n0 c_7
                refine lv_aload_n hx hb dX2_give_96 rfl (lv_at hl 0 rfl) ?_
                refine va_get (D := D) (ci := 2) (v := .ref (ad 3)) (C := RX2) (T := TX2) (N := 13) hx hb hts hinX2 hown hK hP 0 rfl rfl 5 (by decide) fX2_17 (fun _ h9 => h9) rfl dX2_give_97 ?_
                refine lv_iload_n hx hb dX2_give_100 rfl (lv_at hl 3 rfl) ?_
                refine lv_dup2_11 hx hb dX2_give_101 rfl rfl ?_
                refine lh_ild (k := b1) (N := 10) hx hb hK hP 3 0 rfl rfl (by omega) (by decide) dX2_give_102 ?_
                refine W.eq (g2 := F0 m 103 ls (.int ((xOu u b1)) :: [.int (nI b1), .ref (ad 3)])) rfl ?_
                refine lv_bipush (v := nI 64) hx hb dX2_give_103 (by decide) ?_
                refine lv_iadd hx hb dX2_give_105 ?_
                refine lh_ist (k := b1) (N := 10) (f2 := upd (xOu u) b1 (((xOu u b1) + nI 64))) hx hb hK hP hD hS 3 0 rfl rfl (by omega) (by decide) (rfl) dX2_give_106 (fun H locs hP hD hS => ?_)
                have hP : va_P D vwCl (wM cI cZ ad (sOu u (upd (xOu u) b1 (((xOu u b1) + nI 64))))) H := hP
                have hD : va_D A (wM cI cZ ad (sOu u (upd (xOu u) b1 (((xOu u b1) + nI 64))))) := hD
                refine lv_aload_n hx hb dX2_give_107 rfl (lv_at hl 0 rfl) ?_
                refine lv_iload_n hx hb dX2_give_108 rfl (lv_at hl 3 rfl) ?_
                refine lv_iload_n hx hb dX2_give_109 rfl (lv_at hl 2 rfl) ?_
                refine lv_bipush (v := nI 64) hx hb dX2_give_110 (by decide) ?_
                refine lh_cVv ⟨hx, hb, hml, hown, hts⟩ (kX2_sends l D cI cZ ad (sOu u (upd (xOu u) b1 (((xOu u b1) + nI 64)))) (gn (sOu u (upd (xOu u) b1 (((xOu u b1) + nI 64))))) (fun zz => (xR (sOu u (upd (xOu u) b1 (((xOu u b1) + nI 64))))).testBit zz) b1 a1 (nI 64) (by first | omega | (show xW u < 512; omega))) (cwV 3 hts gX2_give_X2_sends rfl rfl rfl (by decide +kernel) ⟨Nat.le_of_ble_eq_true rfl, Nat.le_of_ble_eq_true rfl⟩) hK hN hP hD hS hA 0 2 rfl rfl rfl rfl hl.1 (by rw [rv_lt (k := a1) (by omega)]; rfl) (Nat.le_of_ble_eq_true rfl) ⟨Nat.le_of_ble_eq_true rfl, Nat.le_of_ble_eq_true rfl⟩ dX2_give_112 (fun H locs hP hD hS => ?_)
                have hP : va_P D vwCl (wM cI cZ ad (app (sOu u (upd (xOu u) b1 (((xOu u b1) + nI 64)))) b1 a1 (nI 64))) H := hP
                have hD : va_D A (wM cI cZ ad (app (sOu u (upd (xOu u) b1 (((xOu u b1) + nI 64)))) b1 a1 (nI 64))) := hD
                refine lv_goto (tgt := 130) hx hb dX2_give_115 (by decide) ?_
                refine lv_iconst (v := nI 1) hx hb dX2_give_130 (by decide) ?_
                exact lh_ri hx hb hr hlk hK hP hD hS (by first | (simp [nI_0, nI_o, givR, c_1, ex1, c_2, ea1, c_3, eb1, c_4, c_5, c_6, c_7]; done) | (simp [nI_0, nI_o, givR, c_1, ex1, c_2, ea1, c_3, eb1, c_4, c_5, c_6, c_7]; rfl)) (by first | (simp [givS, givT, nI_0, nI_o, c_1, ex1, c_2, ea1, c_3, eb1, c_4, c_5, c_6, c_7]; done) | (simp [givS, givT, c_1, ex1, c_2, ea1, c_3, eb1, c_4, c_5, c_6, c_7]; done) | (simp [givS, givT, c_1, ex1, c_2, ea1, c_3, eb1, c_4, c_5, c_6, c_7]; rfl)) dX2_give_131
            · have c_6 : 60 ≤ xW u := Nat.le_of_not_lt (fun h => c_6 ((nI_ltI (by omega) (by omega)).mpr h))
              have c_6n : ¬ xW u < 60 := by omega
              refine lv_bipush (v := (-4)) hx hb dX2_give_84 (by decide) ?_
              exact lh_ri hx hb hr hlk hK hP hD hS (by first | (simp [nI_0, nI_o, givR, c_1, ex1, c_2, ea1, c_3, eb1, c_4, c_5, c_6n, c_6]; done) | (simp [nI_0, nI_o, givR, c_1, ex1, c_2, ea1, c_3, eb1, c_4, c_5, c_6n, c_6]; rfl)) (by first | (simp [givS, givT, nI_0, nI_o, c_1, ex1, c_2, ea1, c_3, eb1, c_4, c_5, c_6n, c_6]; done) | (simp [givS, givT, c_1, ex1, c_2, ea1, c_3, eb1, c_4, c_5, c_6n, c_6]; done) | (simp [givS, givT, c_1, ex1, c_2, ea1, c_3, eb1, c_4, c_5, c_6n, c_6]; rfl)) dX2_give_86
          · have c_5 : (nbr u x1 a1) = true := b2i_n0 c_5
            refine lv_aload_n hx hb dX2_give_48 rfl (lv_at hl 0 rfl) ?_
            refine lv_iload_n hx hb dX2_give_49 rfl (lv_at hl 2 rfl) ?_
            refine lv_iload_n hx hb dX2_give_50 rfl (lv_at hl 3 rfl) ?_
            refine lv_aload_n hx hb dX2_give_51 rfl (lv_at hl 0 rfl) ?_
            refine lv_iload_n hx hb dX2_give_52 rfl (lv_at hl 2 rfl) ?_
            refine lv_iload_n hx hb dX2_give_53 rfl (lv_at hl 3 rfl) ?_
            refine lh_cVi ⟨hx, hb, hml, hown, hts⟩ (kX2_areNeighbours l D cI cZ ad u a1 b1 ok (by omega) (by omega)) (cwV 2 hts gX2_give_X2_areNeighbours rfl rfl rfl (by decide +kernel) ⟨Nat.le_of_ble_eq_true rfl, Nat.le_of_ble_eq_true rfl⟩) hK hN hP hD hS hA 0 2 rfl rfl rfl rfl hl.1 rfl (Nat.le_of_ble_eq_true rfl) ⟨Nat.le_of_ble_eq_true rfl, Nat.le_of_ble_eq_true rfl⟩ dX2_give_54 (fun H locs hP hD hS => ?_)
            refine lv_if_eq (tgt := 64) hx hb dX2_give_57 (by decide) (fun c_8 => ?_) (fun c_8 => ?_)
            · have c_8 : (nbr u a1 b1) = false := b2i_e0 c_8
              rw [nbr_tr c_5 b1] at c_8
              refine lv_aload_n hx hb dX2_give_64 rfl (lv_at hl 0 rfl) ?_
              refine lv_iload_n hx hb dX2_give_65 rfl (lv_at hl 1 rfl) ?_
              refine lv_iload_n hx hb dX2_give_66 rfl (lv_at hl 3 rfl) ?_
              refine lh_cVi ⟨hx, hb, hml, hown, hts⟩ (kX2_splits l D cI cZ ad u x1 b1 (by omega) (by omega)) (cwV 2 hts gX2_give_X2_splits rfl rfl rfl (by decide +kernel) ⟨Nat.le_of_ble_eq_true rfl, Nat.le_of_ble_eq_true rfl⟩) hK hN hP hD hS hA 0 2 rfl rfl rfl rfl hl.1 rfl (Nat.le_of_ble_eq_true rfl) ⟨Nat.le_of_ble_eq_true rfl, Nat.le_of_ble_eq_true rfl⟩ dX2_give_67 (fun H locs hP hD hS => ?_)
              have hP : va_P D vwCl (wM cI cZ ad (splS u x1 b1)) H := hP
              have hD : va_D A (wM cI cZ ad (splS u x1 b1)) := hD
              refine lh_cVv ⟨hx, hb, hml, hown, hts⟩ (kX2_adds l D cI cZ ad (splS u x1 b1) a1 b1 (splR u x1 b1) (by omega) (by omega)) (cwV 3 hts gX2_give_X2_adds rfl rfl rfl (by decide +kernel) ⟨Nat.le_of_ble_eq_true rfl, Nat.le_of_ble_eq_true rfl⟩) hK hN hP hD hS hA 0 2 rfl rfl rfl rfl hl.1 rfl (Nat.le_of_ble_eq_true rfl) ⟨Nat.le_of_ble_eq_true rfl, Nat.le_of_ble_eq_true rfl⟩ dX2_give_70 (fun H locs hP hD hS => ?_)
              have hP : va_P D vwCl (wM cI cZ ad (adL (splS u x1 b1) a1 b1 (splR u x1 b1))) H := hP
              have hD : va_D A (wM cI cZ ad (adL (splS u x1 b1) a1 b1 (splR u x1 b1))) := hD
              refine lv_iconst (v := nI 0) hx hb dX2_give_73 (by decide) ?_
              exact lh_ri hx hb hr hlk hK hP hD hS (by first | (simp [nI_0, nI_o, givR, c_1, ex1, c_2, ea1, c_3, eb1, c_4, c_5, c_8]; done) | (simp [nI_0, nI_o, givR, c_1, ex1, c_2, ea1, c_3, eb1, c_4, c_5, c_8]; rfl)) (by first | (simp [givS, givT, nI_0, nI_o, c_1, ex1, c_2, ea1, c_3, eb1, c_4, c_5, c_8]; done) | (simp [givS, givT, c_1, ex1, c_2, ea1, c_3, eb1, c_4, c_5, c_8]; done) | (simp [givS, givT, c_1, ex1, c_2, ea1, c_3, eb1, c_4, c_5, c_8]; rfl)) dX2_give_74
            · have c_8 : (nbr u a1 b1) = true := b2i_n0 c_8
              rw [nbr_tr c_5 b1] at c_8
              refine lv_iconst (v := nI 0) hx hb dX2_give_60 (by decide) ?_
              refine lv_goto (tgt := 70) hx hb dX2_give_61 (by decide) ?_
              refine lh_cVv ⟨hx, hb, hml, hown, hts⟩ (kX2_adds l D cI cZ ad u a1 b1 (nI 0) (by omega) (by omega)) (cwV 3 hts gX2_give_X2_adds rfl rfl rfl (by decide +kernel) ⟨Nat.le_of_ble_eq_true rfl, Nat.le_of_ble_eq_true rfl⟩) hK hN hP hD hS hA 0 2 rfl rfl rfl rfl hl.1 rfl (Nat.le_of_ble_eq_true rfl) ⟨Nat.le_of_ble_eq_true rfl, Nat.le_of_ble_eq_true rfl⟩ dX2_give_70 (fun H locs hP hD hS => ?_)
              have hP : va_P D vwCl (wM cI cZ ad (adL u a1 b1 (nI 0))) H := hP
              have hD : va_D A (wM cI cZ ad (adL u a1 b1 (nI 0))) := hD
              refine lv_iconst (v := nI 0) hx hb dX2_give_73 (by decide) ?_
              exact lh_ri hx hb hr hlk hK hP hD hS (by first | (simp [nI_0, nI_o, givR, c_1, ex1, c_2, ea1, c_3, eb1, c_4, c_5, c_8]; done) | (simp [nI_0, nI_o, givR, c_1, ex1, c_2, ea1, c_3, eb1, c_4, c_5, c_8]; rfl)) (by first | (simp [givS, givT, nI_0, nI_o, c_1, ex1, c_2, ea1, c_3, eb1, c_4, c_5, c_8]; done) | (simp [givS, givT, c_1, ex1, c_2, ea1, c_3, eb1, c_4, c_5, c_8]; done) | (simp [givS, givT, c_1, ex1, c_2, ea1, c_3, eb1, c_4, c_5, c_8]; rfl)) dX2_give_74
        · have c_4 : (mayG u x1 a1 b1) = false := b2i_e0 c_4
          refine lv_bipush (v := (-3)) hx hb dX2_give_36 (by decide) ?_
          exact lh_ri hx hb hr hlk hK hP hD hS (by first | (simp [nI_0, nI_o, givR, c_1, ex1, c_2, ea1, c_3, eb1, c_4]; done) | (simp [nI_0, nI_o, givR, c_1, ex1, c_2, ea1, c_3, eb1, c_4]; rfl)) (by first | (simp [givS, givT, nI_0, nI_o, c_1, ex1, c_2, ea1, c_3, eb1, c_4]; done) | (simp [givS, givT, c_1, ex1, c_2, ea1, c_3, eb1, c_4]; done) | (simp [givS, givT, c_1, ex1, c_2, ea1, c_3, eb1, c_4]; rfl)) dX2_give_38
      · have c_3 : (isObj u b) = false := b2i_e0 c_3
        refine lv_iconst (v := (-1)) hx hb dX2_give_24 (by decide) ?_
        exact lh_ri hx hb hr hlk hK hP hD hS (by first | (simp [nI_0, nI_o, givR, c_1, ex1, c_2, ea1, c_3]; done) | (simp [nI_0, nI_o, givR, c_1, ex1, c_2, ea1, c_3]; rfl)) (by first | (simp [givS, givT, nI_0, nI_o, c_1, ex1, c_2, ea1, c_3]; done) | (simp [givS, givT, c_1, ex1, c_2, ea1, c_3]; done) | (simp [givS, givT, c_1, ex1, c_2, ea1, c_3]; rfl)) dX2_give_25
set_option maxRecDepth 100000 in
set_option maxHeartbeats 4000000 in
theorem kX2_deliver (l : Launch) (D : va_G) (cI cZ : ClassId) (ad : Nat → Nat) (u : XS) (k : Int32) (T : Nat) (inv : Inv T u) : CI l D [(cI, .int), (cZ, .boolean)] yX2_deliver wsX2_deliver ({ frames := 6, cells := 0, slots := 0, locals := 138 }) [.ref (ad 0), .int (k)] (wM cI cZ ad u) (wM cI cZ ad (delS u k)) (delR u k) := by
  have ok := inv.1
  obtain ⟨hM, hW, hHo, hAb, hLb, hRb, hDb⟩ := id ok
  refine lh_CIof (cc := cX2_deliver) (maxL := 2) (ret := (some .int)) (own := RX2) (by decide) rfl rfl (Nat.le_of_ble_eq_true rfl) ?_
  intro p e s m below meth c A ls hx hb hr hlk hts hown hml hK hN hA hP hD hS hl
  have hl : lv_has ls 2 [(0, .ref (ad 0)), (1, .int (k))] := hl
  refine lv_aload_n hx hb dX2_deliver_0 rfl (lv_at hl 0 rfl) ?_
  refine lv_iload_n hx hb dX2_deliver_1 rfl (lv_at hl 1 rfl) ?_
  refine lh_cVi ⟨hx, hb, hml, hown, hts⟩ (kX2_isLetter l D cI cZ ad u k ok) (cwV 1 hts gX2_deliver_X2_isLetter rfl rfl rfl (by decide +kernel) ⟨Nat.le_of_ble_eq_true rfl, Nat.le_of_ble_eq_true rfl⟩) hK hN hP hD hS hA 0 2 rfl rfl rfl rfl hl.1 rfl (Nat.le_of_ble_eq_true rfl) ⟨Nat.le_of_ble_eq_true rfl, Nat.le_of_ble_eq_true rfl⟩ dX2_deliver_2 (fun H locs hP hD hS => ?_)
  refine lv_if_ne (tgt := 12) hx hb dX2_deliver_5 (by decide) (fun c_1 => ?_) (fun c_1 => ?_)
  · have c_1 : (isLe u k) = true := b2i_n0 c_1
    obtain ⟨k1, hk1, ek1⟩ := isLe_ex hW c_1
    subst ek1
    have ek1 : (nI k1).toNatClampNeg = k1 := nI_clamp (by omega)
    refine lv_aload_n hx hb dX2_deliver_12 rfl (lv_at hl 0 rfl) ?_
    refine lv_iload_n hx hb dX2_deliver_13 rfl (lv_at hl 1 rfl) ?_
    refine lh_cVi ⟨hx, hb, hml, hown, hts⟩ (kX2_delivers l D cI cZ ad u k1 ok (by omega) (by exact (inv.2.2.2.2.2.1 k1 (by omega)).1) (by exact fun q => ((inv.2.2.2.2.2.1 k1 (by omega)).2.1 q).1)) (cwV 1 hts gX2_deliver_X2_delivers rfl rfl rfl (by decide +kernel) ⟨Nat.le_of_ble_eq_true rfl, Nat.le_of_ble_eq_true rfl⟩) hK hN hP hD hS hA 0 2 rfl rfl rfl rfl hl.1 rfl (Nat.le_of_ble_eq_true rfl) ⟨Nat.le_of_ble_eq_true rfl, Nat.le_of_ble_eq_true rfl⟩ dX2_deliver_14 (fun H locs hP hD hS => ?_)
    have hP : va_P D vwCl (wM cI cZ ad (arr u k1)) H := hP
    have hD : va_D A (wM cI cZ ad (arr u k1)) := hD
    refine lv_if_eq (tgt := 24) hx hb dX2_deliver_17 (by decide) (fun c_2 => ?_) (fun c_2 => ?_)
    · have c_2 : (!decide (xRc u k1 < 10)) = false := b2i_e0 c_2
      have c_2 : xRc u k1 < 10 := by simpa using c_2
      refine lv_iconst (v := nI 0) hx hb dX2_deliver_24 (by decide) ?_
      exact lh_ri hx hb hr hlk hK hP hD hS (by first | (simp [delR, kd, c_1, ek1, c_2]; done) | (simp [delR, kd, nI_o, nI_0, c_1, ek1, c_2]; done)) (by first | (simp [nI_0, nI_o, delS, c_1, ek1, c_2]; done) | (simp [nI_0, nI_o, delS, c_1, ek1, c_2]; rfl)) dX2_deliver_25
    · have c_2 : (!decide (xRc u k1 < 10)) = true := b2i_n0 c_2
      have c_2 : ¬ xRc u k1 < 10 := by simpa using c_2
      refine lv_iconst (v := nI 1) hx hb dX2_deliver_20 (by decide) ?_
      refine lv_goto (tgt := 25) hx hb dX2_deliver_21 (by decide) ?_
      exact lh_ri hx hb hr hlk hK hP hD hS (by first | (simp [delR, kd, c_1, ek1, c_2]; done) | (simp [delR, kd, nI_o, nI_0, c_1, ek1, c_2]; done)) (by first | (simp [nI_0, nI_o, delS, c_1, ek1, c_2]; done) | (simp [nI_0, nI_o, delS, c_1, ek1, c_2]; rfl)) dX2_deliver_25
  · have c_1 : (isLe u k) = false := b2i_e0 c_1
    refine lv_iconst (v := (-1)) hx hb dX2_deliver_8 (by decide) ?_
    refine lv_goto (tgt := 25) hx hb dX2_deliver_9 (by decide) ?_
    exact lh_ri hx hb hr hlk hK hP hD hS (by first | (simp [delR, kd, c_1]; done) | (simp [delR, kd, nI_o, nI_0, c_1]; done)) (by first | (simp [nI_0, nI_o, delS, c_1]; done) | (simp [nI_0, nI_o, delS, c_1]; rfl)) dX2_deliver_25
set_option maxRecDepth 100000 in
set_option maxHeartbeats 4000000 in
theorem kX2_letter (l : Launch) (D : va_G) (cI cZ : ClassId) (ad : Nat → Nat) (u : XS) (k : Int32) (w : Int32) (T : Nat) (inv : Inv T u) : CI l D [(cI, .int), (cZ, .boolean)] yX2_letter wsX2_letter ({ frames := 2, cells := 0, slots := 0, locals := 43 }) [.ref (ad 0), .int (k), .int (w)] (wM cI cZ ad u) (wM cI cZ ad u) (letR u k w) := by
  have ok := inv.1
  obtain ⟨hM, hW, hHo, hAb, hLb, hRb, hDb⟩ := id ok
  refine lh_CIof (cc := cX2_letter) (maxL := 3) (ret := (some .int)) (own := RX2) (by decide) rfl rfl (Nat.le_of_ble_eq_true rfl) ?_
  intro p e s m below meth c A ls hx hb hr hlk hts hown hml hK hN hA hP hD hS hl
  have fX2_29 := hts (.fieldLink RX2 29 "LostHostsModel" "toOne" "[I") (by decide +kernel)
  have fX2_32 := hts (.fieldLink RX2 32 "LostHostsModel" "weightIn" "[I") (by decide +kernel)
  have fX2_26 := hts (.fieldLink RX2 26 "LostHostsModel" "about" "[I") (by decide +kernel)
  have hinX2 : ∀ w ∈ u_ws RX2 TX2 13, w ∈ wsX2_letter := by decide +kernel
  have hl : lv_has ls 3 [(0, .ref (ad 0)), (1, .int (k)), (2, .int (w))] := hl
  refine lv_aload_n hx hb dX2_letter_0 rfl (lv_at hl 0 rfl) ?_
  refine lv_iload_n hx hb dX2_letter_1 rfl (lv_at hl 1 rfl) ?_
  refine lh_cVi ⟨hx, hb, hml, hown, hts⟩ (kX2_isLetter l D cI cZ ad u k ok) (cwV 1 hts gX2_letter_X2_isLetter rfl rfl rfl (by decide +kernel) ⟨Nat.le_of_ble_eq_true rfl, Nat.le_of_ble_eq_true rfl⟩) hK hN hP hD hS hA 0 2 rfl rfl rfl rfl hl.1 rfl (Nat.le_of_ble_eq_true rfl) ⟨Nat.le_of_ble_eq_true rfl, Nat.le_of_ble_eq_true rfl⟩ dX2_letter_2 (fun H locs hP hD hS => ?_)
  refine lv_if_ne (tgt := 10) hx hb dX2_letter_5 (by decide) (fun c_1 => ?_) (fun c_1 => ?_)
  · have c_1 : (isLe u k) = true := b2i_n0 c_1
    obtain ⟨k1, hk1, ek1⟩ := isLe_ex hW c_1
    subst ek1
    have ek1 : (nI k1).toNatClampNeg = k1 := nI_clamp (by omega)
    refine lv_iload_n hx hb dX2_letter_10 rfl (lv_at hl 2 rfl) ?_
    rcases lh_sw (n := 5) (hi := 4) (x := w) (by decide) (by decide) with c_2 | c_2
    · refine lv_tableOut (tgt := 88) hx hb dX2_letter_11 c_2 (by decide) ?_
      refine lv_bipush (v := (-2)) hx hb dX2_letter_88 (by decide) ?_
      exact lh_ri hx hb hr hlk hK hP hD hS (by have hk := swO (n := 5) (hi := 4) (by decide) c_2 (by decide); simp [letR, hk 0 (by decide), hk 1 (by decide), hk 2 (by decide), hk 3 (by decide), hk 4 (by decide), c_1, ek1, c_2]) rfl dX2_letter_90
    · obtain ⟨c_2k, c_2l, c_2⟩ := c_2
      by_cases c_2e : c_2k = 0
      · subst c_2e
        refine lv_tableIn (off := 33) (tgt := 44) hx hb dX2_letter_11 (by rw [c_2]; decide) (by rw [c_2]; decide) (by rw [c_2]; decide) (by decide) ?_
        refine lv_aload_n hx hb dX2_letter_44 rfl (lv_at hl 0 rfl) ?_
        refine va_get (D := D) (ci := 2) (v := .ref (ad 7)) (C := RX2) (T := TX2) (N := 13) hx hb hts hinX2 hown hK hP 0 rfl rfl 10 (by decide) fX2_29 (fun _ h9 => h9) rfl dX2_letter_45 ?_
        refine lv_iload_n hx hb dX2_letter_48 rfl (lv_at hl 1 rfl) ?_
        refine lh_ild (k := k1) (N := 512) hx hb hK hP 7 0 rfl rfl (by omega) (by decide) dX2_letter_49 ?_
        refine W.eq (g2 := F0 m 50 ls (.int (rv (xRc u k1)) :: [])) rfl ?_
        refine lv_bipush (v := (-9)) hx hb dX2_letter_50 (by decide) ?_
        refine lv_icmp_ne (tgt := 59) hx hb dX2_letter_52 (by decide) (fun c_3 => ?_) (fun c_3 => ?_)
        · have c_3 : (xRc u k1) < 10 := rv_ne9 c_3
          refine lv_iconst (v := nI 0) hx hb dX2_letter_59 (by decide) ?_
          exact lh_ri hx hb hr hlk hK hP hD hS (by first | (simp [letR, nI_eqL, kd, c_1, ek1, c_2, c_3]; done) | (simp [letR, nI_eqL, kd, nI_o, nI_0, c_1, ek1, c_2, c_3]; done) | (simp [letR, nI_eqL, b2i, c_1, ek1, c_2, c_3]; rfl)) rfl dX2_letter_60
        · have c_3 : ¬ (xRc u k1) < 10 := rv_eq9 c_3
          refine lv_iconst (v := nI 1) hx hb dX2_letter_55 (by decide) ?_
          refine lv_goto (tgt := 60) hx hb dX2_letter_56 (by decide) ?_
          exact lh_ri hx hb hr hlk hK hP hD hS (by first | (simp [letR, nI_eqL, kd, c_1, ek1, c_2, c_3]; done) | (simp [letR, nI_eqL, kd, nI_o, nI_0, c_1, ek1, c_2, c_3]; done) | (simp [letR, nI_eqL, b2i, c_1, ek1, c_2, c_3]; rfl)) rfl dX2_letter_60
      by_cases c_2e : c_2k = 1
      · subst c_2e
        refine lv_tableIn (off := 50) (tgt := 61) hx hb dX2_letter_11 (by rw [c_2]; decide) (by rw [c_2]; decide) (by rw [c_2]; decide) (by decide) ?_
        refine lv_aload_n hx hb dX2_letter_61 rfl (lv_at hl 0 rfl) ?_
        refine lv_iload_n hx hb dX2_letter_62 rfl (lv_at hl 1 rfl) ?_
        refine lh_cVi ⟨hx, hb, hml, hown, hts⟩ (kX2_hostFor l D cI cZ ad u k1 ok (by omega)) (cwV 1 hts gX2_letter_X2_hostFor rfl rfl rfl (by decide +kernel) ⟨Nat.le_of_ble_eq_true rfl, Nat.le_of_ble_eq_true rfl⟩) hK hN hP hD hS hA 0 2 rfl rfl rfl rfl hl.1 rfl (Nat.le_of_ble_eq_true rfl) ⟨Nat.le_of_ble_eq_true rfl, Nat.le_of_ble_eq_true rfl⟩ dX2_letter_63 (fun H locs hP hD hS => ?_)
        exact lh_ri hx hb hr hlk hK hP hD hS (by first | (simp [letR, nI_eqL, kd, c_1, ek1, c_2]; done) | (simp [letR, nI_eqL, kd, nI_o, nI_0, c_1, ek1, c_2]; done) | (simp [letR, nI_eqL, b2i, c_1, ek1, c_2]; rfl)) rfl dX2_letter_66
      by_cases c_2e : c_2k = 2
      · subst c_2e
        refine lv_tableIn (off := 56) (tgt := 67) hx hb dX2_letter_11 (by rw [c_2]; decide) (by rw [c_2]; decide) (by rw [c_2]; decide) (by decide) ?_
        refine lv_aload_n hx hb dX2_letter_67 rfl (lv_at hl 0 rfl) ?_
        refine va_get (D := D) (ci := 2) (v := .ref (ad 8)) (C := RX2) (T := TX2) (N := 13) hx hb hts hinX2 hown hK hP 0 rfl rfl 11 (by decide) fX2_32 (fun _ h9 => h9) rfl dX2_letter_68 ?_
        refine lv_iload_n hx hb dX2_letter_71 rfl (lv_at hl 1 rfl) ?_
        refine lh_ild (k := k1) (N := 512) hx hb hK hP 8 0 rfl rfl (by omega) (by decide) dX2_letter_72 ?_
        refine W.eq (g2 := F0 m 73 ls (.int ((xLo u k1)) :: [])) rfl ?_
        exact lh_ri hx hb hr hlk hK hP hD hS (by first | (simp [letR, nI_eqL, kd, c_1, ek1, c_2]; done) | (simp [letR, nI_eqL, kd, nI_o, nI_0, c_1, ek1, c_2]; done) | (simp [letR, nI_eqL, b2i, c_1, ek1, c_2]; rfl)) rfl dX2_letter_73
      by_cases c_2e : c_2k = 3
      · subst c_2e
        refine lv_tableIn (off := 63) (tgt := 74) hx hb dX2_letter_11 (by rw [c_2]; decide) (by rw [c_2]; decide) (by rw [c_2]; decide) (by decide) ?_
        refine lv_aload_n hx hb dX2_letter_74 rfl (lv_at hl 0 rfl) ?_
        refine va_get (D := D) (ci := 2) (v := .ref (ad 6)) (C := RX2) (T := TX2) (N := 13) hx hb hts hinX2 hown hK hP 0 rfl rfl 9 (by decide) fX2_26 (fun _ h9 => h9) rfl dX2_letter_75 ?_
        refine lv_iload_n hx hb dX2_letter_78 rfl (lv_at hl 1 rfl) ?_
        refine lh_ild (k := k1) (N := 512) hx hb hK hP 6 0 rfl rfl (by omega) (by decide) dX2_letter_79 ?_
        refine W.eq (g2 := F0 m 80 ls (.int (nI (xAb u k1)) :: [])) rfl ?_
        exact lh_ri hx hb hr hlk hK hP hD hS (by first | (simp [letR, nI_eqL, kd, c_1, ek1, c_2]; done) | (simp [letR, nI_eqL, kd, nI_o, nI_0, c_1, ek1, c_2]; done) | (simp [letR, nI_eqL, b2i, c_1, ek1, c_2]; rfl)) rfl dX2_letter_80
      by_cases c_2e : c_2k = 4
      · subst c_2e
        refine lv_tableIn (off := 70) (tgt := 81) hx hb dX2_letter_11 (by rw [c_2]; decide) (by rw [c_2]; decide) (by rw [c_2]; decide) (by decide) ?_
        refine lv_aload_n hx hb dX2_letter_81 rfl (lv_at hl 0 rfl) ?_
        refine va_get (D := D) (ci := 2) (v := .ref (ad 7)) (C := RX2) (T := TX2) (N := 13) hx hb hts hinX2 hown hK hP 0 rfl rfl 10 (by decide) fX2_29 (fun _ h9 => h9) rfl dX2_letter_82 ?_
        refine lv_iload_n hx hb dX2_letter_85 rfl (lv_at hl 1 rfl) ?_
        refine lh_ild (k := k1) (N := 512) hx hb hK hP 7 0 rfl rfl (by omega) (by decide) dX2_letter_86 ?_
        refine W.eq (g2 := F0 m 87 ls (.int (rv (xRc u k1)) :: [])) rfl ?_
        exact lh_ri hx hb hr hlk hK hP hD hS (by first | (simp [letR, nI_eqL, kd, c_1, ek1, c_2]; done) | (simp [letR, nI_eqL, kd, nI_o, nI_0, c_1, ek1, c_2]; done) | (simp [letR, nI_eqL, b2i, c_1, ek1, c_2]; rfl)) rfl dX2_letter_87
      exact absurd c_2l (by omega)
  · have c_1 : (isLe u k) = false := b2i_e0 c_1
    refine lv_iconst (v := (-1)) hx hb dX2_letter_8 (by decide) ?_
    exact lh_ri hx hb hr hlk hK hP hD hS (by first | (simp [nI_0, nI_o, letR, c_1]; done) | (simp [nI_0, nI_o, letR, c_1]; rfl)) rfl dX2_letter_9
set_option maxRecDepth 100000 in
set_option maxHeartbeats 4000000 in
theorem kX2_collect (l : Launch) (D : va_G) (cI cZ : ClassId) (ad : Nat → Nat) (u : XS) (h : Int32) (T : Nat) (inv : Inv T u) : CI l D [(cI, .int), (cZ, .boolean)] yX2_collect wsX2_collect ({ frames := 6, cells := 0, slots := 0, locals := 141 }) [.ref (ad 0), .int (h)] (wM cI cZ ad u) (wM cI cZ ad (clcS u h)) (clcR u h) := by
  have ok := inv.1
  obtain ⟨hM, hW, hHo, hAb, hLb, hRb, hDb⟩ := id ok
  refine lh_CIof (cc := cX2_collect) (maxL := 2) (ret := (some .int)) (own := RX2) (by decide) rfl rfl (Nat.le_of_ble_eq_true rfl) ?_
  intro p e s m below meth c A ls hx hb hr hlk hts hown hml hK hN hA hP hD hS hl
  have fX2_51 := hts (.fieldLink RX2 51 "LostHostsModel" "dead" "I") (by decide +kernel)
  have hinX2 : ∀ w ∈ u_ws RX2 TX2 13, w ∈ wsX2_collect := by decide +kernel
  have hl : lv_has ls 2 [(0, .ref (ad 0)), (1, .int (h))] := hl
  refine lv_iload_n hx hb dX2_collect_0 rfl (lv_at hl 1 rfl) ?_
  refine lh_cSi ⟨hx, hb, hml, hown, hts⟩ (kX2_isHost l D _ _ h) (va_cwS 1 hts gX2_collect_X2_isHost rfl rfl rfl (by decide +kernel) ⟨Nat.le_of_ble_eq_true rfl, Nat.le_of_ble_eq_true rfl⟩) hK hN hP hD hS hA rfl hl.1 rfl (Nat.le_of_ble_eq_true rfl) ⟨Nat.le_of_ble_eq_true rfl, Nat.le_of_ble_eq_true rfl⟩ dX2_collect_1 (fun H locs hP hD hS => ?_)
  refine lv_if_ne (tgt := 9) hx hb dX2_collect_4 (by decide) (fun c_1 => ?_) (fun c_1 => ?_)
  · have c_1 : (isHo h) = true := b2i_n0 c_1
    obtain ⟨h1, hh1, eh1⟩ := isHo_ex c_1
    subst eh1
    have eh1 : (nI h1).toNatClampNeg = h1 := nI_clamp (by omega)
    refine lv_aload_n hx hb dX2_collect_9 rfl (lv_at hl 0 rfl) ?_
    refine va_get (D := D) (ci := 2) (v := .int (nI (xD u))) (C := RX2) (T := TX2) (N := 13) hx hb hts hinX2 hown hK hP 0 rfl rfl 0 (by decide) fX2_51 (fun _ h9 => h9) rfl dX2_collect_10 ?_
    refine lv_iload_n hx hb dX2_collect_13 rfl (lv_at hl 1 rfl) ?_
    refine lh_cSi ⟨hx, hb, hml, hown, hts⟩ (kX2_has l D _ _ (xD u) h1 (by first | omega | exact gn_lt31 hM | exact gn_lt31 (by omega)) (by omega)) (va_cwS 2 hts gX2_collect_X2_has rfl rfl rfl (by decide +kernel) ⟨Nat.le_of_ble_eq_true rfl, Nat.le_of_ble_eq_true rfl⟩) hK hN hP hD hS hA rfl hl.1 rfl (Nat.le_of_ble_eq_true rfl) ⟨Nat.le_of_ble_eq_true rfl, Nat.le_of_ble_eq_true rfl⟩ dX2_collect_14 (fun H locs hP hD hS => ?_)
    refine lv_if_eq (tgt := 25) hx hb dX2_collect_17 (by decide) (fun c_2 => ?_) (fun c_2 => ?_)
    · have c_2 : ((xD u).testBit h1) = false := b2i_e0 c_2
      refine lv_aload_n hx hb dX2_collect_25 rfl (lv_at hl 0 rfl) ?_
      refine lv_iload_n hx hb dX2_collect_26 rfl (lv_at hl 1 rfl) ?_
      refine lh_cVi ⟨hx, hb, hml, hown, hts⟩ (kX2_collects l D cI cZ ad u h1 T (by omega) (by omega)) (cwV 1 hts gX2_collect_X2_collects rfl rfl rfl (by decide +kernel) ⟨Nat.le_of_ble_eq_true rfl, Nat.le_of_ble_eq_true rfl⟩) hK hN hP hD hS hA 0 2 rfl rfl rfl rfl hl.1 rfl (Nat.le_of_ble_eq_true rfl) ⟨Nat.le_of_ble_eq_true rfl, Nat.le_of_ble_eq_true rfl⟩ dX2_collect_27 (fun H locs hP hD hS => ?_)
      have hP : va_P D vwCl (wM cI cZ ad (colS u h1)) H := hP
      have hD : va_D A (wM cI cZ ad (colS u h1)) := hD
      exact lh_ri hx hb hr hlk hK hP hD hS (by first | (simp [nI_0, nI_o, clcR, c_1, eh1, c_2]; done) | (simp [nI_0, nI_o, clcR, c_1, eh1, c_2]; rfl)) (by first | (simp [nI_0, nI_o, clcS, c_1, eh1, c_2]; done) | (simp [nI_0, nI_o, clcS, c_1, eh1, c_2]; rfl)) dX2_collect_30
    · have c_2 : ((xD u).testBit h1) = true := b2i_n0 c_2
      refine lv_bipush (v := (-3)) hx hb dX2_collect_20 (by decide) ?_
      refine lv_goto (tgt := 30) hx hb dX2_collect_22 (by decide) ?_
      exact lh_ri hx hb hr hlk hK hP hD hS (by first | (simp [nI_0, nI_o, clcR, c_1, eh1, c_2]; done) | (simp [nI_0, nI_o, clcR, c_1, eh1, c_2]; rfl)) (by first | (simp [nI_0, nI_o, clcS, c_1, eh1, c_2]; done) | (simp [nI_0, nI_o, clcS, c_1, eh1, c_2]; rfl)) dX2_collect_30
  · have c_1 : (isHo h) = false := b2i_e0 c_1
    refine lv_iconst (v := (-1)) hx hb dX2_collect_7 (by decide) ?_
    exact lh_ri hx hb hr hlk hK hP hD hS (by first | (simp [nI_0, nI_o, clcR, c_1]; done) | (simp [nI_0, nI_o, clcR, c_1]; rfl)) (by first | (simp [nI_0, nI_o, clcS, c_1]; done) | (simp [nI_0, nI_o, clcS, c_1]; rfl)) dX2_collect_8
set_option maxRecDepth 100000 in
set_option maxHeartbeats 4000000 in
theorem kX2_stays (l : Launch) (D : va_G) (cI cZ : ClassId) (ad : Nat → Nat) (u : XS) (h : Int32) (T : Nat) (inv : Inv T u) : CI l D [(cI, .int), (cZ, .boolean)] yX2_stays wsX2_stays ({ frames := 5, cells := 0, slots := 0, locals := 116 }) [.ref (ad 0), .int (h)] (wM cI cZ ad u) (wM cI cZ ad u) (staR u h) := by
  have ok := inv.1
  obtain ⟨hM, hW, hHo, hAb, hLb, hRb, hDb⟩ := id ok
  refine lh_CIof (cc := cX2_stays) (maxL := 2) (ret := (some .int)) (own := RX2) (by decide) rfl rfl (Nat.le_of_ble_eq_true rfl) ?_
  intro p e s m below meth c A ls hx hb hr hlk hts hown hml hK hN hA hP hD hS hl
  have hl : lv_has ls 2 [(0, .ref (ad 0)), (1, .int (h))] := hl
  refine lv_iload_n hx hb dX2_stays_0 rfl (lv_at hl 1 rfl) ?_
  refine lh_cSi ⟨hx, hb, hml, hown, hts⟩ (kX2_isHost l D _ _ h) (va_cwS 1 hts gX2_stays_X2_isHost rfl rfl rfl (by decide +kernel) ⟨Nat.le_of_ble_eq_true rfl, Nat.le_of_ble_eq_true rfl⟩) hK hN hP hD hS hA rfl hl.1 rfl (Nat.le_of_ble_eq_true rfl) ⟨Nat.le_of_ble_eq_true rfl, Nat.le_of_ble_eq_true rfl⟩ dX2_stays_1 (fun H locs hP hD hS => ?_)
  refine lv_if_eq (tgt := 15) hx hb dX2_stays_4 (by decide) (fun c_1 => ?_) (fun c_1 => ?_)
  · have c_1 : (isHo h) = false := b2i_e0 c_1
    refine lv_iconst (v := (-1)) hx hb dX2_stays_15 (by decide) ?_
    exact lh_ri hx hb hr hlk hK hP hD hS (by first | (simp [nI_0, nI_o, staR, c_1]; done) | (simp [nI_0, nI_o, staR, c_1]; rfl)) rfl dX2_stays_16
  · have c_1 : (isHo h) = true := b2i_n0 c_1
    obtain ⟨h1, hh1, eh1⟩ := isHo_ex c_1
    subst eh1
    have eh1 : (nI h1).toNatClampNeg = h1 := nI_clamp (by omega)
    refine lv_aload_n hx hb dX2_stays_7 rfl (lv_at hl 0 rfl) ?_
    refine lv_iload_n hx hb dX2_stays_8 rfl (lv_at hl 1 rfl) ?_
    refine lh_cVi ⟨hx, hb, hml, hown, hts⟩ (kX2_staying l D cI cZ ad u h1 T (by omega) (by omega)) (cwV 1 hts gX2_stays_X2_staying rfl rfl rfl (by decide +kernel) ⟨Nat.le_of_ble_eq_true rfl, Nat.le_of_ble_eq_true rfl⟩) hK hN hP hD hS hA 0 2 rfl rfl rfl rfl hl.1 rfl (Nat.le_of_ble_eq_true rfl) ⟨Nat.le_of_ble_eq_true rfl, Nat.le_of_ble_eq_true rfl⟩ dX2_stays_9 (fun H locs hP hD hS => ?_)
    refine lv_goto (tgt := 16) hx hb dX2_stays_12 (by decide) ?_
    exact lh_ri hx hb hr hlk hK hP hD hS (by first | (simp [nI_0, nI_o, staR, c_1, eh1]; done) | (simp [nI_0, nI_o, staR, c_1, eh1]; rfl)) rfl dX2_stays_16
set_option maxRecDepth 100000 in
set_option maxHeartbeats 4000000 in
theorem kX2_old (l : Launch) (D : va_G) (cI cZ : ClassId) (ad : Nat → Nat) (u : XS) (h : Int32) (v : Int32) (T : Nat) (inv : Inv T u) : CI l D [(cI, .int), (cZ, .boolean)] yX2_old wsX2_old ({ frames := 2, cells := 0, slots := 0, locals := 44 }) [.ref (ad 0), .int (h), .int (v)] (wM cI cZ ad u) (wM cI cZ ad u) (oldR u h v) := by
  have ok := inv.1
  obtain ⟨hM, hW, hHo, hAb, hLb, hRb, hDb⟩ := id ok
  refine lh_CIof (cc := cX2_old) (maxL := 6) (ret := (some .int)) (own := RX2) (by decide) rfl rfl (Nat.le_of_ble_eq_true rfl) ?_
  intro p e s m below meth c A ls hx hb hr hlk hts hown hml hK hN hA hP hD hS hl
  have fX2_39 := hts (.fieldLink RX2 39 "LostHostsModel" "objects" "I") (by decide +kernel)
  have fX2_20 := hts (.fieldLink RX2 20 "LostHostsModel" "ageOf" "[I") (by decide +kernel)
  have hinX2 : ∀ w ∈ u_ws RX2 TX2 13, w ∈ wsX2_old := by decide +kernel
  have hl : lv_has ls 6 [(0, .ref (ad 0)), (1, .int (h)), (2, .int (v))] := hl
  refine lv_iload_n hx hb dX2_old_0 rfl (lv_at hl 1 rfl) ?_
  refine lh_cSi ⟨hx, hb, hml, hown, hts⟩ (kX2_isHost l D _ _ h) (va_cwS 1 hts gX2_old_X2_isHost rfl rfl rfl (by decide +kernel) ⟨Nat.le_of_ble_eq_true rfl, Nat.le_of_ble_eq_true rfl⟩) hK hN hP hD hS hA rfl hl.1 rfl (Nat.le_of_ble_eq_true rfl) ⟨Nat.le_of_ble_eq_true rfl, Nat.le_of_ble_eq_true rfl⟩ dX2_old_1 (fun H locs hP hD hS => ?_)
  refine lv_if_ne (tgt := 9) hx hb dX2_old_4 (by decide) (fun c_1 => ?_) (fun c_1 => ?_)
  · have c_1 : (isHo h) = true := b2i_n0 c_1
    obtain ⟨h1, hh1, eh1⟩ := isHo_ex c_1
    subst eh1
    have eh1 : (nI h1).toNatClampNeg = h1 := nI_clamp (by omega)
    refine lv_iload_n hx hb dX2_old_9 rfl (lv_at hl 2 rfl) ?_
    refine lv_iconst (v := nI 0) hx hb dX2_old_10 (by decide) ?_
    refine lv_bipush (v := nI 9) hx hb dX2_old_11 (by decide) ?_
    refine lh_cSi ⟨hx, hb, hml, hown, hts⟩ (kX2_within l D _ _ v (nI 0) (nI 9)) (va_cwS 3 hts gX2_old_X2_within rfl rfl rfl (by decide +kernel) ⟨Nat.le_of_ble_eq_true rfl, Nat.le_of_ble_eq_true rfl⟩) hK hN hP hD hS hA rfl hl.1 rfl (Nat.le_of_ble_eq_true rfl) ⟨Nat.le_of_ble_eq_true rfl, Nat.le_of_ble_eq_true rfl⟩ dX2_old_13 (fun H locs hP hD hS => ?_)
    refine lv_if_ne (tgt := 22) hx hb dX2_old_16 (by decide) (fun c_2 => ?_) (fun c_2 => ?_)
    · have c_2 : (wi v (nI 0) (nI 9)) = true := b2i_n0 c_2
      have c_2w := wi09 c_2
      refine lv_iconst (v := nI 0) hx hb dX2_old_22 (by decide) ?_
      refine lv_istore_n (lv' := [(3, .int (nI 0)), (0, .ref (ad 0)), (1, .int (nI h1)), (2, .int (v))]) hx hb dX2_old_23 rfl hl (by decide) rfl (fun ls hl => ?_)
      refine lv_aload_n hx hb dX2_old_24 rfl (lv_at hl 1 rfl) ?_
      refine lv_iload_n hx hb dX2_old_25 rfl (lv_at hl 2 rfl) ?_
      refine lh_cVi ⟨hx, hb, hml, hown, hts⟩ (kX2_onHost l D cI cZ ad u h1 ok (by omega)) (cwV 1 hts gX2_old_X2_onHost rfl rfl rfl (by decide +kernel) ⟨Nat.le_of_ble_eq_true rfl, Nat.le_of_ble_eq_true rfl⟩) hK hN hP hD hS hA 0 2 rfl rfl rfl rfl hl.1 rfl (Nat.le_of_ble_eq_true rfl) ⟨Nat.le_of_ble_eq_true rfl, Nat.le_of_ble_eq_true rfl⟩ dX2_old_26 (fun H locs hP hD hS => ?_)
      refine lv_istore (lv' := [(4, .int (nI (onH u h1))), (3, .int (nI 0)), (0, .ref (ad 0)), (1, .int (nI h1)), (2, .int (v))]) hx hb dX2_old_29 hl (by decide) rfl (fun ls hl => ?_)
      refine lv_iconst (v := nI 0) hx hb dX2_old_31 (by decide) ?_
      refine lv_istore (lv' := [(5, .int (nI 0)), (4, .int (nI (onH u h1))), (3, .int (nI 0)), (0, .ref (ad 0)), (1, .int (nI h1)), (2, .int (v))]) hx hb dX2_old_32 hl (by decide) rfl (fun ls hl => ?_)
      have L34 : ∀ (n : Nat) (k : Nat) (acc : Nat), xM u - k < n → (k ≤ xM u) → (acc = mk (oldP u h1 v) k) → ∀ (H : Heap) (locs : List Loc), va_P D vwCl (wM cI cZ ad u) H → va_D A (wM cI cZ ad u) → va_S A s.heap H locs → ∀ (ls : Array Slot), lv_has ls 6 [(5, .int (nI k)), (4, .int (nI (onH u h1))), (3, .int (nI acc)), (0, .ref (ad 0)), (1, .int (nI h1)), (2, .int (v))] → W p l e ({ frames := 2, cells := 0, slots := 0, locals := 44 }) s m [.ref (ad 0), .int ((nI h1)), .int (v)].toArray below meth c H locs 0 0 (QI below D [(cI, .int), (cZ, .boolean)] A (wM cI cZ ad u) (oldR u (nI h1) v) [.ref (ad 0), .int ((nI h1)), .int (v)].toArray s) (F0 m 34 ls []) := by
        intro n
        induction n with
        | zero => intro k acc hmu; exact absurd hmu (Nat.not_lt_zero _)
        | succ n ih34 =>
          intro k acc hmu34 hk hacc H locs hP hD hS ls hl
          refine lv_iload hx hb dX2_old_34 (lv_at hl 0 rfl) ?_
          refine lv_aload_n hx hb dX2_old_36 rfl (lv_at hl 3 rfl) ?_
          refine va_get (D := D) (ci := 2) (v := .int (nI (xM u))) (C := RX2) (T := TX2) (N := 13) hx hb hts hinX2 hown hK hP 0 rfl rfl 1 (by decide) fX2_39 (fun _ h9 => h9) rfl dX2_old_37 ?_
          refine lv_icmp_ge (tgt := 81) hx hb dX2_old_40 (by decide) (fun c_3 => ?_) (fun c_3 => ?_)
          · have c_3 : xM u ≤ k := (nI_leI (by omega) (by omega)).mp c_3
            have c_3n : ¬ k < xM u := by omega
            refine lv_iload_n hx hb dX2_old_81 rfl (lv_at hl 2 rfl) ?_
            exact lh_ri hx hb hr hlk hK hP hD hS (by rw [hacc, show k = xM u by omega]; exact old_in (by assumption) (by assumption) c_2w) rfl dX2_old_82
          · have c_3 : k < xM u := Nat.lt_of_not_le (fun h => c_3 ((nI_leI (by omega) (by omega)).mpr h))
            refine lv_iload_n hx hb dX2_old_43 rfl (lv_at hl 2 rfl) ?_
            refine lv_iload hx hb dX2_old_44 (lv_at hl 1 rfl) ?_
            refine lv_iload hx hb dX2_old_46 (lv_at hl 0 rfl) ?_
            refine lh_cSi ⟨hx, hb, hml, hown, hts⟩ (kX2_has l D _ _ (onH u h1) k (by have h9 := onH_lt hM h1; omega) (by omega)) (va_cwS 2 hts gX2_old_X2_has rfl rfl rfl (by decide +kernel) ⟨Nat.le_of_ble_eq_true rfl, Nat.le_of_ble_eq_true rfl⟩) hK hN hP hD hS hA rfl hl.1 rfl (Nat.le_of_ble_eq_true rfl) ⟨Nat.le_of_ble_eq_true rfl, Nat.le_of_ble_eq_true rfl⟩ dX2_old_48 (fun H locs hP hD hS => ?_)
            refine lv_if_eq (tgt := 72) hx hb dX2_old_51 (by decide) (fun c_4 => ?_) (fun c_4 => ?_)
            · have c_4 : ((onH u h1).testBit k) = false := b2i_e0 c_4
              refine lv_iconst (v := nI 0) hx hb dX2_old_72 (by decide) ?_
              refine lv_ior hx hb dX2_old_73 ?_
              refine lh_top (y := nI (acc ||| 0)) (fa_or _ _) ?_
              refine lv_istore_n (lv' := [(3, .int (nI (acc ||| 0))), (5, .int (nI k)), (4, .int (nI (onH u h1))), (0, .ref (ad 0)), (1, .int (nI h1)), (2, .int (v))]) hx hb dX2_old_74 rfl hl (by decide) rfl (fun ls hl => ?_)
              refine lv_iinc (v := nI (k + 1)) (lv' := [(5, .int (nI (k + 1))), (3, .int (nI (acc ||| 0))), (4, .int (nI (onH u h1))), (0, .ref (ad 0)), (1, .int (nI h1)), (2, .int (v))]) hx hb dX2_old_75 hl (k := 1) rfl (lh_inc _) (by decide) rfl (fun ls hl => ?_)
              refine lv_goto (tgt := 34) hx hb dX2_old_78 (by decide) ?_
              exact ih34 (k + 1) (acc ||| 0) (by omega) (by omega) (by first | exact lh_mkt hacc (old_t c_3 c_4) | exact lh_mk0 hacc (old_a c_3 c_4) | exact lh_mk0 hacc (old_f (by omega) c_4)) _ _ hP hD hS ls (lv_sub hl [0, 2, 1, 3, 4, 5] rfl)
            · have c_4 : ((onH u h1).testBit k) = true := b2i_n0 c_4
              refine lv_aload_n hx hb dX2_old_54 rfl (lv_at hl 3 rfl) ?_
              refine va_get (D := D) (ci := 2) (v := .ref (ad 4)) (C := RX2) (T := TX2) (N := 13) hx hb hts hinX2 hown hK hP 0 rfl rfl 6 (by decide) fX2_20 (fun _ h9 => h9) rfl dX2_old_55 ?_
              refine lv_iload hx hb dX2_old_58 (lv_at hl 0 rfl) ?_
              refine lh_ild (k := k) (N := 10) hx hb hK hP 4 0 rfl rfl (by omega) (by decide) dX2_old_60 ?_
              refine W.eq (g2 := F0 m 61 ls (.int ((xAg u k)) :: [.int (nI acc)])) rfl ?_
              refine lv_iload_n hx hb dX2_old_61 rfl (lv_at hl 5 rfl) ?_
              refine lv_icmp_lt (tgt := 72) hx hb dX2_old_62 (by decide) (fun c_5 => ?_) (fun c_5 => ?_)
              · have c_5r := c_5
                refine lv_iconst (v := nI 0) hx hb dX2_old_72 (by decide) ?_
                refine lv_ior hx hb dX2_old_73 ?_
                refine lh_top (y := nI (acc ||| 0)) (fa_or _ _) ?_
                refine lv_istore_n (lv' := [(3, .int (nI (acc ||| 0))), (5, .int (nI k)), (4, .int (nI (onH u h1))), (0, .ref (ad 0)), (1, .int (nI h1)), (2, .int (v))]) hx hb dX2_old_74 rfl hl (by decide) rfl (fun ls hl => ?_)
                refine lv_iinc (v := nI (k + 1)) (lv' := [(5, .int (nI (k + 1))), (3, .int (nI (acc ||| 0))), (4, .int (nI (onH u h1))), (0, .ref (ad 0)), (1, .int (nI h1)), (2, .int (v))]) hx hb dX2_old_75 hl (k := 1) rfl (lh_inc _) (by decide) rfl (fun ls hl => ?_)
                refine lv_goto (tgt := 34) hx hb dX2_old_78 (by decide) ?_
                exact ih34 (k + 1) (acc ||| 0) (by omega) (by omega) (by first | exact lh_mkt hacc (old_t c_4 c_5) | exact lh_mk0 hacc (old_a c_4 c_5) | exact lh_mk0 hacc (old_f (by omega) c_5)) _ _ hP hD hS ls (lv_sub hl [0, 2, 1, 3, 4, 5] rfl)
              · have c_5r := c_5
                refine lv_iconst (v := nI 1) hx hb dX2_old_65 (by decide) ?_
                refine lv_iload hx hb dX2_old_66 (lv_at hl 0 rfl) ?_
                refine lv_ishl hx hb dX2_old_68 ?_
                refine lh_top (y := nI (2 ^ k)) (lh_bit (by omega)) ?_
                refine lv_goto (tgt := 73) hx hb dX2_old_69 (by decide) ?_
                refine lv_ior hx hb dX2_old_73 ?_
                refine lh_top (y := nI (acc ||| (2 ^ k))) (fa_or _ _) ?_
                refine lv_istore_n (lv' := [(3, .int (nI (acc ||| (2 ^ k)))), (5, .int (nI k)), (4, .int (nI (onH u h1))), (0, .ref (ad 0)), (1, .int (nI h1)), (2, .int (v))]) hx hb dX2_old_74 rfl hl (by decide) rfl (fun ls hl => ?_)
                refine lv_iinc (v := nI (k + 1)) (lv' := [(5, .int (nI (k + 1))), (3, .int (nI (acc ||| (2 ^ k)))), (4, .int (nI (onH u h1))), (0, .ref (ad 0)), (1, .int (nI h1)), (2, .int (v))]) hx hb dX2_old_75 hl (k := 1) rfl (lh_inc _) (by decide) rfl (fun ls hl => ?_)
                refine lv_goto (tgt := 34) hx hb dX2_old_78 (by decide) ?_
                exact ih34 (k + 1) (acc ||| (2 ^ k)) (by omega) (by omega) (by first | exact lh_mkt hacc (old_t c_4 c_5) | exact lh_mk0 hacc (old_a c_4 c_5) | exact lh_mk0 hacc (old_f (by omega) c_5)) _ _ hP hD hS ls (lv_sub hl [0, 2, 1, 3, 4, 5] rfl)
      exact L34 _ 0 0 (Nat.lt_succ_self _) (by omega) (by rfl) _ _ hP hD hS ls (lv_sub hl [0, 1, 2, 3, 4, 5] rfl)
    · have c_2 : (wi v (nI 0) (nI 9)) = false := b2i_e0 c_2
      have c_2w := wi09f c_2
      refine lv_bipush (v := (-2)) hx hb dX2_old_19 (by decide) ?_
      exact lh_ri hx hb hr hlk hK hP hD hS (by exact old_out (by assumption) c_2w) rfl dX2_old_21
  · have c_1 : (isHo h) = false := b2i_e0 c_1
    refine lv_iconst (v := (-1)) hx hb dX2_old_7 (by decide) ?_
    exact lh_ri hx hb hr hlk hK hP hD hS (by first | (simp [nI_0, nI_o, oldR, c_1]; done) | (simp [nI_0, nI_o, oldR, c_1]; rfl)) rfl dX2_old_8
set_option maxRecDepth 100000 in
set_option maxHeartbeats 4000000 in
theorem kX2_trace (l : Launch) (D : va_G) (cI cZ : ClassId) (ad : Nat → Nat) (u : XS) (b : Int32) (T : Nat) (inv : Inv T u) : CI l D [(cI, .int), (cZ, .boolean)] yX2_trace wsX2_trace ({ frames := 4, cells := 0, slots := 0, locals := 91 }) [.ref (ad 0), .int (b)] (wM cI cZ ad u) (wM cI cZ ad (traS u b)) (traR u b) := by
  have ok := inv.1
  obtain ⟨hM, hW, hHo, hAb, hLb, hRb, hDb⟩ := id ok
  refine lh_CIof (cc := cX2_trace) (maxL := 3) (ret := (some .int)) (own := RX2) (by decide) rfl rfl (Nat.le_of_ble_eq_true rfl) ?_
  intro p e s m below meth c A ls hx hb hr hlk hts hown hml hK hN hA hP hD hS hl
  have fX2_61 := hts (.fieldLink RX2 61 "LostHostsModel" "gone" "I") (by decide +kernel)
  have hinX2 : ∀ w ∈ u_ws RX2 TX2 13, w ∈ wsX2_trace := by decide +kernel
  have hl : lv_has ls 3 [(0, .ref (ad 0)), (1, .int (b))] := hl
  refine lv_aload_n hx hb dX2_trace_0 rfl (lv_at hl 0 rfl) ?_
  refine lv_iload_n hx hb dX2_trace_1 rfl (lv_at hl 1 rfl) ?_
  refine lh_cVi ⟨hx, hb, hml, hown, hts⟩ (kX2_isObject l D cI cZ ad u b ok) (cwV 1 hts gX2_trace_X2_isObject rfl rfl rfl (by decide +kernel) ⟨Nat.le_of_ble_eq_true rfl, Nat.le_of_ble_eq_true rfl⟩) hK hN hP hD hS hA 0 2 rfl rfl rfl rfl hl.1 rfl (Nat.le_of_ble_eq_true rfl) ⟨Nat.le_of_ble_eq_true rfl, Nat.le_of_ble_eq_true rfl⟩ dX2_trace_2 (fun H locs hP hD hS => ?_)
  refine lv_if_ne (tgt := 10) hx hb dX2_trace_5 (by decide) (fun c_1 => ?_) (fun c_1 => ?_)
  · have c_1 : (isObj u b) = true := b2i_n0 c_1
    obtain ⟨b1, hb1, eb1⟩ := isObj_ex hM c_1
    subst eb1
    have eb1 : (nI b1).toNatClampNeg = b1 := nI_clamp (by omega)
    refine lv_aload_n hx hb dX2_trace_10 rfl (lv_at hl 0 rfl) ?_
    refine va_get (D := D) (ci := 2) (v := .int (nI (gn u))) (C := RX2) (T := TX2) (N := 13) hx hb hts hinX2 hown hK hP 0 rfl rfl 4 (by decide) fX2_61 (fun _ h9 => h9) rfl dX2_trace_11 ?_
    refine lv_iload_n hx hb dX2_trace_14 rfl (lv_at hl 1 rfl) ?_
    refine lh_cSi ⟨hx, hb, hml, hown, hts⟩ (kX2_has l D _ _ (gn u) b1 (by first | omega | exact gn_lt31 hM | exact gn_lt31 (by omega)) (by omega)) (va_cwS 2 hts gX2_trace_X2_has rfl rfl rfl (by decide +kernel) ⟨Nat.le_of_ble_eq_true rfl, Nat.le_of_ble_eq_true rfl⟩) hK hN hP hD hS hA rfl hl.1 rfl (Nat.le_of_ble_eq_true rfl) ⟨Nat.le_of_ble_eq_true rfl, Nat.le_of_ble_eq_true rfl⟩ dX2_trace_15 (fun H locs hP hD hS => ?_)
    refine lv_if_eq (tgt := 24) hx hb dX2_trace_18 (by decide) (fun c_2 => ?_) (fun c_2 => ?_)
    · have c_2 : ((gn u).testBit b1) = false := b2i_e0 c_2
      have c_2 := gnF (k := b1) (by omega) c_2
      refine lv_aload_n hx hb dX2_trace_24 rfl (lv_at hl 0 rfl) ?_
      refine lv_iload_n hx hb dX2_trace_25 rfl (lv_at hl 1 rfl) ?_
      refine lh_cVi ⟨hx, hb, hml, hown, hts⟩ (kX2_backOf l D cI cZ ad u b1 ok (by omega)) (cwV 1 hts gX2_trace_X2_backOf rfl rfl rfl (by decide +kernel) ⟨Nat.le_of_ble_eq_true rfl, Nat.le_of_ble_eq_true rfl⟩) hK hN hP hD hS hA 0 2 rfl rfl rfl rfl hl.1 rfl (Nat.le_of_ble_eq_true rfl) ⟨Nat.le_of_ble_eq_true rfl, Nat.le_of_ble_eq_true rfl⟩ dX2_trace_26 (fun H locs hP hD hS => ?_)
      refine lv_istore_n (lv' := [(2, .int (nI (clo (backR u) (2 ^ b1)))), (0, .ref (ad 0)), (1, .int (nI b1))]) hx hb dX2_trace_29 rfl hl (by decide) rfl (fun ls hl => ?_)
      refine lv_aload_n hx hb dX2_trace_30 rfl (lv_at hl 1 rfl) ?_
      refine lv_iload_n hx hb dX2_trace_31 rfl (lv_at hl 0 rfl) ?_
      refine lh_cVi ⟨hx, hb, hml, hown, hts⟩ (kX2_heldBy l D cI cZ ad u (clo (backR u) (2 ^ b1)) ok (by exact clo_lt (pow_lt (by omega))) (by exact inv.2.2.2.1)) (cwV 1 hts gX2_trace_X2_heldBy rfl rfl rfl (by decide +kernel) ⟨Nat.le_of_ble_eq_true rfl, Nat.le_of_ble_eq_true rfl⟩) hK hN hP hD hS hA 0 2 rfl rfl rfl rfl hl.1 rfl (Nat.le_of_ble_eq_true rfl) ⟨Nat.le_of_ble_eq_true rfl, Nat.le_of_ble_eq_true rfl⟩ dX2_trace_32 (fun H locs hP hD hS => ?_)
      refine lv_if_ne (tgt := 47) hx hb dX2_trace_35 (by decide) (fun c_3 => ?_) (fun c_3 => ?_)
      · have c_3 : ¬ (hel u (clo (backR u) (2 ^ b1))) = 0 := lh_nz c_3
        refine lv_iconst (v := nI 0) hx hb dX2_trace_47 (by decide) ?_
        exact lh_ri hx hb hr hlk hK hP hD hS (by first | (simp [nI_0, nI_o, traR, c_1, eb1, c_2, c_3]; done) | (simp [nI_0, nI_o, traR, c_1, eb1, c_2, c_3]; rfl)) (by first | (simp [traS, becS, c_1, eb1, c_2, c_3]; done) | (simp [traS, becS, c_1, eb1, c_2, c_3]; rfl)) dX2_trace_48
      · have c_3 : (hel u (clo (backR u) (2 ^ b1))) = 0 := lh_z (by unfold hel; split <;> (try split) <;> omega) c_3
        refine lv_aload_n hx hb dX2_trace_38 rfl (lv_at hl 1 rfl) ?_
        refine lv_iload_n hx hb dX2_trace_39 rfl (lv_at hl 0 rfl) ?_
        refine lv_iconst (v := nI 1) hx hb dX2_trace_40 (by decide) ?_
        refine lh_cVi ⟨hx, hb, hml, hown, hts⟩ (kX2_become l D cI cZ ad u (clo (backR u) (2 ^ b1)) true T (by omega) (by exact back_live inv (by omega) (by assumption)) (by exact clo_lt (pow_lt (by omega)))) (cwV 2 hts gX2_trace_X2_become rfl rfl rfl (by decide +kernel) ⟨Nat.le_of_ble_eq_true rfl, Nat.le_of_ble_eq_true rfl⟩) hK hN hP hD hS hA 0 2 rfl rfl rfl rfl hl.1 rfl (Nat.le_of_ble_eq_true rfl) ⟨Nat.le_of_ble_eq_true rfl, Nat.le_of_ble_eq_true rfl⟩ dX2_trace_41 (fun H locs hP hD hS => ?_)
        have hP : va_P D vwCl (wM cI cZ ad (becS u (clo (backR u) (2 ^ b1)) true)) H := hP
        have hD : va_D A (wM cI cZ ad (becS u (clo (backR u) (2 ^ b1)) true)) := hD
        refine lv_goto (tgt := 48) hx hb dX2_trace_44 (by decide) ?_
        exact lh_ri hx hb hr hlk hK hP hD hS (by first | (simp [nI_0, nI_o, traR, c_1, eb1, c_2, c_3]; done) | (simp [nI_0, nI_o, traR, c_1, eb1, c_2, c_3]; rfl)) (by first | (simp [traS, becS, c_1, eb1, c_2, c_3]; done) | (simp [traS, becS, c_1, eb1, c_2, c_3]; rfl)) dX2_trace_48
    · have c_2 : ((gn u).testBit b1) = true := b2i_n0 c_2
      have c_2 := gnT (k := b1) (by omega) c_2
      refine lv_bipush (v := (-3)) hx hb dX2_trace_21 (by decide) ?_
      exact lh_ri hx hb hr hlk hK hP hD hS (by first | (simp [nI_0, nI_o, traR, c_1, eb1, c_2]; done) | (simp [nI_0, nI_o, traR, c_1, eb1, c_2]; rfl)) (by first | (simp [traS, becS, c_1, eb1, c_2]; done) | (simp [traS, becS, c_1, eb1, c_2]; rfl)) dX2_trace_23
  · have c_1 : (isObj u b) = false := b2i_e0 c_1
    refine lv_iconst (v := (-1)) hx hb dX2_trace_8 (by decide) ?_
    exact lh_ri hx hb hr hlk hK hP hD hS (by first | (simp [nI_0, nI_o, traR, c_1]; done) | (simp [nI_0, nI_o, traR, c_1]; rfl)) (by first | (simp [traS, becS, c_1]; done) | (simp [traS, becS, c_1]; rfl)) dX2_trace_9
set_option maxRecDepth 100000 in
set_option maxHeartbeats 4000000 in
theorem kX2_back (l : Launch) (D : va_G) (cI cZ : ClassId) (ad : Nat → Nat) (u : XS) (b : Int32) (w : Int32) (T : Nat) (inv : Inv T u) : CI l D [(cI, .int), (cZ, .boolean)] yX2_back wsX2_back ({ frames := 4, cells := 0, slots := 0, locals := 91 }) [.ref (ad 0), .int (b), .int (w)] (wM cI cZ ad u) (wM cI cZ ad u) (bacR u b w) := by
  have ok := inv.1
  obtain ⟨hM, hW, hHo, hAb, hLb, hRb, hDb⟩ := id ok
  refine lh_CIof (cc := cX2_back) (maxL := 3) (ret := (some .int)) (own := RX2) (by decide) rfl rfl (Nat.le_of_ble_eq_true rfl) ?_
  intro p e s m below meth c A ls hx hb hr hlk hts hown hml hK hN hA hP hD hS hl
  have fX2_61 := hts (.fieldLink RX2 61 "LostHostsModel" "gone" "I") (by decide +kernel)
  have hinX2 : ∀ w ∈ u_ws RX2 TX2 13, w ∈ wsX2_back := by decide +kernel
  have hl : lv_has ls 3 [(0, .ref (ad 0)), (1, .int (b)), (2, .int (w))] := hl
  refine lv_aload_n hx hb dX2_back_0 rfl (lv_at hl 0 rfl) ?_
  refine lv_iload_n hx hb dX2_back_1 rfl (lv_at hl 1 rfl) ?_
  refine lh_cVi ⟨hx, hb, hml, hown, hts⟩ (kX2_isObject l D cI cZ ad u b ok) (cwV 1 hts gX2_back_X2_isObject rfl rfl rfl (by decide +kernel) ⟨Nat.le_of_ble_eq_true rfl, Nat.le_of_ble_eq_true rfl⟩) hK hN hP hD hS hA 0 2 rfl rfl rfl rfl hl.1 rfl (Nat.le_of_ble_eq_true rfl) ⟨Nat.le_of_ble_eq_true rfl, Nat.le_of_ble_eq_true rfl⟩ dX2_back_2 (fun H locs hP hD hS => ?_)
  refine lv_if_ne (tgt := 10) hx hb dX2_back_5 (by decide) (fun c_1 => ?_) (fun c_1 => ?_)
  · have c_1 : (isObj u b) = true := b2i_n0 c_1
    obtain ⟨b1, hb1, eb1⟩ := isObj_ex hM c_1
    subst eb1
    have eb1 : (nI b1).toNatClampNeg = b1 := nI_clamp (by omega)
    refine lv_iload_n hx hb dX2_back_10 rfl (lv_at hl 2 rfl) ?_
    refine lv_iconst (v := nI 0) hx hb dX2_back_11 (by decide) ?_
    refine lv_iconst (v := nI 1) hx hb dX2_back_12 (by decide) ?_
    refine lh_cSi ⟨hx, hb, hml, hown, hts⟩ (kX2_within l D _ _ w (nI 0) (nI 1)) (va_cwS 3 hts gX2_back_X2_within rfl rfl rfl (by decide +kernel) ⟨Nat.le_of_ble_eq_true rfl, Nat.le_of_ble_eq_true rfl⟩) hK hN hP hD hS hA rfl hl.1 rfl (Nat.le_of_ble_eq_true rfl) ⟨Nat.le_of_ble_eq_true rfl, Nat.le_of_ble_eq_true rfl⟩ dX2_back_13 (fun H locs hP hD hS => ?_)
    refine lv_if_ne (tgt := 22) hx hb dX2_back_16 (by decide) (fun c_2 => ?_) (fun c_2 => ?_)
    · have c_2 : (wi w (nI 0) (nI 1)) = true := b2i_n0 c_2
      have c_2w := wi01 c_2
      refine lv_aload_n hx hb dX2_back_22 rfl (lv_at hl 0 rfl) ?_
      refine va_get (D := D) (ci := 2) (v := .int (nI (gn u))) (C := RX2) (T := TX2) (N := 13) hx hb hts hinX2 hown hK hP 0 rfl rfl 4 (by decide) fX2_61 (fun _ h9 => h9) rfl dX2_back_23 ?_
      refine lv_iload_n hx hb dX2_back_26 rfl (lv_at hl 1 rfl) ?_
      refine lh_cSi ⟨hx, hb, hml, hown, hts⟩ (kX2_has l D _ _ (gn u) b1 (by first | omega | exact gn_lt31 hM | exact gn_lt31 (by omega)) (by omega)) (va_cwS 2 hts gX2_back_X2_has rfl rfl rfl (by decide +kernel) ⟨Nat.le_of_ble_eq_true rfl, Nat.le_of_ble_eq_true rfl⟩) hK hN hP hD hS hA rfl hl.1 rfl (Nat.le_of_ble_eq_true rfl) ⟨Nat.le_of_ble_eq_true rfl, Nat.le_of_ble_eq_true rfl⟩ dX2_back_27 (fun H locs hP hD hS => ?_)
      refine lv_if_eq (tgt := 36) hx hb dX2_back_30 (by decide) (fun c_3 => ?_) (fun c_3 => ?_)
      · have c_3 : ((gn u).testBit b1) = false := b2i_e0 c_3
        have c_3 := gnF (k := b1) (by omega) c_3
        refine lv_iload_n hx hb dX2_back_36 rfl (lv_at hl 2 rfl) ?_
        refine lv_if_ne (tgt := 48) hx hb dX2_back_37 (by decide) (fun c_4 => ?_) (fun c_4 => ?_)
        · have c_4r := c_4
          refine lv_aload_n hx hb dX2_back_48 rfl (lv_at hl 0 rfl) ?_
          refine lv_aload_n hx hb dX2_back_49 rfl (lv_at hl 0 rfl) ?_
          refine lv_iload_n hx hb dX2_back_50 rfl (lv_at hl 1 rfl) ?_
          refine lh_cVi ⟨hx, hb, hml, hown, hts⟩ (kX2_backOf l D cI cZ ad u b1 ok (by omega)) (cwV 1 hts gX2_back_X2_backOf rfl rfl rfl (by decide +kernel) ⟨Nat.le_of_ble_eq_true rfl, Nat.le_of_ble_eq_true rfl⟩) hK hN hP hD hS hA 0 2 rfl rfl rfl rfl hl.1 rfl (Nat.le_of_ble_eq_true rfl) ⟨Nat.le_of_ble_eq_true rfl, Nat.le_of_ble_eq_true rfl⟩ dX2_back_51 (fun H locs hP hD hS => ?_)
          refine lh_cVi ⟨hx, hb, hml, hown, hts⟩ (kX2_heldBy l D cI cZ ad u (clo (backR u) (2 ^ b1)) ok (by exact clo_lt (pow_lt (by omega))) (by exact inv.2.2.2.1)) (cwV 1 hts gX2_back_X2_heldBy rfl rfl rfl (by decide +kernel) ⟨Nat.le_of_ble_eq_true rfl, Nat.le_of_ble_eq_true rfl⟩) hK hN hP hD hS hA 0 2 rfl rfl rfl rfl hl.1 rfl (Nat.le_of_ble_eq_true rfl) ⟨Nat.le_of_ble_eq_true rfl, Nat.le_of_ble_eq_true rfl⟩ dX2_back_54 (fun H locs hP hD hS => ?_)
          exact lh_ri hx hb hr hlk hK hP hD hS (by first | (simp [bacR, c_2w, c_1, eb1, c_2, c_3, c_4]; done) | (simp [bacR, (by decide : (0 : Int32) ≤ nI 1), c_1, eb1, c_2, c_3, c_4]; done)) rfl dX2_back_57
        · have c_4r := c_4
          refine lv_aload_n hx hb dX2_back_40 rfl (lv_at hl 0 rfl) ?_
          refine lv_iload_n hx hb dX2_back_41 rfl (lv_at hl 1 rfl) ?_
          refine lh_cVi ⟨hx, hb, hml, hown, hts⟩ (kX2_backOf l D cI cZ ad u b1 ok (by omega)) (cwV 1 hts gX2_back_X2_backOf rfl rfl rfl (by decide +kernel) ⟨Nat.le_of_ble_eq_true rfl, Nat.le_of_ble_eq_true rfl⟩) hK hN hP hD hS hA 0 2 rfl rfl rfl rfl hl.1 rfl (Nat.le_of_ble_eq_true rfl) ⟨Nat.le_of_ble_eq_true rfl, Nat.le_of_ble_eq_true rfl⟩ dX2_back_42 (fun H locs hP hD hS => ?_)
          refine lv_goto (tgt := 57) hx hb dX2_back_45 (by decide) ?_
          exact lh_ri hx hb hr hlk hK hP hD hS (by first | (simp [bacR, c_2w, c_1, eb1, c_2, c_3, c_4]; done) | (simp [bacR, (by decide : (0 : Int32) ≤ nI 1), c_1, eb1, c_2, c_3, c_4]; done)) rfl dX2_back_57
      · have c_3 : ((gn u).testBit b1) = true := b2i_n0 c_3
        have c_3 := gnT (k := b1) (by omega) c_3
        refine lv_bipush (v := (-3)) hx hb dX2_back_33 (by decide) ?_
        exact lh_ri hx hb hr hlk hK hP hD hS (by (simp [bacR, c_2w, c_1, eb1, c_2, c_3])) rfl dX2_back_35
    · have c_2 : (wi w (nI 0) (nI 1)) = false := b2i_e0 c_2
      have c_2w := wi01f c_2
      refine lv_bipush (v := (-2)) hx hb dX2_back_19 (by decide) ?_
      exact lh_ri hx hb hr hlk hK hP hD hS (by exact bac_out (by assumption) c_2w) rfl dX2_back_21
  · have c_1 : (isObj u b) = false := b2i_e0 c_1
    refine lv_iconst (v := (-1)) hx hb dX2_back_8 (by decide) ?_
    exact lh_ri hx hb hr hlk hK hP hD hS (by first | (simp [nI_0, nI_o, bacR, c_1]; done) | (simp [nI_0, nI_o, bacR, c_1]; rfl)) rfl dX2_back_9
set_option maxRecDepth 100000 in
set_option maxHeartbeats 4000000 in
theorem kX2_kill (l : Launch) (D : va_G) (cI cZ : ClassId) (ad : Nat → Nat) (u : XS) (h : Int32) (T : Nat) (inv : Inv T u) : CI l D [(cI, .int), (cZ, .boolean)] yX2_kill wsX2_kill ({ frames := 2, cells := 0, slots := 0, locals := 48 }) [.ref (ad 0), .int (h)] (wM cI cZ ad u) (wM cI cZ ad (kilS u h)) (kilR u h) := by
  have ok := inv.1
  obtain ⟨hM, hW, hHo, hAb, hLb, hRb, hDb⟩ := id ok
  refine lh_CIof (cc := cX2_kill) (maxL := 3) (ret := (some .int)) (own := RX2) (by decide) rfl rfl (Nat.le_of_ble_eq_true rfl) ?_
  intro p e s m below meth c A ls hx hb hr hlk hts hown hml hK hN hA hP hD hS hl
  have fX2_51 := hts (.fieldLink RX2 51 "LostHostsModel" "dead" "I") (by decide +kernel)
  have hinX2 : ∀ w ∈ u_ws RX2 TX2 13, w ∈ wsX2_kill := by decide +kernel
  have hl : lv_has ls 3 [(0, .ref (ad 0)), (1, .int (h))] := hl
  refine lv_iload_n hx hb dX2_kill_0 rfl (lv_at hl 1 rfl) ?_
  refine lh_cSi ⟨hx, hb, hml, hown, hts⟩ (kX2_isHost l D _ _ h) (va_cwS 1 hts gX2_kill_X2_isHost rfl rfl rfl (by decide +kernel) ⟨Nat.le_of_ble_eq_true rfl, Nat.le_of_ble_eq_true rfl⟩) hK hN hP hD hS hA rfl hl.1 rfl (Nat.le_of_ble_eq_true rfl) ⟨Nat.le_of_ble_eq_true rfl, Nat.le_of_ble_eq_true rfl⟩ dX2_kill_1 (fun H locs hP hD hS => ?_)
  refine lv_if_ne (tgt := 9) hx hb dX2_kill_4 (by decide) (fun c_1 => ?_) (fun c_1 => ?_)
  · have c_1 : (isHo h) = true := b2i_n0 c_1
    obtain ⟨h1, hh1, eh1⟩ := isHo_ex c_1
    subst eh1
    have eh1 : (nI h1).toNatClampNeg = h1 := nI_clamp (by omega)
    refine lv_aload_n hx hb dX2_kill_9 rfl (lv_at hl 0 rfl) ?_
    refine va_get (D := D) (ci := 2) (v := .int (nI (xD u))) (C := RX2) (T := TX2) (N := 13) hx hb hts hinX2 hown hK hP 0 rfl rfl 0 (by decide) fX2_51 (fun _ h9 => h9) rfl dX2_kill_10 ?_
    refine lv_iload_n hx hb dX2_kill_13 rfl (lv_at hl 1 rfl) ?_
    refine lh_cSi ⟨hx, hb, hml, hown, hts⟩ (kX2_has l D _ _ (xD u) h1 (by first | omega | exact gn_lt31 hM | exact gn_lt31 (by omega)) (by omega)) (va_cwS 2 hts gX2_kill_X2_has rfl rfl rfl (by decide +kernel) ⟨Nat.le_of_ble_eq_true rfl, Nat.le_of_ble_eq_true rfl⟩) hK hN hP hD hS hA rfl hl.1 rfl (Nat.le_of_ble_eq_true rfl) ⟨Nat.le_of_ble_eq_true rfl, Nat.le_of_ble_eq_true rfl⟩ dX2_kill_14 (fun H locs hP hD hS => ?_)
    refine lv_if_eq (tgt := 23) hx hb dX2_kill_17 (by decide) (fun c_2 => ?_) (fun c_2 => ?_)
    · have c_2 : ((xD u).testBit h1) = false := b2i_e0 c_2
      refine lv_aload_n hx hb dX2_kill_23 rfl (lv_at hl 0 rfl) ?_
      refine lv_aload_n hx hb dX2_kill_24 rfl (lv_at hl 0 rfl) ?_
      refine lv_iload_n hx hb dX2_kill_25 rfl (lv_at hl 1 rfl) ?_
      refine lh_cVi ⟨hx, hb, hml, hown, hts⟩ (kX2_onHost l D cI cZ ad u h1 ok (by omega)) (cwV 1 hts gX2_kill_X2_onHost rfl rfl rfl (by decide +kernel) ⟨Nat.le_of_ble_eq_true rfl, Nat.le_of_ble_eq_true rfl⟩) hK hN hP hD hS hA 0 2 rfl rfl rfl rfl hl.1 rfl (Nat.le_of_ble_eq_true rfl) ⟨Nat.le_of_ble_eq_true rfl, Nat.le_of_ble_eq_true rfl⟩ dX2_kill_26 (fun H locs hP hD hS => ?_)
      refine lv_iconst (v := nI 0) hx hb dX2_kill_29 (by decide) ?_
      refine lh_cVi ⟨hx, hb, hml, hown, hts⟩ (kX2_become l D cI cZ ad u (onH u h1) false T (by omega) (by exact onH_sub u h1) (by exact onH_lt hM h1)) (cwV 2 hts gX2_kill_X2_become rfl rfl rfl (by decide +kernel) ⟨Nat.le_of_ble_eq_true rfl, Nat.le_of_ble_eq_true rfl⟩) hK hN hP hD hS hA 0 2 rfl rfl rfl rfl hl.1 rfl (Nat.le_of_ble_eq_true rfl) ⟨Nat.le_of_ble_eq_true rfl, Nat.le_of_ble_eq_true rfl⟩ dX2_kill_30 (fun H locs hP hD hS => ?_)
      have hP : va_P D vwCl (wM cI cZ ad (becS u (onH u h1) false)) H := hP
      have hD : va_D A (wM cI cZ ad (becS u (onH u h1) false)) := hD
      refine lv_istore_n (lv' := [(2, .int (nI (cn (onH u h1)))), (0, .ref (ad 0)), (1, .int (nI h1))]) hx hb dX2_kill_33 rfl hl (by decide) rfl (fun ls hl => ?_)
      refine lv_aload_n hx hb dX2_kill_34 rfl (lv_at hl 1 rfl) ?_
      refine lv_dup hx hb dX2_kill_35 rfl ?_
      refine va_get (D := D) (ci := 2) (v := .int (nI (xD (becS u (onH u h1) false)))) (C := RX2) (T := TX2) (N := 13) hx hb hts hinX2 hown hK hP 0 rfl rfl 0 (by decide) fX2_51 (fun _ h9 => h9) rfl dX2_kill_36 ?_
      refine lv_iconst (v := nI 1) hx hb dX2_kill_39 (by decide) ?_
      refine lv_iload_n hx hb dX2_kill_40 rfl (lv_at hl 2 rfl) ?_
      refine lv_ishl hx hb dX2_kill_41 ?_
      refine lh_top (y := nI (2 ^ h1)) (lh_bit (by omega)) ?_
      refine lv_ior hx hb dX2_kill_42 ?_
      refine lh_top (y := nI (xD (becS u (onH u h1) false) ||| (2 ^ h1))) (fa_or _ _) ?_
      refine va_put (D := D) (ci := 2) (v := .int (nI (xD (becS u (onH u h1) false) ||| (2 ^ h1)))) (ty := .int) (C := RX2) (T := TX2) (N := 13) hx hb hts hinX2 tyX2 tyX2_ok nmX2 hown hK hP hD hS 0 rfl rfl 0 (by decide) fX2_51 (fun _ h9 => h9) rfl (by decide +kernel) rfl rfl (Nat.le_of_ble_eq_true rfl) dX2_kill_43 (fun H locs hP hD hS => ?_)
      have hP : va_P D vwCl (wM cI cZ ad (sD (becS u (onH u h1) false) ((xD (becS u (onH u h1) false) ||| (2 ^ h1))))) H := hP
      have hD : va_D A (wM cI cZ ad (sD (becS u (onH u h1) false) ((xD (becS u (onH u h1) false) ||| (2 ^ h1))))) := hD
      refine lv_iload_n hx hb dX2_kill_46 rfl (lv_at hl 0 rfl) ?_
      exact lh_ri hx hb hr hlk hK hP hD hS (by first | (simp [nI_0, nI_o, kilR, c_1, eh1, c_2]; done) | (simp [nI_0, nI_o, kilR, c_1, eh1, c_2]; rfl)) (by first | (simp [nI_0, nI_o, kilS, kilT, becS, c_1, eh1, c_2]; done) | (simp [nI_0, nI_o, kilS, kilT, becS, c_1, eh1, c_2]; rfl)) dX2_kill_47
    · have c_2 : ((xD u).testBit h1) = true := b2i_n0 c_2
      refine lv_bipush (v := (-3)) hx hb dX2_kill_20 (by decide) ?_
      exact lh_ri hx hb hr hlk hK hP hD hS (by first | (simp [nI_0, nI_o, kilR, c_1, eh1, c_2]; done) | (simp [nI_0, nI_o, kilR, c_1, eh1, c_2]; rfl)) (by first | (simp [nI_0, nI_o, kilS, kilT, becS, c_1, eh1, c_2]; done) | (simp [nI_0, nI_o, kilS, kilT, becS, c_1, eh1, c_2]; rfl)) dX2_kill_22
  · have c_1 : (isHo h) = false := b2i_e0 c_1
    refine lv_iconst (v := (-1)) hx hb dX2_kill_7 (by decide) ?_
    exact lh_ri hx hb hr hlk hK hP hD hS (by first | (simp [nI_0, nI_o, kilR, c_1]; done) | (simp [nI_0, nI_o, kilR, c_1]; rfl)) (by first | (simp [nI_0, nI_o, kilS, kilT, becS, c_1]; done) | (simp [nI_0, nI_o, kilS, kilT, becS, c_1]; rfl)) dX2_kill_8
set_option maxRecDepth 100000 in
set_option maxHeartbeats 4000000 in
theorem kX2_reached (l : Launch) (D : va_G) (cI cZ : ClassId) (ad : Nat → Nat) (u : XS) (T : Nat) (inv : Inv T u) : CI l D [(cI, .int), (cZ, .boolean)] yX2_reached wsX2_reached ({ frames := 5, cells := 0, slots := 0, locals := 113 }) [.ref (ad 0)] (wM cI cZ ad u) (wM cI cZ ad u) (nI (reaX u)) := by
  have ok := inv.1
  obtain ⟨hM, hW, hHo, hAb, hLb, hRb, hDb⟩ := id ok
  refine lh_CIof (cc := cX2_reached) (maxL := 1) (ret := (some .int)) (own := RX2) (by decide) rfl rfl (Nat.le_of_ble_eq_true rfl) ?_
  intro p e s m below meth c A ls hx hb hr hlk hts hown hml hK hN hA hP hD hS hl
  have hl : lv_has ls 1 [(0, .ref (ad 0))] := hl
  refine lv_aload_n hx hb dX2_reached_0 rfl (lv_at hl 0 rfl) ?_
  refine lh_cVi ⟨hx, hb, hml, hown, hts⟩ (kX2_reachedNow l D cI cZ ad u T (by omega)) (cwV 0 hts gX2_reached_X2_reachedNow rfl rfl rfl (by decide +kernel) ⟨Nat.le_of_ble_eq_true rfl, Nat.le_of_ble_eq_true rfl⟩) hK hN hP hD hS hA 0 2 rfl rfl rfl rfl hl.1 rfl (Nat.le_of_ble_eq_true rfl) ⟨Nat.le_of_ble_eq_true rfl, Nat.le_of_ble_eq_true rfl⟩ dX2_reached_1 (fun H locs hP hD hS => ?_)
  exact lh_ri hx hb hr hlk hK hP hD hS rfl rfl dX2_reached_4
set_option maxRecDepth 100000 in
set_option maxHeartbeats 4000000 in
theorem kX2_far (l : Launch) (D : va_G) (cI cZ : ClassId) (ad : Nat → Nat) (u : XS) (b : Int32) (T : Nat) (inv : Inv T u) : CI l D [(cI, .int), (cZ, .boolean)] yX2_far wsX2_far ({ frames := 4, cells := 0, slots := 0, locals := 91 }) [.ref (ad 0), .int (b)] (wM cI cZ ad u) (wM cI cZ ad u) (farR u b) := by
  have ok := inv.1
  obtain ⟨hM, hW, hHo, hAb, hLb, hRb, hDb⟩ := id ok
  refine lh_CIof (cc := cX2_far) (maxL := 5) (ret := (some .int)) (own := RX2) (by decide) rfl rfl (Nat.le_of_ble_eq_true rfl) ?_
  intro p e s m below meth c A ls hx hb hr hlk hts hown hml hK hN hA hP hD hS hl
  have fX2_61 := hts (.fieldLink RX2 61 "LostHostsModel" "gone" "I") (by decide +kernel)
  have hinX2 : ∀ w ∈ u_ws RX2 TX2 13, w ∈ wsX2_far := by decide +kernel
  have hl : lv_has ls 5 [(0, .ref (ad 0)), (1, .int (b))] := hl
  refine lv_aload_n hx hb dX2_far_0 rfl (lv_at hl 0 rfl) ?_
  refine lv_iload_n hx hb dX2_far_1 rfl (lv_at hl 1 rfl) ?_
  refine lh_cVi ⟨hx, hb, hml, hown, hts⟩ (kX2_isObject l D cI cZ ad u b ok) (cwV 1 hts gX2_far_X2_isObject rfl rfl rfl (by decide +kernel) ⟨Nat.le_of_ble_eq_true rfl, Nat.le_of_ble_eq_true rfl⟩) hK hN hP hD hS hA 0 2 rfl rfl rfl rfl hl.1 rfl (Nat.le_of_ble_eq_true rfl) ⟨Nat.le_of_ble_eq_true rfl, Nat.le_of_ble_eq_true rfl⟩ dX2_far_2 (fun H locs hP hD hS => ?_)
  refine lv_if_ne (tgt := 10) hx hb dX2_far_5 (by decide) (fun c_1 => ?_) (fun c_1 => ?_)
  · have c_1 : (isObj u b) = true := b2i_n0 c_1
    obtain ⟨b1, hb1, eb1⟩ := isObj_ex hM c_1
    subst eb1
    have eb1 : (nI b1).toNatClampNeg = b1 := nI_clamp (by omega)
    refine lv_aload_n hx hb dX2_far_10 rfl (lv_at hl 0 rfl) ?_
    refine va_get (D := D) (ci := 2) (v := .int (nI (gn u))) (C := RX2) (T := TX2) (N := 13) hx hb hts hinX2 hown hK hP 0 rfl rfl 4 (by decide) fX2_61 (fun _ h9 => h9) rfl dX2_far_11 ?_
    refine lv_iload_n hx hb dX2_far_14 rfl (lv_at hl 1 rfl) ?_
    refine lh_cSi ⟨hx, hb, hml, hown, hts⟩ (kX2_has l D _ _ (gn u) b1 (by first | omega | exact gn_lt31 hM | exact gn_lt31 (by omega)) (by omega)) (va_cwS 2 hts gX2_far_X2_has rfl rfl rfl (by decide +kernel) ⟨Nat.le_of_ble_eq_true rfl, Nat.le_of_ble_eq_true rfl⟩) hK hN hP hD hS hA rfl hl.1 rfl (Nat.le_of_ble_eq_true rfl) ⟨Nat.le_of_ble_eq_true rfl, Nat.le_of_ble_eq_true rfl⟩ dX2_far_15 (fun H locs hP hD hS => ?_)
    refine lv_if_eq (tgt := 24) hx hb dX2_far_18 (by decide) (fun c_2 => ?_) (fun c_2 => ?_)
    · have c_2 : ((gn u).testBit b1) = false := b2i_e0 c_2
      have c_2 := gnF (k := b1) (by omega) c_2
      refine lv_aload_n hx hb dX2_far_24 rfl (lv_at hl 0 rfl) ?_
      refine lh_cVi ⟨hx, hb, hml, hown, hts⟩ (kX2_allRoots l D cI cZ ad u ok (by exact inv.2.2.1)) (cwV 0 hts gX2_far_X2_allRoots rfl rfl rfl (by decide +kernel) ⟨Nat.le_of_ble_eq_true rfl, Nat.le_of_ble_eq_true rfl⟩) hK hN hP hD hS hA 0 2 rfl rfl rfl rfl hl.1 rfl (Nat.le_of_ble_eq_true rfl) ⟨Nat.le_of_ble_eq_true rfl, Nat.le_of_ble_eq_true rfl⟩ dX2_far_25 (fun H locs hP hD hS => ?_)
      refine lv_istore_n (lv' := [(2, .int (nI (xL u &&& xR u))), (0, .ref (ad 0)), (1, .int (nI b1))]) hx hb dX2_far_28 rfl hl (by decide) rfl (fun ls hl => ?_)
      refine lv_iconst (v := (-1)) hx hb dX2_far_29 (by decide) ?_
      refine lv_istore_n (lv' := [(3, .int ((-1))), (2, .int (nI (xL u &&& xR u))), (0, .ref (ad 0)), (1, .int (nI b1))]) hx hb dX2_far_30 rfl hl (by decide) rfl (fun ls hl => ?_)
      refine lv_iconst (v := nI 0) hx hb dX2_far_31 (by decide) ?_
      refine lv_istore (lv' := [(4, .int (nI 0)), (3, .int ((-1))), (2, .int (nI (xL u &&& xR u))), (0, .ref (ad 0)), (1, .int (nI b1))]) hx hb dX2_far_32 hl (by decide) rfl (fun ls hl => ?_)
      have L34 : ∀ (n : Nat) (k : Nat) (its : Nat) (had : Int32), chm its had < n → (rkI u k its had) → (∀ j, j < k → farP u b1 j = false) → ∀ (H : Heap) (locs : List Loc), va_P D vwCl (wM cI cZ ad u) H → va_D A (wM cI cZ ad u) → va_S A s.heap H locs → ∀ (ls : Array Slot), lv_has ls 5 [(4, .int (nI k)), (3, .int (had)), (2, .int (nI its)), (0, .ref (ad 0)), (1, .int (nI b1))] → W p l e ({ frames := 4, cells := 0, slots := 0, locals := 91 }) s m [.ref (ad 0), .int ((nI b1))].toArray below meth c H locs 0 0 (QI below D [(cI, .int), (cZ, .boolean)] A (wM cI cZ ad u) (farR u (nI b1)) [.ref (ad 0), .int ((nI b1))].toArray s) (F0 m 34 ls []) := by
        intro n
        induction n with
        | zero => intro k its had hmu; exact absurd hmu (Nat.not_lt_zero _)
        | succ n ih34 =>
          intro k its had hmu34 hc9 hno H locs hP hD hS ls hl
          have hi9 := rkI_lt inv hc9
          refine lv_iload_n hx hb dX2_far_34 rfl (lv_at hl 2 rfl) ?_
          refine lv_iload_n hx hb dX2_far_35 rfl (lv_at hl 4 rfl) ?_
          refine lh_cSi ⟨hx, hb, hml, hown, hts⟩ (kX2_has l D _ _ its b1 (by first | omega | exact gn_lt31 hM | exact gn_lt31 (by omega)) (by omega)) (va_cwS 2 hts gX2_far_X2_has rfl rfl rfl (by decide +kernel) ⟨Nat.le_of_ble_eq_true rfl, Nat.le_of_ble_eq_true rfl⟩) hK hN hP hD hS hA rfl hl.1 rfl (Nat.le_of_ble_eq_true rfl) ⟨Nat.le_of_ble_eq_true rfl, Nat.le_of_ble_eq_true rfl⟩ dX2_far_36 (fun H locs hP hD hS => ?_)
          refine lv_if_ne (tgt := 66) hx hb dX2_far_39 (by decide) (fun c_3 => ?_) (fun c_3 => ?_)
          · have c_3 : (its.testBit b1) = true := b2i_n0 c_3
            refine lv_iload hx hb dX2_far_66 (lv_at hl 0 rfl) ?_
            exact lh_ri hx hb hr hlk hK hP hD hS (by have e8 : farP u b1 k = true := (by unfold farP; rw [show rep (ons u) k (xL u &&& xR u) = its from hc9.1.symm]; exact c_3); have h9 := far_lt hLb hno e8; have e9 := fst_at (p := farP u b1) (n := 10) hno e8 h9; simp [farR, e9, h9, c_1, eb1, c_2, c_3]) rfl dX2_far_68
          · have c_3 : (its.testBit b1) = false := b2i_e0 c_3
            refine lv_iload_n hx hb dX2_far_42 rfl (lv_at hl 1 rfl) ?_
            refine lv_iload_n hx hb dX2_far_43 rfl (lv_at hl 2 rfl) ?_
            refine lv_icmp_ne (tgt := 50) hx hb dX2_far_44 (by decide) (fun c_4 => ?_) (fun c_4 => ?_)
            · have c_4r := c_4
              refine lv_iload_n hx hb dX2_far_50 rfl (lv_at hl 2 rfl) ?_
              refine lv_istore_n (lv' := [(3, .int (nI its)), (4, .int (nI k)), (2, .int (nI its)), (0, .ref (ad 0)), (1, .int (nI b1))]) hx hb dX2_far_51 rfl hl (by decide) rfl (fun ls hl => ?_)
              refine lv_iload_n hx hb dX2_far_52 rfl (lv_at hl 2 rfl) ?_
              refine lv_aload_n hx hb dX2_far_53 rfl (lv_at hl 3 rfl) ?_
              refine lv_iload_n hx hb dX2_far_54 rfl (lv_at hl 2 rfl) ?_
              refine lh_cVi ⟨hx, hb, hml, hown, hts⟩ (kX2_oneOn l D cI cZ ad u its ok (by omega) (by exact fun k hk => (inv.2.2.2.2.2.1 k hk).1)) (cwV 1 hts gX2_far_X2_oneOn rfl rfl rfl (by decide +kernel) ⟨Nat.le_of_ble_eq_true rfl, Nat.le_of_ble_eq_true rfl⟩) hK hN hP hD hS hA 0 2 rfl rfl rfl rfl hl.1 rfl (Nat.le_of_ble_eq_true rfl) ⟨Nat.le_of_ble_eq_true rfl, Nat.le_of_ble_eq_true rfl⟩ dX2_far_55 (fun H locs hP hD hS => ?_)
              refine lv_ior hx hb dX2_far_58 ?_
              refine lh_top (y := nI (its ||| (on2 u its))) (fa_or _ _) ?_
              refine lv_istore_n (lv' := [(2, .int (nI (its ||| (on2 u its)))), (3, .int (nI its)), (4, .int (nI k)), (0, .ref (ad 0)), (1, .int (nI b1))]) hx hb dX2_far_59 rfl hl (by decide) rfl (fun ls hl => ?_)
              refine lv_iinc (v := nI (k + 1)) (lv' := [(4, .int (nI (k + 1))), (2, .int (nI (its ||| (on2 u its)))), (3, .int (nI its)), (0, .ref (ad 0)), (1, .int (nI b1))]) hx hb dX2_far_60 hl (k := 2) rfl (lh_inc _) (by decide) rfl (fun ls hl => ?_)
              refine lv_goto (tgt := 34) hx hb dX2_far_63 (by decide) ?_
              exact ih34 (k + 1) (its ||| (on2 u its)) (nI its) (by exact rkI_m inv hc9 hmu34 c_4) (by exact rkI_s inv hc9) (by exact fst_ext hno (by unfold farP; rw [show rep (ons u) k (xL u &&& xR u) = its from hc9.1.symm]; exact c_3)) _ _ hP hD hS ls (lv_sub hl [0, 2, 1, 3, 4] rfl)
            · have c_4r := c_4
              refine lv_bipush (v := (-9)) hx hb dX2_far_47 (by decide) ?_
              exact lh_ri hx hb hr hlk hK hP hD hS (by have e8 := far_no hno (by unfold farP; rw [show rep (ons u) k (xL u &&& xR u) = its from hc9.1.symm]; exact c_3) (rkI_e inv hc9 c_4); have e9 := fst_no (p := farP u b1) (n := 10) (fun j hj => e8 j); simp [farR, e9, c_1, eb1, c_2, c_3, c_4]) rfl dX2_far_49
      exact L34 _ 0 (xL u &&& xR u) (-1) (Nat.lt_succ_self _) (by exact rkI_0 u) (by exact fun j hj => absurd hj (Nat.not_lt_zero j)) _ _ hP hD hS ls (lv_sub hl [0, 1, 2, 3, 4] rfl)
    · have c_2 : ((gn u).testBit b1) = true := b2i_n0 c_2
      have c_2 := gnT (k := b1) (by omega) c_2
      refine lv_bipush (v := (-3)) hx hb dX2_far_21 (by decide) ?_
      exact lh_ri hx hb hr hlk hK hP hD hS (by first | (simp [nI_0, nI_o, farR, c_1, eb1, c_2]; done) | (simp [nI_0, nI_o, farR, c_1, eb1, c_2]; rfl)) rfl dX2_far_23
  · have c_1 : (isObj u b) = false := b2i_e0 c_1
    refine lv_iconst (v := (-1)) hx hb dX2_far_8 (by decide) ?_
    exact lh_ri hx hb hr hlk hK hP hD hS (by first | (simp [nI_0, nI_o, farR, c_1]; done) | (simp [nI_0, nI_o, farR, c_1]; rfl)) rfl dX2_far_9
set_option maxRecDepth 100000 in
set_option maxHeartbeats 4000000 in
theorem kX2_many (l : Launch) (D : va_G) (cI cZ : ClassId) (ad : Nat → Nat) (u : XS) (w : Int32) (T : Nat) (inv : Inv T u) : CI l D [(cI, .int), (cZ, .boolean)] yX2_many wsX2_many ({ frames := 5, cells := 0, slots := 0, locals := 113 }) [.ref (ad 0), .int (w)] (wM cI cZ ad u) (wM cI cZ ad u) (manR u w) := by
  have ok := inv.1
  obtain ⟨hM, hW, hHo, hAb, hLb, hRb, hDb⟩ := id ok
  refine lh_CIof (cc := cX2_many) (maxL := 2) (ret := (some .int)) (own := RX2) (by decide) rfl rfl (Nat.le_of_ble_eq_true rfl) ?_
  intro p e s m below meth c A ls hx hb hr hlk hts hown hml hK hN hA hP hD hS hl
  have fX2_39 := hts (.fieldLink RX2 39 "LostHostsModel" "objects" "I") (by decide +kernel)
  have fX2_61 := hts (.fieldLink RX2 61 "LostHostsModel" "gone" "I") (by decide +kernel)
  have fX2_74 := hts (.fieldLink RX2 74 "LostHostsModel" "letters" "I") (by decide +kernel)
  have fX2_51 := hts (.fieldLink RX2 51 "LostHostsModel" "dead" "I") (by decide +kernel)
  have fX2_87 := hts (.fieldLink RX2 87 "LostHostsModel" "filled" "I") (by decide +kernel)
  have hinX2 : ∀ w ∈ u_ws RX2 TX2 13, w ∈ wsX2_many := by decide +kernel
  have hl : lv_has ls 2 [(0, .ref (ad 0)), (1, .int (w))] := hl
  refine lv_iload_n hx hb dX2_many_0 rfl (lv_at hl 1 rfl) ?_
  rcases lh_sw (n := 8) (hi := 7) (x := w) (by decide) (by decide) with c_1 | c_1
  · refine lv_tableOut (tgt := 124) hx hb dX2_many_1 c_1 (by decide) ?_
    refine lv_bipush (v := (-2)) hx hb dX2_many_124 (by decide) ?_
    exact lh_ri hx hb hr hlk hK hP hD hS (by have hk := swO (n := 8) (hi := 7) (by decide) c_1 (by decide); simp [manR, hk 0 (by decide), hk 1 (by decide), hk 2 (by decide), hk 3 (by decide), hk 4 (by decide), hk 5 (by decide), hk 6 (by decide), hk 7 (by decide), c_1]) rfl dX2_many_126
  · obtain ⟨c_1k, c_1l, c_1⟩ := c_1
    by_cases c_1e : c_1k = 0
    · subst c_1e
      refine lv_tableIn (off := 47) (tgt := 48) hx hb dX2_many_1 (by rw [c_1]; decide) (by rw [c_1]; decide) (by rw [c_1]; decide) (by decide) ?_
      refine lv_aload_n hx hb dX2_many_48 rfl (lv_at hl 0 rfl) ?_
      refine va_get (D := D) (ci := 2) (v := .int (nI (xM u))) (C := RX2) (T := TX2) (N := 13) hx hb hts hinX2 hown hK hP 0 rfl rfl 1 (by decide) fX2_39 (fun _ h9 => h9) rfl dX2_many_49 ?_
      refine lv_aload_n hx hb dX2_many_52 rfl (lv_at hl 0 rfl) ?_
      refine va_get (D := D) (ci := 2) (v := .int (nI (gn u))) (C := RX2) (T := TX2) (N := 13) hx hb hts hinX2 hown hK hP 0 rfl rfl 4 (by decide) fX2_61 (fun _ h9 => h9) rfl dX2_many_53 ?_
      refine lh_cSi ⟨hx, hb, hml, hown, hts⟩ (kX2_sizeOf l D _ _ (gn u) (by exact gn_lt hM)) (va_cwS 1 hts gX2_many_X2_sizeOf rfl rfl rfl (by decide +kernel) ⟨Nat.le_of_ble_eq_true rfl, Nat.le_of_ble_eq_true rfl⟩) hK hN hP hD hS hA rfl hl.1 rfl (Nat.le_of_ble_eq_true rfl) ⟨Nat.le_of_ble_eq_true rfl, Nat.le_of_ble_eq_true rfl⟩ dX2_many_56 (fun H locs hP hD hS => ?_)
      refine lv_isub hx hb dX2_many_59 ?_
      exact lh_ri hx hb hr hlk hK hP hD hS (by first | (simp [nI_0, nI_o, manR, nI_eqL, man_0 inv, c_1]; done) | (simp [nI_0, nI_o, manR, nI_eqL, man_0 inv, c_1]; rfl)) rfl dX2_many_60
    by_cases c_1e : c_1k = 1
    · subst c_1e
      refine lv_tableIn (off := 60) (tgt := 61) hx hb dX2_many_1 (by rw [c_1]; decide) (by rw [c_1]; decide) (by rw [c_1]; decide) (by decide) ?_
      refine lv_aload_n hx hb dX2_many_61 rfl (lv_at hl 0 rfl) ?_
      refine va_get (D := D) (ci := 2) (v := .int (nI (xW u))) (C := RX2) (T := TX2) (N := 13) hx hb hts hinX2 hown hK hP 0 rfl rfl 8 (by decide) fX2_74 (fun _ h9 => h9) rfl dX2_many_62 ?_
      exact lh_ri hx hb hr hlk hK hP hD hS (by first | (simp [manR, nI_eqL, c_1]; done) | (simp [manR, nI_eqL, b2i, nI_0, nI_o, c_1]; done) | (simp [manR, nI_eqL, b2i, c_1]; rfl)) rfl dX2_many_65
    by_cases c_1e : c_1k = 2
    · subst c_1e
      refine lv_tableIn (off := 65) (tgt := 66) hx hb dX2_many_1 (by rw [c_1]; decide) (by rw [c_1]; decide) (by rw [c_1]; decide) (by decide) ?_
      refine lv_aload_n hx hb dX2_many_66 rfl (lv_at hl 0 rfl) ?_
      refine lv_iconst (v := nI 1) hx hb dX2_many_67 (by decide) ?_
      refine lh_cVi ⟨hx, hb, hml, hown, hts⟩ (kX2_links l D cI cZ ad u true T (by omega)) (cwV 1 hts gX2_many_X2_links rfl rfl rfl (by decide +kernel) ⟨Nat.le_of_ble_eq_true rfl, Nat.le_of_ble_eq_true rfl⟩) hK hN hP hD hS hA 0 2 rfl rfl rfl rfl hl.1 rfl (Nat.le_of_ble_eq_true rfl) ⟨Nat.le_of_ble_eq_true rfl, Nat.le_of_ble_eq_true rfl⟩ dX2_many_68 (fun H locs hP hD hS => ?_)
      exact lh_ri hx hb hr hlk hK hP hD hS (by first | (simp [nI_0, nI_o, manR, nI_eqL, ← man_2, c_1]; done) | (simp [nI_0, nI_o, manR, nI_eqL, ← man_2, c_1]; rfl)) rfl dX2_many_71
    by_cases c_1e : c_1k = 3
    · subst c_1e
      refine lv_tableIn (off := 71) (tgt := 72) hx hb dX2_many_1 (by rw [c_1]; decide) (by rw [c_1]; decide) (by rw [c_1]; decide) (by decide) ?_
      refine lv_aload_n hx hb dX2_many_72 rfl (lv_at hl 0 rfl) ?_
      refine lv_iconst (v := nI 0) hx hb dX2_many_73 (by decide) ?_
      refine lh_cVi ⟨hx, hb, hml, hown, hts⟩ (kX2_links l D cI cZ ad u false T (by omega)) (cwV 1 hts gX2_many_X2_links rfl rfl rfl (by decide +kernel) ⟨Nat.le_of_ble_eq_true rfl, Nat.le_of_ble_eq_true rfl⟩) hK hN hP hD hS hA 0 2 rfl rfl rfl rfl hl.1 rfl (Nat.le_of_ble_eq_true rfl) ⟨Nat.le_of_ble_eq_true rfl, Nat.le_of_ble_eq_true rfl⟩ dX2_many_74 (fun H locs hP hD hS => ?_)
      exact lh_ri hx hb hr hlk hK hP hD hS (by first | (simp [nI_0, nI_o, manR, nI_eqL, ← man_3 inv, c_1]; done) | (simp [nI_0, nI_o, manR, nI_eqL, ← man_3 inv, c_1]; rfl)) rfl dX2_many_77
    by_cases c_1e : c_1k = 4
    · subst c_1e
      refine lv_tableIn (off := 77) (tgt := 78) hx hb dX2_many_1 (by rw [c_1]; decide) (by rw [c_1]; decide) (by rw [c_1]; decide) (by decide) ?_
      refine lv_iconst (v := nI 4) hx hb dX2_many_78 (by decide) ?_
      refine lv_aload_n hx hb dX2_many_79 rfl (lv_at hl 0 rfl) ?_
      refine va_get (D := D) (ci := 2) (v := .int (nI (xD u))) (C := RX2) (T := TX2) (N := 13) hx hb hts hinX2 hown hK hP 0 rfl rfl 0 (by decide) fX2_51 (fun _ h9 => h9) rfl dX2_many_80 ?_
      refine lh_cSi ⟨hx, hb, hml, hown, hts⟩ (kX2_sizeOf l D _ _ (xD u) (by omega)) (va_cwS 1 hts gX2_many_X2_sizeOf rfl rfl rfl (by decide +kernel) ⟨Nat.le_of_ble_eq_true rfl, Nat.le_of_ble_eq_true rfl⟩) hK hN hP hD hS hA rfl hl.1 rfl (Nat.le_of_ble_eq_true rfl) ⟨Nat.le_of_ble_eq_true rfl, Nat.le_of_ble_eq_true rfl⟩ dX2_many_83 (fun H locs hP hD hS => ?_)
      refine lv_isub hx hb dX2_many_86 ?_
      exact lh_ri hx hb hr hlk hK hP hD hS (by first | (simp [manR, nI_eqL, c_1]; done) | (simp [manR, nI_eqL, b2i, nI_0, nI_o, c_1]; done) | (simp [manR, nI_eqL, b2i, c_1]; rfl)) rfl dX2_many_87
    by_cases c_1e : c_1k = 5
    · subst c_1e
      refine lv_tableIn (off := 87) (tgt := 88) hx hb dX2_many_1 (by rw [c_1]; decide) (by rw [c_1]; decide) (by rw [c_1]; decide) (by decide) ?_
      refine lv_aload_n hx hb dX2_many_88 rfl (lv_at hl 0 rfl) ?_
      refine va_get (D := D) (ci := 2) (v := .int (nI (xM u))) (C := RX2) (T := TX2) (N := 13) hx hb hts hinX2 hown hK hP 0 rfl rfl 1 (by decide) fX2_39 (fun _ h9 => h9) rfl dX2_many_89 ?_
      refine lv_aload_n hx hb dX2_many_92 rfl (lv_at hl 0 rfl) ?_
      refine va_get (D := D) (ci := 2) (v := .int (nI (gn u))) (C := RX2) (T := TX2) (N := 13) hx hb hts hinX2 hown hK hP 0 rfl rfl 4 (by decide) fX2_61 (fun _ h9 => h9) rfl dX2_many_93 ?_
      refine lv_aload_n hx hb dX2_many_96 rfl (lv_at hl 0 rfl) ?_
      refine lh_cVi ⟨hx, hb, hml, hown, hts⟩ (kX2_reachedNow l D cI cZ ad u T (by omega)) (cwV 0 hts gX2_many_X2_reachedNow rfl rfl rfl (by decide +kernel) ⟨Nat.le_of_ble_eq_true rfl, Nat.le_of_ble_eq_true rfl⟩) hK hN hP hD hS hA 0 2 rfl rfl rfl rfl hl.1 rfl (Nat.le_of_ble_eq_true rfl) ⟨Nat.le_of_ble_eq_true rfl, Nat.le_of_ble_eq_true rfl⟩ dX2_many_97 (fun H locs hP hD hS => ?_)
      refine lv_ior hx hb dX2_many_100 ?_
      refine lh_top (y := nI (gn u ||| (reaX u))) (fa_or _ _) ?_
      refine lh_cSi ⟨hx, hb, hml, hown, hts⟩ (kX2_sizeOf l D _ _ (gn u ||| (reaX u)) (by exact or_lt (gn_lt hM) (rk_lt hLb 10))) (va_cwS 1 hts gX2_many_X2_sizeOf rfl rfl rfl (by decide +kernel) ⟨Nat.le_of_ble_eq_true rfl, Nat.le_of_ble_eq_true rfl⟩) hK hN hP hD hS hA rfl hl.1 rfl (Nat.le_of_ble_eq_true rfl) ⟨Nat.le_of_ble_eq_true rfl, Nat.le_of_ble_eq_true rfl⟩ dX2_many_101 (fun H locs hP hD hS => ?_)
      refine lv_isub hx hb dX2_many_104 ?_
      exact lh_ri hx hb hr hlk hK hP hD hS (by first | (simp [nI_0, nI_o, manR, nI_eqL, man_5 inv, c_1]; done) | (simp [nI_0, nI_o, manR, nI_eqL, man_5 inv, c_1]; rfl)) rfl dX2_many_105
    by_cases c_1e : c_1k = 6
    · subst c_1e
      refine lv_tableIn (off := 105) (tgt := 106) hx hb dX2_many_1 (by rw [c_1]; decide) (by rw [c_1]; decide) (by rw [c_1]; decide) (by decide) ?_
      refine lv_aload_n hx hb dX2_many_106 rfl (lv_at hl 0 rfl) ?_
      refine va_get (D := D) (ci := 2) (v := .int (xF u)) (C := RX2) (T := TX2) (N := 13) hx hb hts hinX2 hown hK hP 0 rfl rfl 12 (by decide) fX2_87 (fun _ h9 => h9) rfl dX2_many_107 ?_
      exact lh_ri hx hb hr hlk hK hP hD hS (by first | (simp [manR, nI_eqL, c_1]; done) | (simp [manR, nI_eqL, b2i, nI_0, nI_o, c_1]; done) | (simp [manR, nI_eqL, b2i, c_1]; rfl)) rfl dX2_many_110
    by_cases c_1e : c_1k = 7
    · subst c_1e
      refine lv_tableIn (off := 110) (tgt := 111) hx hb dX2_many_1 (by rw [c_1]; decide) (by rw [c_1]; decide) (by rw [c_1]; decide) (by decide) ?_
      refine lv_aload_n hx hb dX2_many_111 rfl (lv_at hl 0 rfl) ?_
      refine lh_cVi ⟨hx, hb, hml, hown, hts⟩ (kX2_isTrue l D cI cZ ad u T (by omega)) (cwV 0 hts gX2_many_X2_isTrue rfl rfl rfl (by decide +kernel) ⟨Nat.le_of_ble_eq_true rfl, Nat.le_of_ble_eq_true rfl⟩) hK hN hP hD hS hA 0 2 rfl rfl rfl rfl hl.1 rfl (Nat.le_of_ble_eq_true rfl) ⟨Nat.le_of_ble_eq_true rfl, Nat.le_of_ble_eq_true rfl⟩ dX2_many_112 (fun H locs hP hD hS => ?_)
      refine lv_if_eq (tgt := 122) hx hb dX2_many_115 (by decide) (fun c_2 => ?_) (fun c_2 => ?_)
      · have c_2 : (bal u) = false := b2i_e0 c_2
        refine lv_iconst (v := nI 0) hx hb dX2_many_122 (by decide) ?_
        exact lh_ri hx hb hr hlk hK hP hD hS (by first | (simp [manR, nI_eqL, c_1, c_2]; done) | (simp [manR, nI_eqL, b2i, nI_0, nI_o, c_1, c_2]; done) | (simp [manR, nI_eqL, b2i, c_1, c_2]; rfl)) rfl dX2_many_123
      · have c_2 : (bal u) = true := b2i_n0 c_2
        refine lv_iconst (v := nI 1) hx hb dX2_many_118 (by decide) ?_
        refine lv_goto (tgt := 123) hx hb dX2_many_119 (by decide) ?_
        exact lh_ri hx hb hr hlk hK hP hD hS (by first | (simp [manR, nI_eqL, c_1, c_2]; done) | (simp [manR, nI_eqL, b2i, nI_0, nI_o, c_1, c_2]; done) | (simp [manR, nI_eqL, b2i, c_1, c_2]; rfl)) rfl dX2_many_123
    exact absurd c_1l (by omega)

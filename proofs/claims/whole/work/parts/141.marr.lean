set_option maxRecDepth 100000 in
set_option maxHeartbeats 4000000 in
theorem kX2_arrivesGrant (l : Launch) (D : va_G) (cI cZ : ClassId) (ad : Nat → Nat) (u : XS) (b : Nat) (a : Nat) (w : Int32) (ok : okB u) (hb2 : b < xM u) (ha : a < xM u) (hW9 : xW u < 512) : CV l D [(cI, .int), (cZ, .boolean)] yX2_arrivesGrant wsX2_arrivesGrant ({ frames := 3, cells := 0, slots := 0, locals := 67 }) [.ref (ad 0), .int (nI b), .int (nI a), .int (w)] (wM cI cZ ad u) (wM cI cZ ad (grb u b a w)) := by
  obtain ⟨hM, hW, hHo, hAb, hLb, hRb, hDb⟩ := id ok
  refine lh_CVof (cc := cX2_arrivesGrant) (maxL := 4) (ret := none) (own := RX2) (by decide) rfl rfl (Nat.le_of_ble_eq_true rfl) ?_
  intro p e s m below meth c A ls hx hb hr hlk hts hown hml hK hN hA hP hD hS hl
  have fX2_61 := hts (.fieldLink RX2 61 "LostHostsModel" "gone" "I") (by decide +kernel)
  have fX2_17 := hts (.fieldLink RX2 17 "LostHostsModel" "outOf" "[I") (by decide +kernel)
  have hinX2 : ∀ w ∈ u_ws RX2 TX2 13, w ∈ wsX2_arrivesGrant := by decide +kernel
  have hl : lv_has ls 4 [(0, .ref (ad 0)), (1, .int (nI b)), (2, .int (nI a)), (3, .int (w))] := hl
  refine lv_aload_n hx hb dX2_arrivesGrant_0 rfl (lv_at hl 0 rfl) ?_
  refine va_get (D := D) (ci := 2) (v := .int (nI (gn u))) (C := RX2) (T := TX2) (N := 13) hx hb hts hinX2 hown hK hP 0 rfl rfl 4 (by decide) fX2_61 (fun _ h9 => h9) rfl dX2_arrivesGrant_1 ?_
  refine lv_iload_n hx hb dX2_arrivesGrant_4 rfl (lv_at hl 2 rfl) ?_
  refine lh_cSi ⟨hx, hb, hml, hown, hts⟩ (kX2_has l D _ _ (gn u) a (by first | omega | exact gn_lt31 hM | exact gn_lt31 (by omega)) (by omega)) (va_cwS 2 hts gX2_arrivesGrant_X2_has rfl rfl rfl (by decide +kernel) ⟨Nat.le_of_ble_eq_true rfl, Nat.le_of_ble_eq_true rfl⟩) hK hN hP hD hS hA rfl hl.1 rfl (Nat.le_of_ble_eq_true rfl) ⟨Nat.le_of_ble_eq_true rfl, Nat.le_of_ble_eq_true rfl⟩ dX2_arrivesGrant_5 (fun H locs hP hD hS => ?_)
  refine lv_if_eq (tgt := 44) hx hb dX2_arrivesGrant_8 (by decide) (fun c_1 => ?_) (fun c_1 => ?_)
  · have c_1 : ((gn u).testBit a) = false := b2i_e0 c_1
    have c_1 := gnF (k := a) (by omega) c_1
    refine lv_aload_n hx hb dX2_arrivesGrant_44 rfl (lv_at hl 0 rfl) ?_
    refine lv_iload_n hx hb dX2_arrivesGrant_45 rfl (lv_at hl 2 rfl) ?_
    refine lv_iload_n hx hb dX2_arrivesGrant_46 rfl (lv_at hl 1 rfl) ?_
    refine lh_cVi ⟨hx, hb, hml, hown, hts⟩ (kX2_areNeighbours l D cI cZ ad u a b ok (by omega) (by omega)) (cwV 2 hts gX2_arrivesGrant_X2_areNeighbours rfl rfl rfl (by decide +kernel) ⟨Nat.le_of_ble_eq_true rfl, Nat.le_of_ble_eq_true rfl⟩) hK hN hP hD hS hA 0 2 rfl rfl rfl rfl hl.1 rfl (Nat.le_of_ble_eq_true rfl) ⟨Nat.le_of_ble_eq_true rfl, Nat.le_of_ble_eq_true rfl⟩ dX2_arrivesGrant_47 (fun H locs hP hD hS => ?_)
    refine lv_if_eq (tgt := 73) hx hb dX2_arrivesGrant_50 (by decide) (fun c_2 => ?_) (fun c_2 => ?_)
    · have c_2 : (nbr u a b) = false := b2i_e0 c_2
      refine lv_aload_n hx hb dX2_arrivesGrant_73 rfl (lv_at hl 0 rfl) ?_
      refine lv_iload_n hx hb dX2_arrivesGrant_74 rfl (lv_at hl 2 rfl) ?_
      refine lv_iload_n hx hb dX2_arrivesGrant_75 rfl (lv_at hl 1 rfl) ?_
      refine lv_iload_n hx hb dX2_arrivesGrant_76 rfl (lv_at hl 3 rfl) ?_
      refine lh_cVv ⟨hx, hb, hml, hown, hts⟩ (kX2_adds l D cI cZ ad u a b w (by omega) (by omega)) (cwV 3 hts gX2_arrivesGrant_X2_adds rfl rfl rfl (by decide +kernel) ⟨Nat.le_of_ble_eq_true rfl, Nat.le_of_ble_eq_true rfl⟩) hK hN hP hD hS hA 0 2 rfl rfl rfl rfl hl.1 rfl (Nat.le_of_ble_eq_true rfl) ⟨Nat.le_of_ble_eq_true rfl, Nat.le_of_ble_eq_true rfl⟩ dX2_arrivesGrant_77 (fun H locs hP hD hS => ?_)
      have hP : va_P D vwCl (wM cI cZ ad (adL u a b w)) H := hP
      have hD : va_D A (wM cI cZ ad (adL u a b w)) := hD
      exact lh_rv hx hb hr hlk hK hP hD hS (by first | (simp [nI_0, nI_o, grb, c_1, c_2]; done) | (simp [nI_0, nI_o, grb, c_1, c_2]; rfl)) dX2_arrivesGrant_80
    · have c_2 : (nbr u a b) = true := b2i_n0 c_2
      refine lv_aload_n hx hb dX2_arrivesGrant_53 rfl (lv_at hl 0 rfl) ?_
      refine va_get (D := D) (ci := 2) (v := .ref (ad 3)) (C := RX2) (T := TX2) (N := 13) hx hb hts hinX2 hown hK hP 0 rfl rfl 5 (by decide) fX2_17 (fun _ h9 => h9) rfl dX2_arrivesGrant_54 ?_
      refine lv_iload_n hx hb dX2_arrivesGrant_57 rfl (lv_at hl 1 rfl) ?_
      refine lv_dup2_11 hx hb dX2_arrivesGrant_58 rfl rfl ?_
      refine lh_ild (k := b) (N := 10) hx hb hK hP 3 0 rfl rfl (by omega) (by decide) dX2_arrivesGrant_59 ?_
      refine W.eq (g2 := F0 m 60 ls (.int ((xOu u b)) :: [.int (nI b), .ref (ad 3)])) rfl ?_
      refine lv_iload_n hx hb dX2_arrivesGrant_60 rfl (lv_at hl 3 rfl) ?_
      refine lv_isub hx hb dX2_arrivesGrant_61 ?_
      refine lh_ist (k := b) (N := 10) (f2 := upd (xOu u) b (((xOu u b) - w))) hx hb hK hP hD hS 3 0 rfl rfl (by omega) (by decide) (rfl) dX2_arrivesGrant_62 (fun H locs hP hD hS => ?_)
      have hP : va_P D vwCl (wM cI cZ ad (sOu u (upd (xOu u) b (((xOu u b) - w))))) H := hP
      have hD : va_D A (wM cI cZ ad (sOu u (upd (xOu u) b (((xOu u b) - w))))) := hD
      refine lv_aload_n hx hb dX2_arrivesGrant_63 rfl (lv_at hl 0 rfl) ?_
      refine lv_iload_n hx hb dX2_arrivesGrant_64 rfl (lv_at hl 2 rfl) ?_
      refine lv_iload_n hx hb dX2_arrivesGrant_65 rfl (lv_at hl 1 rfl) ?_
      refine lv_iconst (v := nI 0) hx hb dX2_arrivesGrant_66 (by decide) ?_
      refine lh_cVv ⟨hx, hb, hml, hown, hts⟩ (kX2_adds l D cI cZ ad (sOu u (upd (xOu u) b (((xOu u b) - w)))) a b (nI 0) (by omega) (by omega)) (cwV 3 hts gX2_arrivesGrant_X2_adds rfl rfl rfl (by decide +kernel) ⟨Nat.le_of_ble_eq_true rfl, Nat.le_of_ble_eq_true rfl⟩) hK hN hP hD hS hA 0 2 rfl rfl rfl rfl hl.1 rfl (Nat.le_of_ble_eq_true rfl) ⟨Nat.le_of_ble_eq_true rfl, Nat.le_of_ble_eq_true rfl⟩ dX2_arrivesGrant_67 (fun H locs hP hD hS => ?_)
      have hP : va_P D vwCl (wM cI cZ ad (adL (sOu u (upd (xOu u) b (((xOu u b) - w)))) a b (nI 0))) H := hP
      have hD : va_D A (wM cI cZ ad (adL (sOu u (upd (xOu u) b (((xOu u b) - w)))) a b (nI 0))) := hD
      refine lv_goto (tgt := 80) hx hb dX2_arrivesGrant_70 (by decide) ?_
      exact lh_rv hx hb hr hlk hK hP hD hS (by first | (simp [nI_0, nI_o, grb, c_1, c_2]; done) | (simp [nI_0, nI_o, grb, c_1, c_2]; rfl)) dX2_arrivesGrant_80
  · have c_1 : ((gn u).testBit a) = true := b2i_n0 c_1
    have c_1 := gnT (k := a) (by omega) c_1
    refine lv_aload_n hx hb dX2_arrivesGrant_11 rfl (lv_at hl 0 rfl) ?_
    refine lv_iload_n hx hb dX2_arrivesGrant_12 rfl (lv_at hl 2 rfl) ?_
    refine lv_iload_n hx hb dX2_arrivesGrant_13 rfl (lv_at hl 1 rfl) ?_
    refine lh_cVi ⟨hx, hb, hml, hown, hts⟩ (kX2_areNeighbours l D cI cZ ad u a b ok (by omega) (by omega)) (cwV 2 hts gX2_arrivesGrant_X2_areNeighbours rfl rfl rfl (by decide +kernel) ⟨Nat.le_of_ble_eq_true rfl, Nat.le_of_ble_eq_true rfl⟩) hK hN hP hD hS hA 0 2 rfl rfl rfl rfl hl.1 rfl (Nat.le_of_ble_eq_true rfl) ⟨Nat.le_of_ble_eq_true rfl, Nat.le_of_ble_eq_true rfl⟩ dX2_arrivesGrant_14 (fun H locs hP hD hS => ?_)
    refine lv_if_eq (tgt := 33) hx hb dX2_arrivesGrant_17 (by decide) (fun c_3 => ?_) (fun c_3 => ?_)
    · have c_3 : (nbr u a b) = false := b2i_e0 c_3
      refine lv_aload_n hx hb dX2_arrivesGrant_33 rfl (lv_at hl 0 rfl) ?_
      refine lv_iload_n hx hb dX2_arrivesGrant_34 rfl (lv_at hl 1 rfl) ?_
      refine lv_bipush (v := (-9)) hx hb dX2_arrivesGrant_35 (by decide) ?_
      refine lv_iload_n hx hb dX2_arrivesGrant_37 rfl (lv_at hl 3 rfl) ?_
      refine lh_cVv ⟨hx, hb, hml, hown, hts⟩ (kX2_sends l D cI cZ ad u (gn u) (fun zz => (xR u).testBit zz) b 10 w (by exact hW9)) (cwV 3 hts gX2_arrivesGrant_X2_sends rfl rfl rfl (by decide +kernel) ⟨Nat.le_of_ble_eq_true rfl, Nat.le_of_ble_eq_true rfl⟩) hK hN hP hD hS hA 0 2 rfl rfl rfl rfl hl.1 rfl (Nat.le_of_ble_eq_true rfl) ⟨Nat.le_of_ble_eq_true rfl, Nat.le_of_ble_eq_true rfl⟩ dX2_arrivesGrant_38 (fun H locs hP hD hS => ?_)
      have hP : va_P D vwCl (wM cI cZ ad (app u b 10 w)) H := hP
      have hD : va_D A (wM cI cZ ad (app u b 10 w)) := hD
      refine lv_goto (tgt := 80) hx hb dX2_arrivesGrant_41 (by decide) ?_
      exact lh_rv hx hb hr hlk hK hP hD hS (by first | (simp [nI_0, nI_o, grb, c_1, c_3]; done) | (simp [nI_0, nI_o, grb, c_1, c_3]; rfl)) dX2_arrivesGrant_80
    · have c_3 : (nbr u a b) = true := b2i_n0 c_3
      refine lv_aload_n hx hb dX2_arrivesGrant_20 rfl (lv_at hl 0 rfl) ?_
      refine va_get (D := D) (ci := 2) (v := .ref (ad 3)) (C := RX2) (T := TX2) (N := 13) hx hb hts hinX2 hown hK hP 0 rfl rfl 5 (by decide) fX2_17 (fun _ h9 => h9) rfl dX2_arrivesGrant_21 ?_
      refine lv_iload_n hx hb dX2_arrivesGrant_24 rfl (lv_at hl 1 rfl) ?_
      refine lv_dup2_11 hx hb dX2_arrivesGrant_25 rfl rfl ?_
      refine lh_ild (k := b) (N := 10) hx hb hK hP 3 0 rfl rfl (by omega) (by decide) dX2_arrivesGrant_26 ?_
      refine W.eq (g2 := F0 m 27 ls (.int ((xOu u b)) :: [.int (nI b), .ref (ad 3)])) rfl ?_
      refine lv_iload_n hx hb dX2_arrivesGrant_27 rfl (lv_at hl 3 rfl) ?_
      refine lv_isub hx hb dX2_arrivesGrant_28 ?_
      refine lh_ist (k := b) (N := 10) (f2 := upd (xOu u) b (((xOu u b) - w))) hx hb hK hP hD hS 3 0 rfl rfl (by omega) (by decide) (rfl) dX2_arrivesGrant_29 (fun H locs hP hD hS => ?_)
      have hP : va_P D vwCl (wM cI cZ ad (sOu u (upd (xOu u) b (((xOu u b) - w))))) H := hP
      have hD : va_D A (wM cI cZ ad (sOu u (upd (xOu u) b (((xOu u b) - w))))) := hD
      refine lv_goto (tgt := 80) hx hb dX2_arrivesGrant_30 (by decide) ?_
      exact lh_rv hx hb hr hlk hK hP hD hS (by first | (simp [nI_0, nI_o, grb, c_1, c_3]; done) | (simp [nI_0, nI_o, grb, c_1, c_3]; rfl)) dX2_arrivesGrant_80
set_option maxRecDepth 100000 in
set_option maxHeartbeats 4000000 in
theorem kX2_arrives (l : Launch) (D : va_G) (cI cZ : ClassId) (ad : Nat → Nat) (u : XS) (b : Nat) (a : Nat) (w : Int32) (ok : okB u) (hb2 : b < xM u) (ha : a < 10 → a < xM u) (hW9 : xW u < 512) : CV l D [(cI, .int), (cZ, .boolean)] yX2_arrives wsX2_arrives ({ frames := 4, cells := 0, slots := 0, locals := 90 }) [.ref (ad 0), .int (nI b), .int (rv a), .int (w)] (wM cI cZ ad u) (wM cI cZ ad (arv u b a w)) := by
  obtain ⟨hM, hW, hHo, hAb, hLb, hRb, hDb⟩ := id ok
  refine lh_CVof (cc := cX2_arrives) (maxL := 4) (ret := none) (own := RX2) (by decide) rfl rfl (Nat.le_of_ble_eq_true rfl) ?_
  intro p e s m below meth c A ls hx hb hr hlk hts hown hml hK hN hA hP hD hS hl
  have fX2_61 := hts (.fieldLink RX2 61 "LostHostsModel" "gone" "I") (by decide +kernel)
  have fX2_51 := hts (.fieldLink RX2 51 "LostHostsModel" "dead" "I") (by decide +kernel)
  have fX2_7 := hts (.fieldLink RX2 7 "LostHostsModel" "hostOf" "[I") (by decide +kernel)
  have fX2_17 := hts (.fieldLink RX2 17 "LostHostsModel" "outOf" "[I") (by decide +kernel)
  have hinX2 : ∀ w ∈ u_ws RX2 TX2 13, w ∈ wsX2_arrives := by decide +kernel
  have hl : lv_has ls 4 [(0, .ref (ad 0)), (1, .int (nI b)), (2, .int (rv a)), (3, .int (w))] := hl
  refine lv_aload_n hx hb dX2_arrives_0 rfl (lv_at hl 0 rfl) ?_
  refine va_get (D := D) (ci := 2) (v := .int (nI (gn u))) (C := RX2) (T := TX2) (N := 13) hx hb hts hinX2 hown hK hP 0 rfl rfl 4 (by decide) fX2_61 (fun _ h9 => h9) rfl dX2_arrives_1 ?_
  refine lv_iload_n hx hb dX2_arrives_4 rfl (lv_at hl 1 rfl) ?_
  refine lh_cSi ⟨hx, hb, hml, hown, hts⟩ (kX2_has l D _ _ (gn u) b (by first | omega | exact gn_lt31 hM | exact gn_lt31 (by omega)) (by omega)) (va_cwS 2 hts gX2_arrives_X2_has rfl rfl rfl (by decide +kernel) ⟨Nat.le_of_ble_eq_true rfl, Nat.le_of_ble_eq_true rfl⟩) hK hN hP hD hS hA rfl hl.1 rfl (Nat.le_of_ble_eq_true rfl) ⟨Nat.le_of_ble_eq_true rfl, Nat.le_of_ble_eq_true rfl⟩ dX2_arrives_5 (fun H locs hP hD hS => ?_)
  refine lv_if_eq (tgt := 12) hx hb dX2_arrives_8 (by decide) (fun c_1 => ?_) (fun c_1 => ?_)
  · have c_1 : ((gn u).testBit b) = false := b2i_e0 c_1
    have c_1 := gnF (k := b) (by omega) c_1
    refine lv_iload_n hx hb dX2_arrives_12 rfl (lv_at hl 2 rfl) ?_
    refine lv_bipush (v := (-9)) hx hb dX2_arrives_13 (by decide) ?_
    refine lv_icmp_ne (tgt := 31) hx hb dX2_arrives_15 (by decide) (fun c_2 => ?_) (fun c_2 => ?_)
    · have c_2 : a < 10 := rv_ne9 c_2
      refine lv_aload_n hx hb dX2_arrives_31 rfl (lv_at hl 0 rfl) ?_
      refine va_get (D := D) (ci := 2) (v := .int (nI (xD u))) (C := RX2) (T := TX2) (N := 13) hx hb hts hinX2 hown hK hP 0 rfl rfl 0 (by decide) fX2_51 (fun _ h9 => h9) rfl dX2_arrives_32 ?_
      refine lv_aload_n hx hb dX2_arrives_35 rfl (lv_at hl 0 rfl) ?_
      refine va_get (D := D) (ci := 2) (v := .ref (ad 1)) (C := RX2) (T := TX2) (N := 13) hx hb hts hinX2 hown hK hP 0 rfl rfl 2 (by decide) fX2_7 (fun _ h9 => h9) rfl dX2_arrives_36 ?_
      refine lv_iload_n hx hb dX2_arrives_39 rfl (lv_at hl 2 rfl) ?_
      refine lh_top (y := nI a) (rv_lt (by omega)) ?_
      refine lh_ild (k := a) (N := 10) hx hb hK hP 1 0 rfl rfl (by omega) (by decide) dX2_arrives_40 ?_
      refine W.eq (g2 := F0 m 41 ls (.int (nI (xHo u a)) :: [.int (nI (xD u))])) rfl ?_
      refine lh_cSi ⟨hx, hb, hml, hown, hts⟩ (kX2_has l D _ _ (xD u) (xHo u a) (by first | omega | exact gn_lt31 hM | exact gn_lt31 (by omega)) (by have h9 := hHo a; omega)) (va_cwS 2 hts gX2_arrives_X2_has rfl rfl rfl (by decide +kernel) ⟨Nat.le_of_ble_eq_true rfl, Nat.le_of_ble_eq_true rfl⟩) hK hN hP hD hS hA rfl hl.1 rfl (Nat.le_of_ble_eq_true rfl) ⟨Nat.le_of_ble_eq_true rfl, Nat.le_of_ble_eq_true rfl⟩ dX2_arrives_41 (fun H locs hP hD hS => ?_)
      refine lv_if_ne (tgt := 54) hx hb dX2_arrives_44 (by decide) (fun c_3 => ?_) (fun c_3 => ?_)
      · have c_3 : ((xD u).testBit (xHo u a)) = true := b2i_n0 c_3
        exact lh_rv hx hb hr hlk hK hP hD hS (by first | (simp [nI_0, nI_o, arv, c_1, c_2, c_3]; done) | (simp [nI_0, nI_o, arv, c_1, c_2, c_3]; rfl)) dX2_arrives_54
      · have c_3 : ((xD u).testBit (xHo u a)) = false := b2i_e0 c_3
        refine lv_aload_n hx hb dX2_arrives_47 rfl (lv_at hl 0 rfl) ?_
        refine lv_iload_n hx hb dX2_arrives_48 rfl (lv_at hl 1 rfl) ?_
        refine lv_iload_n hx hb dX2_arrives_49 rfl (lv_at hl 2 rfl) ?_
        refine lh_top (y := nI a) (rv_lt (by omega)) ?_
        refine lv_iload_n hx hb dX2_arrives_50 rfl (lv_at hl 3 rfl) ?_
        refine lh_cVv ⟨hx, hb, hml, hown, hts⟩ (kX2_arrivesGrant l D cI cZ ad u b a w ok (by omega) (by exact ha (by assumption)) (by omega)) (cwV 3 hts gX2_arrives_X2_arrivesGrant rfl rfl rfl (by decide +kernel) ⟨Nat.le_of_ble_eq_true rfl, Nat.le_of_ble_eq_true rfl⟩) hK hN hP hD hS hA 0 2 rfl rfl rfl rfl hl.1 rfl (Nat.le_of_ble_eq_true rfl) ⟨Nat.le_of_ble_eq_true rfl, Nat.le_of_ble_eq_true rfl⟩ dX2_arrives_51 (fun H locs hP hD hS => ?_)
        have hP : va_P D vwCl (wM cI cZ ad (grb u b a w)) H := hP
        have hD : va_D A (wM cI cZ ad (grb u b a w)) := hD
        exact lh_rv hx hb hr hlk hK hP hD hS (by first | (simp [nI_0, nI_o, arv, c_1, c_2, c_3]; done) | (simp [nI_0, nI_o, arv, c_1, c_2, c_3]; rfl)) dX2_arrives_54
    · have c_2 : ¬ a < 10 := rv_eq9 c_2
      refine lv_aload_n hx hb dX2_arrives_18 rfl (lv_at hl 0 rfl) ?_
      refine va_get (D := D) (ci := 2) (v := .ref (ad 3)) (C := RX2) (T := TX2) (N := 13) hx hb hts hinX2 hown hK hP 0 rfl rfl 5 (by decide) fX2_17 (fun _ h9 => h9) rfl dX2_arrives_19 ?_
      refine lv_iload_n hx hb dX2_arrives_22 rfl (lv_at hl 1 rfl) ?_
      refine lv_dup2_11 hx hb dX2_arrives_23 rfl rfl ?_
      refine lh_ild (k := b) (N := 10) hx hb hK hP 3 0 rfl rfl (by omega) (by decide) dX2_arrives_24 ?_
      refine W.eq (g2 := F0 m 25 ls (.int ((xOu u b)) :: [.int (nI b), .ref (ad 3)])) rfl ?_
      refine lv_iload_n hx hb dX2_arrives_25 rfl (lv_at hl 3 rfl) ?_
      refine lv_isub hx hb dX2_arrives_26 ?_
      refine lh_ist (k := b) (N := 10) (f2 := upd (xOu u) b (((xOu u b) - w))) hx hb hK hP hD hS 3 0 rfl rfl (by omega) (by decide) (rfl) dX2_arrives_27 (fun H locs hP hD hS => ?_)
      have hP : va_P D vwCl (wM cI cZ ad (sOu u (upd (xOu u) b (((xOu u b) - w))))) H := hP
      have hD : va_D A (wM cI cZ ad (sOu u (upd (xOu u) b (((xOu u b) - w))))) := hD
      refine lv_goto (tgt := 54) hx hb dX2_arrives_28 (by decide) ?_
      exact lh_rv hx hb hr hlk hK hP hD hS (by first | (simp [nI_0, nI_o, arv, c_1, c_2]; done) | (simp [nI_0, nI_o, arv, c_1, c_2]; rfl)) dX2_arrives_54
  · have c_1 : ((gn u).testBit b) = true := b2i_n0 c_1
    have c_1 := gnT (k := b) (by omega) c_1
    exact lh_rv hx hb hr hlk hK hP hD hS (by first | (simp [nI_0, nI_o, arv, c_1]; done) | (simp [nI_0, nI_o, arv, c_1]; rfl)) dX2_arrives_11
set_option maxRecDepth 100000 in
set_option maxHeartbeats 4000000 in
theorem kX2_delivers (l : Launch) (D : va_G) (cI cZ : ClassId) (ad : Nat → Nat) (u : XS) (k : Nat) (ok : okB u) (hk : k < xW u) (hb9 : xAb u k < xM u) (ha9 : xRc u k < 10 → xRc u k < xM u) : CI l D [(cI, .int), (cZ, .boolean)] yX2_delivers wsX2_delivers ({ frames := 5, cells := 0, slots := 0, locals := 113 }) [.ref (ad 0), .int (nI k)] (wM cI cZ ad u) (wM cI cZ ad (arr u k)) (b2i (!decide (xRc u k < 10))) := by
  obtain ⟨hM, hW, hHo, hAb, hLb, hRb, hDb⟩ := id ok
  refine lh_CIof (cc := cX2_delivers) (maxL := 6) (ret := (some .boolean)) (own := RX2) (by decide) rfl rfl (Nat.le_of_ble_eq_true rfl) ?_
  intro p e s m below meth c A ls hx hb hr hlk hts hown hml hK hN hA hP hD hS hl
  have fX2_26 := hts (.fieldLink RX2 26 "LostHostsModel" "about" "[I") (by decide +kernel)
  have fX2_29 := hts (.fieldLink RX2 29 "LostHostsModel" "toOne" "[I") (by decide +kernel)
  have fX2_32 := hts (.fieldLink RX2 32 "LostHostsModel" "weightIn" "[I") (by decide +kernel)
  have fX2_74 := hts (.fieldLink RX2 74 "LostHostsModel" "letters" "I") (by decide +kernel)
  have hinX2 : ∀ w ∈ u_ws RX2 TX2 13, w ∈ wsX2_delivers := by decide +kernel
  have hl : lv_has ls 6 [(0, .ref (ad 0)), (1, .int (nI k))] := hl
  refine lv_aload_n hx hb dX2_delivers_0 rfl (lv_at hl 0 rfl) ?_
  refine va_get (D := D) (ci := 2) (v := .ref (ad 6)) (C := RX2) (T := TX2) (N := 13) hx hb hts hinX2 hown hK hP 0 rfl rfl 9 (by decide) fX2_26 (fun _ h9 => h9) rfl dX2_delivers_1 ?_
  refine lv_iload_n hx hb dX2_delivers_4 rfl (lv_at hl 1 rfl) ?_
  refine lh_ild (k := k) (N := 512) hx hb hK hP 6 0 rfl rfl (by omega) (by decide) dX2_delivers_5 ?_
  refine W.eq (g2 := F0 m 6 ls (.int (nI (xAb u k)) :: [])) rfl ?_
  refine lv_istore_n (lv' := [(2, .int (nI (xAb u k))), (0, .ref (ad 0)), (1, .int (nI k))]) hx hb dX2_delivers_6 rfl hl (by decide) rfl (fun ls hl => ?_)
  refine lv_aload_n hx hb dX2_delivers_7 rfl (lv_at hl 1 rfl) ?_
  refine va_get (D := D) (ci := 2) (v := .ref (ad 7)) (C := RX2) (T := TX2) (N := 13) hx hb hts hinX2 hown hK hP 0 rfl rfl 10 (by decide) fX2_29 (fun _ h9 => h9) rfl dX2_delivers_8 ?_
  refine lv_iload_n hx hb dX2_delivers_11 rfl (lv_at hl 2 rfl) ?_
  refine lh_ild (k := k) (N := 512) hx hb hK hP 7 0 rfl rfl (by omega) (by decide) dX2_delivers_12 ?_
  refine W.eq (g2 := F0 m 13 ls (.int (rv (xRc u k)) :: [])) rfl ?_
  refine lv_istore_n (lv' := [(3, .int (rv (xRc u k))), (2, .int (nI (xAb u k))), (0, .ref (ad 0)), (1, .int (nI k))]) hx hb dX2_delivers_13 rfl hl (by decide) rfl (fun ls hl => ?_)
  refine lv_aload_n hx hb dX2_delivers_14 rfl (lv_at hl 2 rfl) ?_
  refine va_get (D := D) (ci := 2) (v := .ref (ad 8)) (C := RX2) (T := TX2) (N := 13) hx hb hts hinX2 hown hK hP 0 rfl rfl 11 (by decide) fX2_32 (fun _ h9 => h9) rfl dX2_delivers_15 ?_
  refine lv_iload_n hx hb dX2_delivers_18 rfl (lv_at hl 3 rfl) ?_
  refine lh_ild (k := k) (N := 512) hx hb hK hP 8 0 rfl rfl (by omega) (by decide) dX2_delivers_19 ?_
  refine W.eq (g2 := F0 m 20 ls (.int ((xLo u k)) :: [])) rfl ?_
  refine lv_istore (lv' := [(4, .int ((xLo u k))), (3, .int (rv (xRc u k))), (2, .int (nI (xAb u k))), (0, .ref (ad 0)), (1, .int (nI k))]) hx hb dX2_delivers_20 hl (by decide) rfl (fun ls hl => ?_)
  refine lv_aload_n hx hb dX2_delivers_22 rfl (lv_at hl 3 rfl) ?_
  refine lv_dup hx hb dX2_delivers_23 rfl ?_
  refine va_get (D := D) (ci := 2) (v := .int (nI (xW u))) (C := RX2) (T := TX2) (N := 13) hx hb hts hinX2 hown hK hP 0 rfl rfl 8 (by decide) fX2_74 (fun _ h9 => h9) rfl dX2_delivers_24 ?_
  refine lv_iconst (v := nI 1) hx hb dX2_delivers_27 (by decide) ?_
  refine lv_isub hx hb dX2_delivers_28 ?_
  refine lh_top (y := nI (xW u - 1)) (pk_sub (by omega)) ?_
  refine va_put (D := D) (ci := 2) (v := .int (nI (xW u - 1))) (ty := .int) (C := RX2) (T := TX2) (N := 13) hx hb hts hinX2 tyX2 tyX2_ok nmX2 hown hK hP hD hS 0 rfl rfl 8 (by decide) fX2_74 (fun _ h9 => h9) rfl (by decide +kernel) rfl rfl (Nat.le_of_ble_eq_true rfl) dX2_delivers_29 (fun H locs hP hD hS => ?_)
  have hP : va_P D vwCl (wM cI cZ ad (sW u ((xW u - 1)))) H := hP
  have hD : va_D A (wM cI cZ ad (sW u ((xW u - 1)))) := hD
  refine lv_iload_n hx hb dX2_delivers_32 rfl (lv_at hl 4 rfl) ?_
  refine lv_istore (lv' := [(5, .int (nI k)), (4, .int ((xLo u k))), (3, .int (rv (xRc u k))), (2, .int (nI (xAb u k))), (0, .ref (ad 0)), (1, .int (nI k))]) hx hb dX2_delivers_33 hl (by decide) rfl (fun ls hl => ?_)
  have L35 : ∀ (n : Nat) (x : Nat) (t : XS), xW u - x < n → (k ≤ x) → (x ≤ xW u - 1) → (t = tkp u k x) → ∀ (H : Heap) (locs : List Loc), va_P D vwCl (wM cI cZ ad t) H → va_D A (wM cI cZ ad t) → va_S A s.heap H locs → ∀ (ls : Array Slot), lv_has ls 6 [(5, .int (nI x)), (4, .int ((xLo u k))), (3, .int (rv (xRc u k))), (2, .int (nI (xAb u k))), (0, .ref (ad 0)), (1, .int (nI k))] → W p l e ({ frames := 5, cells := 0, slots := 0, locals := 113 }) s m [.ref (ad 0), .int (nI k)].toArray below meth c H locs 0 0 (QI below D [(cI, .int), (cZ, .boolean)] A (wM cI cZ ad (arr u k)) (b2i (!decide (xRc u k < 10))) [.ref (ad 0), .int (nI k)].toArray s) (F0 m 35 ls []) := by
    intro n
    induction n with
    | zero => intro x t hmu; exact absurd hmu (Nat.not_lt_zero _)
    | succ n ih35 =>
      intro x t hmu35 hx9 hx8 ht H locs hP hD hS ls hl
      have htW : xW t = xW u - 1 := by rw [ht]; rfl
      refine lv_iload hx hb dX2_delivers_35 (lv_at hl 0 rfl) ?_
      refine lv_aload_n hx hb dX2_delivers_37 rfl (lv_at hl 4 rfl) ?_
      refine va_get (D := D) (ci := 2) (v := .int (nI (xW t))) (C := RX2) (T := TX2) (N := 13) hx hb hts hinX2 hown hK hP 0 rfl rfl 8 (by decide) fX2_74 (fun _ h9 => h9) rfl dX2_delivers_38 ?_
      refine lv_icmp_ge (tgt := 98) hx hb dX2_delivers_41 (by decide) (fun c_1 => ?_) (fun c_1 => ?_)
      · have c_1 : xW t ≤ x := (nI_leI (by omega) (by omega)).mp c_1
        have c_1n : ¬ x < xW t := by omega
        refine lv_aload_n hx hb dX2_delivers_98 rfl (lv_at hl 4 rfl) ?_
        refine lv_iload_n hx hb dX2_delivers_99 rfl (lv_at hl 3 rfl) ?_
        refine lv_iload_n hx hb dX2_delivers_100 rfl (lv_at hl 2 rfl) ?_
        refine lv_iload hx hb dX2_delivers_101 (lv_at hl 1 rfl) ?_
        refine lh_cVv ⟨hx, hb, hml, hown, hts⟩ (kX2_arrives l D cI cZ ad t (xAb u k) (xRc u k) (xLo u k) (by rw [ht]; exact okB_tkp ok k x) (by rw [ht]; exact hb9) (by rw [ht]; exact ha9) (by omega)) (cwV 3 hts gX2_delivers_X2_arrives rfl rfl rfl (by decide +kernel) ⟨Nat.le_of_ble_eq_true rfl, Nat.le_of_ble_eq_true rfl⟩) hK hN hP hD hS hA 0 2 rfl rfl rfl rfl hl.1 rfl (Nat.le_of_ble_eq_true rfl) ⟨Nat.le_of_ble_eq_true rfl, Nat.le_of_ble_eq_true rfl⟩ dX2_delivers_103 (fun H locs hP hD hS => ?_)
        have hP : va_P D vwCl (wM cI cZ ad (arv t (xAb u k) (xRc u k) (xLo u k))) H := hP
        have hD : va_D A (wM cI cZ ad (arv t (xAb u k) (xRc u k) (xLo u k))) := hD
        refine lv_iload_n hx hb dX2_delivers_106 rfl (lv_at hl 2 rfl) ?_
        refine lv_bipush (v := (-9)) hx hb dX2_delivers_107 (by decide) ?_
        refine lv_icmp_ne (tgt := 116) hx hb dX2_delivers_109 (by decide) (fun c_2 => ?_) (fun c_2 => ?_)
        · have c_2 : (xRc u k) < 10 := rv_ne9 c_2
          refine lv_iconst (v := nI 0) hx hb dX2_delivers_116 (by decide) ?_
          exact lh_rz hx hb hr hlk hK hP hD hS (by first | (simp [nI_0, nI_o, b2i, c_1n, c_1, c_2]; done) | (simp [nI_0, nI_o, b2i, c_1n, c_1, c_2]; rfl)) (by rw [ht, tkp_e hk (by omega)]; exact congrArg (wM cI cZ ad) (arv_arr u k)) dX2_delivers_117
        · have c_2 : ¬ (xRc u k) < 10 := rv_eq9 c_2
          refine lv_iconst (v := nI 1) hx hb dX2_delivers_112 (by decide) ?_
          refine lv_goto (tgt := 117) hx hb dX2_delivers_113 (by decide) ?_
          exact lh_rz hx hb hr hlk hK hP hD hS (by first | (simp [nI_0, nI_o, b2i, c_1n, c_1, c_2]; done) | (simp [nI_0, nI_o, b2i, c_1n, c_1, c_2]; rfl)) (by rw [ht, tkp_e hk (by omega)]; exact congrArg (wM cI cZ ad) (arv_arr u k)) dX2_delivers_117
      · have c_1 : x < xW t := Nat.lt_of_not_le (fun h => c_1 ((nI_leI (by omega) (by omega)).mpr h))
        refine lv_aload_n hx hb dX2_delivers_44 rfl (lv_at hl 4 rfl) ?_
        refine va_get (D := D) (ci := 2) (v := .ref (ad 6)) (C := RX2) (T := TX2) (N := 13) hx hb hts hinX2 hown hK hP 0 rfl rfl 9 (by decide) fX2_26 (fun _ h9 => h9) rfl dX2_delivers_45 ?_
        refine lv_iload hx hb dX2_delivers_48 (lv_at hl 0 rfl) ?_
        refine lv_aload_n hx hb dX2_delivers_50 rfl (lv_at hl 4 rfl) ?_
        refine va_get (D := D) (ci := 2) (v := .ref (ad 6)) (C := RX2) (T := TX2) (N := 13) hx hb hts hinX2 hown hK hP 0 rfl rfl 9 (by decide) fX2_26 (fun _ h9 => h9) rfl dX2_delivers_51 ?_
        refine lv_iload hx hb dX2_delivers_54 (lv_at hl 0 rfl) ?_
        refine lv_iconst (v := nI 1) hx hb dX2_delivers_56 (by decide) ?_
        refine lv_iadd hx hb dX2_delivers_57 ?_
        refine lh_top (y := nI (x + 1)) (nI_add _ _) ?_
        refine lh_ild (k := (x + 1)) (N := 512) hx hb hK hP 6 0 rfl rfl (by omega) (by decide) dX2_delivers_58 ?_
        refine W.eq (g2 := F0 m 59 ls (.int (nI (xAb t (x + 1))) :: [.int (nI x), .ref (ad 6)])) rfl ?_
        refine lh_ist (k := x) (N := 512) (f2 := fun zz => nI ((va_up (xAb t) x (xAb t (x + 1))) zz)) hx hb hK hP hD hS 6 0 rfl rfl (by omega) (by decide) (lh_updN (xAb t) _ _) dX2_delivers_59 (fun H locs hP hD hS => ?_)
        have hP : va_P D vwCl (wM cI cZ ad (sAb t (va_up (xAb t) x (xAb t (x + 1))))) H := hP
        have hD : va_D A (wM cI cZ ad (sAb t (va_up (xAb t) x (xAb t (x + 1))))) := hD
        refine lv_aload_n hx hb dX2_delivers_60 rfl (lv_at hl 4 rfl) ?_
        refine va_get (D := D) (ci := 2) (v := .ref (ad 7)) (C := RX2) (T := TX2) (N := 13) hx hb hts hinX2 hown hK hP 0 rfl rfl 10 (by decide) fX2_29 (fun _ h9 => h9) rfl dX2_delivers_61 ?_
        refine lv_iload hx hb dX2_delivers_64 (lv_at hl 0 rfl) ?_
        refine lv_aload_n hx hb dX2_delivers_66 rfl (lv_at hl 4 rfl) ?_
        refine va_get (D := D) (ci := 2) (v := .ref (ad 7)) (C := RX2) (T := TX2) (N := 13) hx hb hts hinX2 hown hK hP 0 rfl rfl 10 (by decide) fX2_29 (fun _ h9 => h9) rfl dX2_delivers_67 ?_
        refine lv_iload hx hb dX2_delivers_70 (lv_at hl 0 rfl) ?_
        refine lv_iconst (v := nI 1) hx hb dX2_delivers_72 (by decide) ?_
        refine lv_iadd hx hb dX2_delivers_73 ?_
        refine lh_top (y := nI (x + 1)) (nI_add _ _) ?_
        refine lh_ild (k := (x + 1)) (N := 512) hx hb hK hP 7 0 rfl rfl (by omega) (by decide) dX2_delivers_74 ?_
        refine W.eq (g2 := F0 m 75 ls (.int (rv (xRc t (x + 1))) :: [.int (nI x), .ref (ad 7)])) rfl ?_
        refine lh_ist (k := x) (N := 512) (f2 := fun zz => rv ((va_up (xRc t) x (xRc t (x + 1))) zz)) hx hb hK hP hD hS 7 0 rfl rfl (by omega) (by decide) (lh_updR (xRc t) _ _) dX2_delivers_75 (fun H locs hP hD hS => ?_)
        have hP : va_P D vwCl (wM cI cZ ad (sRc (sAb t (va_up (xAb t) x (xAb t (x + 1)))) (va_up (xRc t) x (xRc t (x + 1))))) H := hP
        have hD : va_D A (wM cI cZ ad (sRc (sAb t (va_up (xAb t) x (xAb t (x + 1)))) (va_up (xRc t) x (xRc t (x + 1))))) := hD
        refine lv_aload_n hx hb dX2_delivers_76 rfl (lv_at hl 4 rfl) ?_
        refine va_get (D := D) (ci := 2) (v := .ref (ad 8)) (C := RX2) (T := TX2) (N := 13) hx hb hts hinX2 hown hK hP 0 rfl rfl 11 (by decide) fX2_32 (fun _ h9 => h9) rfl dX2_delivers_77 ?_
        refine lv_iload hx hb dX2_delivers_80 (lv_at hl 0 rfl) ?_
        refine lv_aload_n hx hb dX2_delivers_82 rfl (lv_at hl 4 rfl) ?_
        refine va_get (D := D) (ci := 2) (v := .ref (ad 8)) (C := RX2) (T := TX2) (N := 13) hx hb hts hinX2 hown hK hP 0 rfl rfl 11 (by decide) fX2_32 (fun _ h9 => h9) rfl dX2_delivers_83 ?_
        refine lv_iload hx hb dX2_delivers_86 (lv_at hl 0 rfl) ?_
        refine lv_iconst (v := nI 1) hx hb dX2_delivers_88 (by decide) ?_
        refine lv_iadd hx hb dX2_delivers_89 ?_
        refine lh_top (y := nI (x + 1)) (nI_add _ _) ?_
        refine lh_ild (k := (x + 1)) (N := 512) hx hb hK hP 8 0 rfl rfl (by omega) (by decide) dX2_delivers_90 ?_
        refine W.eq (g2 := F0 m 91 ls (.int ((xLo t (x + 1))) :: [.int (nI x), .ref (ad 8)])) rfl ?_
        refine lh_ist (k := x) (N := 512) (f2 := upd (xLo t) x ((xLo t (x + 1)))) hx hb hK hP hD hS 8 0 rfl rfl (by omega) (by decide) (rfl) dX2_delivers_91 (fun H locs hP hD hS => ?_)
        have hP : va_P D vwCl (wM cI cZ ad (sLo (sRc (sAb t (va_up (xAb t) x (xAb t (x + 1)))) (va_up (xRc t) x (xRc t (x + 1)))) (upd (xLo t) x ((xLo t (x + 1)))))) H := hP
        have hD : va_D A (wM cI cZ ad (sLo (sRc (sAb t (va_up (xAb t) x (xAb t (x + 1)))) (va_up (xRc t) x (xRc t (x + 1)))) (upd (xLo t) x ((xLo t (x + 1)))))) := hD
        refine lv_iinc (v := nI (x + 1)) (lv' := [(5, .int (nI (x + 1))), (4, .int ((xLo u k))), (3, .int (rv (xRc u k))), (2, .int (nI (xAb u k))), (0, .ref (ad 0)), (1, .int (nI k))]) hx hb dX2_delivers_92 hl (k := 0) rfl (lh_inc _) (by decide) rfl (fun ls hl => ?_)
        refine lv_goto (tgt := 35) hx hb dX2_delivers_95 (by decide) ?_
        exact ih35 (x + 1) (sLo (sRc (sAb t (va_up (xAb t) x (xAb t (x + 1)))) (va_up (xRc t) x (xRc t (x + 1)))) (upd (xLo t) x ((xLo t (x + 1))))) (by omega) (by omega) (by omega) (by subst ht; exact tkp_s hx9) _ _ hP hD hS ls (lv_sub hl [0, 1, 2, 3, 4, 5] rfl)
  exact L35 _ k (sW u ((xW u - 1))) (Nat.lt_succ_self _) (by omega) (by omega) (by exact tkp_0 u k) _ _ hP hD hS ls (lv_sub hl [0, 1, 2, 3, 4, 5] rfl)
set_option maxRecDepth 100000 in
set_option maxHeartbeats 4000000 in
theorem kX2_onHost (l : Launch) (D : va_G) (cI cZ : ClassId) (ad : Nat → Nat) (u : XS) (h : Nat) (ok : okB u) (hh : h < 4) : CI l D [(cI, .int), (cZ, .boolean)] yX2_onHost wsX2_onHost ({ frames := 1, cells := 0, slots := 0, locals := 21 }) [.ref (ad 0), .int (nI h)] (wM cI cZ ad u) (wM cI cZ ad u) (nI (onH u h)) := by
  obtain ⟨hM, hW, hHo, hAb, hLb, hRb, hDb⟩ := id ok
  refine lh_CIof (cc := cX2_onHost) (maxL := 4) (ret := (some .int)) (own := RX2) (by decide) rfl rfl (Nat.le_of_ble_eq_true rfl) ?_
  intro p e s m below meth c A ls hx hb hr hlk hts hown hml hK hN hA hP hD hS hl
  have fX2_39 := hts (.fieldLink RX2 39 "LostHostsModel" "objects" "I") (by decide +kernel)
  have fX2_7 := hts (.fieldLink RX2 7 "LostHostsModel" "hostOf" "[I") (by decide +kernel)
  have fX2_61 := hts (.fieldLink RX2 61 "LostHostsModel" "gone" "I") (by decide +kernel)
  have hinX2 : ∀ w ∈ u_ws RX2 TX2 13, w ∈ wsX2_onHost := by decide +kernel
  have hl : lv_has ls 4 [(0, .ref (ad 0)), (1, .int (nI h))] := hl
  refine lv_iconst (v := nI 0) hx hb dX2_onHost_0 (by decide) ?_
  refine lv_istore_n (lv' := [(2, .int (nI 0)), (0, .ref (ad 0)), (1, .int (nI h))]) hx hb dX2_onHost_1 rfl hl (by decide) rfl (fun ls hl => ?_)
  refine lv_iconst (v := nI 0) hx hb dX2_onHost_2 (by decide) ?_
  refine lv_istore_n (lv' := [(3, .int (nI 0)), (2, .int (nI 0)), (0, .ref (ad 0)), (1, .int (nI h))]) hx hb dX2_onHost_3 rfl hl (by decide) rfl (fun ls hl => ?_)
  have L4 : ∀ (n : Nat) (k : Nat) (acc : Nat), xM u - k < n → (k ≤ xM u) → (acc = mk (fun a => lvo u a h) k) → ∀ (H : Heap) (locs : List Loc), va_P D vwCl (wM cI cZ ad u) H → va_D A (wM cI cZ ad u) → va_S A s.heap H locs → ∀ (ls : Array Slot), lv_has ls 4 [(3, .int (nI k)), (2, .int (nI acc)), (0, .ref (ad 0)), (1, .int (nI h))] → W p l e ({ frames := 1, cells := 0, slots := 0, locals := 21 }) s m [.ref (ad 0), .int (nI h)].toArray below meth c H locs 0 0 (QI below D [(cI, .int), (cZ, .boolean)] A (wM cI cZ ad u) (nI (onH u h)) [.ref (ad 0), .int (nI h)].toArray s) (F0 m 4 ls []) := by
    intro n
    induction n with
    | zero => intro k acc hmu; exact absurd hmu (Nat.not_lt_zero _)
    | succ n ih4 =>
      intro k acc hmu4 hk hacc H locs hP hD hS ls hl
      refine lv_iload_n hx hb dX2_onHost_4 rfl (lv_at hl 0 rfl) ?_
      refine lv_aload_n hx hb dX2_onHost_5 rfl (lv_at hl 2 rfl) ?_
      refine va_get (D := D) (ci := 2) (v := .int (nI (xM u))) (C := RX2) (T := TX2) (N := 13) hx hb hts hinX2 hown hK hP 0 rfl rfl 1 (by decide) fX2_39 (fun _ h9 => h9) rfl dX2_onHost_6 ?_
      refine lv_icmp_ge (tgt := 49) hx hb dX2_onHost_9 (by decide) (fun c_1 => ?_) (fun c_1 => ?_)
      · have c_1 : xM u ≤ k := (nI_leI (by omega) (by omega)).mp c_1
        have c_1n : ¬ k < xM u := by omega
        refine lv_iload_n hx hb dX2_onHost_49 rfl (lv_at hl 1 rfl) ?_
        exact lh_ri hx hb hr hlk hK hP hD hS (by rw [hacc, show k = xM u by omega]; rfl) rfl dX2_onHost_50
      · have c_1 : k < xM u := Nat.lt_of_not_le (fun h => c_1 ((nI_leI (by omega) (by omega)).mpr h))
        refine lv_iload_n hx hb dX2_onHost_12 rfl (lv_at hl 1 rfl) ?_
        refine lv_aload_n hx hb dX2_onHost_13 rfl (lv_at hl 2 rfl) ?_
        refine va_get (D := D) (ci := 2) (v := .ref (ad 1)) (C := RX2) (T := TX2) (N := 13) hx hb hts hinX2 hown hK hP 0 rfl rfl 2 (by decide) fX2_7 (fun _ h9 => h9) rfl dX2_onHost_14 ?_
        refine lv_iload_n hx hb dX2_onHost_17 rfl (lv_at hl 0 rfl) ?_
        refine lh_ild (k := k) (N := 10) hx hb hK hP 1 0 rfl rfl (by omega) (by decide) dX2_onHost_18 ?_
        refine W.eq (g2 := F0 m 19 ls (.int (nI (xHo u k)) :: [.int (nI acc)])) rfl ?_
        refine lv_iload_n hx hb dX2_onHost_19 rfl (lv_at hl 3 rfl) ?_
        refine lv_icmp_ne (tgt := 40) hx hb dX2_onHost_20 (by decide) (fun c_2 => ?_) (fun c_2 => ?_)
        · have c_2 : ¬ xHo u k = h := fun h => c_2 ((nI_eq (by have h9 := hHo k; omega) (by have h9 := hHo k; omega)).mpr h)
          refine lv_iconst (v := nI 0) hx hb dX2_onHost_40 (by decide) ?_
          refine lv_ior hx hb dX2_onHost_41 ?_
          refine lh_top (y := nI (acc ||| 0)) (fa_or _ _) ?_
          refine lv_istore_n (lv' := [(2, .int (nI (acc ||| 0))), (3, .int (nI k)), (0, .ref (ad 0)), (1, .int (nI h))]) hx hb dX2_onHost_42 rfl hl (by decide) rfl (fun ls hl => ?_)
          refine lv_iinc (v := nI (k + 1)) (lv' := [(3, .int (nI (k + 1))), (2, .int (nI (acc ||| 0))), (0, .ref (ad 0)), (1, .int (nI h))]) hx hb dX2_onHost_43 hl (k := 1) rfl (lh_inc _) (by decide) rfl (fun ls hl => ?_)
          refine lv_goto (tgt := 4) hx hb dX2_onHost_46 (by decide) ?_
          exact ih4 (k + 1) (acc ||| 0) (by omega) (by omega) (by first | exact lh_mkt hacc (by simp [lvo, c_1, c_2]) | exact lh_mkf hacc (by simp [lvo, c_1, c_2]) | exact lh_mk0 hacc (by simp [lvo, c_1, c_2])) _ _ hP hD hS ls (lv_sub hl [0, 1, 2, 3] rfl)
        · have c_2 : xHo u k = h := (nI_eq (by have h9 := hHo k; omega) (by have h9 := hHo k; omega)).mp c_2
          refine lv_aload_n hx hb dX2_onHost_23 rfl (lv_at hl 2 rfl) ?_
          refine va_get (D := D) (ci := 2) (v := .int (nI (gn u))) (C := RX2) (T := TX2) (N := 13) hx hb hts hinX2 hown hK hP 0 rfl rfl 4 (by decide) fX2_61 (fun _ h9 => h9) rfl dX2_onHost_24 ?_
          refine lv_iload_n hx hb dX2_onHost_27 rfl (lv_at hl 0 rfl) ?_
          refine lh_cSi ⟨hx, hb, hml, hown, hts⟩ (kX2_has l D _ _ (gn u) k (by first | omega | exact gn_lt31 hM | exact gn_lt31 (by omega)) (by omega)) (va_cwS 2 hts gX2_onHost_X2_has rfl rfl rfl (by decide +kernel) ⟨Nat.le_of_ble_eq_true rfl, Nat.le_of_ble_eq_true rfl⟩) hK hN hP hD hS hA rfl hl.1 rfl (Nat.le_of_ble_eq_true rfl) ⟨Nat.le_of_ble_eq_true rfl, Nat.le_of_ble_eq_true rfl⟩ dX2_onHost_28 (fun H locs hP hD hS => ?_)
          refine lv_if_ne (tgt := 40) hx hb dX2_onHost_31 (by decide) (fun c_3 => ?_) (fun c_3 => ?_)
          · have c_3 : ((gn u).testBit k) = true := b2i_n0 c_3
            have c_3 := gnT (k := k) (by omega) c_3
            refine lv_iconst (v := nI 0) hx hb dX2_onHost_40 (by decide) ?_
            refine lv_ior hx hb dX2_onHost_41 ?_
            refine lh_top (y := nI (acc ||| 0)) (fa_or _ _) ?_
            refine lv_istore_n (lv' := [(2, .int (nI (acc ||| 0))), (3, .int (nI k)), (0, .ref (ad 0)), (1, .int (nI h))]) hx hb dX2_onHost_42 rfl hl (by decide) rfl (fun ls hl => ?_)
            refine lv_iinc (v := nI (k + 1)) (lv' := [(3, .int (nI (k + 1))), (2, .int (nI (acc ||| 0))), (0, .ref (ad 0)), (1, .int (nI h))]) hx hb dX2_onHost_43 hl (k := 1) rfl (lh_inc _) (by decide) rfl (fun ls hl => ?_)
            refine lv_goto (tgt := 4) hx hb dX2_onHost_46 (by decide) ?_
            exact ih4 (k + 1) (acc ||| 0) (by omega) (by omega) (by first | exact lh_mkt hacc (by simp [lvo, c_1, c_2, c_3]) | exact lh_mkf hacc (by simp [lvo, c_1, c_2, c_3]) | exact lh_mk0 hacc (by simp [lvo, c_1, c_2, c_3])) _ _ hP hD hS ls (lv_sub hl [0, 1, 2, 3] rfl)
          · have c_3 : ((gn u).testBit k) = false := b2i_e0 c_3
            have c_3 := gnF (k := k) (by omega) c_3
            refine lv_iconst (v := nI 1) hx hb dX2_onHost_34 (by decide) ?_
            refine lv_iload_n hx hb dX2_onHost_35 rfl (lv_at hl 0 rfl) ?_
            refine lv_ishl hx hb dX2_onHost_36 ?_
            refine lh_top (y := nI (2 ^ k)) (lh_bit (by omega)) ?_
            refine lv_goto (tgt := 41) hx hb dX2_onHost_37 (by decide) ?_
            refine lv_ior hx hb dX2_onHost_41 ?_
            refine lh_top (y := nI (acc ||| (2 ^ k))) (fa_or _ _) ?_
            refine lv_istore_n (lv' := [(2, .int (nI (acc ||| (2 ^ k)))), (3, .int (nI k)), (0, .ref (ad 0)), (1, .int (nI h))]) hx hb dX2_onHost_42 rfl hl (by decide) rfl (fun ls hl => ?_)
            refine lv_iinc (v := nI (k + 1)) (lv' := [(3, .int (nI (k + 1))), (2, .int (nI (acc ||| (2 ^ k)))), (0, .ref (ad 0)), (1, .int (nI h))]) hx hb dX2_onHost_43 hl (k := 1) rfl (lh_inc _) (by decide) rfl (fun ls hl => ?_)
            refine lv_goto (tgt := 4) hx hb dX2_onHost_46 (by decide) ?_
            exact ih4 (k + 1) (acc ||| (2 ^ k)) (by omega) (by omega) (by first | exact lh_mkt hacc (by simp [lvo, c_1, c_2, c_3]) | exact lh_mkf hacc (by simp [lvo, c_1, c_2, c_3]) | exact lh_mk0 hacc (by simp [lvo, c_1, c_2, c_3])) _ _ hP hD hS ls (lv_sub hl [0, 1, 2, 3] rfl)
  exact L4 _ 0 0 (Nat.lt_succ_self _) (by omega) (by rfl) _ _ hP hD hS ls (lv_sub hl [0, 1, 2, 3] rfl)
set_option maxRecDepth 100000 in
set_option maxHeartbeats 4000000 in
theorem kX2_rootsOf (l : Launch) (D : va_G) (cI cZ : ClassId) (ad : Nat → Nat) (u : XS) (x : Nat) (ok : okB u) (hs : x < 2147483648) : CI l D [(cI, .int), (cZ, .boolean)] yX2_rootsOf wsX2_rootsOf ({ frames := 1, cells := 0, slots := 0, locals := 21 }) [.ref (ad 0), .int (nI x)] (wM cI cZ ad u) (wM cI cZ ad u) (nI (rtO u x)) := by
  obtain ⟨hM, hW, hHo, hAb, hLb, hRb, hDb⟩ := id ok
  refine lh_CIof (cc := cX2_rootsOf) (maxL := 4) (ret := (some .int)) (own := RX2) (by decide) rfl rfl (Nat.le_of_ble_eq_true rfl) ?_
  intro p e s m below meth c A ls hx hb hr hlk hts hown hml hK hN hA hP hD hS hl
  have fX2_39 := hts (.fieldLink RX2 39 "LostHostsModel" "objects" "I") (by decide +kernel)
  have fX2_13 := hts (.fieldLink RX2 13 "LostHostsModel" "isRoot" "[Z") (by decide +kernel)
  have hinX2 : ∀ w ∈ u_ws RX2 TX2 13, w ∈ wsX2_rootsOf := by decide +kernel
  have hl : lv_has ls 4 [(0, .ref (ad 0)), (1, .int (nI x))] := hl
  refine lv_iconst (v := nI 0) hx hb dX2_rootsOf_0 (by decide) ?_
  refine lv_istore_n (lv' := [(2, .int (nI 0)), (0, .ref (ad 0)), (1, .int (nI x))]) hx hb dX2_rootsOf_1 rfl hl (by decide) rfl (fun ls hl => ?_)
  refine lv_iconst (v := nI 0) hx hb dX2_rootsOf_2 (by decide) ?_
  refine lv_istore_n (lv' := [(3, .int (nI 0)), (2, .int (nI 0)), (0, .ref (ad 0)), (1, .int (nI x))]) hx hb dX2_rootsOf_3 rfl hl (by decide) rfl (fun ls hl => ?_)
  have L4 : ∀ (n : Nat) (k : Nat) (acc : Nat), xM u - k < n → (k ≤ xM u) → (acc = mk (fun a => x.testBit a && (xR u).testBit a) k) → ∀ (H : Heap) (locs : List Loc), va_P D vwCl (wM cI cZ ad u) H → va_D A (wM cI cZ ad u) → va_S A s.heap H locs → ∀ (ls : Array Slot), lv_has ls 4 [(3, .int (nI k)), (2, .int (nI acc)), (0, .ref (ad 0)), (1, .int (nI x))] → W p l e ({ frames := 1, cells := 0, slots := 0, locals := 21 }) s m [.ref (ad 0), .int (nI x)].toArray below meth c H locs 0 0 (QI below D [(cI, .int), (cZ, .boolean)] A (wM cI cZ ad u) (nI (rtO u x)) [.ref (ad 0), .int (nI x)].toArray s) (F0 m 4 ls []) := by
    intro n
    induction n with
    | zero => intro k acc hmu; exact absurd hmu (Nat.not_lt_zero _)
    | succ n ih4 =>
      intro k acc hmu4 hk hacc H locs hP hD hS ls hl
      refine lv_iload_n hx hb dX2_rootsOf_4 rfl (lv_at hl 0 rfl) ?_
      refine lv_aload_n hx hb dX2_rootsOf_5 rfl (lv_at hl 2 rfl) ?_
      refine va_get (D := D) (ci := 2) (v := .int (nI (xM u))) (C := RX2) (T := TX2) (N := 13) hx hb hts hinX2 hown hK hP 0 rfl rfl 1 (by decide) fX2_39 (fun _ h9 => h9) rfl dX2_rootsOf_6 ?_
      refine lv_icmp_ge (tgt := 45) hx hb dX2_rootsOf_9 (by decide) (fun c_1 => ?_) (fun c_1 => ?_)
      · have c_1 : xM u ≤ k := (nI_leI (by omega) (by omega)).mp c_1
        have c_1n : ¬ k < xM u := by omega
        refine lv_iload_n hx hb dX2_rootsOf_45 rfl (lv_at hl 1 rfl) ?_
        exact lh_ri hx hb hr hlk hK hP hD hS (by rw [hacc, show k = xM u by omega]; rfl) rfl dX2_rootsOf_46
      · have c_1 : k < xM u := Nat.lt_of_not_le (fun h => c_1 ((nI_leI (by omega) (by omega)).mpr h))
        refine lv_iload_n hx hb dX2_rootsOf_12 rfl (lv_at hl 1 rfl) ?_
        refine lv_iload_n hx hb dX2_rootsOf_13 rfl (lv_at hl 3 rfl) ?_
        refine lv_iload_n hx hb dX2_rootsOf_14 rfl (lv_at hl 0 rfl) ?_
        refine lh_cSi ⟨hx, hb, hml, hown, hts⟩ (kX2_has l D _ _ x k (by first | omega | exact gn_lt31 hM | exact gn_lt31 (by omega)) (by omega)) (va_cwS 2 hts gX2_rootsOf_X2_has rfl rfl rfl (by decide +kernel) ⟨Nat.le_of_ble_eq_true rfl, Nat.le_of_ble_eq_true rfl⟩) hK hN hP hD hS hA rfl hl.1 rfl (Nat.le_of_ble_eq_true rfl) ⟨Nat.le_of_ble_eq_true rfl, Nat.le_of_ble_eq_true rfl⟩ dX2_rootsOf_15 (fun H locs hP hD hS => ?_)
        refine lv_if_eq (tgt := 36) hx hb dX2_rootsOf_18 (by decide) (fun c_2 => ?_) (fun c_2 => ?_)
        · have c_2 : (x.testBit k) = false := b2i_e0 c_2
          refine lv_iconst (v := nI 0) hx hb dX2_rootsOf_36 (by decide) ?_
          refine lv_ior hx hb dX2_rootsOf_37 ?_
          refine lh_top (y := nI (acc ||| 0)) (fa_or _ _) ?_
          refine lv_istore_n (lv' := [(2, .int (nI (acc ||| 0))), (3, .int (nI k)), (0, .ref (ad 0)), (1, .int (nI x))]) hx hb dX2_rootsOf_38 rfl hl (by decide) rfl (fun ls hl => ?_)
          refine lv_iinc (v := nI (k + 1)) (lv' := [(3, .int (nI (k + 1))), (2, .int (nI (acc ||| 0))), (0, .ref (ad 0)), (1, .int (nI x))]) hx hb dX2_rootsOf_39 hl (k := 1) rfl (lh_inc _) (by decide) rfl (fun ls hl => ?_)
          refine lv_goto (tgt := 4) hx hb dX2_rootsOf_42 (by decide) ?_
          exact ih4 (k + 1) (acc ||| 0) (by omega) (by omega) (by first | exact lh_mkt hacc (by simp [c_1, c_2]) | exact lh_mkf hacc (by simp [c_1, c_2]) | exact lh_mk0 hacc (by simp [c_1, c_2])) _ _ hP hD hS ls (lv_sub hl [0, 1, 2, 3] rfl)
        · have c_2 : (x.testBit k) = true := b2i_n0 c_2
          refine lv_aload_n hx hb dX2_rootsOf_21 rfl (lv_at hl 2 rfl) ?_
          refine va_get (D := D) (ci := 2) (v := .ref (ad 2)) (C := RX2) (T := TX2) (N := 13) hx hb hts hinX2 hown hK hP 0 rfl rfl 3 (by decide) fX2_13 (fun _ h9 => h9) rfl dX2_rootsOf_22 ?_
          refine lv_iload_n hx hb dX2_rootsOf_25 rfl (lv_at hl 0 rfl) ?_
          refine lh_zld (k := k) (N := 10) hx hb hK hP 2 1 rfl rfl (by omega) (by decide) dX2_rootsOf_26 ?_
          refine W.eq (g2 := F0 m 27 ls (.int (b2i ((xR u).testBit k)) :: [.int (nI acc)])) rfl ?_
          refine lv_if_eq (tgt := 36) hx hb dX2_rootsOf_27 (by decide) (fun c_3 => ?_) (fun c_3 => ?_)
          · have c_3 : (xR u).testBit k = false := b2i_e0 c_3
            refine lv_iconst (v := nI 0) hx hb dX2_rootsOf_36 (by decide) ?_
            refine lv_ior hx hb dX2_rootsOf_37 ?_
            refine lh_top (y := nI (acc ||| 0)) (fa_or _ _) ?_
            refine lv_istore_n (lv' := [(2, .int (nI (acc ||| 0))), (3, .int (nI k)), (0, .ref (ad 0)), (1, .int (nI x))]) hx hb dX2_rootsOf_38 rfl hl (by decide) rfl (fun ls hl => ?_)
            refine lv_iinc (v := nI (k + 1)) (lv' := [(3, .int (nI (k + 1))), (2, .int (nI (acc ||| 0))), (0, .ref (ad 0)), (1, .int (nI x))]) hx hb dX2_rootsOf_39 hl (k := 1) rfl (lh_inc _) (by decide) rfl (fun ls hl => ?_)
            refine lv_goto (tgt := 4) hx hb dX2_rootsOf_42 (by decide) ?_
            exact ih4 (k + 1) (acc ||| 0) (by omega) (by omega) (by first | exact lh_mkt hacc (by simp [c_1, c_2, c_3]) | exact lh_mkf hacc (by simp [c_1, c_2, c_3]) | exact lh_mk0 hacc (by simp [c_1, c_2, c_3])) _ _ hP hD hS ls (lv_sub hl [0, 1, 2, 3] rfl)
          · have c_3 : (xR u).testBit k = true := b2i_n0 c_3
            refine lv_iconst (v := nI 1) hx hb dX2_rootsOf_30 (by decide) ?_
            refine lv_iload_n hx hb dX2_rootsOf_31 rfl (lv_at hl 0 rfl) ?_
            refine lv_ishl hx hb dX2_rootsOf_32 ?_
            refine lh_top (y := nI (2 ^ k)) (lh_bit (by omega)) ?_
            refine lv_goto (tgt := 37) hx hb dX2_rootsOf_33 (by decide) ?_
            refine lv_ior hx hb dX2_rootsOf_37 ?_
            refine lh_top (y := nI (acc ||| (2 ^ k))) (fa_or _ _) ?_
            refine lv_istore_n (lv' := [(2, .int (nI (acc ||| (2 ^ k)))), (3, .int (nI k)), (0, .ref (ad 0)), (1, .int (nI x))]) hx hb dX2_rootsOf_38 rfl hl (by decide) rfl (fun ls hl => ?_)
            refine lv_iinc (v := nI (k + 1)) (lv' := [(3, .int (nI (k + 1))), (2, .int (nI (acc ||| (2 ^ k)))), (0, .ref (ad 0)), (1, .int (nI x))]) hx hb dX2_rootsOf_39 hl (k := 1) rfl (lh_inc _) (by decide) rfl (fun ls hl => ?_)
            refine lv_goto (tgt := 4) hx hb dX2_rootsOf_42 (by decide) ?_
            exact ih4 (k + 1) (acc ||| (2 ^ k)) (by omega) (by omega) (by first | exact lh_mkt hacc (by simp [c_1, c_2, c_3]) | exact lh_mkf hacc (by simp [c_1, c_2, c_3]) | exact lh_mk0 hacc (by simp [c_1, c_2, c_3])) _ _ hP hD hS ls (lv_sub hl [0, 1, 2, 3] rfl)
  exact L4 _ 0 0 (Nat.lt_succ_self _) (by omega) (by rfl) _ _ hP hD hS ls (lv_sub hl [0, 1, 2, 3] rfl)

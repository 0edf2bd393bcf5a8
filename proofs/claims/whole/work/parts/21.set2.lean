set_option maxRecDepth 100000 in
set_option maxHeartbeats 4000000 in
theorem kX1_settle (l : Launch) (D : va_G) (cI : ClassId) (ad : Nat → Nat) (u : XS) (T : Nat) (inv : Inv T u) (hT : T ≤ 1000000) : CI l D [(cI, .int)] yX1_settle wsX1_settle ({ frames := 6, cells := 0, slots := 0, locals := 136 }) [.ref (ad 0)] (wX cI ad u) (wX cI ad (stl 11 u)) (nI (stN 11 u)) := by
  have ok := inv.1
  obtain ⟨hM, hW, hHo, hAb, hLb, hRb, hDb⟩ := id ok
  refine lh_CIof (cc := cX1_settle) (maxL := 5) (ret := (some .int)) (own := RX1) (by decide) rfl rfl (Nat.le_of_ble_eq_true rfl) ?_
  intro p e s m below meth c A ls hx hb hr hlk hts hown hml hK hN hA hP hD hS hl
  have fX1_31 := hts (.fieldLink RX1 31 "LostHosts" "letters" "LLostHosts$Letters;") (by decide +kernel)
  have fX0_86 := va_Nw.use (A := [.ref (ad 0)].toArray) rfl hN.1
  have hinX0 : ∀ w ∈ u_ws RX0 TX0 4, w ∈ wsX1_settle := by decide +kernel
  have hinX1 : ∀ w ∈ u_ws RX1 TX1 10, w ∈ wsX1_settle := by decide +kernel
  have hl : lv_has ls 5 [(0, .ref (ad 0))] := hl
  refine lv_iconst (v := nI 0) hx hb dX1_settle_0 (by decide) ?_
  refine lv_istore_n (lv' := [(1, .int (nI 0)), (0, .ref (ad 0))]) hx hb dX1_settle_1 rfl hl (by decide) rfl (fun ls hl => ?_)
  refine lv_iconst (v := nI 0) hx hb dX1_settle_2 (by decide) ?_
  refine lv_istore_n (lv' := [(2, .int (nI 0)), (1, .int (nI 0)), (0, .ref (ad 0))]) hx hb dX1_settle_3 rfl hl (by decide) rfl (fun ls hl => ?_)
  have L4 : ∀ (n : Nat) (r : Nat) (g : Nat) (t : XS), 11 - r < n → (r ≤ 11) → (g ≤ 40 * r) → (stl (11 - r) t = stl 11 u ∧ g + stN (11 - r) t = stN 11 u) → (Inv T t) → ∀ (H : Heap) (locs : List Loc), va_P D vwCl (wX cI ad t) H → va_D A (wX cI ad t) → va_S A s.heap H locs → ∀ (ls : Array Slot), lv_has ls 5 [(2, .int (nI r)), (1, .int (nI g)), (0, .ref (ad 0))] → W p l e ({ frames := 6, cells := 0, slots := 0, locals := 136 }) s m [.ref (ad 0)].toArray below meth c H locs 0 0 (QI below D [(cI, .int)] A (wX cI ad (stl 11 u)) (nI (stN 11 u)) [.ref (ad 0)].toArray s) (F0 m 4 ls []) := by
    intro n
    induction n with
    | zero => intro r g t hmu; exact absurd hmu (Nat.not_lt_zero _)
    | succ n ih4 =>
      intro r g t hmu4 hr9 hgb hs hi H locs hP hD hS ls hl
      refine lv_iload_n hx hb dX1_settle_4 rfl (lv_at hl 0 rfl) ?_
      refine lv_bipush (v := nI 10) hx hb dX1_settle_5 (by decide) ?_
      refine lv_icmp_gt (tgt := 73) hx hb dX1_settle_7 (by decide) (fun c_1 => ?_) (fun c_1 => ?_)
      · have c_1 : 10 < r := (nI_ltI (by omega) (by omega)).mp c_1
        have e11 : 11 - r = 0 := by omega
        refine lv_iload_n hx hb dX1_settle_73 rfl (lv_at hl 1 rfl) ?_
        exact lh_ri hx hb hr hlk hK hP hD hS (by first | exact set_l1 hs e11 | exact set_l2 hs ebr) (by first | exact congrArg (wX cI ad) (set_w1 hs e11) | exact congrArg (wX cI ad) (set_w2 hs ebr)) dX1_settle_74
      · have c_1 : r ≤ 10 := Nat.le_of_not_lt (fun h => c_1 ((nI_ltI (by omega) (by omega)).mpr h))
        have c_1n : ¬ 10 < r := by omega
        refine lv_aload_n hx hb dX1_settle_10 rfl (lv_at hl 2 rfl) ?_
        refine lh_cVv ⟨hx, hb, hml, hown, hts⟩ (kX1_deliverAll l D cI ad t (hi.1)) (cwV 0 hts gX1_settle_X1_deliverAll rfl rfl rfl (by decide +kernel) ⟨Nat.le_of_ble_eq_true rfl, Nat.le_of_ble_eq_true rfl⟩) hK hN hP hD hS hA 0 1 rfl rfl rfl rfl hl.1 rfl (Nat.le_of_ble_eq_true rfl) ⟨Nat.le_of_ble_eq_true rfl, Nat.le_of_ble_eq_true rfl⟩ dX1_settle_11 (fun H locs hP hD hS => ?_)
        have hP : va_P D vwCl (wX cI ad (dlv t)) H := hP
        have hD : va_D A (wX cI ad (dlv t)) := hD
        refine lv_iload_n hx hb dX1_settle_14 rfl (lv_at hl 1 rfl) ?_
        refine lv_istore_n (lv' := [(3, .int (nI g)), (2, .int (nI r)), (1, .int (nI g)), (0, .ref (ad 0))]) hx hb dX1_settle_15 rfl hl (by decide) rfl (fun ls hl => ?_)
        refine lv_iconst (v := nI 0) hx hb dX1_settle_16 (by decide) ?_
        refine lv_istore (lv' := [(4, .int (nI 0)), (3, .int (nI g)), (2, .int (nI r)), (1, .int (nI g)), (0, .ref (ad 0))]) hx hb dX1_settle_17 hl (by decide) rfl (fun ls hl => ?_)
        have L19 : ∀ (n : Nat) (h : Nat) (g2 : Nat) (t2 : XS), 4 - h < n → (h ≤ 4) → (g2 ≤ 40 * r + 10 * h) → (t2 = caS h (dlv t)) → (g2 = g + caN h (dlv t)) → (Inv T t2) → ∀ (H : Heap) (locs : List Loc), va_P D vwCl (wX cI ad t2) H → va_D A (wX cI ad t2) → va_S A s.heap H locs → ∀ (ls : Array Slot), lv_has ls 5 [(4, .int (nI h)), (3, .int (nI g)), (2, .int (nI r)), (1, .int (nI g2)), (0, .ref (ad 0))] → W p l e ({ frames := 6, cells := 0, slots := 0, locals := 136 }) s m [.ref (ad 0)].toArray below meth c H locs 0 0 (QI below D [(cI, .int)] A (wX cI ad (stl 11 u)) (nI (stN 11 u)) [.ref (ad 0)].toArray s) (F0 m 19 ls []) := by
          intro n
          induction n with
          | zero => intro h g2 t2 hmu; exact absurd hmu (Nat.not_lt_zero _)
          | succ n ih19 =>
            intro h g2 t2 hmu19 hh hg3 ht2 hg2 hi2 H locs hP hD hS ls hl
            have hW2 := hi2.1.2.1
            refine lv_iload hx hb dX1_settle_19 (lv_at hl 0 rfl) ?_
            refine lv_iconst (v := nI 4) hx hb dX1_settle_21 (by decide) ?_
            refine lv_icmp_ge (tgt := 49) hx hb dX1_settle_22 (by decide) (fun c_2 => ?_) (fun c_2 => ?_)
            · have c_2 : 4 ≤ h := (nI_leI (by omega) (by omega)).mp c_2
              have c_2n : ¬ h < 4 := by omega
              obtain rfl : h = 4 := by omega
              refine lv_iload_n hx hb dX1_settle_49 rfl (lv_at hl 3 rfl) ?_
              refine lv_iload_n hx hb dX1_settle_50 rfl (lv_at hl 1 rfl) ?_
              refine lv_icmp_ne (tgt := 67) hx hb dX1_settle_51 (by decide) (fun c_3 => ?_) (fun c_3 => ?_)
              · have c_3 : ¬ g2 = g := fun h => c_3 ((nI_eq (by omega) (by omega)).mpr h)
                refine lv_iinc (v := nI (r + 1)) (lv' := [(2, .int (nI (r + 1))), (4, .int (nI 4)), (3, .int (nI g)), (1, .int (nI g2)), (0, .ref (ad 0))]) hx hb dX1_settle_67 hl (k := 2) rfl (lh_inc _) (by decide) rfl (fun ls hl => ?_)
                refine lv_goto (tgt := 4) hx hb dX1_settle_70 (by decide) ?_
                exact ih4 (r + 1) g2 t2 (by omega) (by omega) (by omega) (by first | exact set_c hs (by omega) ht2 hg2 (Or.inl c_3) | exact set_c hs (by omega) ht2 hg2 (Or.inr c_3)) (by exact hi2) _ _ hP hD hS ls (lv_sub hl [0, 3, 4] rfl)
              · have c_3 : g2 = g := (nI_eq (by omega) (by omega)).mp c_3
                refine lv_aload_n hx hb dX1_settle_54 rfl (lv_at hl 4 rfl) ?_
                refine va_get (D := D) (ci := 1) (v := .ref (ad 5)) (C := RX1) (T := TX1) (N := 10) hx hb hts hinX1 hown hK hP 0 rfl rfl 4 (by decide) fX1_31 (fun _ h9 => h9) rfl dX1_settle_55 ?_
                refine va_getN (D := D) (ci := 0) (v := .int (nI (xW t2))) (C := RX0) (T := TX0) (N := 4) hx hb hts hinX0 hown hK hP 5 rfl rfl 3 (by decide) fX0_86 (fun _ h9 => h9) rfl dX1_settle_58 ?_
                refine lv_if_ne (tgt := 67) hx hb dX1_settle_61 (by decide) (fun c_4 => ?_) (fun c_4 => ?_)
                · have c_4 : ¬ xW t2 = 0 := lh_nz c_4
                  refine lv_iinc (v := nI (r + 1)) (lv' := [(2, .int (nI (r + 1))), (4, .int (nI 4)), (3, .int (nI g)), (1, .int (nI g2)), (0, .ref (ad 0))]) hx hb dX1_settle_67 hl (k := 2) rfl (lh_inc _) (by decide) rfl (fun ls hl => ?_)
                  refine lv_goto (tgt := 4) hx hb dX1_settle_70 (by decide) ?_
                  exact ih4 (r + 1) g2 t2 (by omega) (by omega) (by omega) (by first | exact set_c hs (by omega) ht2 hg2 (Or.inl c_4) | exact set_c hs (by omega) ht2 hg2 (Or.inr c_4)) (by exact hi2) _ _ hP hD hS ls (lv_sub hl [0, 3, 4] rfl)
                · have c_4 : xW t2 = 0 := lh_z (by omega) c_4
                  have ebr := set_b (r := r) (by omega) ht2 hg2 c_3 c_4
                  refine lv_goto (tgt := 73) hx hb dX1_settle_64 (by decide) ?_
                  refine lv_iload_n hx hb dX1_settle_73 rfl (lv_at hl 3 rfl) ?_
                  exact lh_ri hx hb hr hlk hK hP hD hS (by first | exact set_l1 hs e11 | exact set_l2 hs ebr) (by first | exact congrArg (wX cI ad) (set_w1 hs e11) | exact congrArg (wX cI ad) (set_w2 hs ebr)) dX1_settle_74
            · have c_2 : h < 4 := Nat.lt_of_not_le (fun h => c_2 ((nI_leI (by omega) (by omega)).mpr h))
              refine lv_aload_n hx hb dX1_settle_25 rfl (lv_at hl 4 rfl) ?_
              refine lv_iload hx hb dX1_settle_26 (lv_at hl 0 rfl) ?_
              refine lh_cVi ⟨hx, hb, hml, hown, hts⟩ (kX1_isDead l D cI ad t2 h (by omega)) (cwV 1 hts gX1_settle_X1_isDead rfl rfl rfl (by decide +kernel) ⟨Nat.le_of_ble_eq_true rfl, Nat.le_of_ble_eq_true rfl⟩) hK hN hP hD hS hA 0 1 rfl rfl rfl rfl hl.1 rfl (Nat.le_of_ble_eq_true rfl) ⟨Nat.le_of_ble_eq_true rfl, Nat.le_of_ble_eq_true rfl⟩ dX1_settle_28 (fun H locs hP hD hS => ?_)
              refine lv_if_ne (tgt := 43) hx hb dX1_settle_31 (by decide) (fun c_5 => ?_) (fun c_5 => ?_)
              · have c_5 : ((xD t2).testBit h) = true := b2i_n0 c_5
                refine lv_iinc (v := nI (h + 1)) (lv' := [(4, .int (nI (h + 1))), (3, .int (nI g)), (2, .int (nI r)), (1, .int (nI g2)), (0, .ref (ad 0))]) hx hb dX1_settle_43 hl (k := 0) rfl (lh_inc _) (by decide) rfl (fun ls hl => ?_)
                refine lv_goto (tgt := 19) hx hb dX1_settle_46 (by decide) ?_
                exact ih19 (h + 1) g2 t2 (by omega) (by omega) (by first | omega | (have h9 := cn_le (colL t2 h); omega)) (by subst ht2; first | exact caS_t c_5 | exact caS_f c_5) (by subst ht2; first | exact caN_t hg2 c_5 | exact caN_f hg2 c_5) (by first | exact hi2 | exact Inv_colS hi2 _) _ _ hP hD hS ls (lv_sub hl [0, 1, 2, 3, 4] rfl)
              · have c_5 : ((xD t2).testBit h) = false := b2i_e0 c_5
                refine lv_iload_n hx hb dX1_settle_34 rfl (lv_at hl 3 rfl) ?_
                refine lv_aload_n hx hb dX1_settle_35 rfl (lv_at hl 4 rfl) ?_
                refine lv_iload hx hb dX1_settle_36 (lv_at hl 0 rfl) ?_
                refine lh_cVi ⟨hx, hb, hml, hown, hts⟩ (kX1_collectOn l D cI ad t2 h (hi2.1) (by omega) (by exact Inv_W hi2)) (cwV 1 hts gX1_settle_X1_collectOn rfl rfl rfl (by decide +kernel) ⟨Nat.le_of_ble_eq_true rfl, Nat.le_of_ble_eq_true rfl⟩) hK hN hP hD hS hA 0 1 rfl rfl rfl rfl hl.1 rfl (Nat.le_of_ble_eq_true rfl) ⟨Nat.le_of_ble_eq_true rfl, Nat.le_of_ble_eq_true rfl⟩ dX1_settle_38 (fun H locs hP hD hS => ?_)
                have hP : va_P D vwCl (wX cI ad (colS t2 h)) H := hP
                have hD : va_D A (wX cI ad (colS t2 h)) := hD
                refine lv_iadd hx hb dX1_settle_41 ?_
                refine lh_top (y := nI (g2 + (cn (colL t2 h)))) (nI_add _ _) ?_
                refine lv_istore_n (lv' := [(1, .int (nI (g2 + (cn (colL t2 h))))), (4, .int (nI h)), (3, .int (nI g)), (2, .int (nI r)), (0, .ref (ad 0))]) hx hb dX1_settle_42 rfl hl (by decide) rfl (fun ls hl => ?_)
                refine lv_iinc (v := nI (h + 1)) (lv' := [(4, .int (nI (h + 1))), (1, .int (nI (g2 + (cn (colL t2 h))))), (3, .int (nI g)), (2, .int (nI r)), (0, .ref (ad 0))]) hx hb dX1_settle_43 hl (k := 1) rfl (lh_inc _) (by decide) rfl (fun ls hl => ?_)
                refine lv_goto (tgt := 19) hx hb dX1_settle_46 (by decide) ?_
                exact ih19 (h + 1) (g2 + (cn (colL t2 h))) (colS t2 h) (by omega) (by omega) (by first | omega | (have h9 := cn_le (colL t2 h); omega)) (by subst ht2; first | exact caS_t c_5 | exact caS_f c_5) (by subst ht2; first | exact caN_t hg2 c_5 | exact caN_f hg2 c_5) (by first | exact hi2 | exact Inv_colS hi2 _) _ _ hP hD hS ls (lv_sub hl [0, 2, 3, 1, 4] rfl)
        exact L19 _ 0 g (dlv t) (Nat.lt_succ_self _) (by omega) (by omega) (by rfl) (by rfl) (by exact Inv_dlv hi hT) _ _ hP hD hS ls (lv_sub hl [0, 1, 2, 3, 4] rfl)
  exact L4 _ 0 0 u (Nat.lt_succ_self _) (by omega) (by omega) (by exact ⟨rfl, Nat.zero_add _⟩) (by exact inv) _ _ hP hD hS ls (lv_sub hl [0, 1, 2] rfl)
set_option maxRecDepth 100000 in
set_option maxHeartbeats 4000000 in
theorem kX2_collectsAll (l : Launch) (D : va_G) (cI cZ : ClassId) (ad : Nat → Nat) (u : XS) (T : Nat) (inv : Inv T u) : CI l D [(cI, .int), (cZ, .boolean)] yX2_collectsAll wsX2_collectsAll ({ frames := 6, cells := 0, slots := 0, locals := 141 }) [.ref (ad 0)] (wM cI cZ ad u) (wM cI cZ ad (caS 4 u)) (nI (caN 4 u)) := by
  have ok := inv.1
  obtain ⟨hM, hW, hHo, hAb, hLb, hRb, hDb⟩ := id ok
  refine lh_CIof (cc := cX2_collectsAll) (maxL := 3) (ret := (some .int)) (own := RX2) (by decide) rfl rfl (Nat.le_of_ble_eq_true rfl) ?_
  intro p e s m below meth c A ls hx hb hr hlk hts hown hml hK hN hA hP hD hS hl
  have fX2_51 := hts (.fieldLink RX2 51 "LostHostsModel" "dead" "I") (by decide +kernel)
  have hinX2 : ∀ w ∈ u_ws RX2 TX2 13, w ∈ wsX2_collectsAll := by decide +kernel
  have hl : lv_has ls 3 [(0, .ref (ad 0))] := hl
  refine lv_iconst (v := nI 0) hx hb dX2_collectsAll_0 (by decide) ?_
  refine lv_istore_n (lv' := [(1, .int (nI 0)), (0, .ref (ad 0))]) hx hb dX2_collectsAll_1 rfl hl (by decide) rfl (fun ls hl => ?_)
  refine lv_iconst (v := nI 0) hx hb dX2_collectsAll_2 (by decide) ?_
  refine lv_istore_n (lv' := [(2, .int (nI 0)), (1, .int (nI 0)), (0, .ref (ad 0))]) hx hb dX2_collectsAll_3 rfl hl (by decide) rfl (fun ls hl => ?_)
  have L4 : ∀ (n : Nat) (h : Nat) (g2 : Nat) (t2 : XS), 4 - h < n → (h ≤ 4) → (t2 = caS h u) → (g2 = 0 + caN h u) → (Inv T t2) → ∀ (H : Heap) (locs : List Loc), va_P D vwCl (wM cI cZ ad t2) H → va_D A (wM cI cZ ad t2) → va_S A s.heap H locs → ∀ (ls : Array Slot), lv_has ls 3 [(2, .int (nI h)), (1, .int (nI g2)), (0, .ref (ad 0))] → W p l e ({ frames := 6, cells := 0, slots := 0, locals := 141 }) s m [.ref (ad 0)].toArray below meth c H locs 0 0 (QI below D [(cI, .int), (cZ, .boolean)] A (wM cI cZ ad (caS 4 u)) (nI (caN 4 u)) [.ref (ad 0)].toArray s) (F0 m 4 ls []) := by
    intro n
    induction n with
    | zero => intro h g2 t2 hmu; exact absurd hmu (Nat.not_lt_zero _)
    | succ n ih4 =>
      intro h g2 t2 hmu4 hh ht2 hg2 hi2 H locs hP hD hS ls hl
      have hD2 := hi2.1.2.2.2.2.2.2
      refine lv_iload_n hx hb dX2_collectsAll_4 rfl (lv_at hl 0 rfl) ?_
      refine lv_iconst (v := nI 4) hx hb dX2_collectsAll_5 (by decide) ?_
      refine lv_icmp_ge (tgt := 38) hx hb dX2_collectsAll_6 (by decide) (fun c_1 => ?_) (fun c_1 => ?_)
      · have c_1 : 4 ≤ h := (nI_leI (by omega) (by omega)).mp c_1
        have c_1n : ¬ h < 4 := by omega
        obtain rfl : h = 4 := by omega
        refine lv_iload_n hx hb dX2_collectsAll_38 rfl (lv_at hl 1 rfl) ?_
        exact lh_ri hx hb hr hlk hK hP hD hS (by rw [hg2, Nat.zero_add]) (by rw [ht2]) dX2_collectsAll_39
      · have c_1 : h < 4 := Nat.lt_of_not_le (fun h => c_1 ((nI_leI (by omega) (by omega)).mpr h))
        refine lv_iload_n hx hb dX2_collectsAll_9 rfl (lv_at hl 1 rfl) ?_
        refine lv_aload_n hx hb dX2_collectsAll_10 rfl (lv_at hl 2 rfl) ?_
        refine va_get (D := D) (ci := 2) (v := .int (nI (xD t2))) (C := RX2) (T := TX2) (N := 13) hx hb hts hinX2 hown hK hP 0 rfl rfl 0 (by decide) fX2_51 (fun _ h9 => h9) rfl dX2_collectsAll_11 ?_
        refine lv_iload_n hx hb dX2_collectsAll_14 rfl (lv_at hl 0 rfl) ?_
        refine lh_cSi ⟨hx, hb, hml, hown, hts⟩ (kX2_has l D _ _ (xD t2) h (by first | omega | exact gn_lt31 hM | exact gn_lt31 (by omega)) (by omega)) (va_cwS 2 hts gX2_collectsAll_X2_has rfl rfl rfl (by decide +kernel) ⟨Nat.le_of_ble_eq_true rfl, Nat.le_of_ble_eq_true rfl⟩) hK hN hP hD hS hA rfl hl.1 rfl (Nat.le_of_ble_eq_true rfl) ⟨Nat.le_of_ble_eq_true rfl, Nat.le_of_ble_eq_true rfl⟩ dX2_collectsAll_15 (fun H locs hP hD hS => ?_)
        refine lv_if_eq (tgt := 25) hx hb dX2_collectsAll_18 (by decide) (fun c_2 => ?_) (fun c_2 => ?_)
        · have c_2 : ((xD t2).testBit h) = false := b2i_e0 c_2
          refine lv_aload_n hx hb dX2_collectsAll_25 rfl (lv_at hl 2 rfl) ?_
          refine lv_iload_n hx hb dX2_collectsAll_26 rfl (lv_at hl 0 rfl) ?_
          refine lh_cVi ⟨hx, hb, hml, hown, hts⟩ (kX2_collects l D cI cZ ad t2 h T (by exact hi2) (by omega)) (cwV 1 hts gX2_collectsAll_X2_collects rfl rfl rfl (by decide +kernel) ⟨Nat.le_of_ble_eq_true rfl, Nat.le_of_ble_eq_true rfl⟩) hK hN hP hD hS hA 0 2 rfl rfl rfl rfl hl.1 rfl (Nat.le_of_ble_eq_true rfl) ⟨Nat.le_of_ble_eq_true rfl, Nat.le_of_ble_eq_true rfl⟩ dX2_collectsAll_27 (fun H locs hP hD hS => ?_)
          have hP : va_P D vwCl (wM cI cZ ad (colS t2 h)) H := hP
          have hD : va_D A (wM cI cZ ad (colS t2 h)) := hD
          refine lv_iadd hx hb dX2_collectsAll_30 ?_
          refine lh_top (y := nI (g2 + (cn (colL t2 h)))) (nI_add _ _) ?_
          refine lv_istore_n (lv' := [(1, .int (nI (g2 + (cn (colL t2 h))))), (2, .int (nI h)), (0, .ref (ad 0))]) hx hb dX2_collectsAll_31 rfl hl (by decide) rfl (fun ls hl => ?_)
          refine lv_iinc (v := nI (h + 1)) (lv' := [(2, .int (nI (h + 1))), (1, .int (nI (g2 + (cn (colL t2 h))))), (0, .ref (ad 0))]) hx hb dX2_collectsAll_32 hl (k := 1) rfl (lh_inc _) (by decide) rfl (fun ls hl => ?_)
          refine lv_goto (tgt := 4) hx hb dX2_collectsAll_35 (by decide) ?_
          exact ih4 (h + 1) (g2 + (cn (colL t2 h))) (colS t2 h) (by omega) (by omega) (by subst ht2; first | exact caS_t c_2 | exact caS_f c_2) (by subst ht2; first | exact caN_t0 hg2 c_2 | exact caN_f hg2 c_2) (by first | exact hi2 | exact Inv_colS hi2 _) _ _ hP hD hS ls (lv_sub hl [0, 1, 2] rfl)
        · have c_2 : ((xD t2).testBit h) = true := b2i_n0 c_2
          refine lv_iconst (v := nI 0) hx hb dX2_collectsAll_21 (by decide) ?_
          refine lv_goto (tgt := 30) hx hb dX2_collectsAll_22 (by decide) ?_
          refine lv_iadd hx hb dX2_collectsAll_30 ?_
          refine lh_top (y := nI (g2 + 0)) (nI_add _ _) ?_
          refine lv_istore_n (lv' := [(1, .int (nI (g2 + 0))), (2, .int (nI h)), (0, .ref (ad 0))]) hx hb dX2_collectsAll_31 rfl hl (by decide) rfl (fun ls hl => ?_)
          refine lv_iinc (v := nI (h + 1)) (lv' := [(2, .int (nI (h + 1))), (1, .int (nI (g2 + 0))), (0, .ref (ad 0))]) hx hb dX2_collectsAll_32 hl (k := 1) rfl (lh_inc _) (by decide) rfl (fun ls hl => ?_)
          refine lv_goto (tgt := 4) hx hb dX2_collectsAll_35 (by decide) ?_
          exact ih4 (h + 1) (g2 + 0) t2 (by omega) (by omega) (by subst ht2; first | exact caS_t c_2 | exact caS_f c_2) (by subst ht2; first | exact caN_t0 hg2 c_2 | exact caN_f hg2 c_2) (by first | exact hi2 | exact Inv_colS hi2 _) _ _ hP hD hS ls (lv_sub hl [0, 1, 2] rfl)
  exact L4 _ 0 0 u (Nat.lt_succ_self _) (by omega) (by rfl) (by rfl) (by exact inv) _ _ hP hD hS ls (lv_sub hl [0, 1, 2] rfl)

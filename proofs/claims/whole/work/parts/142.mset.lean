set_option maxRecDepth 100000 in
set_option maxHeartbeats 4000000 in
theorem kX2_ledTo (l : Launch) (D : va_G) (cI cZ : ClassId) (ad : Nat → Nat) (u : XS) (x : Nat) (w : Nat) (ok : okB u) (hx9 : x < 1024) : CI l D [(cI, .int), (cZ, .boolean)] yX2_ledTo wsX2_ledTo ({ frames := 3, cells := 0, slots := 0, locals := 67 }) [.ref (ad 0), .int (nI x), .int (nI w)] (wM cI cZ ad u) (wM cI cZ ad u) (nI (clo (ledR u w) x)) := by
  obtain ⟨hM, hW, hHo, hAb, hLb, hRb, hDb⟩ := id ok
  refine lh_CIof (cc := cX2_ledTo) (maxL := 6) (ret := (some .int)) (own := RX2) (by decide) rfl rfl (Nat.le_of_ble_eq_true rfl) ?_
  intro p e s m below meth c A ls hx hb hr hlk hts hown hml hK hN hA hP hD hS hl
  have fX2_39 := hts (.fieldLink RX2 39 "LostHostsModel" "objects" "I") (by decide +kernel)
  have hinX2 : ∀ w ∈ u_ws RX2 TX2 13, w ∈ wsX2_ledTo := by decide +kernel
  have hl : lv_has ls 6 [(0, .ref (ad 0)), (1, .int (nI x)), (2, .int (nI w))] := hl
  refine lv_iload_n hx hb dX2_ledTo_0 rfl (lv_at hl 1 rfl) ?_
  refine lv_istore_n (lv' := [(3, .int (nI x)), (0, .ref (ad 0)), (1, .int (nI x)), (2, .int (nI w))]) hx hb dX2_ledTo_1 rfl hl (by decide) rfl (fun ls hl => ?_)
  refine lv_iconst (v := (-1)) hx hb dX2_ledTo_2 (by decide) ?_
  refine lv_istore (lv' := [(4, .int ((-1))), (3, .int (nI x)), (0, .ref (ad 0)), (1, .int (nI x)), (2, .int (nI w))]) hx hb dX2_ledTo_3 hl (by decide) rfl (fun ls hl => ?_)
  have L5 : ∀ (n : Nat) (had : Int32) (its : Nat), chm its had < n → (clx (ledR u w) (ldF u w) x its had) → ∀ (H : Heap) (locs : List Loc), va_P D vwCl (wM cI cZ ad u) H → va_D A (wM cI cZ ad u) → va_S A s.heap H locs → ∀ (ls : Array Slot), lv_has ls 6 [(4, .int (had)), (3, .int (nI its)), (0, .ref (ad 0)), (1, .int (nI x)), (2, .int (nI w))] → W p l e ({ frames := 3, cells := 0, slots := 0, locals := 67 }) s m [.ref (ad 0), .int (nI x), .int (nI w)].toArray below meth c H locs 0 0 (QI below D [(cI, .int), (cZ, .boolean)] A (wM cI cZ ad u) (nI (clo (ledR u w) x)) [.ref (ad 0), .int (nI x), .int (nI w)].toArray s) (F0 m 5 ls []) := by
    intro n
    induction n with
    | zero => intro had its hmu; exact absurd hmu (Nat.not_lt_zero _)
    | succ n ih5 =>
      intro had its hmu5 hc9 H locs hP hD hS ls hl
      have hi9 := hc9.2.1
      refine lv_iload hx hb dX2_ledTo_5 (lv_at hl 0 rfl) ?_
      refine lv_iload_n hx hb dX2_ledTo_7 rfl (lv_at hl 1 rfl) ?_
      refine lv_icmp_eq (tgt := 60) hx hb dX2_ledTo_8 (by decide) (fun c_1 => ?_) (fun c_1 => ?_)
      · have c_1r := c_1
        refine lv_iload_n hx hb dX2_ledTo_60 rfl (lv_at hl 1 rfl) ?_
        exact lh_ri hx hb hr hlk hK hP hD hS (by exact congrArg nI (clx_e hx9 hc9 c_1 (fun X e => ldF_cl e))) rfl dX2_ledTo_61
      · have c_1r := c_1
        refine lv_iload_n hx hb dX2_ledTo_11 rfl (lv_at hl 1 rfl) ?_
        refine lv_istore (lv' := [(4, .int (nI its)), (3, .int (nI its)), (0, .ref (ad 0)), (1, .int (nI x)), (2, .int (nI w))]) hx hb dX2_ledTo_12 hl (by decide) rfl (fun ls hl => ?_)
        refine lv_iconst (v := nI 0) hx hb dX2_ledTo_14 (by decide) ?_
        refine lv_istore (lv' := [(5, .int (nI 0)), (4, .int (nI its)), (3, .int (nI its)), (0, .ref (ad 0)), (1, .int (nI x)), (2, .int (nI w))]) hx hb dX2_ledTo_15 hl (by decide) rfl (fun ls hl => ?_)
        have L17 : ∀ (n : Nat) (a : Nat) (ac2 : Nat), xM u - a < n → (a ≤ xM u) → (ac2 = fol (ldst u w its) a its) → ∀ (H : Heap) (locs : List Loc), va_P D vwCl (wM cI cZ ad u) H → va_D A (wM cI cZ ad u) → va_S A s.heap H locs → ∀ (ls : Array Slot), lv_has ls 6 [(5, .int (nI a)), (4, .int (nI its)), (3, .int (nI ac2)), (0, .ref (ad 0)), (1, .int (nI x)), (2, .int (nI w))] → W p l e ({ frames := 3, cells := 0, slots := 0, locals := 67 }) s m [.ref (ad 0), .int (nI x), .int (nI w)].toArray below meth c H locs 0 0 (QI below D [(cI, .int), (cZ, .boolean)] A (wM cI cZ ad u) (nI (clo (ledR u w) x)) [.ref (ad 0), .int (nI x), .int (nI w)].toArray s) (F0 m 17 ls []) := by
          intro n
          induction n with
          | zero => intro a ac2 hmu; exact absurd hmu (Nat.not_lt_zero _)
          | succ n ih17 =>
            intro a ac2 hmu17 ha hac2 H locs hP hD hS ls hl
            refine lv_iload hx hb dX2_ledTo_17 (lv_at hl 0 rfl) ?_
            refine lv_aload_n hx hb dX2_ledTo_19 rfl (lv_at hl 3 rfl) ?_
            refine va_get (D := D) (ci := 2) (v := .int (nI (xM u))) (C := RX2) (T := TX2) (N := 13) hx hb hts hinX2 hown hK hP 0 rfl rfl 1 (by decide) fX2_39 (fun _ h9 => h9) rfl dX2_ledTo_20 ?_
            refine lv_icmp_ge (tgt := 57) hx hb dX2_ledTo_23 (by decide) (fun c_2 => ?_) (fun c_2 => ?_)
            · have c_2 : xM u ≤ a := (nI_leI (by omega) (by omega)).mp c_2
              have c_2n : ¬ a < xM u := by omega
              refine lv_goto (tgt := 5) hx hb dX2_ledTo_57 (by decide) ?_
              exact ih5 (nI its) ac2 (by rw [hac2, show a = xM u by omega]; exact chm_dec (F := ldF u w) (ldF_ok (x := x) hM its hc9.2.1) hmu5 c_1) (by rw [hac2, show a = xM u by omega]; exact clx_s hc9 (ldF_ok (x := x) hM its hc9.2.1) (fun Z h1 h2 => ldF_in hM h1 h2)) _ _ hP hD hS ls (lv_sub hl [1, 2, 3, 4, 5] rfl)
            · have c_2 : a < xM u := Nat.lt_of_not_le (fun h => c_2 ((nI_leI (by omega) (by omega)).mpr h))
              refine lv_iload_n hx hb dX2_ledTo_26 rfl (lv_at hl 2 rfl) ?_
              refine lv_iload hx hb dX2_ledTo_27 (lv_at hl 1 rfl) ?_
              refine lv_iload hx hb dX2_ledTo_29 (lv_at hl 0 rfl) ?_
              refine lh_cSi ⟨hx, hb, hml, hown, hts⟩ (kX2_has l D _ _ its a (by first | omega | exact gn_lt31 hM | exact gn_lt31 (by omega)) (by omega)) (va_cwS 2 hts gX2_ledTo_X2_has rfl rfl rfl (by decide +kernel) ⟨Nat.le_of_ble_eq_true rfl, Nat.le_of_ble_eq_true rfl⟩) hK hN hP hD hS hA rfl hl.1 rfl (Nat.le_of_ble_eq_true rfl) ⟨Nat.le_of_ble_eq_true rfl, Nat.le_of_ble_eq_true rfl⟩ dX2_ledTo_31 (fun H locs hP hD hS => ?_)
              refine lv_if_eq (tgt := 48) hx hb dX2_ledTo_34 (by decide) (fun c_3 => ?_) (fun c_3 => ?_)
              · have c_3 : (its.testBit a) = false := b2i_e0 c_3
                refine lv_iconst (v := nI 0) hx hb dX2_ledTo_48 (by decide) ?_
                refine lv_ior hx hb dX2_ledTo_49 ?_
                refine lh_top (y := nI (ac2 ||| 0)) (fa_or _ _) ?_
                refine lv_istore_n (lv' := [(3, .int (nI (ac2 ||| 0))), (5, .int (nI a)), (4, .int (nI its)), (0, .ref (ad 0)), (1, .int (nI x)), (2, .int (nI w))]) hx hb dX2_ledTo_50 rfl hl (by decide) rfl (fun ls hl => ?_)
                refine lv_iinc (v := nI (a + 1)) (lv' := [(5, .int (nI (a + 1))), (3, .int (nI (ac2 ||| 0))), (4, .int (nI its)), (0, .ref (ad 0)), (1, .int (nI x)), (2, .int (nI w))]) hx hb dX2_ledTo_51 hl (k := 1) rfl (lh_inc _) (by decide) rfl (fun ls hl => ?_)
                refine lv_goto (tgt := 17) hx hb dX2_ledTo_54 (by decide) ?_
                exact ih17 (a + 1) (ac2 ||| 0) (by omega) (by omega) (by rw [hac2]; simp [fol, ldst, ← hac2, c_1, c_2, c_3]) _ _ hP hD hS ls (lv_sub hl [0, 2, 1, 3, 4, 5] rfl)
              · have c_3 : (its.testBit a) = true := b2i_n0 c_3
                refine lv_aload_n hx hb dX2_ledTo_37 rfl (lv_at hl 3 rfl) ?_
                refine lv_iload hx hb dX2_ledTo_38 (lv_at hl 0 rfl) ?_
                refine lh_cVi ⟨hx, hb, hml, hown, hts⟩ (kX2_fromOf l D cI cZ ad u a ok (by omega)) (cwV 1 hts gX2_ledTo_X2_fromOf rfl rfl rfl (by decide +kernel) ⟨Nat.le_of_ble_eq_true rfl, Nat.le_of_ble_eq_true rfl⟩) hK hN hP hD hS hA 0 2 rfl rfl rfl rfl hl.1 rfl (Nat.le_of_ble_eq_true rfl) ⟨Nat.le_of_ble_eq_true rfl, Nat.le_of_ble_eq_true rfl⟩ dX2_ledTo_40 (fun H locs hP hD hS => ?_)
                refine lv_iload_n hx hb dX2_ledTo_43 rfl (lv_at hl 5 rfl) ?_
                refine lv_iand hx hb dX2_ledTo_44 ?_
                refine lh_top (y := nI ((frO u a) &&& w)) (fa_and _ _) ?_
                refine lv_goto (tgt := 49) hx hb dX2_ledTo_45 (by decide) ?_
                refine lv_ior hx hb dX2_ledTo_49 ?_
                refine lh_top (y := nI (ac2 ||| ((frO u a) &&& w))) (fa_or _ _) ?_
                refine lv_istore_n (lv' := [(3, .int (nI (ac2 ||| ((frO u a) &&& w)))), (5, .int (nI a)), (4, .int (nI its)), (0, .ref (ad 0)), (1, .int (nI x)), (2, .int (nI w))]) hx hb dX2_ledTo_50 rfl hl (by decide) rfl (fun ls hl => ?_)
                refine lv_iinc (v := nI (a + 1)) (lv' := [(5, .int (nI (a + 1))), (3, .int (nI (ac2 ||| ((frO u a) &&& w)))), (4, .int (nI its)), (0, .ref (ad 0)), (1, .int (nI x)), (2, .int (nI w))]) hx hb dX2_ledTo_51 hl (k := 1) rfl (lh_inc _) (by decide) rfl (fun ls hl => ?_)
                refine lv_goto (tgt := 17) hx hb dX2_ledTo_54 (by decide) ?_
                exact ih17 (a + 1) (ac2 ||| ((frO u a) &&& w)) (by omega) (by omega) (by rw [hac2]; simp [fol, ldst, ← hac2, c_1, c_2, c_3]) _ _ hP hD hS ls (lv_sub hl [0, 2, 1, 3, 4, 5] rfl)
        exact L17 _ 0 its (Nat.lt_succ_self _) (by omega) (by rfl) _ _ hP hD hS ls (lv_sub hl [0, 1, 2, 3, 4, 5] rfl)
  exact L5 _ (-1) x (Nat.lt_succ_self _) (by exact clx_0 hx9 m1_no) _ _ hP hD hS ls (lv_sub hl [0, 1, 2, 3, 4] rfl)
set_option maxRecDepth 100000 in
set_option maxHeartbeats 4000000 in
theorem kX2_backOf (l : Launch) (D : va_G) (cI cZ : ClassId) (ad : Nat → Nat) (u : XS) (b : Nat) (ok : okB u) (hb2 : b < 10) : CI l D [(cI, .int), (cZ, .boolean)] yX2_backOf wsX2_backOf ({ frames := 3, cells := 0, slots := 0, locals := 67 }) [.ref (ad 0), .int (nI b)] (wM cI cZ ad u) (wM cI cZ ad u) (nI (clo (backR u) (2 ^ b))) := by
  obtain ⟨hM, hW, hHo, hAb, hLb, hRb, hDb⟩ := id ok
  refine lh_CIof (cc := cX2_backOf) (maxL := 5) (ret := (some .int)) (own := RX2) (by decide) rfl rfl (Nat.le_of_ble_eq_true rfl) ?_
  intro p e s m below meth c A ls hx hb hr hlk hts hown hml hK hN hA hP hD hS hl
  have fX2_39 := hts (.fieldLink RX2 39 "LostHostsModel" "objects" "I") (by decide +kernel)
  have hinX2 : ∀ w ∈ u_ws RX2 TX2 13, w ∈ wsX2_backOf := by decide +kernel
  have hl : lv_has ls 5 [(0, .ref (ad 0)), (1, .int (nI b))] := hl
  refine lv_iconst (v := nI 1) hx hb dX2_backOf_0 (by decide) ?_
  refine lv_iload_n hx hb dX2_backOf_1 rfl (lv_at hl 1 rfl) ?_
  refine lv_ishl hx hb dX2_backOf_2 ?_
  refine lh_top (y := nI (2 ^ b)) (lh_bit (by omega)) ?_
  refine lv_istore_n (lv' := [(2, .int (nI (2 ^ b))), (0, .ref (ad 0)), (1, .int (nI b))]) hx hb dX2_backOf_3 rfl hl (by decide) rfl (fun ls hl => ?_)
  refine lv_iconst (v := nI 0) hx hb dX2_backOf_4 (by decide) ?_
  refine lv_istore_n (lv' := [(3, .int (nI 0)), (2, .int (nI (2 ^ b))), (0, .ref (ad 0)), (1, .int (nI b))]) hx hb dX2_backOf_5 rfl hl (by decide) rfl (fun ls hl => ?_)
  have L6 : ∀ (n : Nat) (had : Int32) (its : Nat), chm its had < n → (clx (backR u) (bkF u) (2 ^ b) its had) → ∀ (H : Heap) (locs : List Loc), va_P D vwCl (wM cI cZ ad u) H → va_D A (wM cI cZ ad u) → va_S A s.heap H locs → ∀ (ls : Array Slot), lv_has ls 5 [(3, .int (had)), (2, .int (nI its)), (0, .ref (ad 0)), (1, .int (nI b))] → W p l e ({ frames := 3, cells := 0, slots := 0, locals := 67 }) s m [.ref (ad 0), .int (nI b)].toArray below meth c H locs 0 0 (QI below D [(cI, .int), (cZ, .boolean)] A (wM cI cZ ad u) (nI (clo (backR u) (2 ^ b))) [.ref (ad 0), .int (nI b)].toArray s) (F0 m 6 ls []) := by
    intro n
    induction n with
    | zero => intro had its hmu; exact absurd hmu (Nat.not_lt_zero _)
    | succ n ih6 =>
      intro had its hmu6 hc9 H locs hP hD hS ls hl
      have hi9 := hc9.2.1
      refine lv_iload_n hx hb dX2_backOf_6 rfl (lv_at hl 0 rfl) ?_
      refine lv_iload_n hx hb dX2_backOf_7 rfl (lv_at hl 1 rfl) ?_
      refine lv_icmp_eq (tgt := 56) hx hb dX2_backOf_8 (by decide) (fun c_1 => ?_) (fun c_1 => ?_)
      · have c_1r := c_1
        refine lv_iload_n hx hb dX2_backOf_56 rfl (lv_at hl 1 rfl) ?_
        exact lh_ri hx hb hr hlk hK hP hD hS (by exact congrArg nI (clx_e (pow_lt hb2) hc9 c_1 (fun X e => bkF_cl e))) rfl dX2_backOf_57
      · have c_1r := c_1
        refine lv_iload_n hx hb dX2_backOf_11 rfl (lv_at hl 1 rfl) ?_
        refine lv_istore_n (lv' := [(3, .int (nI its)), (2, .int (nI its)), (0, .ref (ad 0)), (1, .int (nI b))]) hx hb dX2_backOf_12 rfl hl (by decide) rfl (fun ls hl => ?_)
        refine lv_iconst (v := nI 0) hx hb dX2_backOf_13 (by decide) ?_
        refine lv_istore (lv' := [(4, .int (nI 0)), (3, .int (nI its)), (2, .int (nI its)), (0, .ref (ad 0)), (1, .int (nI b))]) hx hb dX2_backOf_14 hl (by decide) rfl (fun ls hl => ?_)
        have L16 : ∀ (n : Nat) (a : Nat) (ac2 : Nat), xM u - a < n → (a ≤ xM u) → (ac2 = fol (bkst u its) a its) → ∀ (H : Heap) (locs : List Loc), va_P D vwCl (wM cI cZ ad u) H → va_D A (wM cI cZ ad u) → va_S A s.heap H locs → ∀ (ls : Array Slot), lv_has ls 5 [(4, .int (nI a)), (3, .int (nI its)), (2, .int (nI ac2)), (0, .ref (ad 0)), (1, .int (nI b))] → W p l e ({ frames := 3, cells := 0, slots := 0, locals := 67 }) s m [.ref (ad 0), .int (nI b)].toArray below meth c H locs 0 0 (QI below D [(cI, .int), (cZ, .boolean)] A (wM cI cZ ad u) (nI (clo (backR u) (2 ^ b))) [.ref (ad 0), .int (nI b)].toArray s) (F0 m 16 ls []) := by
          intro n
          induction n with
          | zero => intro a ac2 hmu; exact absurd hmu (Nat.not_lt_zero _)
          | succ n ih16 =>
            intro a ac2 hmu16 ha hac2 H locs hP hD hS ls hl
            refine lv_iload hx hb dX2_backOf_16 (lv_at hl 0 rfl) ?_
            refine lv_aload_n hx hb dX2_backOf_18 rfl (lv_at hl 3 rfl) ?_
            refine va_get (D := D) (ci := 2) (v := .int (nI (xM u))) (C := RX2) (T := TX2) (N := 13) hx hb hts hinX2 hown hK hP 0 rfl rfl 1 (by decide) fX2_39 (fun _ h9 => h9) rfl dX2_backOf_19 ?_
            refine lv_icmp_ge (tgt := 53) hx hb dX2_backOf_22 (by decide) (fun c_2 => ?_) (fun c_2 => ?_)
            · have c_2 : xM u ≤ a := (nI_leI (by omega) (by omega)).mp c_2
              have c_2n : ¬ a < xM u := by omega
              refine lv_goto (tgt := 6) hx hb dX2_backOf_53 (by decide) ?_
              exact ih6 (nI its) ac2 (by rw [hac2, show a = xM u by omega]; exact chm_dec (F := bkF u) (bkF_ok hM its hc9.2.1) hmu6 c_1) (by rw [hac2, show a = xM u by omega]; exact clx_s hc9 (bkF_ok hM its hc9.2.1) (fun Z h1 h2 => bkF_in hM h1 h2)) _ _ hP hD hS ls (lv_sub hl [1, 2, 3, 4] rfl)
            · have c_2 : a < xM u := Nat.lt_of_not_le (fun h => c_2 ((nI_leI (by omega) (by omega)).mpr h))
              refine lv_iload_n hx hb dX2_backOf_25 rfl (lv_at hl 2 rfl) ?_
              refine lv_iload_n hx hb dX2_backOf_26 rfl (lv_at hl 1 rfl) ?_
              refine lv_iload hx hb dX2_backOf_27 (lv_at hl 0 rfl) ?_
              refine lh_cSi ⟨hx, hb, hml, hown, hts⟩ (kX2_has l D _ _ its a (by first | omega | exact gn_lt31 hM | exact gn_lt31 (by omega)) (by omega)) (va_cwS 2 hts gX2_backOf_X2_has rfl rfl rfl (by decide +kernel) ⟨Nat.le_of_ble_eq_true rfl, Nat.le_of_ble_eq_true rfl⟩) hK hN hP hD hS hA rfl hl.1 rfl (Nat.le_of_ble_eq_true rfl) ⟨Nat.le_of_ble_eq_true rfl, Nat.le_of_ble_eq_true rfl⟩ dX2_backOf_29 (fun H locs hP hD hS => ?_)
              refine lv_if_eq (tgt := 44) hx hb dX2_backOf_32 (by decide) (fun c_3 => ?_) (fun c_3 => ?_)
              · have c_3 : (its.testBit a) = false := b2i_e0 c_3
                refine lv_iconst (v := nI 0) hx hb dX2_backOf_44 (by decide) ?_
                refine lv_ior hx hb dX2_backOf_45 ?_
                refine lh_top (y := nI (ac2 ||| 0)) (fa_or _ _) ?_
                refine lv_istore_n (lv' := [(2, .int (nI (ac2 ||| 0))), (4, .int (nI a)), (3, .int (nI its)), (0, .ref (ad 0)), (1, .int (nI b))]) hx hb dX2_backOf_46 rfl hl (by decide) rfl (fun ls hl => ?_)
                refine lv_iinc (v := nI (a + 1)) (lv' := [(4, .int (nI (a + 1))), (2, .int (nI (ac2 ||| 0))), (3, .int (nI its)), (0, .ref (ad 0)), (1, .int (nI b))]) hx hb dX2_backOf_47 hl (k := 1) rfl (lh_inc _) (by decide) rfl (fun ls hl => ?_)
                refine lv_goto (tgt := 16) hx hb dX2_backOf_50 (by decide) ?_
                exact ih16 (a + 1) (ac2 ||| 0) (by omega) (by omega) (by rw [hac2]; simp [fol, bkst, ← hac2, c_1, c_2, c_3]) _ _ hP hD hS ls (lv_sub hl [0, 2, 1, 3, 4] rfl)
              · have c_3 : (its.testBit a) = true := b2i_n0 c_3
                refine lv_aload_n hx hb dX2_backOf_35 rfl (lv_at hl 3 rfl) ?_
                refine lv_iload hx hb dX2_backOf_36 (lv_at hl 0 rfl) ?_
                refine lh_cVi ⟨hx, hb, hml, hown, hts⟩ (kX2_toOf l D cI cZ ad u a ok (by omega)) (cwV 1 hts gX2_backOf_X2_toOf rfl rfl rfl (by decide +kernel) ⟨Nat.le_of_ble_eq_true rfl, Nat.le_of_ble_eq_true rfl⟩) hK hN hP hD hS hA 0 2 rfl rfl rfl rfl hl.1 rfl (Nat.le_of_ble_eq_true rfl) ⟨Nat.le_of_ble_eq_true rfl, Nat.le_of_ble_eq_true rfl⟩ dX2_backOf_38 (fun H locs hP hD hS => ?_)
                refine lv_goto (tgt := 45) hx hb dX2_backOf_41 (by decide) ?_
                refine lv_ior hx hb dX2_backOf_45 ?_
                refine lh_top (y := nI (ac2 ||| (toO u a))) (fa_or _ _) ?_
                refine lv_istore_n (lv' := [(2, .int (nI (ac2 ||| (toO u a)))), (4, .int (nI a)), (3, .int (nI its)), (0, .ref (ad 0)), (1, .int (nI b))]) hx hb dX2_backOf_46 rfl hl (by decide) rfl (fun ls hl => ?_)
                refine lv_iinc (v := nI (a + 1)) (lv' := [(4, .int (nI (a + 1))), (2, .int (nI (ac2 ||| (toO u a)))), (3, .int (nI its)), (0, .ref (ad 0)), (1, .int (nI b))]) hx hb dX2_backOf_47 hl (k := 1) rfl (lh_inc _) (by decide) rfl (fun ls hl => ?_)
                refine lv_goto (tgt := 16) hx hb dX2_backOf_50 (by decide) ?_
                exact ih16 (a + 1) (ac2 ||| (toO u a)) (by omega) (by omega) (by rw [hac2]; simp [fol, bkst, ← hac2, c_1, c_2, c_3]) _ _ hP hD hS ls (lv_sub hl [0, 2, 1, 3, 4] rfl)
        exact L16 _ 0 its (Nat.lt_succ_self _) (by omega) (by rfl) _ _ hP hD hS ls (lv_sub hl [0, 1, 2, 3, 4] rfl)
  exact L6 _ (nI 0) (2 ^ b) (Nat.lt_succ_self _) (by exact clx_0 (pow_lt hb2) m0_no) _ _ hP hD hS ls (lv_sub hl [0, 1, 2, 3] rfl)
set_option maxRecDepth 100000 in
set_option maxHeartbeats 4000000 in
theorem kX2_heldBy (l : Launch) (D : va_G) (cI cZ : ClassId) (ad : Nat → Nat) (u : XS) (x : Nat) (ok : okB u) (hx9 : x < 1024) (hR9 : ∀ k, (xR u).testBit k = true → k < xM u) : CI l D [(cI, .int), (cZ, .boolean)] yX2_heldBy wsX2_heldBy ({ frames := 2, cells := 0, slots := 0, locals := 44 }) [.ref (ad 0), .int (nI x)] (wM cI cZ ad u) (wM cI cZ ad u) (nI (hel u x)) := by
  obtain ⟨hM, hW, hHo, hAb, hLb, hRb, hDb⟩ := id ok
  refine lh_CIof (cc := cX2_heldBy) (maxL := 4) (ret := (some .int)) (own := RX2) (by decide) rfl rfl (Nat.le_of_ble_eq_true rfl) ?_
  intro p e s m below meth c A ls hx hb hr hlk hts hown hml hK hN hA hP hD hS hl
  have fX2_74 := hts (.fieldLink RX2 74 "LostHostsModel" "letters" "I") (by decide +kernel)
  have fX2_29 := hts (.fieldLink RX2 29 "LostHostsModel" "toOne" "[I") (by decide +kernel)
  have fX2_26 := hts (.fieldLink RX2 26 "LostHostsModel" "about" "[I") (by decide +kernel)
  have hinX2 : ∀ w ∈ u_ws RX2 TX2 13, w ∈ wsX2_heldBy := by decide +kernel
  have hl : lv_has ls 4 [(0, .ref (ad 0)), (1, .int (nI x))] := hl
  refine lv_iconst (v := nI 0) hx hb dX2_heldBy_0 (by decide) ?_
  refine lv_istore_n (lv' := [(2, .int (nI 0)), (0, .ref (ad 0)), (1, .int (nI x))]) hx hb dX2_heldBy_1 rfl hl (by decide) rfl (fun ls hl => ?_)
  refine lv_iconst (v := nI 0) hx hb dX2_heldBy_2 (by decide) ?_
  refine lv_istore_n (lv' := [(3, .int (nI 0)), (2, .int (nI 0)), (0, .ref (ad 0)), (1, .int (nI x))]) hx hb dX2_heldBy_3 rfl hl (by decide) rfl (fun ls hl => ?_)
  have L4 : ∀ (n : Nat) (k : Nat) (gr : Bool), xW u - k < n → (k ≤ xW u) → (gr = anb (fun k => decide (xRc u k < 10) && x.testBit (xAb u k)) k) → ∀ (H : Heap) (locs : List Loc), va_P D vwCl (wM cI cZ ad u) H → va_D A (wM cI cZ ad u) → va_S A s.heap H locs → ∀ (ls : Array Slot), lv_has ls 4 [(3, .int (nI k)), (2, .int (b2i gr)), (0, .ref (ad 0)), (1, .int (nI x))] → W p l e ({ frames := 2, cells := 0, slots := 0, locals := 44 }) s m [.ref (ad 0), .int (nI x)].toArray below meth c H locs 0 0 (QI below D [(cI, .int), (cZ, .boolean)] A (wM cI cZ ad u) (nI (hel u x)) [.ref (ad 0), .int (nI x)].toArray s) (F0 m 4 ls []) := by
    intro n
    induction n with
    | zero => intro k gr hmu; exact absurd hmu (Nat.not_lt_zero _)
    | succ n ih4 =>
      intro k gr hmu4 hk hgr H locs hP hD hS ls hl
      refine lv_iload_n hx hb dX2_heldBy_4 rfl (lv_at hl 0 rfl) ?_
      refine lv_aload_n hx hb dX2_heldBy_5 rfl (lv_at hl 2 rfl) ?_
      refine va_get (D := D) (ci := 2) (v := .int (nI (xW u))) (C := RX2) (T := TX2) (N := 13) hx hb hts hinX2 hown hK hP 0 rfl rfl 8 (by decide) fX2_74 (fun _ h9 => h9) rfl dX2_heldBy_6 ?_
      refine lv_icmp_ge (tgt := 52) hx hb dX2_heldBy_9 (by decide) (fun c_1 => ?_) (fun c_1 => ?_)
      · have c_1 : xW u ≤ k := (nI_leI (by omega) (by omega)).mp c_1
        have c_1n : ¬ k < xW u := by omega
        refine lv_aload_n hx hb dX2_heldBy_52 rfl (lv_at hl 2 rfl) ?_
        refine lv_iload_n hx hb dX2_heldBy_53 rfl (lv_at hl 3 rfl) ?_
        refine lh_cVi ⟨hx, hb, hml, hown, hts⟩ (kX2_rootsOf l D cI cZ ad u x ok (by first | omega | exact gn_lt31 hM | exact gn_lt31 (by omega))) (cwV 1 hts gX2_heldBy_X2_rootsOf rfl rfl rfl (by decide +kernel) ⟨Nat.le_of_ble_eq_true rfl, Nat.le_of_ble_eq_true rfl⟩) hK hN hP hD hS hA 0 2 rfl rfl rfl rfl hl.1 rfl (Nat.le_of_ble_eq_true rfl) ⟨Nat.le_of_ble_eq_true rfl, Nat.le_of_ble_eq_true rfl⟩ dX2_heldBy_54 (fun H locs hP hD hS => ?_)
        refine lv_if_eq (tgt := 64) hx hb dX2_heldBy_57 (by decide) (fun c_2 => ?_) (fun c_2 => ?_)
        · have c_2 : (rtO u x) = 0 := lh_z (by have h9 := rtO_lt hM x; omega) c_2
          refine lv_iload_n hx hb dX2_heldBy_64 rfl (lv_at hl 1 rfl) ?_
          refine lv_if_eq (tgt := 72) hx hb dX2_heldBy_65 (by decide) (fun c_3 => ?_) (fun c_3 => ?_)
          · have c_3 : gr = false := b2i_e0 c_3
            refine lv_iconst (v := nI 0) hx hb dX2_heldBy_72 (by decide) ?_
            exact lh_ri hx hb hr hlk hK hP hD hS (by have e8 : k = xW u := (by omega); subst e8; unfold hel; rw [← rtO_and hR9 x, ← hgr]; simp [nI_0, nI_o, c_1n, c_1, c_2, c_3]) rfl dX2_heldBy_73
          · have c_3 : gr = true := b2i_n0 c_3
            refine lv_iconst (v := nI 2) hx hb dX2_heldBy_68 (by decide) ?_
            refine lv_goto (tgt := 73) hx hb dX2_heldBy_69 (by decide) ?_
            exact lh_ri hx hb hr hlk hK hP hD hS (by have e8 : k = xW u := (by omega); subst e8; unfold hel; rw [← rtO_and hR9 x, ← hgr]; simp [nI_0, nI_o, c_1n, c_1, c_2, c_3]) rfl dX2_heldBy_73
        · have c_2 : ¬ (rtO u x) = 0 := lh_nz c_2
          refine lv_iconst (v := nI 1) hx hb dX2_heldBy_60 (by decide) ?_
          refine lv_goto (tgt := 73) hx hb dX2_heldBy_61 (by decide) ?_
          exact lh_ri hx hb hr hlk hK hP hD hS (by have e8 : k = xW u := (by omega); subst e8; unfold hel; rw [← rtO_and hR9 x, ← hgr]; simp [nI_0, nI_o, c_1n, c_1, c_2]) rfl dX2_heldBy_73
      · have c_1 : k < xW u := Nat.lt_of_not_le (fun h => c_1 ((nI_leI (by omega) (by omega)).mpr h))
        refine lv_iload_n hx hb dX2_heldBy_12 rfl (lv_at hl 1 rfl) ?_
        refine lv_if_ne (tgt := 40) hx hb dX2_heldBy_13 (by decide) (fun c_4 => ?_) (fun c_4 => ?_)
        · have c_4 : gr = true := b2i_n0 c_4
          refine lv_iconst (v := nI 1) hx hb dX2_heldBy_40 (by decide) ?_
          refine lv_goto (tgt := 45) hx hb dX2_heldBy_41 (by decide) ?_
          refine lv_istore_n (lv' := [(2, .int (nI 1)), (3, .int (nI k)), (0, .ref (ad 0)), (1, .int (nI x))]) hx hb dX2_heldBy_45 rfl hl (by decide) rfl (fun ls hl => ?_)
          refine lv_iinc (v := nI (k + 1)) (lv' := [(3, .int (nI (k + 1))), (2, .int (nI 1)), (0, .ref (ad 0)), (1, .int (nI x))]) hx hb dX2_heldBy_46 hl (k := 1) rfl (lh_inc _) (by decide) rfl (fun ls hl => ?_)
          refine lv_goto (tgt := 4) hx hb dX2_heldBy_49 (by decide) ?_
          exact ih4 (k + 1) true (by omega) (by omega) (by show _ = (anb _ k || _); rw [← hgr]; simp [c_1, c_4]) _ _ hP hD hS ls (lv_sub hl [0, 1, 2, 3] rfl)
        · have c_4 : gr = false := b2i_e0 c_4
          refine lv_aload_n hx hb dX2_heldBy_16 rfl (lv_at hl 2 rfl) ?_
          refine va_get (D := D) (ci := 2) (v := .ref (ad 7)) (C := RX2) (T := TX2) (N := 13) hx hb hts hinX2 hown hK hP 0 rfl rfl 10 (by decide) fX2_29 (fun _ h9 => h9) rfl dX2_heldBy_17 ?_
          refine lv_iload_n hx hb dX2_heldBy_20 rfl (lv_at hl 0 rfl) ?_
          refine lh_ild (k := k) (N := 512) hx hb hK hP 7 0 rfl rfl (by omega) (by decide) dX2_heldBy_21 ?_
          refine W.eq (g2 := F0 m 22 ls (.int (rv (xRc u k)) :: [])) rfl ?_
          refine lv_bipush (v := (-9)) hx hb dX2_heldBy_22 (by decide) ?_
          refine lv_icmp_eq (tgt := 44) hx hb dX2_heldBy_24 (by decide) (fun c_5 => ?_) (fun c_5 => ?_)
          · have c_5 : ¬ (xRc u k) < 10 := rv_eq9 c_5
            refine lv_iconst (v := nI 0) hx hb dX2_heldBy_44 (by decide) ?_
            refine lv_istore_n (lv' := [(2, .int (nI 0)), (3, .int (nI k)), (0, .ref (ad 0)), (1, .int (nI x))]) hx hb dX2_heldBy_45 rfl hl (by decide) rfl (fun ls hl => ?_)
            refine lv_iinc (v := nI (k + 1)) (lv' := [(3, .int (nI (k + 1))), (2, .int (nI 0)), (0, .ref (ad 0)), (1, .int (nI x))]) hx hb dX2_heldBy_46 hl (k := 1) rfl (lh_inc _) (by decide) rfl (fun ls hl => ?_)
            refine lv_goto (tgt := 4) hx hb dX2_heldBy_49 (by decide) ?_
            exact ih4 (k + 1) false (by omega) (by omega) (by show _ = (anb _ k || _); rw [← hgr]; simp [c_1, c_4, c_5]) _ _ hP hD hS ls (lv_sub hl [0, 1, 2, 3] rfl)
          · have c_5 : (xRc u k) < 10 := rv_ne9 c_5
            refine lv_iload_n hx hb dX2_heldBy_27 rfl (lv_at hl 3 rfl) ?_
            refine lv_aload_n hx hb dX2_heldBy_28 rfl (lv_at hl 2 rfl) ?_
            refine va_get (D := D) (ci := 2) (v := .ref (ad 6)) (C := RX2) (T := TX2) (N := 13) hx hb hts hinX2 hown hK hP 0 rfl rfl 9 (by decide) fX2_26 (fun _ h9 => h9) rfl dX2_heldBy_29 ?_
            refine lv_iload_n hx hb dX2_heldBy_32 rfl (lv_at hl 0 rfl) ?_
            refine lh_ild (k := k) (N := 512) hx hb hK hP 6 0 rfl rfl (by omega) (by decide) dX2_heldBy_33 ?_
            refine W.eq (g2 := F0 m 34 ls (.int (nI (xAb u k)) :: [.int (nI x)])) rfl ?_
            refine lh_cSi ⟨hx, hb, hml, hown, hts⟩ (kX2_has l D _ _ x (xAb u k) (by first | omega | exact gn_lt31 hM | exact gn_lt31 (by omega)) (by have h9 := hAb k; omega)) (va_cwS 2 hts gX2_heldBy_X2_has rfl rfl rfl (by decide +kernel) ⟨Nat.le_of_ble_eq_true rfl, Nat.le_of_ble_eq_true rfl⟩) hK hN hP hD hS hA rfl hl.1 rfl (Nat.le_of_ble_eq_true rfl) ⟨Nat.le_of_ble_eq_true rfl, Nat.le_of_ble_eq_true rfl⟩ dX2_heldBy_34 (fun H locs hP hD hS => ?_)
            refine lv_if_eq (tgt := 44) hx hb dX2_heldBy_37 (by decide) (fun c_6 => ?_) (fun c_6 => ?_)
            · have c_6 : (x.testBit (xAb u k)) = false := b2i_e0 c_6
              refine lv_iconst (v := nI 0) hx hb dX2_heldBy_44 (by decide) ?_
              refine lv_istore_n (lv' := [(2, .int (nI 0)), (3, .int (nI k)), (0, .ref (ad 0)), (1, .int (nI x))]) hx hb dX2_heldBy_45 rfl hl (by decide) rfl (fun ls hl => ?_)
              refine lv_iinc (v := nI (k + 1)) (lv' := [(3, .int (nI (k + 1))), (2, .int (nI 0)), (0, .ref (ad 0)), (1, .int (nI x))]) hx hb dX2_heldBy_46 hl (k := 1) rfl (lh_inc _) (by decide) rfl (fun ls hl => ?_)
              refine lv_goto (tgt := 4) hx hb dX2_heldBy_49 (by decide) ?_
              exact ih4 (k + 1) false (by omega) (by omega) (by show _ = (anb _ k || _); rw [← hgr]; simp [c_1, c_4, c_5, c_6]) _ _ hP hD hS ls (lv_sub hl [0, 1, 2, 3] rfl)
            · have c_6 : (x.testBit (xAb u k)) = true := b2i_n0 c_6
              refine lv_iconst (v := nI 1) hx hb dX2_heldBy_40 (by decide) ?_
              refine lv_goto (tgt := 45) hx hb dX2_heldBy_41 (by decide) ?_
              refine lv_istore_n (lv' := [(2, .int (nI 1)), (3, .int (nI k)), (0, .ref (ad 0)), (1, .int (nI x))]) hx hb dX2_heldBy_45 rfl hl (by decide) rfl (fun ls hl => ?_)
              refine lv_iinc (v := nI (k + 1)) (lv' := [(3, .int (nI (k + 1))), (2, .int (nI 1)), (0, .ref (ad 0)), (1, .int (nI x))]) hx hb dX2_heldBy_46 hl (k := 1) rfl (lh_inc _) (by decide) rfl (fun ls hl => ?_)
              refine lv_goto (tgt := 4) hx hb dX2_heldBy_49 (by decide) ?_
              exact ih4 (k + 1) true (by omega) (by omega) (by show _ = (anb _ k || _); rw [← hgr]; simp [c_1, c_4, c_5, c_6]) _ _ hP hD hS ls (lv_sub hl [0, 1, 2, 3] rfl)
  exact L4 _ 0 false (Nat.lt_succ_self _) (by omega) (by rfl) _ _ hP hD hS ls (lv_sub hl [0, 1, 2, 3] rfl)
set_option maxRecDepth 100000 in
set_option maxHeartbeats 4000000 in
theorem kX2_heldOf (l : Launch) (D : va_G) (cI cZ : ClassId) (ad : Nat → Nat) (u : XS) (b : Nat) (al : Bool) (ok : okB u) (hb2 : b < 10) : CI l D [(cI, .int), (cZ, .boolean)] yX2_heldOf wsX2_heldOf ({ frames := 2, cells := 0, slots := 0, locals := 44 }) [.ref (ad 0), .int (nI b), .int (b2i al)] (wM cI cZ ad u) (wM cI cZ ad u) ((inL u b + inE u b al)) := by
  obtain ⟨hM, hW, hHo, hAb, hLb, hRb, hDb⟩ := id ok
  refine lh_CIof (cc := cX2_heldOf) (maxL := 5) (ret := (some .int)) (own := RX2) (by decide) rfl rfl (Nat.le_of_ble_eq_true rfl) ?_
  intro p e s m below meth c A ls hx hb hr hlk hts hown hml hK hN hA hP hD hS hl
  have fX2_39 := hts (.fieldLink RX2 39 "LostHostsModel" "objects" "I") (by decide +kernel)
  have fX2_74 := hts (.fieldLink RX2 74 "LostHostsModel" "letters" "I") (by decide +kernel)
  have fX2_26 := hts (.fieldLink RX2 26 "LostHostsModel" "about" "[I") (by decide +kernel)
  have fX2_32 := hts (.fieldLink RX2 32 "LostHostsModel" "weightIn" "[I") (by decide +kernel)
  have fX2_51 := hts (.fieldLink RX2 51 "LostHostsModel" "dead" "I") (by decide +kernel)
  have hinX2 : ∀ w ∈ u_ws RX2 TX2 13, w ∈ wsX2_heldOf := by decide +kernel
  have hl : lv_has ls 5 [(0, .ref (ad 0)), (1, .int (nI b)), (2, .int (b2i al))] := hl
  refine lv_iconst (v := nI 0) hx hb dX2_heldOf_0 (by decide) ?_
  refine lv_istore_n (lv' := [(3, .int (nI 0)), (0, .ref (ad 0)), (1, .int (nI b)), (2, .int (b2i al))]) hx hb dX2_heldOf_1 rfl hl (by decide) rfl (fun ls hl => ?_)
  refine lv_iconst (v := nI 0) hx hb dX2_heldOf_2 (by decide) ?_
  refine lv_istore (lv' := [(4, .int (nI 0)), (3, .int (nI 0)), (0, .ref (ad 0)), (1, .int (nI b)), (2, .int (b2i al))]) hx hb dX2_heldOf_3 hl (by decide) rfl (fun ls hl => ?_)
  have L5 : ∀ (n : Nat) (k : Nat) (acc : Int32), xM u - k < n → (k ≤ xM u) → (acc = sum (fun a => if lnk u a b then xLi u (a * 10 + b) else 0) k) → ∀ (H : Heap) (locs : List Loc), va_P D vwCl (wM cI cZ ad u) H → va_D A (wM cI cZ ad u) → va_S A s.heap H locs → ∀ (ls : Array Slot), lv_has ls 5 [(4, .int (nI k)), (3, .int (acc)), (0, .ref (ad 0)), (1, .int (nI b)), (2, .int (b2i al))] → W p l e ({ frames := 2, cells := 0, slots := 0, locals := 44 }) s m [.ref (ad 0), .int (nI b), .int (b2i al)].toArray below meth c H locs 0 0 (QI below D [(cI, .int), (cZ, .boolean)] A (wM cI cZ ad u) ((inL u b + inE u b al)) [.ref (ad 0), .int (nI b), .int (b2i al)].toArray s) (F0 m 5 ls []) := by
    intro n
    induction n with
    | zero => intro k acc hmu; exact absurd hmu (Nat.not_lt_zero _)
    | succ n ih5 =>
      intro k acc hmu5 hk hacc H locs hP hD hS ls hl
      refine lv_iload hx hb dX2_heldOf_5 (lv_at hl 0 rfl) ?_
      refine lv_aload_n hx hb dX2_heldOf_7 rfl (lv_at hl 2 rfl) ?_
      refine va_get (D := D) (ci := 2) (v := .int (nI (xM u))) (C := RX2) (T := TX2) (N := 13) hx hb hts hinX2 hown hK hP 0 rfl rfl 1 (by decide) fX2_39 (fun _ h9 => h9) rfl dX2_heldOf_8 ?_
      refine lv_icmp_ge (tgt := 44) hx hb dX2_heldOf_11 (by decide) (fun c_1 => ?_) (fun c_1 => ?_)
      · have c_1 : xM u ≤ k := (nI_leI (by omega) (by omega)).mp c_1
        have c_1n : ¬ k < xM u := by omega
        refine lv_iconst (v := nI 0) hx hb dX2_heldOf_44 (by decide) ?_
        refine lv_istore (lv' := [(4, .int (nI 0)), (3, .int (acc)), (0, .ref (ad 0)), (1, .int (nI b)), (2, .int (b2i al))]) hx hb dX2_heldOf_45 hl (by decide) rfl (fun ls hl => ?_)
        have L47 : ∀ (n : Nat) (k2 : Nat) (ac2 : Int32), xW u - k2 < n → (k2 ≤ xW u) → (ac2 = inL u b + sum (fun k => if xAb u k = b then (if al then xLo u k else if (xD u).testBit (goT u k) then 0 else xLo u k) else 0) k2) → ∀ (H : Heap) (locs : List Loc), va_P D vwCl (wM cI cZ ad u) H → va_D A (wM cI cZ ad u) → va_S A s.heap H locs → ∀ (ls : Array Slot), lv_has ls 5 [(4, .int (nI k2)), (3, .int (ac2)), (0, .ref (ad 0)), (1, .int (nI b)), (2, .int (b2i al))] → W p l e ({ frames := 2, cells := 0, slots := 0, locals := 44 }) s m [.ref (ad 0), .int (nI b), .int (b2i al)].toArray below meth c H locs 0 0 (QI below D [(cI, .int), (cZ, .boolean)] A (wM cI cZ ad u) ((inL u b + inE u b al)) [.ref (ad 0), .int (nI b), .int (b2i al)].toArray s) (F0 m 47 ls []) := by
          intro n
          induction n with
          | zero => intro k2 ac2 hmu; exact absurd hmu (Nat.not_lt_zero _)
          | succ n ih47 =>
            intro k2 ac2 hmu47 hk2 hac2 H locs hP hD hS ls hl
            refine lv_iload hx hb dX2_heldOf_47 (lv_at hl 0 rfl) ?_
            refine lv_aload_n hx hb dX2_heldOf_49 rfl (lv_at hl 2 rfl) ?_
            refine va_get (D := D) (ci := 2) (v := .int (nI (xW u))) (C := RX2) (T := TX2) (N := 13) hx hb hts hinX2 hown hK hP 0 rfl rfl 8 (by decide) fX2_74 (fun _ h9 => h9) rfl dX2_heldOf_50 ?_
            refine lv_icmp_ge (tgt := 107) hx hb dX2_heldOf_53 (by decide) (fun c_2 => ?_) (fun c_2 => ?_)
            · have c_2 : xW u ≤ k2 := (nI_leI (by omega) (by omega)).mp c_2
              have c_2n : ¬ k2 < xW u := by omega
              refine lv_iload_n hx hb dX2_heldOf_107 rfl (lv_at hl 1 rfl) ?_
              exact lh_ri hx hb hr hlk hK hP hD hS (by rw [hac2, show k2 = xW u by omega]; rfl) rfl dX2_heldOf_108
            · have c_2 : k2 < xW u := Nat.lt_of_not_le (fun h => c_2 ((nI_leI (by omega) (by omega)).mpr h))
              refine lv_iload_n hx hb dX2_heldOf_56 rfl (lv_at hl 1 rfl) ?_
              refine lv_aload_n hx hb dX2_heldOf_57 rfl (lv_at hl 2 rfl) ?_
              refine va_get (D := D) (ci := 2) (v := .ref (ad 6)) (C := RX2) (T := TX2) (N := 13) hx hb hts hinX2 hown hK hP 0 rfl rfl 9 (by decide) fX2_26 (fun _ h9 => h9) rfl dX2_heldOf_58 ?_
              refine lv_iload hx hb dX2_heldOf_61 (lv_at hl 0 rfl) ?_
              refine lh_ild (k := k2) (N := 512) hx hb hK hP 6 0 rfl rfl (by omega) (by decide) dX2_heldOf_63 ?_
              refine W.eq (g2 := F0 m 64 ls (.int (nI (xAb u k2)) :: [.int (ac2)])) rfl ?_
              refine lv_iload_n hx hb dX2_heldOf_64 rfl (lv_at hl 3 rfl) ?_
              refine lv_icmp_ne (tgt := 98) hx hb dX2_heldOf_65 (by decide) (fun c_3 => ?_) (fun c_3 => ?_)
              · have c_3 : ¬ xAb u k2 = b := fun h => c_3 ((nI_eq (by have h9 := hAb k2; omega) (by have h9 := hAb k2; omega)).mpr h)
                refine lv_iconst (v := nI 0) hx hb dX2_heldOf_98 (by decide) ?_
                refine lv_iadd hx hb dX2_heldOf_99 ?_
                refine lv_istore_n (lv' := [(3, .int ((ac2 + nI 0))), (4, .int (nI k2)), (0, .ref (ad 0)), (1, .int (nI b)), (2, .int (b2i al))]) hx hb dX2_heldOf_100 rfl hl (by decide) rfl (fun ls hl => ?_)
                refine lv_iinc (v := nI (k2 + 1)) (lv' := [(4, .int (nI (k2 + 1))), (3, .int ((ac2 + nI 0))), (0, .ref (ad 0)), (1, .int (nI b)), (2, .int (b2i al))]) hx hb dX2_heldOf_101 hl (k := 1) rfl (lh_inc _) (by decide) rfl (fun ls hl => ?_)
                refine lv_goto (tgt := 47) hx hb dX2_heldOf_104 (by decide) ?_
                exact ih47 (k2 + 1) (ac2 + nI 0) (by omega) (by omega) (by first | exact lh_sum2 hac2 (by simp [nI_0, c_1n, c_1, c_2, c_3]) | exact lh_sum2z hac2 (by simp [nI_0, c_1n, c_1, c_2, c_3])) _ _ hP hD hS ls (lv_sub hl [0, 1, 2, 3, 4] rfl)
              · have c_3 : xAb u k2 = b := (nI_eq (by have h9 := hAb k2; omega) (by have h9 := hAb k2; omega)).mp c_3
                refine lv_iload_n hx hb dX2_heldOf_68 rfl (lv_at hl 4 rfl) ?_
                refine lv_if_ne (tgt := 88) hx hb dX2_heldOf_69 (by decide) (fun c_4 => ?_) (fun c_4 => ?_)
                · have c_4 : al = true := b2i_n0 c_4
                  refine lv_aload_n hx hb dX2_heldOf_88 rfl (lv_at hl 2 rfl) ?_
                  refine va_get (D := D) (ci := 2) (v := .ref (ad 8)) (C := RX2) (T := TX2) (N := 13) hx hb hts hinX2 hown hK hP 0 rfl rfl 11 (by decide) fX2_32 (fun _ h9 => h9) rfl dX2_heldOf_89 ?_
                  refine lv_iload hx hb dX2_heldOf_92 (lv_at hl 0 rfl) ?_
                  refine lh_ild (k := k2) (N := 512) hx hb hK hP 8 0 rfl rfl (by omega) (by decide) dX2_heldOf_94 ?_
                  refine W.eq (g2 := F0 m 95 ls (.int ((xLo u k2)) :: [.int (ac2)])) rfl ?_
                  refine lv_goto (tgt := 99) hx hb dX2_heldOf_95 (by decide) ?_
                  refine lv_iadd hx hb dX2_heldOf_99 ?_
                  refine lv_istore_n (lv' := [(3, .int ((ac2 + (xLo u k2)))), (4, .int (nI k2)), (0, .ref (ad 0)), (1, .int (nI b)), (2, .int (b2i al))]) hx hb dX2_heldOf_100 rfl hl (by decide) rfl (fun ls hl => ?_)
                  refine lv_iinc (v := nI (k2 + 1)) (lv' := [(4, .int (nI (k2 + 1))), (3, .int ((ac2 + (xLo u k2)))), (0, .ref (ad 0)), (1, .int (nI b)), (2, .int (b2i al))]) hx hb dX2_heldOf_101 hl (k := 1) rfl (lh_inc _) (by decide) rfl (fun ls hl => ?_)
                  refine lv_goto (tgt := 47) hx hb dX2_heldOf_104 (by decide) ?_
                  exact ih47 (k2 + 1) (ac2 + (xLo u k2)) (by omega) (by omega) (by first | exact lh_sum2 hac2 (by simp [nI_0, c_1n, c_1, c_2, c_3, c_4]) | exact lh_sum2z hac2 (by simp [nI_0, c_1n, c_1, c_2, c_3, c_4])) _ _ hP hD hS ls (lv_sub hl [0, 1, 2, 3, 4] rfl)
                · have c_4 : al = false := b2i_e0 c_4
                  refine lv_aload_n hx hb dX2_heldOf_72 rfl (lv_at hl 2 rfl) ?_
                  refine va_get (D := D) (ci := 2) (v := .int (nI (xD u))) (C := RX2) (T := TX2) (N := 13) hx hb hts hinX2 hown hK hP 0 rfl rfl 0 (by decide) fX2_51 (fun _ h9 => h9) rfl dX2_heldOf_73 ?_
                  refine lv_aload_n hx hb dX2_heldOf_76 rfl (lv_at hl 2 rfl) ?_
                  refine lv_iload hx hb dX2_heldOf_77 (lv_at hl 0 rfl) ?_
                  refine lh_cVi ⟨hx, hb, hml, hown, hts⟩ (kX2_hostFor l D cI cZ ad u k2 ok (by omega)) (cwV 1 hts gX2_heldOf_X2_hostFor rfl rfl rfl (by decide +kernel) ⟨Nat.le_of_ble_eq_true rfl, Nat.le_of_ble_eq_true rfl⟩) hK hN hP hD hS hA 0 2 rfl rfl rfl rfl hl.1 rfl (Nat.le_of_ble_eq_true rfl) ⟨Nat.le_of_ble_eq_true rfl, Nat.le_of_ble_eq_true rfl⟩ dX2_heldOf_79 (fun H locs hP hD hS => ?_)
                  refine lh_cSi ⟨hx, hb, hml, hown, hts⟩ (kX2_has l D _ _ (xD u) (goT u k2) (by first | omega | exact gn_lt31 hM | exact gn_lt31 (by omega)) (by have h9 := goT_lt hHo k2; omega)) (va_cwS 2 hts gX2_heldOf_X2_has rfl rfl rfl (by decide +kernel) ⟨Nat.le_of_ble_eq_true rfl, Nat.le_of_ble_eq_true rfl⟩) hK hN hP hD hS hA rfl hl.1 rfl (Nat.le_of_ble_eq_true rfl) ⟨Nat.le_of_ble_eq_true rfl, Nat.le_of_ble_eq_true rfl⟩ dX2_heldOf_82 (fun H locs hP hD hS => ?_)
                  refine lv_if_ne (tgt := 98) hx hb dX2_heldOf_85 (by decide) (fun c_5 => ?_) (fun c_5 => ?_)
                  · have c_5 : ((xD u).testBit (goT u k2)) = true := b2i_n0 c_5
                    refine lv_iconst (v := nI 0) hx hb dX2_heldOf_98 (by decide) ?_
                    refine lv_iadd hx hb dX2_heldOf_99 ?_
                    refine lv_istore_n (lv' := [(3, .int ((ac2 + nI 0))), (4, .int (nI k2)), (0, .ref (ad 0)), (1, .int (nI b)), (2, .int (b2i al))]) hx hb dX2_heldOf_100 rfl hl (by decide) rfl (fun ls hl => ?_)
                    refine lv_iinc (v := nI (k2 + 1)) (lv' := [(4, .int (nI (k2 + 1))), (3, .int ((ac2 + nI 0))), (0, .ref (ad 0)), (1, .int (nI b)), (2, .int (b2i al))]) hx hb dX2_heldOf_101 hl (k := 1) rfl (lh_inc _) (by decide) rfl (fun ls hl => ?_)
                    refine lv_goto (tgt := 47) hx hb dX2_heldOf_104 (by decide) ?_
                    exact ih47 (k2 + 1) (ac2 + nI 0) (by omega) (by omega) (by first | exact lh_sum2 hac2 (by simp [nI_0, c_1n, c_1, c_2, c_3, c_4, c_5]) | exact lh_sum2z hac2 (by simp [nI_0, c_1n, c_1, c_2, c_3, c_4, c_5])) _ _ hP hD hS ls (lv_sub hl [0, 1, 2, 3, 4] rfl)
                  · have c_5 : ((xD u).testBit (goT u k2)) = false := b2i_e0 c_5
                    refine lv_aload_n hx hb dX2_heldOf_88 rfl (lv_at hl 2 rfl) ?_
                    refine va_get (D := D) (ci := 2) (v := .ref (ad 8)) (C := RX2) (T := TX2) (N := 13) hx hb hts hinX2 hown hK hP 0 rfl rfl 11 (by decide) fX2_32 (fun _ h9 => h9) rfl dX2_heldOf_89 ?_
                    refine lv_iload hx hb dX2_heldOf_92 (lv_at hl 0 rfl) ?_
                    refine lh_ild (k := k2) (N := 512) hx hb hK hP 8 0 rfl rfl (by omega) (by decide) dX2_heldOf_94 ?_
                    refine W.eq (g2 := F0 m 95 ls (.int ((xLo u k2)) :: [.int (ac2)])) rfl ?_
                    refine lv_goto (tgt := 99) hx hb dX2_heldOf_95 (by decide) ?_
                    refine lv_iadd hx hb dX2_heldOf_99 ?_
                    refine lv_istore_n (lv' := [(3, .int ((ac2 + (xLo u k2)))), (4, .int (nI k2)), (0, .ref (ad 0)), (1, .int (nI b)), (2, .int (b2i al))]) hx hb dX2_heldOf_100 rfl hl (by decide) rfl (fun ls hl => ?_)
                    refine lv_iinc (v := nI (k2 + 1)) (lv' := [(4, .int (nI (k2 + 1))), (3, .int ((ac2 + (xLo u k2)))), (0, .ref (ad 0)), (1, .int (nI b)), (2, .int (b2i al))]) hx hb dX2_heldOf_101 hl (k := 1) rfl (lh_inc _) (by decide) rfl (fun ls hl => ?_)
                    refine lv_goto (tgt := 47) hx hb dX2_heldOf_104 (by decide) ?_
                    exact ih47 (k2 + 1) (ac2 + (xLo u k2)) (by omega) (by omega) (by first | exact lh_sum2 hac2 (by simp [nI_0, c_1n, c_1, c_2, c_3, c_4, c_5]) | exact lh_sum2z hac2 (by simp [nI_0, c_1n, c_1, c_2, c_3, c_4, c_5])) _ _ hP hD hS ls (lv_sub hl [0, 1, 2, 3, 4] rfl)
        exact L47 _ 0 acc (Nat.lt_succ_self _) (by omega) (by rw [hacc, show k = xM u by omega]; exact (Int32.add_zero _).symm) _ _ hP hD hS ls (lv_sub hl [0, 1, 2, 3, 4] rfl)
      · have c_1 : k < xM u := Nat.lt_of_not_le (fun h => c_1 ((nI_leI (by omega) (by omega)).mpr h))
        refine lv_iload_n hx hb dX2_heldOf_14 rfl (lv_at hl 1 rfl) ?_
        refine lv_aload_n hx hb dX2_heldOf_15 rfl (lv_at hl 2 rfl) ?_
        refine lv_iload hx hb dX2_heldOf_16 (lv_at hl 0 rfl) ?_
        refine lv_iload_n hx hb dX2_heldOf_18 rfl (lv_at hl 3 rfl) ?_
        refine lh_cVi ⟨hx, hb, hml, hown, hts⟩ (kX2_isLink l D cI cZ ad u k b (by omega) (by omega)) (cwV 2 hts gX2_heldOf_X2_isLink rfl rfl rfl (by decide +kernel) ⟨Nat.le_of_ble_eq_true rfl, Nat.le_of_ble_eq_true rfl⟩) hK hN hP hD hS hA 0 2 rfl rfl rfl rfl hl.1 rfl (Nat.le_of_ble_eq_true rfl) ⟨Nat.le_of_ble_eq_true rfl, Nat.le_of_ble_eq_true rfl⟩ dX2_heldOf_19 (fun H locs hP hD hS => ?_)
        refine lv_if_eq (tgt := 35) hx hb dX2_heldOf_22 (by decide) (fun c_6 => ?_) (fun c_6 => ?_)
        · have c_6 : (lnk u k b) = false := b2i_e0 c_6
          refine lv_iconst (v := nI 0) hx hb dX2_heldOf_35 (by decide) ?_
          refine lv_iadd hx hb dX2_heldOf_36 ?_
          refine lv_istore_n (lv' := [(3, .int ((acc + nI 0))), (4, .int (nI k)), (0, .ref (ad 0)), (1, .int (nI b)), (2, .int (b2i al))]) hx hb dX2_heldOf_37 rfl hl (by decide) rfl (fun ls hl => ?_)
          refine lv_iinc (v := nI (k + 1)) (lv' := [(4, .int (nI (k + 1))), (3, .int ((acc + nI 0))), (0, .ref (ad 0)), (1, .int (nI b)), (2, .int (b2i al))]) hx hb dX2_heldOf_38 hl (k := 1) rfl (lh_inc _) (by decide) rfl (fun ls hl => ?_)
          refine lv_goto (tgt := 5) hx hb dX2_heldOf_41 (by decide) ?_
          exact ih5 (k + 1) (acc + nI 0) (by omega) (by omega) (by first | exact lh_sumt hacc (by simp [nI_0, c_1, c_6]) | exact lh_sumz hacc (by simp [nI_0, c_1, c_6])) _ _ hP hD hS ls (lv_sub hl [0, 1, 2, 3, 4] rfl)
        · have c_6 : (lnk u k b) = true := b2i_n0 c_6
          refine lv_aload_n hx hb dX2_heldOf_25 rfl (lv_at hl 2 rfl) ?_
          refine lv_iload hx hb dX2_heldOf_26 (lv_at hl 0 rfl) ?_
          refine lv_iload_n hx hb dX2_heldOf_28 rfl (lv_at hl 3 rfl) ?_
          refine lh_cVi ⟨hx, hb, hml, hown, hts⟩ (kX2_linkFrom l D cI cZ ad u k b (by omega) (by omega)) (cwV 2 hts gX2_heldOf_X2_linkFrom rfl rfl rfl (by decide +kernel) ⟨Nat.le_of_ble_eq_true rfl, Nat.le_of_ble_eq_true rfl⟩) hK hN hP hD hS hA 0 2 rfl rfl rfl rfl hl.1 rfl (Nat.le_of_ble_eq_true rfl) ⟨Nat.le_of_ble_eq_true rfl, Nat.le_of_ble_eq_true rfl⟩ dX2_heldOf_29 (fun H locs hP hD hS => ?_)
          refine lv_goto (tgt := 36) hx hb dX2_heldOf_32 (by decide) ?_
          refine lv_iadd hx hb dX2_heldOf_36 ?_
          refine lv_istore_n (lv' := [(3, .int ((acc + (xLi u (k * 10 + b))))), (4, .int (nI k)), (0, .ref (ad 0)), (1, .int (nI b)), (2, .int (b2i al))]) hx hb dX2_heldOf_37 rfl hl (by decide) rfl (fun ls hl => ?_)
          refine lv_iinc (v := nI (k + 1)) (lv' := [(4, .int (nI (k + 1))), (3, .int ((acc + (xLi u (k * 10 + b))))), (0, .ref (ad 0)), (1, .int (nI b)), (2, .int (b2i al))]) hx hb dX2_heldOf_38 hl (k := 1) rfl (lh_inc _) (by decide) rfl (fun ls hl => ?_)
          refine lv_goto (tgt := 5) hx hb dX2_heldOf_41 (by decide) ?_
          exact ih5 (k + 1) (acc + (xLi u (k * 10 + b))) (by omega) (by omega) (by first | exact lh_sumt hacc (by simp [nI_0, c_1, c_6]) | exact lh_sumz hacc (by simp [nI_0, c_1, c_6])) _ _ hP hD hS ls (lv_sub hl [0, 1, 2, 3, 4] rfl)
  exact L5 _ 0 (nI 0) (Nat.lt_succ_self _) (by omega) (by rfl) _ _ hP hD hS ls (lv_sub hl [0, 1, 2, 3, 4] rfl)
set_option maxRecDepth 100000 in
set_option maxHeartbeats 4000000 in
theorem kX2_oneOn (l : Launch) (D : va_G) (cI cZ : ClassId) (ad : Nat → Nat) (u : XS) (x : Nat) (ok : okB u) (hx9 : x < 1024) (hAM : ∀ k, k < xW u → xAb u k < xM u) : CI l D [(cI, .int), (cZ, .boolean)] yX2_oneOn wsX2_oneOn ({ frames := 3, cells := 0, slots := 0, locals := 67 }) [.ref (ad 0), .int (nI x)] (wM cI cZ ad u) (wM cI cZ ad u) (nI (on2 u x)) := by
  obtain ⟨hM, hW, hHo, hAb, hLb, hRb, hDb⟩ := id ok
  refine lh_CIof (cc := cX2_oneOn) (maxL := 5) (ret := (some .int)) (own := RX2) (by decide) rfl rfl (Nat.le_of_ble_eq_true rfl) ?_
  intro p e s m below meth c A ls hx hb hr hlk hts hown hml hK hN hA hP hD hS hl
  have fX2_39 := hts (.fieldLink RX2 39 "LostHostsModel" "objects" "I") (by decide +kernel)
  have fX2_74 := hts (.fieldLink RX2 74 "LostHostsModel" "letters" "I") (by decide +kernel)
  have fX2_29 := hts (.fieldLink RX2 29 "LostHostsModel" "toOne" "[I") (by decide +kernel)
  have fX2_61 := hts (.fieldLink RX2 61 "LostHostsModel" "gone" "I") (by decide +kernel)
  have fX2_26 := hts (.fieldLink RX2 26 "LostHostsModel" "about" "[I") (by decide +kernel)
  have hinX2 : ∀ w ∈ u_ws RX2 TX2 13, w ∈ wsX2_oneOn := by decide +kernel
  have hl : lv_has ls 5 [(0, .ref (ad 0)), (1, .int (nI x))] := hl
  refine lv_iconst (v := nI 0) hx hb dX2_oneOn_0 (by decide) ?_
  refine lv_istore_n (lv' := [(2, .int (nI 0)), (0, .ref (ad 0)), (1, .int (nI x))]) hx hb dX2_oneOn_1 rfl hl (by decide) rfl (fun ls hl => ?_)
  refine lv_iconst (v := nI 0) hx hb dX2_oneOn_2 (by decide) ?_
  refine lv_istore_n (lv' := [(3, .int (nI 0)), (2, .int (nI 0)), (0, .ref (ad 0)), (1, .int (nI x))]) hx hb dX2_oneOn_3 rfl hl (by decide) rfl (fun ls hl => ?_)
  have L4 : ∀ (n : Nat) (k : Nat) (acc : Nat), xM u - k < n → (k ≤ xM u) → (acc = fol (mo1 u x) k 0) → ∀ (H : Heap) (locs : List Loc), va_P D vwCl (wM cI cZ ad u) H → va_D A (wM cI cZ ad u) → va_S A s.heap H locs → ∀ (ls : Array Slot), lv_has ls 5 [(3, .int (nI k)), (2, .int (nI acc)), (0, .ref (ad 0)), (1, .int (nI x))] → W p l e ({ frames := 3, cells := 0, slots := 0, locals := 67 }) s m [.ref (ad 0), .int (nI x)].toArray below meth c H locs 0 0 (QI below D [(cI, .int), (cZ, .boolean)] A (wM cI cZ ad u) (nI (on2 u x)) [.ref (ad 0), .int (nI x)].toArray s) (F0 m 4 ls []) := by
    intro n
    induction n with
    | zero => intro k acc hmu; exact absurd hmu (Nat.not_lt_zero _)
    | succ n ih4 =>
      intro k acc hmu4 hk hacc H locs hP hD hS ls hl
      refine lv_iload_n hx hb dX2_oneOn_4 rfl (lv_at hl 0 rfl) ?_
      refine lv_aload_n hx hb dX2_oneOn_5 rfl (lv_at hl 2 rfl) ?_
      refine va_get (D := D) (ci := 2) (v := .int (nI (xM u))) (C := RX2) (T := TX2) (N := 13) hx hb hts hinX2 hown hK hP 0 rfl rfl 1 (by decide) fX2_39 (fun _ h9 => h9) rfl dX2_oneOn_6 ?_
      refine lv_icmp_ge (tgt := 38) hx hb dX2_oneOn_9 (by decide) (fun c_1 => ?_) (fun c_1 => ?_)
      · have c_1 : xM u ≤ k := (nI_leI (by omega) (by omega)).mp c_1
        have c_1n : ¬ k < xM u := by omega
        refine lv_iconst (v := nI 0) hx hb dX2_oneOn_38 (by decide) ?_
        refine lv_istore_n (lv' := [(3, .int (nI 0)), (2, .int (nI acc)), (0, .ref (ad 0)), (1, .int (nI x))]) hx hb dX2_oneOn_39 rfl hl (by decide) rfl (fun ls hl => ?_)
        have L40 : ∀ (n : Nat) (k2 : Nat) (ac2 : Nat), xW u - k2 < n → (k2 ≤ xW u) → (ac2 = fol (mo2 u x) k2 (fol (mo1 u x) (xM u) 0)) → ∀ (H : Heap) (locs : List Loc), va_P D vwCl (wM cI cZ ad u) H → va_D A (wM cI cZ ad u) → va_S A s.heap H locs → ∀ (ls : Array Slot), lv_has ls 5 [(3, .int (nI k2)), (2, .int (nI ac2)), (0, .ref (ad 0)), (1, .int (nI x))] → W p l e ({ frames := 3, cells := 0, slots := 0, locals := 67 }) s m [.ref (ad 0), .int (nI x)].toArray below meth c H locs 0 0 (QI below D [(cI, .int), (cZ, .boolean)] A (wM cI cZ ad u) (nI (on2 u x)) [.ref (ad 0), .int (nI x)].toArray s) (F0 m 40 ls []) := by
          intro n
          induction n with
          | zero => intro k2 ac2 hmu; exact absurd hmu (Nat.not_lt_zero _)
          | succ n ih40 =>
            intro k2 ac2 hmu40 hk2 hac2 H locs hP hD hS ls hl
            refine lv_iload_n hx hb dX2_oneOn_40 rfl (lv_at hl 0 rfl) ?_
            refine lv_aload_n hx hb dX2_oneOn_41 rfl (lv_at hl 2 rfl) ?_
            refine va_get (D := D) (ci := 2) (v := .int (nI (xW u))) (C := RX2) (T := TX2) (N := 13) hx hb hts hinX2 hown hK hP 0 rfl rfl 8 (by decide) fX2_74 (fun _ h9 => h9) rfl dX2_oneOn_42 ?_
            refine lv_icmp_ge (tgt := 121) hx hb dX2_oneOn_45 (by decide) (fun c_2 => ?_) (fun c_2 => ?_)
            · have c_2 : xW u ≤ k2 := (nI_leI (by omega) (by omega)).mp c_2
              have c_2n : ¬ k2 < xW u := by omega
              refine lv_iload_n hx hb dX2_oneOn_121 rfl (lv_at hl 1 rfl) ?_
              exact lh_ri hx hb hr hlk hK hP hD hS (by rw [hac2, show k2 = xW u by omega]; rfl) rfl dX2_oneOn_122
            · have c_2 : k2 < xW u := Nat.lt_of_not_le (fun h => c_2 ((nI_leI (by omega) (by omega)).mpr h))
              refine lv_aload_n hx hb dX2_oneOn_48 rfl (lv_at hl 2 rfl) ?_
              refine va_get (D := D) (ci := 2) (v := .ref (ad 7)) (C := RX2) (T := TX2) (N := 13) hx hb hts hinX2 hown hK hP 0 rfl rfl 10 (by decide) fX2_29 (fun _ h9 => h9) rfl dX2_oneOn_49 ?_
              refine lv_iload_n hx hb dX2_oneOn_52 rfl (lv_at hl 0 rfl) ?_
              refine lh_ild (k := k2) (N := 512) hx hb hK hP 7 0 rfl rfl (by omega) (by decide) dX2_oneOn_53 ?_
              refine W.eq (g2 := F0 m 54 ls (.int (rv (xRc u k2)) :: [])) rfl ?_
              refine lv_bipush (v := (-9)) hx hb dX2_oneOn_54 (by decide) ?_
              refine lv_icmp_eq (tgt := 92) hx hb dX2_oneOn_56 (by decide) (fun c_3 => ?_) (fun c_3 => ?_)
              · have c_3 : ¬ (xRc u k2) < 10 := rv_eq9 c_3
                refine lv_iconst (v := nI 0) hx hb dX2_oneOn_92 (by decide) ?_
                refine lv_istore (lv' := [(4, .int (nI 0)), (3, .int (nI k2)), (2, .int (nI ac2)), (0, .ref (ad 0)), (1, .int (nI x))]) hx hb dX2_oneOn_93 hl (by decide) rfl (fun ls hl => ?_)
                refine lv_iload_n hx hb dX2_oneOn_95 rfl (lv_at hl 2 rfl) ?_
                refine lv_iload hx hb dX2_oneOn_96 (lv_at hl 0 rfl) ?_
                refine lv_if_eq (tgt := 112) hx hb dX2_oneOn_98 (by decide) (fun c_4 => ?_) (fun c_4 => ?_)
                · have c_4 : True := trivial
                  refine lv_iconst (v := nI 0) hx hb dX2_oneOn_112 (by decide) ?_
                  refine lv_ior hx hb dX2_oneOn_113 ?_
                  refine lh_top (y := nI (ac2 ||| 0)) (fa_or _ _) ?_
                  refine lv_istore_n (lv' := [(2, .int (nI (ac2 ||| 0))), (4, .int (nI 0)), (3, .int (nI k2)), (0, .ref (ad 0)), (1, .int (nI x))]) hx hb dX2_oneOn_114 rfl hl (by decide) rfl (fun ls hl => ?_)
                  refine lv_iinc (v := nI (k2 + 1)) (lv' := [(3, .int (nI (k2 + 1))), (2, .int (nI (ac2 ||| 0))), (4, .int (nI 0)), (0, .ref (ad 0)), (1, .int (nI x))]) hx hb dX2_oneOn_115 hl (k := 2) rfl (lh_inc _) (by decide) rfl (fun ls hl => ?_)
                  refine lv_goto (tgt := 40) hx hb dX2_oneOn_118 (by decide) ?_
                  exact ih40 (k2 + 1) (ac2 ||| 0) (by omega) (by omega) (by rw [hac2]; simp [fol, mo2, ← hac2, c_1n, c_1, c_2, c_3]) _ _ hP hD hS ls (lv_sub hl [0, 1, 3, 4] rfl)
                · have c_4 : False := c_4 rfl
                  exact absurd c_4 (fun h => h)
              · have c_3 : (xRc u k2) < 10 := rv_ne9 c_3
                refine lv_iload_n hx hb dX2_oneOn_59 rfl (lv_at hl 3 rfl) ?_
                refine lv_aload_n hx hb dX2_oneOn_60 rfl (lv_at hl 2 rfl) ?_
                refine va_get (D := D) (ci := 2) (v := .ref (ad 7)) (C := RX2) (T := TX2) (N := 13) hx hb hts hinX2 hown hK hP 0 rfl rfl 10 (by decide) fX2_29 (fun _ h9 => h9) rfl dX2_oneOn_61 ?_
                refine lv_iload_n hx hb dX2_oneOn_64 rfl (lv_at hl 0 rfl) ?_
                refine lh_ild (k := k2) (N := 512) hx hb hK hP 7 0 rfl rfl (by omega) (by decide) dX2_oneOn_65 ?_
                refine W.eq (g2 := F0 m 66 ls (.int (rv (xRc u k2)) :: [.int (nI x)])) rfl ?_
                refine lh_top (y := nI (xRc u k2)) (rv_lt (by omega)) ?_
                refine lh_cSi ⟨hx, hb, hml, hown, hts⟩ (kX2_has l D _ _ x (xRc u k2) (by first | omega | exact gn_lt31 hM | exact gn_lt31 (by omega)) (by omega)) (va_cwS 2 hts gX2_oneOn_X2_has rfl rfl rfl (by decide +kernel) ⟨Nat.le_of_ble_eq_true rfl, Nat.le_of_ble_eq_true rfl⟩) hK hN hP hD hS hA rfl hl.1 rfl (Nat.le_of_ble_eq_true rfl) ⟨Nat.le_of_ble_eq_true rfl, Nat.le_of_ble_eq_true rfl⟩ dX2_oneOn_66 (fun H locs hP hD hS => ?_)
                refine lv_if_eq (tgt := 92) hx hb dX2_oneOn_69 (by decide) (fun c_5 => ?_) (fun c_5 => ?_)
                · have c_5 : (x.testBit (xRc u k2)) = false := b2i_e0 c_5
                  refine lv_iconst (v := nI 0) hx hb dX2_oneOn_92 (by decide) ?_
                  refine lv_istore (lv' := [(4, .int (nI 0)), (3, .int (nI k2)), (2, .int (nI ac2)), (0, .ref (ad 0)), (1, .int (nI x))]) hx hb dX2_oneOn_93 hl (by decide) rfl (fun ls hl => ?_)
                  refine lv_iload_n hx hb dX2_oneOn_95 rfl (lv_at hl 2 rfl) ?_
                  refine lv_iload hx hb dX2_oneOn_96 (lv_at hl 0 rfl) ?_
                  refine lv_if_eq (tgt := 112) hx hb dX2_oneOn_98 (by decide) (fun c_6 => ?_) (fun c_6 => ?_)
                  · have c_6 : True := trivial
                    refine lv_iconst (v := nI 0) hx hb dX2_oneOn_112 (by decide) ?_
                    refine lv_ior hx hb dX2_oneOn_113 ?_
                    refine lh_top (y := nI (ac2 ||| 0)) (fa_or _ _) ?_
                    refine lv_istore_n (lv' := [(2, .int (nI (ac2 ||| 0))), (4, .int (nI 0)), (3, .int (nI k2)), (0, .ref (ad 0)), (1, .int (nI x))]) hx hb dX2_oneOn_114 rfl hl (by decide) rfl (fun ls hl => ?_)
                    refine lv_iinc (v := nI (k2 + 1)) (lv' := [(3, .int (nI (k2 + 1))), (2, .int (nI (ac2 ||| 0))), (4, .int (nI 0)), (0, .ref (ad 0)), (1, .int (nI x))]) hx hb dX2_oneOn_115 hl (k := 2) rfl (lh_inc _) (by decide) rfl (fun ls hl => ?_)
                    refine lv_goto (tgt := 40) hx hb dX2_oneOn_118 (by decide) ?_
                    exact ih40 (k2 + 1) (ac2 ||| 0) (by omega) (by omega) (by rw [hac2]; simp [fol, mo2, ← hac2, c_1n, c_1, c_2, c_3, c_5]) _ _ hP hD hS ls (lv_sub hl [0, 1, 3, 4] rfl)
                  · have c_6 : False := c_6 rfl
                    exact absurd c_6 (fun h => h)
                · have c_5 : (x.testBit (xRc u k2)) = true := b2i_n0 c_5
                  refine lv_aload_n hx hb dX2_oneOn_72 rfl (lv_at hl 2 rfl) ?_
                  refine va_get (D := D) (ci := 2) (v := .int (nI (gn u))) (C := RX2) (T := TX2) (N := 13) hx hb hts hinX2 hown hK hP 0 rfl rfl 4 (by decide) fX2_61 (fun _ h9 => h9) rfl dX2_oneOn_73 ?_
                  refine lv_aload_n hx hb dX2_oneOn_76 rfl (lv_at hl 2 rfl) ?_
                  refine va_get (D := D) (ci := 2) (v := .ref (ad 6)) (C := RX2) (T := TX2) (N := 13) hx hb hts hinX2 hown hK hP 0 rfl rfl 9 (by decide) fX2_26 (fun _ h9 => h9) rfl dX2_oneOn_77 ?_
                  refine lv_iload_n hx hb dX2_oneOn_80 rfl (lv_at hl 0 rfl) ?_
                  refine lh_ild (k := k2) (N := 512) hx hb hK hP 6 0 rfl rfl (by omega) (by decide) dX2_oneOn_81 ?_
                  refine W.eq (g2 := F0 m 82 ls (.int (nI (xAb u k2)) :: [.int (nI (gn u))])) rfl ?_
                  refine lh_cSi ⟨hx, hb, hml, hown, hts⟩ (kX2_has l D _ _ (gn u) (xAb u k2) (by first | omega | exact gn_lt31 hM | exact gn_lt31 (by omega)) (by have h9 := hAb k2; omega)) (va_cwS 2 hts gX2_oneOn_X2_has rfl rfl rfl (by decide +kernel) ⟨Nat.le_of_ble_eq_true rfl, Nat.le_of_ble_eq_true rfl⟩) hK hN hP hD hS hA rfl hl.1 rfl (Nat.le_of_ble_eq_true rfl) ⟨Nat.le_of_ble_eq_true rfl, Nat.le_of_ble_eq_true rfl⟩ dX2_oneOn_82 (fun H locs hP hD hS => ?_)
                  refine lv_if_ne (tgt := 92) hx hb dX2_oneOn_85 (by decide) (fun c_7 => ?_) (fun c_7 => ?_)
                  · have c_7 : ((gn u).testBit (xAb u k2)) = true := b2i_n0 c_7
                    have c_7 := gnT (k := xAb u k2) (hAM k2 (by omega)) c_7
                    refine lv_iconst (v := nI 0) hx hb dX2_oneOn_92 (by decide) ?_
                    refine lv_istore (lv' := [(4, .int (nI 0)), (3, .int (nI k2)), (2, .int (nI ac2)), (0, .ref (ad 0)), (1, .int (nI x))]) hx hb dX2_oneOn_93 hl (by decide) rfl (fun ls hl => ?_)
                    refine lv_iload_n hx hb dX2_oneOn_95 rfl (lv_at hl 2 rfl) ?_
                    refine lv_iload hx hb dX2_oneOn_96 (lv_at hl 0 rfl) ?_
                    refine lv_if_eq (tgt := 112) hx hb dX2_oneOn_98 (by decide) (fun c_8 => ?_) (fun c_8 => ?_)
                    · have c_8 : True := trivial
                      refine lv_iconst (v := nI 0) hx hb dX2_oneOn_112 (by decide) ?_
                      refine lv_ior hx hb dX2_oneOn_113 ?_
                      refine lh_top (y := nI (ac2 ||| 0)) (fa_or _ _) ?_
                      refine lv_istore_n (lv' := [(2, .int (nI (ac2 ||| 0))), (4, .int (nI 0)), (3, .int (nI k2)), (0, .ref (ad 0)), (1, .int (nI x))]) hx hb dX2_oneOn_114 rfl hl (by decide) rfl (fun ls hl => ?_)
                      refine lv_iinc (v := nI (k2 + 1)) (lv' := [(3, .int (nI (k2 + 1))), (2, .int (nI (ac2 ||| 0))), (4, .int (nI 0)), (0, .ref (ad 0)), (1, .int (nI x))]) hx hb dX2_oneOn_115 hl (k := 2) rfl (lh_inc _) (by decide) rfl (fun ls hl => ?_)
                      refine lv_goto (tgt := 40) hx hb dX2_oneOn_118 (by decide) ?_
                      exact ih40 (k2 + 1) (ac2 ||| 0) (by omega) (by omega) (by rw [hac2]; simp [fol, mo2, ← hac2, c_1n, c_1, c_2, c_3, c_5, c_7]) _ _ hP hD hS ls (lv_sub hl [0, 1, 3, 4] rfl)
                    · have c_8 : False := c_8 rfl
                      exact absurd c_8 (fun h => h)
                  · have c_7 : ((gn u).testBit (xAb u k2)) = false := b2i_e0 c_7
                    have c_7 := gnF (k := xAb u k2) (hAM k2 (by omega)) c_7
                    refine lv_iconst (v := nI 1) hx hb dX2_oneOn_88 (by decide) ?_
                    refine lv_goto (tgt := 93) hx hb dX2_oneOn_89 (by decide) ?_
                    refine lv_istore (lv' := [(4, .int (nI 1)), (3, .int (nI k2)), (2, .int (nI ac2)), (0, .ref (ad 0)), (1, .int (nI x))]) hx hb dX2_oneOn_93 hl (by decide) rfl (fun ls hl => ?_)
                    refine lv_iload_n hx hb dX2_oneOn_95 rfl (lv_at hl 2 rfl) ?_
                    refine lv_iload hx hb dX2_oneOn_96 (lv_at hl 0 rfl) ?_
                    refine lv_if_eq (tgt := 112) hx hb dX2_oneOn_98 (by decide) (fun c_9 => ?_) (fun c_9 => ?_)
                    · have c_9 : False := absurd c_9 (by decide)
                      exact absurd c_9 (fun h => h)
                    · have c_9 : True := trivial
                      refine lv_iconst (v := nI 1) hx hb dX2_oneOn_101 (by decide) ?_
                      refine lv_aload_n hx hb dX2_oneOn_102 rfl (lv_at hl 3 rfl) ?_
                      refine va_get (D := D) (ci := 2) (v := .ref (ad 6)) (C := RX2) (T := TX2) (N := 13) hx hb hts hinX2 hown hK hP 0 rfl rfl 9 (by decide) fX2_26 (fun _ h9 => h9) rfl dX2_oneOn_103 ?_
                      refine lv_iload_n hx hb dX2_oneOn_106 rfl (lv_at hl 1 rfl) ?_
                      refine lh_ild (k := k2) (N := 512) hx hb hK hP 6 0 rfl rfl (by omega) (by decide) dX2_oneOn_107 ?_
                      refine W.eq (g2 := F0 m 108 ls (.int (nI (xAb u k2)) :: [.int (nI 1), .int (nI ac2)])) rfl ?_
                      refine lv_ishl hx hb dX2_oneOn_108 ?_
                      refine lh_top (y := nI (2 ^ (xAb u k2))) (lh_bit (by have h9 := hAb k2; omega)) ?_
                      refine lv_goto (tgt := 113) hx hb dX2_oneOn_109 (by decide) ?_
                      refine lv_ior hx hb dX2_oneOn_113 ?_
                      refine lh_top (y := nI (ac2 ||| (2 ^ (xAb u k2)))) (fa_or _ _) ?_
                      refine lv_istore_n (lv' := [(2, .int (nI (ac2 ||| (2 ^ (xAb u k2))))), (4, .int (nI 1)), (3, .int (nI k2)), (0, .ref (ad 0)), (1, .int (nI x))]) hx hb dX2_oneOn_114 rfl hl (by decide) rfl (fun ls hl => ?_)
                      refine lv_iinc (v := nI (k2 + 1)) (lv' := [(3, .int (nI (k2 + 1))), (2, .int (nI (ac2 ||| (2 ^ (xAb u k2))))), (4, .int (nI 1)), (0, .ref (ad 0)), (1, .int (nI x))]) hx hb dX2_oneOn_115 hl (k := 2) rfl (lh_inc _) (by decide) rfl (fun ls hl => ?_)
                      refine lv_goto (tgt := 40) hx hb dX2_oneOn_118 (by decide) ?_
                      exact ih40 (k2 + 1) (ac2 ||| (2 ^ (xAb u k2))) (by omega) (by omega) (by rw [hac2]; simp [fol, mo2, ← hac2, c_1n, c_1, c_2, c_3, c_5, c_7]) _ _ hP hD hS ls (lv_sub hl [0, 1, 3, 4] rfl)
        exact L40 _ 0 acc (Nat.lt_succ_self _) (by omega) (by rw [hacc, show k = xM u by omega]; rfl) _ _ hP hD hS ls (lv_sub hl [0, 1, 2, 3] rfl)
      · have c_1 : k < xM u := Nat.lt_of_not_le (fun h => c_1 ((nI_leI (by omega) (by omega)).mpr h))
        refine lv_iload_n hx hb dX2_oneOn_12 rfl (lv_at hl 1 rfl) ?_
        refine lv_iload_n hx hb dX2_oneOn_13 rfl (lv_at hl 3 rfl) ?_
        refine lv_iload_n hx hb dX2_oneOn_14 rfl (lv_at hl 0 rfl) ?_
        refine lh_cSi ⟨hx, hb, hml, hown, hts⟩ (kX2_has l D _ _ x k (by first | omega | exact gn_lt31 hM | exact gn_lt31 (by omega)) (by omega)) (va_cwS 2 hts gX2_oneOn_X2_has rfl rfl rfl (by decide +kernel) ⟨Nat.le_of_ble_eq_true rfl, Nat.le_of_ble_eq_true rfl⟩) hK hN hP hD hS hA rfl hl.1 rfl (Nat.le_of_ble_eq_true rfl) ⟨Nat.le_of_ble_eq_true rfl, Nat.le_of_ble_eq_true rfl⟩ dX2_oneOn_15 (fun H locs hP hD hS => ?_)
        refine lv_if_eq (tgt := 29) hx hb dX2_oneOn_18 (by decide) (fun c_10 => ?_) (fun c_10 => ?_)
        · have c_10 : (x.testBit k) = false := b2i_e0 c_10
          refine lv_iconst (v := nI 0) hx hb dX2_oneOn_29 (by decide) ?_
          refine lv_ior hx hb dX2_oneOn_30 ?_
          refine lh_top (y := nI (acc ||| 0)) (fa_or _ _) ?_
          refine lv_istore_n (lv' := [(2, .int (nI (acc ||| 0))), (3, .int (nI k)), (0, .ref (ad 0)), (1, .int (nI x))]) hx hb dX2_oneOn_31 rfl hl (by decide) rfl (fun ls hl => ?_)
          refine lv_iinc (v := nI (k + 1)) (lv' := [(3, .int (nI (k + 1))), (2, .int (nI (acc ||| 0))), (0, .ref (ad 0)), (1, .int (nI x))]) hx hb dX2_oneOn_32 hl (k := 1) rfl (lh_inc _) (by decide) rfl (fun ls hl => ?_)
          refine lv_goto (tgt := 4) hx hb dX2_oneOn_35 (by decide) ?_
          exact ih4 (k + 1) (acc ||| 0) (by omega) (by omega) (by rw [hacc]; simp [fol, mo1, ← hacc, c_1, c_10]) _ _ hP hD hS ls (lv_sub hl [0, 1, 2, 3] rfl)
        · have c_10 : (x.testBit k) = true := b2i_n0 c_10
          refine lv_aload_n hx hb dX2_oneOn_21 rfl (lv_at hl 2 rfl) ?_
          refine lv_iload_n hx hb dX2_oneOn_22 rfl (lv_at hl 0 rfl) ?_
          refine lh_cVi ⟨hx, hb, hml, hown, hts⟩ (kX2_fromOf l D cI cZ ad u k ok (by omega)) (cwV 1 hts gX2_oneOn_X2_fromOf rfl rfl rfl (by decide +kernel) ⟨Nat.le_of_ble_eq_true rfl, Nat.le_of_ble_eq_true rfl⟩) hK hN hP hD hS hA 0 2 rfl rfl rfl rfl hl.1 rfl (Nat.le_of_ble_eq_true rfl) ⟨Nat.le_of_ble_eq_true rfl, Nat.le_of_ble_eq_true rfl⟩ dX2_oneOn_23 (fun H locs hP hD hS => ?_)
          refine lv_goto (tgt := 30) hx hb dX2_oneOn_26 (by decide) ?_
          refine lv_ior hx hb dX2_oneOn_30 ?_
          refine lh_top (y := nI (acc ||| (frO u k))) (fa_or _ _) ?_
          refine lv_istore_n (lv' := [(2, .int (nI (acc ||| (frO u k)))), (3, .int (nI k)), (0, .ref (ad 0)), (1, .int (nI x))]) hx hb dX2_oneOn_31 rfl hl (by decide) rfl (fun ls hl => ?_)
          refine lv_iinc (v := nI (k + 1)) (lv' := [(3, .int (nI (k + 1))), (2, .int (nI (acc ||| (frO u k)))), (0, .ref (ad 0)), (1, .int (nI x))]) hx hb dX2_oneOn_32 hl (k := 1) rfl (lh_inc _) (by decide) rfl (fun ls hl => ?_)
          refine lv_goto (tgt := 4) hx hb dX2_oneOn_35 (by decide) ?_
          exact ih4 (k + 1) (acc ||| (frO u k)) (by omega) (by omega) (by rw [hacc]; simp [fol, mo1, ← hacc, c_1, c_10]) _ _ hP hD hS ls (lv_sub hl [0, 1, 2, 3] rfl)
  exact L4 _ 0 0 (Nat.lt_succ_self _) (by omega) (by rfl) _ _ hP hD hS ls (lv_sub hl [0, 1, 2, 3] rfl)
set_option maxRecDepth 100000 in
set_option maxHeartbeats 4000000 in
theorem kX2_allRoots (l : Launch) (D : va_G) (cI cZ : ClassId) (ad : Nat → Nat) (u : XS) (ok : okB u) (hL9 : ∀ k, (xL u).testBit k = true → k < xM u) : CI l D [(cI, .int), (cZ, .boolean)] yX2_allRoots wsX2_allRoots ({ frames := 2, cells := 0, slots := 0, locals := 44 }) [.ref (ad 0)] (wM cI cZ ad u) (wM cI cZ ad u) (nI (xL u &&& xR u)) := by
  obtain ⟨hM, hW, hHo, hAb, hLb, hRb, hDb⟩ := id ok
  refine lh_CIof (cc := cX2_allRoots) (maxL := 1) (ret := (some .int)) (own := RX2) (by decide) rfl rfl (Nat.le_of_ble_eq_true rfl) ?_
  intro p e s m below meth c A ls hx hb hr hlk hts hown hml hK hN hA hP hD hS hl
  have fX2_39 := hts (.fieldLink RX2 39 "LostHostsModel" "objects" "I") (by decide +kernel)
  have fX2_61 := hts (.fieldLink RX2 61 "LostHostsModel" "gone" "I") (by decide +kernel)
  have hinX2 : ∀ w ∈ u_ws RX2 TX2 13, w ∈ wsX2_allRoots := by decide +kernel
  have hl : lv_has ls 1 [(0, .ref (ad 0))] := hl
  refine lv_aload_n hx hb dX2_allRoots_0 rfl (lv_at hl 0 rfl) ?_
  refine lv_iconst (v := nI 1) hx hb dX2_allRoots_1 (by decide) ?_
  refine lv_aload_n hx hb dX2_allRoots_2 rfl (lv_at hl 0 rfl) ?_
  refine va_get (D := D) (ci := 2) (v := .int (nI (xM u))) (C := RX2) (T := TX2) (N := 13) hx hb hts hinX2 hown hK hP 0 rfl rfl 1 (by decide) fX2_39 (fun _ h9 => h9) rfl dX2_allRoots_3 ?_
  refine lv_ishl hx hb dX2_allRoots_6 ?_
  refine lh_top (y := nI (2 ^ (xM u))) (lh_bit (by omega)) ?_
  refine lv_iconst (v := nI 1) hx hb dX2_allRoots_7 (by decide) ?_
  refine lv_isub hx hb dX2_allRoots_8 ?_
  refine lh_top (y := nI ((2 ^ (xM u)) - 1)) (pk_sub (by exact pw_1 _)) ?_
  refine lv_aload_n hx hb dX2_allRoots_9 rfl (lv_at hl 0 rfl) ?_
  refine va_get (D := D) (ci := 2) (v := .int (nI (gn u))) (C := RX2) (T := TX2) (N := 13) hx hb hts hinX2 hown hK hP 0 rfl rfl 4 (by decide) fX2_61 (fun _ h9 => h9) rfl dX2_allRoots_10 ?_
  refine lv_iconst (v := (-1)) hx hb dX2_allRoots_13 (by decide) ?_
  refine lv_ixor hx hb dX2_allRoots_14 ?_
  refine lv_iand hx hb dX2_allRoots_15 ?_
  refine lh_top (y := nI (dif ((2 ^ (xM u)) - 1) (gn u))) (lh_not _ (by exact pw_lt hM)) ?_
  refine lh_cVi ⟨hx, hb, hml, hown, hts⟩ (kX2_rootsOf l D cI cZ ad u (dif ((2 ^ (xM u)) - 1) (gn u)) ok (by exact pw_dif hM)) (cwV 1 hts gX2_allRoots_X2_rootsOf rfl rfl rfl (by decide +kernel) ⟨Nat.le_of_ble_eq_true rfl, Nat.le_of_ble_eq_true rfl⟩) hK hN hP hD hS hA 0 2 rfl rfl rfl rfl hl.1 rfl (Nat.le_of_ble_eq_true rfl) ⟨Nat.le_of_ble_eq_true rfl, Nat.le_of_ble_eq_true rfl⟩ dX2_allRoots_16 (fun H locs hP hD hS => ?_)
  exact lh_ri hx hb hr hlk hK hP hD hS (by exact congrArg nI (allR hL9)) rfl dX2_allRoots_19

set_option maxRecDepth 100000 in
set_option maxHeartbeats 4000000 in
theorem kX2_staying (l : Launch) (D : va_G) (cI cZ : ClassId) (ad : Nat → Nat) (u : XS) (h : Nat) (T : Nat) (inv : Inv T u) (hh : h < 4) : CI l D [(cI, .int), (cZ, .boolean)] yX2_staying wsX2_staying ({ frames := 4, cells := 0, slots := 0, locals := 92 }) [.ref (ad 0), .int (nI h)] (wM cI cZ ad u) (wM cI cZ ad u) (nI (stay u h)) := by
  have ok := inv.1
  obtain ⟨hM, hW, hHo, hAb, hLb, hRb, hDb⟩ := id ok
  refine lh_CIof (cc := cX2_staying) (maxL := 5) (ret := (some .int)) (own := RX2) (by decide) rfl rfl (Nat.le_of_ble_eq_true rfl) ?_
  intro p e s m below meth c A ls hx hb hr hlk hts hown hml hK hN hA hP hD hS hl
  have fX2_39 := hts (.fieldLink RX2 39 "LostHostsModel" "objects" "I") (by decide +kernel)
  have fX2_17 := hts (.fieldLink RX2 17 "LostHostsModel" "outOf" "[I") (by decide +kernel)
  have hinX2 : ∀ w ∈ u_ws RX2 TX2 13, w ∈ wsX2_staying := by decide +kernel
  have hl : lv_has ls 5 [(0, .ref (ad 0)), (1, .int (nI h))] := hl
  refine lv_aload_n hx hb dX2_staying_0 rfl (lv_at hl 0 rfl) ?_
  refine lv_iload_n hx hb dX2_staying_1 rfl (lv_at hl 1 rfl) ?_
  refine lh_cVi ⟨hx, hb, hml, hown, hts⟩ (kX2_onHost l D cI cZ ad u h ok (by omega)) (cwV 1 hts gX2_staying_X2_onHost rfl rfl rfl (by decide +kernel) ⟨Nat.le_of_ble_eq_true rfl, Nat.le_of_ble_eq_true rfl⟩) hK hN hP hD hS hA 0 2 rfl rfl rfl rfl hl.1 rfl (Nat.le_of_ble_eq_true rfl) ⟨Nat.le_of_ble_eq_true rfl, Nat.le_of_ble_eq_true rfl⟩ dX2_staying_2 (fun H locs hP hD hS => ?_)
  refine lv_istore_n (lv' := [(2, .int (nI (onH u h))), (0, .ref (ad 0)), (1, .int (nI h))]) hx hb dX2_staying_5 rfl hl (by decide) rfl (fun ls hl => ?_)
  refine lv_aload_n hx hb dX2_staying_6 rfl (lv_at hl 1 rfl) ?_
  refine lv_iload_n hx hb dX2_staying_7 rfl (lv_at hl 0 rfl) ?_
  refine lh_cVi ⟨hx, hb, hml, hown, hts⟩ (kX2_rootsOf l D cI cZ ad u (onH u h) ok (by have h9 := onH_lt hM h; omega)) (cwV 1 hts gX2_staying_X2_rootsOf rfl rfl rfl (by decide +kernel) ⟨Nat.le_of_ble_eq_true rfl, Nat.le_of_ble_eq_true rfl⟩) hK hN hP hD hS hA 0 2 rfl rfl rfl rfl hl.1 rfl (Nat.le_of_ble_eq_true rfl) ⟨Nat.le_of_ble_eq_true rfl, Nat.le_of_ble_eq_true rfl⟩ dX2_staying_8 (fun H locs hP hD hS => ?_)
  refine lv_istore_n (lv' := [(3, .int (nI (rtO u (onH u h)))), (2, .int (nI (onH u h))), (0, .ref (ad 0)), (1, .int (nI h))]) hx hb dX2_staying_11 rfl hl (by decide) rfl (fun ls hl => ?_)
  refine lv_iconst (v := nI 0) hx hb dX2_staying_12 (by decide) ?_
  refine lv_istore (lv' := [(4, .int (nI 0)), (3, .int (nI (rtO u (onH u h)))), (2, .int (nI (onH u h))), (0, .ref (ad 0)), (1, .int (nI h))]) hx hb dX2_staying_13 hl (by decide) rfl (fun ls hl => ?_)
  have L15 : ∀ (n : Nat) (k : Nat) (acc : Nat), xM u - k < n → (k ≤ xM u) → (acc = rtO u (onH u h) ||| mk (fun a => (onH u h).testBit a && !decide (xOu u a ≤ 0)) k) → ∀ (H : Heap) (locs : List Loc), va_P D vwCl (wM cI cZ ad u) H → va_D A (wM cI cZ ad u) → va_S A s.heap H locs → ∀ (ls : Array Slot), lv_has ls 5 [(4, .int (nI k)), (3, .int (nI acc)), (2, .int (nI (onH u h))), (0, .ref (ad 0)), (1, .int (nI h))] → W p l e ({ frames := 4, cells := 0, slots := 0, locals := 92 }) s m [.ref (ad 0), .int (nI h)].toArray below meth c H locs 0 0 (QI below D [(cI, .int), (cZ, .boolean)] A (wM cI cZ ad u) (nI (stay u h)) [.ref (ad 0), .int (nI h)].toArray s) (F0 m 15 ls []) := by
    intro n
    induction n with
    | zero => intro k acc hmu; exact absurd hmu (Nat.not_lt_zero _)
    | succ n ih15 =>
      intro k acc hmu15 hk hacc H locs hP hD hS ls hl
      refine lv_iload hx hb dX2_staying_15 (lv_at hl 0 rfl) ?_
      refine lv_aload_n hx hb dX2_staying_17 rfl (lv_at hl 3 rfl) ?_
      refine va_get (D := D) (ci := 2) (v := .int (nI (xM u))) (C := RX2) (T := TX2) (N := 13) hx hb hts hinX2 hown hK hP 0 rfl rfl 1 (by decide) fX2_39 (fun _ h9 => h9) rfl dX2_staying_18 ?_
      refine lv_icmp_ge (tgt := 60) hx hb dX2_staying_21 (by decide) (fun c_1 => ?_) (fun c_1 => ?_)
      · have c_1 : xM u ≤ k := (nI_leI (by omega) (by omega)).mp c_1
        have c_1n : ¬ k < xM u := by omega
        refine lv_aload_n hx hb dX2_staying_60 rfl (lv_at hl 3 rfl) ?_
        refine lv_iload_n hx hb dX2_staying_61 rfl (lv_at hl 1 rfl) ?_
        refine lv_iload_n hx hb dX2_staying_62 rfl (lv_at hl 2 rfl) ?_
        refine lh_cVi ⟨hx, hb, hml, hown, hts⟩ (kX2_ledTo l D cI cZ ad u acc (onH u h) ok (by rw [hacc]; exact or_lt (rtO_lt hM _) (mk1024 (by omega)))) (cwV 2 hts gX2_staying_X2_ledTo rfl rfl rfl (by decide +kernel) ⟨Nat.le_of_ble_eq_true rfl, Nat.le_of_ble_eq_true rfl⟩) hK hN hP hD hS hA 0 2 rfl rfl rfl rfl hl.1 rfl (Nat.le_of_ble_eq_true rfl) ⟨Nat.le_of_ble_eq_true rfl, Nat.le_of_ble_eq_true rfl⟩ dX2_staying_63 (fun H locs hP hD hS => ?_)
        exact lh_ri hx hb hr hlk hK hP hD hS (by rw [hacc, show k = xM u by omega]; exact congrArg nI (stay_2 inv h)) rfl dX2_staying_66
      · have c_1 : k < xM u := Nat.lt_of_not_le (fun h => c_1 ((nI_leI (by omega) (by omega)).mpr h))
        refine lv_iload_n hx hb dX2_staying_24 rfl (lv_at hl 1 rfl) ?_
        refine lv_iload_n hx hb dX2_staying_25 rfl (lv_at hl 2 rfl) ?_
        refine lv_iload hx hb dX2_staying_26 (lv_at hl 0 rfl) ?_
        refine lh_cSi ⟨hx, hb, hml, hown, hts⟩ (kX2_has l D _ _ (onH u h) k (by have h9 := onH_lt hM h; omega) (by omega)) (va_cwS 2 hts gX2_staying_X2_has rfl rfl rfl (by decide +kernel) ⟨Nat.le_of_ble_eq_true rfl, Nat.le_of_ble_eq_true rfl⟩) hK hN hP hD hS hA rfl hl.1 rfl (Nat.le_of_ble_eq_true rfl) ⟨Nat.le_of_ble_eq_true rfl, Nat.le_of_ble_eq_true rfl⟩ dX2_staying_28 (fun H locs hP hD hS => ?_)
        refine lv_if_eq (tgt := 51) hx hb dX2_staying_31 (by decide) (fun c_2 => ?_) (fun c_2 => ?_)
        · have c_2 : ((onH u h).testBit k) = false := b2i_e0 c_2
          refine lv_iconst (v := nI 0) hx hb dX2_staying_51 (by decide) ?_
          refine lv_ior hx hb dX2_staying_52 ?_
          refine lh_top (y := nI (acc ||| 0)) (fa_or _ _) ?_
          refine lv_istore_n (lv' := [(3, .int (nI (acc ||| 0))), (4, .int (nI k)), (2, .int (nI (onH u h))), (0, .ref (ad 0)), (1, .int (nI h))]) hx hb dX2_staying_53 rfl hl (by decide) rfl (fun ls hl => ?_)
          refine lv_iinc (v := nI (k + 1)) (lv' := [(4, .int (nI (k + 1))), (3, .int (nI (acc ||| 0))), (2, .int (nI (onH u h))), (0, .ref (ad 0)), (1, .int (nI h))]) hx hb dX2_staying_54 hl (k := 1) rfl (lh_inc _) (by decide) rfl (fun ls hl => ?_)
          refine lv_goto (tgt := 15) hx hb dX2_staying_57 (by decide) ?_
          exact ih15 (k + 1) (acc ||| 0) (by omega) (by omega) (by first | exact lh_omkt hacc (by simp [c_1, c_2]) | exact lh_omk0 hacc (by simp [c_1, c_2])) _ _ hP hD hS ls (lv_sub hl [0, 1, 2, 3, 4] rfl)
        · have c_2 : ((onH u h).testBit k) = true := b2i_n0 c_2
          refine lv_aload_n hx hb dX2_staying_34 rfl (lv_at hl 3 rfl) ?_
          refine va_get (D := D) (ci := 2) (v := .ref (ad 3)) (C := RX2) (T := TX2) (N := 13) hx hb hts hinX2 hown hK hP 0 rfl rfl 5 (by decide) fX2_17 (fun _ h9 => h9) rfl dX2_staying_35 ?_
          refine lv_iload hx hb dX2_staying_38 (lv_at hl 0 rfl) ?_
          refine lh_ild (k := k) (N := 10) hx hb hK hP 3 0 rfl rfl (by omega) (by decide) dX2_staying_40 ?_
          refine W.eq (g2 := F0 m 41 ls (.int ((xOu u k)) :: [.int (nI acc)])) rfl ?_
          refine lv_if_le (tgt := 51) hx hb dX2_staying_41 (by decide) (fun c_3 => ?_) (fun c_3 => ?_)
          · have c_3r := c_3
            refine lv_iconst (v := nI 0) hx hb dX2_staying_51 (by decide) ?_
            refine lv_ior hx hb dX2_staying_52 ?_
            refine lh_top (y := nI (acc ||| 0)) (fa_or _ _) ?_
            refine lv_istore_n (lv' := [(3, .int (nI (acc ||| 0))), (4, .int (nI k)), (2, .int (nI (onH u h))), (0, .ref (ad 0)), (1, .int (nI h))]) hx hb dX2_staying_53 rfl hl (by decide) rfl (fun ls hl => ?_)
            refine lv_iinc (v := nI (k + 1)) (lv' := [(4, .int (nI (k + 1))), (3, .int (nI (acc ||| 0))), (2, .int (nI (onH u h))), (0, .ref (ad 0)), (1, .int (nI h))]) hx hb dX2_staying_54 hl (k := 1) rfl (lh_inc _) (by decide) rfl (fun ls hl => ?_)
            refine lv_goto (tgt := 15) hx hb dX2_staying_57 (by decide) ?_
            exact ih15 (k + 1) (acc ||| 0) (by omega) (by omega) (by first | exact lh_omkt hacc (by simp [c_1, c_2, c_3]) | exact lh_omk0 hacc (by simp [c_1, c_2, c_3])) _ _ hP hD hS ls (lv_sub hl [0, 1, 2, 3, 4] rfl)
          · have c_3r := c_3
            refine lv_iconst (v := nI 1) hx hb dX2_staying_44 (by decide) ?_
            refine lv_iload hx hb dX2_staying_45 (lv_at hl 0 rfl) ?_
            refine lv_ishl hx hb dX2_staying_47 ?_
            refine lh_top (y := nI (2 ^ k)) (lh_bit (by omega)) ?_
            refine lv_goto (tgt := 52) hx hb dX2_staying_48 (by decide) ?_
            refine lv_ior hx hb dX2_staying_52 ?_
            refine lh_top (y := nI (acc ||| (2 ^ k))) (fa_or _ _) ?_
            refine lv_istore_n (lv' := [(3, .int (nI (acc ||| (2 ^ k)))), (4, .int (nI k)), (2, .int (nI (onH u h))), (0, .ref (ad 0)), (1, .int (nI h))]) hx hb dX2_staying_53 rfl hl (by decide) rfl (fun ls hl => ?_)
            refine lv_iinc (v := nI (k + 1)) (lv' := [(4, .int (nI (k + 1))), (3, .int (nI (acc ||| (2 ^ k)))), (2, .int (nI (onH u h))), (0, .ref (ad 0)), (1, .int (nI h))]) hx hb dX2_staying_54 hl (k := 1) rfl (lh_inc _) (by decide) rfl (fun ls hl => ?_)
            refine lv_goto (tgt := 15) hx hb dX2_staying_57 (by decide) ?_
            exact ih15 (k + 1) (acc ||| (2 ^ k)) (by omega) (by omega) (by first | exact lh_omkt hacc (by simp [c_1, c_2, c_3]) | exact lh_omk0 hacc (by simp [c_1, c_2, c_3])) _ _ hP hD hS ls (lv_sub hl [0, 1, 2, 3, 4] rfl)
  exact L15 _ 0 (rtO u (onH u h)) (Nat.lt_succ_self _) (by omega) (by exact (Nat.or_zero _).symm) _ _ hP hD hS ls (lv_sub hl [0, 1, 2, 3, 4] rfl)
set_option maxRecDepth 100000 in
set_option maxHeartbeats 4000000 in
theorem kX2_become (l : Launch) (D : va_G) (cI cZ : ClassId) (ad : Nat → Nat) (u : XS) (x : Nat) (r : Bool) (T : Nat) (inv : Inv T u) (hx8 : sub x (xL u)) (hx9 : x < 1024) : CI l D [(cI, .int), (cZ, .boolean)] yX2_become wsX2_become ({ frames := 1, cells := 0, slots := 0, locals := 23 }) [.ref (ad 0), .int (nI x), .int (b2i r)] (wM cI cZ ad u) (wM cI cZ ad (becS u x r)) (nI (cn x)) := by
  have ok := inv.1
  obtain ⟨hM, hW, hHo, hAb, hLb, hRb, hDb⟩ := id ok
  refine lh_CIof (cc := cX2_become) (maxL := 6) (ret := (some .int)) (own := RX2) (by decide) rfl rfl (Nat.le_of_ble_eq_true rfl) ?_
  intro p e s m below meth c A ls hx hb hr hlk hts hown hml hK hN hA hP hD hS hl
  have fX2_61 := hts (.fieldLink RX2 61 "LostHostsModel" "gone" "I") (by decide +kernel)
  have fX2_23 := hts (.fieldLink RX2 23 "LostHostsModel" "linkOf" "[I") (by decide +kernel)
  have hinX2 : ∀ w ∈ u_ws RX2 TX2 13, w ∈ wsX2_become := by decide +kernel
  have hl : lv_has ls 6 [(0, .ref (ad 0)), (1, .int (nI x)), (2, .int (b2i r))] := hl
  refine lv_aload_n hx hb dX2_become_0 rfl (lv_at hl 0 rfl) ?_
  refine lv_dup hx hb dX2_become_1 rfl ?_
  refine va_get (D := D) (ci := 2) (v := .int (nI (gn u))) (C := RX2) (T := TX2) (N := 13) hx hb hts hinX2 hown hK hP 0 rfl rfl 4 (by decide) fX2_61 (fun _ h9 => h9) rfl dX2_become_2 ?_
  refine lv_iload_n hx hb dX2_become_5 rfl (lv_at hl 1 rfl) ?_
  refine lv_ior hx hb dX2_become_6 ?_
  refine lh_top (y := nI (gn u ||| x)) (fa_or _ _) ?_
  refine va_put (D := D) (ci := 2) (v := .int (nI (gn u ||| x))) (ty := .int) (C := RX2) (T := TX2) (N := 13) hx hb hts hinX2 tyX2 tyX2_ok nmX2 hown hK hP hD hS 0 rfl rfl 4 (by decide) fX2_61 (fun _ h9 => h9) rfl (by decide +kernel) rfl rfl (Nat.le_of_ble_eq_true rfl) dX2_become_7 (fun H locs hP hD hS => ?_)
  have hP : va_P D vwCl (wG cI cZ ad u (gn u ||| x) (fun zz => (xR u).testBit zz)) H := hP
  have hD : va_D A (wG cI cZ ad u (gn u ||| x) (fun zz => (xR u).testBit zz)) := hD
  refine lv_iconst (v := nI 0) hx hb dX2_become_10 (by decide) ?_
  refine lv_istore_n (lv' := [(3, .int (nI 0)), (0, .ref (ad 0)), (1, .int (nI x)), (2, .int (b2i r))]) hx hb dX2_become_11 rfl hl (by decide) rfl (fun ls hl => ?_)
  have L12 : ∀ (n : Nat) (i : Nat) (t : XS), 100 - i < n → (i ≤ 100) → (t = fol (rst u x r) i u) → ∀ (H : Heap) (locs : List Loc), va_P D vwCl (wG cI cZ ad t (gn u ||| x) (fun zz => (xR t).testBit zz)) H → va_D A (wG cI cZ ad t (gn u ||| x) (fun zz => (xR t).testBit zz)) → va_S A s.heap H locs → ∀ (ls : Array Slot), lv_has ls 6 [(3, .int (nI i)), (0, .ref (ad 0)), (1, .int (nI x)), (2, .int (b2i r))] → W p l e ({ frames := 1, cells := 0, slots := 0, locals := 23 }) s m [.ref (ad 0), .int (nI x), .int (b2i r)].toArray below meth c H locs 0 0 (QI below D [(cI, .int), (cZ, .boolean)] A (wM cI cZ ad (becS u x r)) (nI (cn x)) [.ref (ad 0), .int (nI x), .int (b2i r)].toArray s) (F0 m 12 ls []) := by
    intro n
    induction n with
    | zero => intro i t hmu; exact absurd hmu (Nat.not_lt_zero _)
    | succ n ih12 =>
      intro i t hmu12 hi ht H locs hP hD hS ls hl
      refine lv_iload_n hx hb dX2_become_12 rfl (lv_at hl 0 rfl) ?_
      refine lv_bipush (v := nI 100) hx hb dX2_become_13 (by decide) ?_
      refine lv_icmp_ge (tgt := 84) hx hb dX2_become_15 (by decide) (fun c_1 => ?_) (fun c_1 => ?_)
      · have c_1 : 100 ≤ i := (nI_leI (by omega) (by omega)).mp c_1
        have c_1n : ¬ i < 100 := by omega
        refine lv_iconst (v := nI 0) hx hb dX2_become_84 (by decide) ?_
        refine lv_istore_n (lv' := [(3, .int (nI 0)), (0, .ref (ad 0)), (1, .int (nI x)), (2, .int (b2i r))]) hx hb dX2_become_85 rfl hl (by decide) rfl (fun ls hl => ?_)
        have L86 : ∀ (n : Nat) (i2 : Nat) (t2 : XS), 100 - i2 < n → (i2 ≤ 100) → (t2 = sLi (fol (rst u x r) 100 u) (fol (lst x) i2 (xLi u))) → ∀ (H : Heap) (locs : List Loc), va_P D vwCl (wG cI cZ ad t2 (gn u ||| x) (fun zz => (xR t2).testBit zz)) H → va_D A (wG cI cZ ad t2 (gn u ||| x) (fun zz => (xR t2).testBit zz)) → va_S A s.heap H locs → ∀ (ls : Array Slot), lv_has ls 6 [(3, .int (nI i2)), (0, .ref (ad 0)), (1, .int (nI x)), (2, .int (b2i r))] → W p l e ({ frames := 1, cells := 0, slots := 0, locals := 23 }) s m [.ref (ad 0), .int (nI x), .int (b2i r)].toArray below meth c H locs 0 0 (QI below D [(cI, .int), (cZ, .boolean)] A (wM cI cZ ad (becS u x r)) (nI (cn x)) [.ref (ad 0), .int (nI x), .int (b2i r)].toArray s) (F0 m 86 ls []) := by
          intro n
          induction n with
          | zero => intro i2 t2 hmu; exact absurd hmu (Nat.not_lt_zero _)
          | succ n ih86 =>
            intro i2 t2 hmu86 hi2 ht2 H locs hP hD hS ls hl
            refine lv_iload_n hx hb dX2_become_86 rfl (lv_at hl 0 rfl) ?_
            refine lv_bipush (v := nI 100) hx hb dX2_become_87 (by decide) ?_
            refine lv_icmp_ge (tgt := 137) hx hb dX2_become_89 (by decide) (fun c_2 => ?_) (fun c_2 => ?_)
            · have c_2 : 100 ≤ i2 := (nI_leI (by omega) (by omega)).mp c_2
              have c_2n : ¬ i2 < 100 := by omega
              refine lv_iload_n hx hb dX2_become_137 rfl (lv_at hl 2 rfl) ?_
              refine lh_cSi ⟨hx, hb, hml, hown, hts⟩ (kX2_sizeOf l D _ _ x (by omega)) (va_cwS 1 hts gX2_become_X2_sizeOf rfl rfl rfl (by decide +kernel) ⟨Nat.le_of_ble_eq_true rfl, Nat.le_of_ble_eq_true rfl⟩) hK hN hP hD hS hA rfl hl.1 rfl (Nat.le_of_ble_eq_true rfl) ⟨Nat.le_of_ble_eq_true rfl, Nat.le_of_ble_eq_true rfl⟩ dX2_become_138 (fun H locs hP hD hS => ?_)
              exact lh_ri hx hb hr hlk hK hP hD hS rfl (by rw [ht2, show i2 = 100 by omega]; exact bec_w inv cI cZ ad hx8 r) dX2_become_141
            · have c_2 : i2 < 100 := Nat.lt_of_not_le (fun h => c_2 ((nI_leI (by omega) (by omega)).mpr h))
              refine lv_aload_n hx hb dX2_become_92 rfl (lv_at hl 1 rfl) ?_
              refine va_get (D := D) (ci := 2) (v := .ref (ad 5)) (C := RX2) (T := TX2) (N := 13) hx hb hts hinX2 hown hK hP 0 rfl rfl 7 (by decide) fX2_23 (fun _ h9 => h9) rfl dX2_become_93 ?_
              refine lv_iload_n hx hb dX2_become_96 rfl (lv_at hl 0 rfl) ?_
              refine lv_iload_n hx hb dX2_become_97 rfl (lv_at hl 2 rfl) ?_
              refine lv_iload_n hx hb dX2_become_98 rfl (lv_at hl 0 rfl) ?_
              refine lv_bipush (v := nI 10) hx hb dX2_become_99 (by decide) ?_
              refine lv_idiv hx hb dX2_become_101 (by decide) ?_
              refine lh_top (y := nI (i2 / 10)) (pk_div (by omega) (by decide) (by decide)) ?_
              refine lh_cSi ⟨hx, hb, hml, hown, hts⟩ (kX2_has l D _ _ x (i2 / 10) (by omega) (by omega)) (va_cwS 2 hts gX2_become_X2_has rfl rfl rfl (by decide +kernel) ⟨Nat.le_of_ble_eq_true rfl, Nat.le_of_ble_eq_true rfl⟩) hK hN hP hD hS hA rfl hl.1 rfl (Nat.le_of_ble_eq_true rfl) ⟨Nat.le_of_ble_eq_true rfl, Nat.le_of_ble_eq_true rfl⟩ dX2_become_102 (fun H locs hP hD hS => ?_)
              refine lv_if_ne (tgt := 119) hx hb dX2_become_105 (by decide) (fun c_3 => ?_) (fun c_3 => ?_)
              · have c_3 : (x.testBit (i2 / 10)) = true := b2i_n0 c_3
                refine lv_bipush (v := (-9)) hx hb dX2_become_119 (by decide) ?_
                refine lv_goto (tgt := 130) hx hb dX2_become_121 (by decide) ?_
                refine lh_ist (k := i2) (N := 100) (f2 := upd (xLi t2) i2 ((-9))) hx hb hK hP hD hS 5 0 rfl rfl (by omega) (by decide) (rfl) dX2_become_130 (fun H locs hP hD hS => ?_)
                have hP : va_P D vwCl (wG cI cZ ad (sLi t2 (upd (xLi t2) i2 ((-9)))) (gn u ||| x) (fun zz => (xR (sLi t2 (upd (xLi t2) i2 ((-9))))).testBit zz)) H := hP
                have hD : va_D A (wG cI cZ ad (sLi t2 (upd (xLi t2) i2 ((-9)))) (gn u ||| x) (fun zz => (xR (sLi t2 (upd (xLi t2) i2 ((-9))))).testBit zz)) := hD
                refine lv_iinc (v := nI (i2 + 1)) (lv' := [(3, .int (nI (i2 + 1))), (0, .ref (ad 0)), (1, .int (nI x)), (2, .int (b2i r))]) hx hb dX2_become_131 hl (k := 0) rfl (lh_inc _) (by decide) rfl (fun ls hl => ?_)
                refine lv_goto (tgt := 86) hx hb dX2_become_134 (by decide) ?_
                exact ih86 (i2 + 1) (sLi t2 (upd (xLi t2) i2 ((-9)))) (by omega) (by omega) (by subst ht2; refine congrArg (fun f => sLi (fol (rst u x r) 100 u) f) ?_; first | exact lst_n x i2 _ c_2 c_3 | (rw [ls_step]; unfold lst; simp [c_1n, c_1, c_2, c_3]; done)) _ _ hP hD hS ls (lv_sub hl [0, 1, 2, 3] rfl)
              · have c_3 : (x.testBit (i2 / 10)) = false := b2i_e0 c_3
                refine lv_iload_n hx hb dX2_become_108 rfl (lv_at hl 2 rfl) ?_
                refine lv_iload_n hx hb dX2_become_109 rfl (lv_at hl 0 rfl) ?_
                refine lv_bipush (v := nI 10) hx hb dX2_become_110 (by decide) ?_
                refine lv_irem hx hb dX2_become_112 (by decide) ?_
                refine lh_top (y := nI (i2 % 10)) (pk_rem (by omega) (by decide) (by decide)) ?_
                refine lh_cSi ⟨hx, hb, hml, hown, hts⟩ (kX2_has l D _ _ x (i2 % 10) (by omega) (by omega)) (va_cwS 2 hts gX2_become_X2_has rfl rfl rfl (by decide +kernel) ⟨Nat.le_of_ble_eq_true rfl, Nat.le_of_ble_eq_true rfl⟩) hK hN hP hD hS hA rfl hl.1 rfl (Nat.le_of_ble_eq_true rfl) ⟨Nat.le_of_ble_eq_true rfl, Nat.le_of_ble_eq_true rfl⟩ dX2_become_113 (fun H locs hP hD hS => ?_)
                refine lv_if_eq (tgt := 124) hx hb dX2_become_116 (by decide) (fun c_4 => ?_) (fun c_4 => ?_)
                · have c_4 : (x.testBit (i2 % 10)) = false := b2i_e0 c_4
                  refine lv_aload_n hx hb dX2_become_124 rfl (lv_at hl 1 rfl) ?_
                  refine va_get (D := D) (ci := 2) (v := .ref (ad 5)) (C := RX2) (T := TX2) (N := 13) hx hb hts hinX2 hown hK hP 0 rfl rfl 7 (by decide) fX2_23 (fun _ h9 => h9) rfl dX2_become_125 ?_
                  refine lv_iload_n hx hb dX2_become_128 rfl (lv_at hl 0 rfl) ?_
                  refine lh_ild (k := i2) (N := 100) hx hb hK hP 5 0 rfl rfl (by omega) (by decide) dX2_become_129 ?_
                  refine W.eq (g2 := F0 m 130 ls (.int ((xLi t2 i2)) :: [.int (nI i2), .ref (ad 5)])) rfl ?_
                  refine lh_ist (k := i2) (N := 100) (f2 := upd (xLi t2) i2 ((xLi t2 i2))) hx hb hK hP hD hS 5 0 rfl rfl (by omega) (by decide) (rfl) dX2_become_130 (fun H locs hP hD hS => ?_)
                  have hP : va_P D vwCl (wG cI cZ ad (sLi t2 (upd (xLi t2) i2 ((xLi t2 i2)))) (gn u ||| x) (fun zz => (xR (sLi t2 (upd (xLi t2) i2 ((xLi t2 i2))))).testBit zz)) H := hP
                  have hD : va_D A (wG cI cZ ad (sLi t2 (upd (xLi t2) i2 ((xLi t2 i2)))) (gn u ||| x) (fun zz => (xR (sLi t2 (upd (xLi t2) i2 ((xLi t2 i2))))).testBit zz)) := hD
                  refine lv_iinc (v := nI (i2 + 1)) (lv' := [(3, .int (nI (i2 + 1))), (0, .ref (ad 0)), (1, .int (nI x)), (2, .int (b2i r))]) hx hb dX2_become_131 hl (k := 0) rfl (lh_inc _) (by decide) rfl (fun ls hl => ?_)
                  refine lv_goto (tgt := 86) hx hb dX2_become_134 (by decide) ?_
                  exact ih86 (i2 + 1) (sLi t2 (upd (xLi t2) i2 ((xLi t2 i2)))) (by omega) (by omega) (by subst ht2; refine congrArg (fun f => sLi (fol (rst u x r) 100 u) f) ?_; first | exact lst_n x i2 _ c_3 c_4 | (rw [ls_step]; unfold lst; simp [c_1n, c_1, c_2, c_3, c_4]; done)) _ _ hP hD hS ls (lv_sub hl [0, 1, 2, 3] rfl)
                · have c_4 : (x.testBit (i2 % 10)) = true := b2i_n0 c_4
                  refine lv_bipush (v := (-9)) hx hb dX2_become_119 (by decide) ?_
                  refine lv_goto (tgt := 130) hx hb dX2_become_121 (by decide) ?_
                  refine lh_ist (k := i2) (N := 100) (f2 := upd (xLi t2) i2 ((-9))) hx hb hK hP hD hS 5 0 rfl rfl (by omega) (by decide) (rfl) dX2_become_130 (fun H locs hP hD hS => ?_)
                  have hP : va_P D vwCl (wG cI cZ ad (sLi t2 (upd (xLi t2) i2 ((-9)))) (gn u ||| x) (fun zz => (xR (sLi t2 (upd (xLi t2) i2 ((-9))))).testBit zz)) H := hP
                  have hD : va_D A (wG cI cZ ad (sLi t2 (upd (xLi t2) i2 ((-9)))) (gn u ||| x) (fun zz => (xR (sLi t2 (upd (xLi t2) i2 ((-9))))).testBit zz)) := hD
                  refine lv_iinc (v := nI (i2 + 1)) (lv' := [(3, .int (nI (i2 + 1))), (0, .ref (ad 0)), (1, .int (nI x)), (2, .int (b2i r))]) hx hb dX2_become_131 hl (k := 0) rfl (lh_inc _) (by decide) rfl (fun ls hl => ?_)
                  refine lv_goto (tgt := 86) hx hb dX2_become_134 (by decide) ?_
                  exact ih86 (i2 + 1) (sLi t2 (upd (xLi t2) i2 ((-9)))) (by omega) (by omega) (by subst ht2; refine congrArg (fun f => sLi (fol (rst u x r) 100 u) f) ?_; first | exact lst_n x i2 _ c_3 c_4 | (rw [ls_step]; unfold lst; simp [c_1n, c_1, c_2, c_3, c_4]; done)) _ _ hP hD hS ls (lv_sub hl [0, 1, 2, 3] rfl)
        exact L86 _ 0 t (Nat.lt_succ_self _) (by omega) (by exact rs0 (by rw [ht, show i = 100 by omega])) _ _ hP hD hS ls (lv_sub hl [0, 1, 2, 3] rfl)
      · have c_1 : i < 100 := Nat.lt_of_not_le (fun h => c_1 ((nI_leI (by omega) (by omega)).mpr h))
        refine lv_iload_n hx hb dX2_become_18 rfl (lv_at hl 0 rfl) ?_
        refine lv_bipush (v := nI 10) hx hb dX2_become_19 (by decide) ?_
        refine lv_idiv hx hb dX2_become_21 (by decide) ?_
        refine lh_top (y := nI (i / 10)) (pk_div (by omega) (by decide) (by decide)) ?_
        refine lv_istore (lv' := [(4, .int (nI (i / 10))), (3, .int (nI i)), (0, .ref (ad 0)), (1, .int (nI x)), (2, .int (b2i r))]) hx hb dX2_become_22 hl (by decide) rfl (fun ls hl => ?_)
        refine lv_iload_n hx hb dX2_become_24 rfl (lv_at hl 1 rfl) ?_
        refine lv_bipush (v := nI 10) hx hb dX2_become_25 (by decide) ?_
        refine lv_irem hx hb dX2_become_27 (by decide) ?_
        refine lh_top (y := nI (i % 10)) (pk_rem (by omega) (by decide) (by decide)) ?_
        refine lv_istore (lv' := [(5, .int (nI (i % 10))), (4, .int (nI (i / 10))), (3, .int (nI i)), (0, .ref (ad 0)), (1, .int (nI x)), (2, .int (b2i r))]) hx hb dX2_become_28 hl (by decide) rfl (fun ls hl => ?_)
        refine lv_iload_n hx hb dX2_become_30 rfl (lv_at hl 5 rfl) ?_
        refine lv_if_eq (tgt := 78) hx hb dX2_become_31 (by decide) (fun c_5 => ?_) (fun c_5 => ?_)
        · have c_5 : r = false := b2i_e0 c_5
          refine lv_iinc (v := nI (i + 1)) (lv' := [(3, .int (nI (i + 1))), (5, .int (nI (i % 10))), (4, .int (nI (i / 10))), (0, .ref (ad 0)), (1, .int (nI x)), (2, .int (b2i r))]) hx hb dX2_become_78 hl (k := 2) rfl (lh_inc _) (by decide) rfl (fun ls hl => ?_)
          refine lv_goto (tgt := 12) hx hb dX2_become_81 (by decide) ?_
          exact ih12 (i + 1) t (by omega) (by omega) (by rw [rs_step, ← ht]; unfold rst; simp [c_1, c_5]) _ _ hP hD hS ls (lv_sub hl [0, 3, 4, 5] rfl)
        · have c_5 : r = true := b2i_n0 c_5
          refine lv_iload_n hx hb dX2_become_34 rfl (lv_at hl 4 rfl) ?_
          refine lv_iload hx hb dX2_become_35 (lv_at hl 1 rfl) ?_
          refine lh_cSi ⟨hx, hb, hml, hown, hts⟩ (kX2_has l D _ _ x (i / 10) (by omega) (by omega)) (va_cwS 2 hts gX2_become_X2_has rfl rfl rfl (by decide +kernel) ⟨Nat.le_of_ble_eq_true rfl, Nat.le_of_ble_eq_true rfl⟩) hK hN hP hD hS hA rfl hl.1 rfl (Nat.le_of_ble_eq_true rfl) ⟨Nat.le_of_ble_eq_true rfl, Nat.le_of_ble_eq_true rfl⟩ dX2_become_37 (fun H locs hP hD hS => ?_)
          refine lv_if_eq (tgt := 78) hx hb dX2_become_40 (by decide) (fun c_6 => ?_) (fun c_6 => ?_)
          · have c_6 : (x.testBit (i / 10)) = false := b2i_e0 c_6
            refine lv_iinc (v := nI (i + 1)) (lv' := [(3, .int (nI (i + 1))), (5, .int (nI (i % 10))), (4, .int (nI (i / 10))), (0, .ref (ad 0)), (1, .int (nI x)), (2, .int (b2i r))]) hx hb dX2_become_78 hl (k := 2) rfl (lh_inc _) (by decide) rfl (fun ls hl => ?_)
            refine lv_goto (tgt := 12) hx hb dX2_become_81 (by decide) ?_
            exact ih12 (i + 1) t (by omega) (by omega) (by rw [rs_step, ← ht]; unfold rst; simp [c_1, c_5, c_6]) _ _ hP hD hS ls (lv_sub hl [0, 3, 4, 5] rfl)
          · have c_6 : (x.testBit (i / 10)) = true := b2i_n0 c_6
            refine lv_aload_n hx hb dX2_become_43 rfl (lv_at hl 3 rfl) ?_
            refine va_get (D := D) (ci := 2) (v := .ref (ad 5)) (C := RX2) (T := TX2) (N := 13) hx hb hts hinX2 hown hK hP 0 rfl rfl 7 (by decide) fX2_23 (fun _ h9 => h9) rfl dX2_become_44 ?_
            refine lv_iload_n hx hb dX2_become_47 rfl (lv_at hl 2 rfl) ?_
            refine lh_ild (k := i) (N := 100) hx hb hK hP 5 0 rfl rfl (by omega) (by decide) dX2_become_48 ?_
            refine W.eq (g2 := F0 m 49 ls (.int ((xLi t i)) :: [])) rfl ?_
            refine lv_if_le (tgt := 78) hx hb dX2_become_49 (by decide) (fun c_7 => ?_) (fun c_7 => ?_)
            · have c_7r := c_7
              refine lv_iinc (v := nI (i + 1)) (lv' := [(3, .int (nI (i + 1))), (5, .int (nI (i % 10))), (4, .int (nI (i / 10))), (0, .ref (ad 0)), (1, .int (nI x)), (2, .int (b2i r))]) hx hb dX2_become_78 hl (k := 2) rfl (lh_inc _) (by decide) rfl (fun ls hl => ?_)
              refine lv_goto (tgt := 12) hx hb dX2_become_81 (by decide) ?_
              exact ih12 (i + 1) t (by omega) (by omega) (by rw [rs_step, ← ht]; unfold rst; simp [c_1, c_5, c_6, c_7]) _ _ hP hD hS ls (lv_sub hl [0, 3, 4, 5] rfl)
            · have c_7r := c_7
              refine lv_aload_n hx hb dX2_become_52 rfl (lv_at hl 3 rfl) ?_
              refine va_get (D := D) (ci := 2) (v := .int (nI (gn u ||| x))) (C := RX2) (T := TX2) (N := 13) hx hb hts hinX2 hown hK hP 0 rfl rfl 4 (by decide) fX2_61 (fun _ h9 => h9) rfl dX2_become_53 ?_
              refine lv_iload hx hb dX2_become_56 (lv_at hl 0 rfl) ?_
              refine lh_cSi ⟨hx, hb, hml, hown, hts⟩ (kX2_has l D _ _ (gn u ||| x) (i % 10) (by have h9 := or_lt (gn_lt hM) hx9; omega) (by omega)) (va_cwS 2 hts gX2_become_X2_has rfl rfl rfl (by decide +kernel) ⟨Nat.le_of_ble_eq_true rfl, Nat.le_of_ble_eq_true rfl⟩) hK hN hP hD hS hA rfl hl.1 rfl (Nat.le_of_ble_eq_true rfl) ⟨Nat.le_of_ble_eq_true rfl, Nat.le_of_ble_eq_true rfl⟩ dX2_become_58 (fun H locs hP hD hS => ?_)
              refine lv_if_ne (tgt := 78) hx hb dX2_become_61 (by decide) (fun c_8 => ?_) (fun c_8 => ?_)
              · have c_8 : ((gn u ||| x).testBit (i % 10)) = true := b2i_n0 c_8
                refine lv_iinc (v := nI (i + 1)) (lv' := [(3, .int (nI (i + 1))), (5, .int (nI (i % 10))), (4, .int (nI (i / 10))), (0, .ref (ad 0)), (1, .int (nI x)), (2, .int (b2i r))]) hx hb dX2_become_78 hl (k := 2) rfl (lh_inc _) (by decide) rfl (fun ls hl => ?_)
                refine lv_goto (tgt := 12) hx hb dX2_become_81 (by decide) ?_
                exact ih12 (i + 1) t (by omega) (by omega) (by rw [rs_step, ← ht]; unfold rst; simp [c_1, c_5, c_6, c_7, c_8]) _ _ hP hD hS ls (lv_sub hl [0, 3, 4, 5] rfl)
              · have c_8 : ((gn u ||| x).testBit (i % 10)) = false := b2i_e0 c_8
                refine lv_aload_n hx hb dX2_become_64 rfl (lv_at hl 3 rfl) ?_
                refine lv_iload hx hb dX2_become_65 (lv_at hl 0 rfl) ?_
                refine lv_bipush (v := (-9)) hx hb dX2_become_67 (by decide) ?_
                refine lv_aload_n hx hb dX2_become_69 rfl (lv_at hl 3 rfl) ?_
                refine va_get (D := D) (ci := 2) (v := .ref (ad 5)) (C := RX2) (T := TX2) (N := 13) hx hb hts hinX2 hown hK hP 0 rfl rfl 7 (by decide) fX2_23 (fun _ h9 => h9) rfl dX2_become_70 ?_
                refine lv_iload_n hx hb dX2_become_73 rfl (lv_at hl 2 rfl) ?_
                refine lh_ild (k := i) (N := 100) hx hb hK hP 5 0 rfl rfl (by omega) (by decide) dX2_become_74 ?_
                refine W.eq (g2 := F0 m 75 ls (.int ((xLi t i)) :: [.int ((-9)), .int (nI (i % 10)), .ref (ad 0)])) rfl ?_
                refine lh_cVv ⟨hx, hb, hml, hown, hts⟩ (kX2_sends l D cI cZ ad t (gn u ||| x) (fun zz => (xR t).testBit zz) (i % 10) 10 (xLi t i) (by rw [ht]; have h9 := rsf_W u x r i u; omega)) (cwV 3 hts gX2_become_X2_sends rfl rfl rfl (by decide +kernel) ⟨Nat.le_of_ble_eq_true rfl, Nat.le_of_ble_eq_true rfl⟩) hK hN hP hD hS hA 0 2 rfl rfl rfl rfl hl.1 rfl (Nat.le_of_ble_eq_true rfl) ⟨Nat.le_of_ble_eq_true rfl, Nat.le_of_ble_eq_true rfl⟩ dX2_become_75 (fun H locs hP hD hS => ?_)
                have hP : va_P D vwCl (wG cI cZ ad (app t (i % 10) 10 (xLi t i)) (gn u ||| x) (fun zz => (xR (app t (i % 10) 10 (xLi t i))).testBit zz)) H := hP
                have hD : va_D A (wG cI cZ ad (app t (i % 10) 10 (xLi t i)) (gn u ||| x) (fun zz => (xR (app t (i % 10) 10 (xLi t i))).testBit zz)) := hD
                refine lv_iinc (v := nI (i + 1)) (lv' := [(3, .int (nI (i + 1))), (5, .int (nI (i % 10))), (4, .int (nI (i / 10))), (0, .ref (ad 0)), (1, .int (nI x)), (2, .int (b2i r))]) hx hb dX2_become_78 hl (k := 2) rfl (lh_inc _) (by decide) rfl (fun ls hl => ?_)
                refine lv_goto (tgt := 12) hx hb dX2_become_81 (by decide) ?_
                exact ih12 (i + 1) (app t (i % 10) 10 (xLi t i)) (by omega) (by omega) (by rw [rs_step, ← ht]; unfold rst; simp [c_1, c_5, c_6, c_7, c_8]) _ _ hP hD hS ls (lv_sub hl [0, 3, 4, 5] rfl)
  exact L12 _ 0 u (Nat.lt_succ_self _) (by omega) (by rfl) _ _ hP hD hS ls (lv_sub hl [0, 1, 2, 3] rfl)
set_option maxRecDepth 100000 in
set_option maxHeartbeats 4000000 in
theorem kX2_collects (l : Launch) (D : va_G) (cI cZ : ClassId) (ad : Nat → Nat) (u : XS) (h : Nat) (T : Nat) (inv : Inv T u) (hh : h < 4) : CI l D [(cI, .int), (cZ, .boolean)] yX2_collects wsX2_collects ({ frames := 5, cells := 0, slots := 0, locals := 116 }) [.ref (ad 0), .int (nI h)] (wM cI cZ ad u) (wM cI cZ ad (colS u h)) (nI (cn (colL u h))) := by
  have ok := inv.1
  obtain ⟨hM, hW, hHo, hAb, hLb, hRb, hDb⟩ := id ok
  refine lh_CIof (cc := cX2_collects) (maxL := 6) (ret := (some .int)) (own := RX2) (by decide) rfl rfl (Nat.le_of_ble_eq_true rfl) ?_
  intro p e s m below meth c A ls hx hb hr hlk hts hown hml hK hN hA hP hD hS hl
  have fX2_39 := hts (.fieldLink RX2 39 "LostHostsModel" "objects" "I") (by decide +kernel)
  have fX2_20 := hts (.fieldLink RX2 20 "LostHostsModel" "ageOf" "[I") (by decide +kernel)
  have hinX2 : ∀ w ∈ u_ws RX2 TX2 13, w ∈ wsX2_collects := by decide +kernel
  have hl : lv_has ls 6 [(0, .ref (ad 0)), (1, .int (nI h))] := hl
  refine lv_aload_n hx hb dX2_collects_0 rfl (lv_at hl 0 rfl) ?_
  refine lv_iload_n hx hb dX2_collects_1 rfl (lv_at hl 1 rfl) ?_
  refine lh_cVi ⟨hx, hb, hml, hown, hts⟩ (kX2_onHost l D cI cZ ad u h ok (by omega)) (cwV 1 hts gX2_collects_X2_onHost rfl rfl rfl (by decide +kernel) ⟨Nat.le_of_ble_eq_true rfl, Nat.le_of_ble_eq_true rfl⟩) hK hN hP hD hS hA 0 2 rfl rfl rfl rfl hl.1 rfl (Nat.le_of_ble_eq_true rfl) ⟨Nat.le_of_ble_eq_true rfl, Nat.le_of_ble_eq_true rfl⟩ dX2_collects_2 (fun H locs hP hD hS => ?_)
  refine lv_istore_n (lv' := [(2, .int (nI (onH u h))), (0, .ref (ad 0)), (1, .int (nI h))]) hx hb dX2_collects_5 rfl hl (by decide) rfl (fun ls hl => ?_)
  refine lv_aload_n hx hb dX2_collects_6 rfl (lv_at hl 1 rfl) ?_
  refine lv_iload_n hx hb dX2_collects_7 rfl (lv_at hl 2 rfl) ?_
  refine lh_cVi ⟨hx, hb, hml, hown, hts⟩ (kX2_staying l D cI cZ ad u h T (by omega) (by omega)) (cwV 1 hts gX2_collects_X2_staying rfl rfl rfl (by decide +kernel) ⟨Nat.le_of_ble_eq_true rfl, Nat.le_of_ble_eq_true rfl⟩) hK hN hP hD hS hA 0 2 rfl rfl rfl rfl hl.1 rfl (Nat.le_of_ble_eq_true rfl) ⟨Nat.le_of_ble_eq_true rfl, Nat.le_of_ble_eq_true rfl⟩ dX2_collects_8 (fun H locs hP hD hS => ?_)
  refine lv_istore_n (lv' := [(3, .int (nI (stay u h))), (2, .int (nI (onH u h))), (0, .ref (ad 0)), (1, .int (nI h))]) hx hb dX2_collects_11 rfl hl (by decide) rfl (fun ls hl => ?_)
  refine lv_aload_n hx hb dX2_collects_12 rfl (lv_at hl 2 rfl) ?_
  refine lv_aload_n hx hb dX2_collects_13 rfl (lv_at hl 2 rfl) ?_
  refine lv_iload_n hx hb dX2_collects_14 rfl (lv_at hl 1 rfl) ?_
  refine lh_cVi ⟨hx, hb, hml, hown, hts⟩ (kX2_rootsOf l D cI cZ ad u (onH u h) ok (by have h9 := onH_lt hM h; omega)) (cwV 1 hts gX2_collects_X2_rootsOf rfl rfl rfl (by decide +kernel) ⟨Nat.le_of_ble_eq_true rfl, Nat.le_of_ble_eq_true rfl⟩) hK hN hP hD hS hA 0 2 rfl rfl rfl rfl hl.1 rfl (Nat.le_of_ble_eq_true rfl) ⟨Nat.le_of_ble_eq_true rfl, Nat.le_of_ble_eq_true rfl⟩ dX2_collects_15 (fun H locs hP hD hS => ?_)
  refine lv_iload_n hx hb dX2_collects_18 rfl (lv_at hl 1 rfl) ?_
  refine lh_cVi ⟨hx, hb, hml, hown, hts⟩ (kX2_ledTo l D cI cZ ad u (rtO u (onH u h)) (onH u h) ok (by exact rtO_lt hM _)) (cwV 2 hts gX2_collects_X2_ledTo rfl rfl rfl (by decide +kernel) ⟨Nat.le_of_ble_eq_true rfl, Nat.le_of_ble_eq_true rfl⟩) hK hN hP hD hS hA 0 2 rfl rfl rfl rfl hl.1 rfl (Nat.le_of_ble_eq_true rfl) ⟨Nat.le_of_ble_eq_true rfl, Nat.le_of_ble_eq_true rfl⟩ dX2_collects_19 (fun H locs hP hD hS => ?_)
  refine lv_istore (lv' := [(4, .int (nI (clo (ledR u (onH u h)) (rtO u (onH u h))))), (3, .int (nI (stay u h))), (2, .int (nI (onH u h))), (0, .ref (ad 0)), (1, .int (nI h))]) hx hb dX2_collects_22 hl (by decide) rfl (fun ls hl => ?_)
  refine lv_iconst (v := nI 0) hx hb dX2_collects_24 (by decide) ?_
  refine lv_istore (lv' := [(5, .int (nI 0)), (4, .int (nI (clo (ledR u (onH u h)) (rtO u (onH u h))))), (3, .int (nI (stay u h))), (2, .int (nI (onH u h))), (0, .ref (ad 0)), (1, .int (nI h))]) hx hb dX2_collects_25 hl (by decide) rfl (fun ls hl => ?_)
  have L27 : ∀ (n : Nat) (k : Nat) (t : XS), xM u - k < n → (k ≤ xM u) → (t = sAg u (fol (as2 (stay u h) (clo (ledR u (onH u h)) (rtO u (onH u h)))) k (xAg u))) → ∀ (H : Heap) (locs : List Loc), va_P D vwCl (wM cI cZ ad t) H → va_D A (wM cI cZ ad t) → va_S A s.heap H locs → ∀ (ls : Array Slot), lv_has ls 6 [(5, .int (nI k)), (4, .int (nI (clo (ledR u (onH u h)) (rtO u (onH u h))))), (3, .int (nI (stay u h))), (2, .int (nI (onH u h))), (0, .ref (ad 0)), (1, .int (nI h))] → W p l e ({ frames := 5, cells := 0, slots := 0, locals := 116 }) s m [.ref (ad 0), .int (nI h)].toArray below meth c H locs 0 0 (QI below D [(cI, .int), (cZ, .boolean)] A (wM cI cZ ad (colS u h)) (nI (cn (colL u h))) [.ref (ad 0), .int (nI h)].toArray s) (F0 m 27 ls []) := by
    intro n
    induction n with
    | zero => intro k t hmu; exact absurd hmu (Nat.not_lt_zero _)
    | succ n ih27 =>
      intro k t hmu27 hk ht H locs hP hD hS ls hl
      have htM : xM t = xM u := by rw [ht]
      refine lv_iload hx hb dX2_collects_27 (lv_at hl 0 rfl) ?_
      refine lv_aload_n hx hb dX2_collects_29 rfl (lv_at hl 4 rfl) ?_
      refine va_get (D := D) (ci := 2) (v := .int (nI (xM t))) (C := RX2) (T := TX2) (N := 13) hx hb hts hinX2 hown hK hP 0 rfl rfl 1 (by decide) fX2_39 (fun _ h9 => h9) rfl dX2_collects_30 ?_
      refine lv_icmp_ge (tgt := 98) hx hb dX2_collects_33 (by decide) (fun c_1 => ?_) (fun c_1 => ?_)
      · have c_1 : xM t ≤ k := (nI_leI (by omega) (by omega)).mp c_1
        have c_1n : ¬ k < xM t := by omega
        have htG : t = colG u h := by rw [ht, show k = xM u by omega, young_2 inv, as2_ast (young_stay inv h) inv.2.2.2.2.2.2.1]; rfl
        refine lv_aload_n hx hb dX2_collects_98 rfl (lv_at hl 4 rfl) ?_
        refine lv_iload_n hx hb dX2_collects_99 rfl (lv_at hl 3 rfl) ?_
        refine lv_iload_n hx hb dX2_collects_100 rfl (lv_at hl 2 rfl) ?_
        refine lv_iconst (v := (-1)) hx hb dX2_collects_101 (by decide) ?_
        refine lv_ixor hx hb dX2_collects_102 ?_
        refine lv_iand hx hb dX2_collects_103 ?_
        refine lh_top (y := nI (dif (onH u h) (stay u h))) (lh_not _ (by have h9 := onH_lt hM h; omega)) ?_
        refine lv_iconst (v := nI 1) hx hb dX2_collects_104 (by decide) ?_
        refine lh_cVi ⟨hx, hb, hml, hown, hts⟩ (kX2_become l D cI cZ ad t (dif (onH u h) (stay u h)) true T (by rw [htG]; exact Inv_grw inv _ _) (by rw [htG]; exact colL_sub u h) (by exact colL_lt hM)) (cwV 2 hts gX2_collects_X2_become rfl rfl rfl (by decide +kernel) ⟨Nat.le_of_ble_eq_true rfl, Nat.le_of_ble_eq_true rfl⟩) hK hN hP hD hS hA 0 2 rfl rfl rfl rfl hl.1 rfl (Nat.le_of_ble_eq_true rfl) ⟨Nat.le_of_ble_eq_true rfl, Nat.le_of_ble_eq_true rfl⟩ dX2_collects_105 (fun H locs hP hD hS => ?_)
        have hP : va_P D vwCl (wM cI cZ ad (becS t (dif (onH u h) (stay u h)) true)) H := hP
        have hD : va_D A (wM cI cZ ad (becS t (dif (onH u h) (stay u h)) true)) := hD
        exact lh_ri hx hb hr hlk hK hP hD hS (by rfl) (by rw [htG]; rfl) dX2_collects_108
      · have c_1 : k < xM t := Nat.lt_of_not_le (fun h => c_1 ((nI_leI (by omega) (by omega)).mpr h))
        refine lv_iload_n hx hb dX2_collects_36 rfl (lv_at hl 2 rfl) ?_
        refine lv_iload hx hb dX2_collects_37 (lv_at hl 0 rfl) ?_
        refine lh_cSi ⟨hx, hb, hml, hown, hts⟩ (kX2_has l D _ _ (stay u h) k (by have h9 : stay u h < 1024 := clo_lt (sub_lt (seed_on u h) (onH_lt hM h)); omega) (by omega)) (va_cwS 2 hts gX2_collects_X2_has rfl rfl rfl (by decide +kernel) ⟨Nat.le_of_ble_eq_true rfl, Nat.le_of_ble_eq_true rfl⟩) hK hN hP hD hS hA rfl hl.1 rfl (Nat.le_of_ble_eq_true rfl) ⟨Nat.le_of_ble_eq_true rfl, Nat.le_of_ble_eq_true rfl⟩ dX2_collects_39 (fun H locs hP hD hS => ?_)
        refine lv_if_eq (tgt := 92) hx hb dX2_collects_42 (by decide) (fun c_2 => ?_) (fun c_2 => ?_)
        · have c_2 : ((stay u h).testBit k) = false := b2i_e0 c_2
          refine lv_iinc (v := nI (k + 1)) (lv' := [(5, .int (nI (k + 1))), (4, .int (nI (clo (ledR u (onH u h)) (rtO u (onH u h))))), (3, .int (nI (stay u h))), (2, .int (nI (onH u h))), (0, .ref (ad 0)), (1, .int (nI h))]) hx hb dX2_collects_92 hl (k := 0) rfl (lh_inc _) (by decide) rfl (fun ls hl => ?_)
          refine lv_goto (tgt := 27) hx hb dX2_collects_95 (by decide) ?_
          exact ih27 (k + 1) t (by omega) (by omega) (by subst ht; simp [fol, as2, nI_0, c_1, c_2]) _ _ hP hD hS ls (lv_sub hl [0, 1, 2, 3, 4, 5] rfl)
        · have c_2 : ((stay u h).testBit k) = true := b2i_n0 c_2
          refine lv_aload_n hx hb dX2_collects_45 rfl (lv_at hl 4 rfl) ?_
          refine va_get (D := D) (ci := 2) (v := .ref (ad 4)) (C := RX2) (T := TX2) (N := 13) hx hb hts hinX2 hown hK hP 0 rfl rfl 6 (by decide) fX2_20 (fun _ h9 => h9) rfl dX2_collects_46 ?_
          refine lv_iload hx hb dX2_collects_49 (lv_at hl 0 rfl) ?_
          refine lv_iload hx hb dX2_collects_51 (lv_at hl 1 rfl) ?_
          refine lv_iload hx hb dX2_collects_53 (lv_at hl 0 rfl) ?_
          refine lh_cSi ⟨hx, hb, hml, hown, hts⟩ (kX2_has l D _ _ (clo (ledR u (onH u h)) (rtO u (onH u h))) k (by have h9 : clo (ledR u (onH u h)) (rtO u (onH u h)) < 1024 := clo_lt (rtO_lt hM _); omega) (by omega)) (va_cwS 2 hts gX2_collects_X2_has rfl rfl rfl (by decide +kernel) ⟨Nat.le_of_ble_eq_true rfl, Nat.le_of_ble_eq_true rfl⟩) hK hN hP hD hS hA rfl hl.1 rfl (Nat.le_of_ble_eq_true rfl) ⟨Nat.le_of_ble_eq_true rfl, Nat.le_of_ble_eq_true rfl⟩ dX2_collects_55 (fun H locs hP hD hS => ?_)
          refine lv_if_eq (tgt := 65) hx hb dX2_collects_58 (by decide) (fun c_3 => ?_) (fun c_3 => ?_)
          · have c_3 : ((clo (ledR u (onH u h)) (rtO u (onH u h))).testBit k) = false := b2i_e0 c_3
            refine lv_aload_n hx hb dX2_collects_65 rfl (lv_at hl 4 rfl) ?_
            refine va_get (D := D) (ci := 2) (v := .ref (ad 4)) (C := RX2) (T := TX2) (N := 13) hx hb hts hinX2 hown hK hP 0 rfl rfl 6 (by decide) fX2_20 (fun _ h9 => h9) rfl dX2_collects_66 ?_
            refine lv_iload hx hb dX2_collects_69 (lv_at hl 0 rfl) ?_
            refine lh_ild (k := k) (N := 10) hx hb hK hP 4 0 rfl rfl (by omega) (by decide) dX2_collects_71 ?_
            refine W.eq (g2 := F0 m 72 ls (.int ((xAg t k)) :: [.int (nI k), .ref (ad 4)])) rfl ?_
            refine lv_bipush (v := nI 9) hx hb dX2_collects_72 (by decide) ?_
            refine lv_icmp_ge (tgt := 89) hx hb dX2_collects_74 (by decide) (fun c_4 => ?_) (fun c_4 => ?_)
            · have c_4r := c_4
              refine lv_bipush (v := nI 9) hx hb dX2_collects_89 (by decide) ?_
              refine lh_ist (k := k) (N := 10) (f2 := upd (xAg t) k (nI 9)) hx hb hK hP hD hS 4 0 rfl rfl (by omega) (by decide) (rfl) dX2_collects_91 (fun H locs hP hD hS => ?_)
              have hP : va_P D vwCl (wM cI cZ ad (sAg t (upd (xAg t) k (nI 9)))) H := hP
              have hD : va_D A (wM cI cZ ad (sAg t (upd (xAg t) k (nI 9)))) := hD
              refine lv_iinc (v := nI (k + 1)) (lv' := [(5, .int (nI (k + 1))), (4, .int (nI (clo (ledR u (onH u h)) (rtO u (onH u h))))), (3, .int (nI (stay u h))), (2, .int (nI (onH u h))), (0, .ref (ad 0)), (1, .int (nI h))]) hx hb dX2_collects_92 hl (k := 0) rfl (lh_inc _) (by decide) rfl (fun ls hl => ?_)
              refine lv_goto (tgt := 27) hx hb dX2_collects_95 (by decide) ?_
              exact ih27 (k + 1) (sAg t (upd (xAg t) k (nI 9))) (by omega) (by omega) (by subst ht; simp [fol, as2, nI_0, c_1, c_2, c_3, c_4]) _ _ hP hD hS ls (lv_sub hl [0, 1, 2, 3, 4, 5] rfl)
            · have c_4r := c_4
              refine lv_aload_n hx hb dX2_collects_77 rfl (lv_at hl 4 rfl) ?_
              refine va_get (D := D) (ci := 2) (v := .ref (ad 4)) (C := RX2) (T := TX2) (N := 13) hx hb hts hinX2 hown hK hP 0 rfl rfl 6 (by decide) fX2_20 (fun _ h9 => h9) rfl dX2_collects_78 ?_
              refine lv_iload hx hb dX2_collects_81 (lv_at hl 0 rfl) ?_
              refine lh_ild (k := k) (N := 10) hx hb hK hP 4 0 rfl rfl (by omega) (by decide) dX2_collects_83 ?_
              refine W.eq (g2 := F0 m 84 ls (.int ((xAg t k)) :: [.int (nI k), .ref (ad 4)])) rfl ?_
              refine lv_iconst (v := nI 1) hx hb dX2_collects_84 (by decide) ?_
              refine lv_iadd hx hb dX2_collects_85 ?_
              refine lv_goto (tgt := 91) hx hb dX2_collects_86 (by decide) ?_
              refine lh_ist (k := k) (N := 10) (f2 := upd (xAg t) k (((xAg t k) + nI 1))) hx hb hK hP hD hS 4 0 rfl rfl (by omega) (by decide) (rfl) dX2_collects_91 (fun H locs hP hD hS => ?_)
              have hP : va_P D vwCl (wM cI cZ ad (sAg t (upd (xAg t) k (((xAg t k) + nI 1))))) H := hP
              have hD : va_D A (wM cI cZ ad (sAg t (upd (xAg t) k (((xAg t k) + nI 1))))) := hD
              refine lv_iinc (v := nI (k + 1)) (lv' := [(5, .int (nI (k + 1))), (4, .int (nI (clo (ledR u (onH u h)) (rtO u (onH u h))))), (3, .int (nI (stay u h))), (2, .int (nI (onH u h))), (0, .ref (ad 0)), (1, .int (nI h))]) hx hb dX2_collects_92 hl (k := 0) rfl (lh_inc _) (by decide) rfl (fun ls hl => ?_)
              refine lv_goto (tgt := 27) hx hb dX2_collects_95 (by decide) ?_
              exact ih27 (k + 1) (sAg t (upd (xAg t) k (((xAg t k) + nI 1)))) (by omega) (by omega) (by subst ht; simp [fol, as2, nI_0, c_1, c_2, c_3, c_4]) _ _ hP hD hS ls (lv_sub hl [0, 1, 2, 3, 4, 5] rfl)
          · have c_3 : ((clo (ledR u (onH u h)) (rtO u (onH u h))).testBit k) = true := b2i_n0 c_3
            refine lv_iconst (v := nI 0) hx hb dX2_collects_61 (by decide) ?_
            refine lv_goto (tgt := 91) hx hb dX2_collects_62 (by decide) ?_
            refine lh_ist (k := k) (N := 10) (f2 := upd (xAg t) k (nI 0)) hx hb hK hP hD hS 4 0 rfl rfl (by omega) (by decide) (rfl) dX2_collects_91 (fun H locs hP hD hS => ?_)
            have hP : va_P D vwCl (wM cI cZ ad (sAg t (upd (xAg t) k (nI 0)))) H := hP
            have hD : va_D A (wM cI cZ ad (sAg t (upd (xAg t) k (nI 0)))) := hD
            refine lv_iinc (v := nI (k + 1)) (lv' := [(5, .int (nI (k + 1))), (4, .int (nI (clo (ledR u (onH u h)) (rtO u (onH u h))))), (3, .int (nI (stay u h))), (2, .int (nI (onH u h))), (0, .ref (ad 0)), (1, .int (nI h))]) hx hb dX2_collects_92 hl (k := 0) rfl (lh_inc _) (by decide) rfl (fun ls hl => ?_)
            refine lv_goto (tgt := 27) hx hb dX2_collects_95 (by decide) ?_
            exact ih27 (k + 1) (sAg t (upd (xAg t) k (nI 0))) (by omega) (by omega) (by subst ht; simp [fol, as2, nI_0, c_1, c_2, c_3]) _ _ hP hD hS ls (lv_sub hl [0, 1, 2, 3, 4, 5] rfl)
  exact L27 _ 0 u (Nat.lt_succ_self _) (by omega) (by rfl) _ _ hP hD hS ls (lv_sub hl [0, 1, 2, 3, 4, 5] rfl)
set_option maxRecDepth 100000 in
set_option maxHeartbeats 4000000 in
theorem kX2_links (l : Launch) (D : va_G) (cI cZ : ClassId) (ad : Nat → Nat) (u : XS) (near : Bool) (T : Nat) (inv : Inv T u) : CI l D [(cI, .int), (cZ, .boolean)] yX2_links wsX2_links ({ frames := 0, cells := 0, slots := 0, locals := 0 }) [.ref (ad 0), .int (b2i near)] (wM cI cZ ad u) (wM cI cZ ad u) (nI (cnt (fun x => !decide (xLi u x = -9) && (decide (xLi u x = 0) == near)) 100)) := by
  have ok := inv.1
  obtain ⟨hM, hW, hHo, hAb, hLb, hRb, hDb⟩ := id ok
  refine lh_CIof (cc := cX2_links) (maxL := 4) (ret := (some .int)) (own := RX2) (by decide) rfl rfl (Nat.le_of_ble_eq_true rfl) ?_
  intro p e s m below meth c A ls hx hb hr hlk hts hown hml hK hN hA hP hD hS hl
  have fX2_23 := hts (.fieldLink RX2 23 "LostHostsModel" "linkOf" "[I") (by decide +kernel)
  have hinX2 : ∀ w ∈ u_ws RX2 TX2 13, w ∈ wsX2_links := by decide +kernel
  have hl : lv_has ls 4 [(0, .ref (ad 0)), (1, .int (b2i near))] := hl
  refine lv_iconst (v := nI 0) hx hb dX2_links_0 (by decide) ?_
  refine lv_istore_n (lv' := [(2, .int (nI 0)), (0, .ref (ad 0)), (1, .int (b2i near))]) hx hb dX2_links_1 rfl hl (by decide) rfl (fun ls hl => ?_)
  refine lv_iconst (v := nI 0) hx hb dX2_links_2 (by decide) ?_
  refine lv_istore_n (lv' := [(3, .int (nI 0)), (2, .int (nI 0)), (0, .ref (ad 0)), (1, .int (b2i near))]) hx hb dX2_links_3 rfl hl (by decide) rfl (fun ls hl => ?_)
  have L4 : ∀ (n : Nat) (k : Nat) (nn : Nat), 100 - k < n → (k ≤ 100) → (nn = cnt (fun x => !decide (xLi u x = -9) && (decide (xLi u x = 0) == near)) k) → ∀ (H : Heap) (locs : List Loc), va_P D vwCl (wM cI cZ ad u) H → va_D A (wM cI cZ ad u) → va_S A s.heap H locs → ∀ (ls : Array Slot), lv_has ls 4 [(3, .int (nI k)), (2, .int (nI nn)), (0, .ref (ad 0)), (1, .int (b2i near))] → W p l e ({ frames := 0, cells := 0, slots := 0, locals := 0 }) s m [.ref (ad 0), .int (b2i near)].toArray below meth c H locs 0 0 (QI below D [(cI, .int), (cZ, .boolean)] A (wM cI cZ ad u) (nI (cnt (fun x => !decide (xLi u x = -9) && (decide (xLi u x = 0) == near)) 100)) [.ref (ad 0), .int (b2i near)].toArray s) (F0 m 4 ls []) := by
    intro n
    induction n with
    | zero => intro k nn hmu; exact absurd hmu (Nat.not_lt_zero _)
    | succ n ih4 =>
      intro k nn hmu4 hk hacc H locs hP hD hS ls hl
      refine lv_iload_n hx hb dX2_links_4 rfl (lv_at hl 0 rfl) ?_
      refine lv_bipush (v := nI 100) hx hb dX2_links_5 (by decide) ?_
      refine lv_icmp_ge (tgt := 53) hx hb dX2_links_7 (by decide) (fun c_1 => ?_) (fun c_1 => ?_)
      · have c_1 : 100 ≤ k := (nI_leI (by omega) (by omega)).mp c_1
        have c_1n : ¬ k < 100 := by omega
        refine lv_iload_n hx hb dX2_links_53 rfl (lv_at hl 1 rfl) ?_
        exact lh_ri hx hb hr hlk hK hP hD hS (by rw [hacc, show k = 100 by omega]) rfl dX2_links_54
      · have c_1 : k < 100 := Nat.lt_of_not_le (fun h => c_1 ((nI_leI (by omega) (by omega)).mpr h))
        refine lv_iload_n hx hb dX2_links_10 rfl (lv_at hl 1 rfl) ?_
        refine lv_aload_n hx hb dX2_links_11 rfl (lv_at hl 2 rfl) ?_
        refine va_get (D := D) (ci := 2) (v := .ref (ad 5)) (C := RX2) (T := TX2) (N := 13) hx hb hts hinX2 hown hK hP 0 rfl rfl 7 (by decide) fX2_23 (fun _ h9 => h9) rfl dX2_links_12 ?_
        refine lv_iload_n hx hb dX2_links_15 rfl (lv_at hl 0 rfl) ?_
        refine lh_ild (k := k) (N := 100) hx hb hK hP 5 0 rfl rfl (by omega) (by decide) dX2_links_16 ?_
        refine W.eq (g2 := F0 m 17 ls (.int ((xLi u k)) :: [.int (nI nn)])) rfl ?_
        refine lv_bipush (v := (-9)) hx hb dX2_links_17 (by decide) ?_
        refine lv_icmp_eq (tgt := 44) hx hb dX2_links_19 (by decide) (fun c_2 => ?_) (fun c_2 => ?_)
        · have c_2r := c_2
          refine lv_iconst (v := nI 0) hx hb dX2_links_44 (by decide) ?_
          refine lv_iadd hx hb dX2_links_45 ?_
          refine lh_top (y := nI (nn + 0)) (nI_add _ _) ?_
          refine lv_istore_n (lv' := [(2, .int (nI (nn + 0))), (3, .int (nI k)), (0, .ref (ad 0)), (1, .int (b2i near))]) hx hb dX2_links_46 rfl hl (by decide) rfl (fun ls hl => ?_)
          refine lv_iinc (v := nI (k + 1)) (lv' := [(3, .int (nI (k + 1))), (2, .int (nI (nn + 0))), (0, .ref (ad 0)), (1, .int (b2i near))]) hx hb dX2_links_47 hl (k := 1) rfl (lh_inc _) (by decide) rfl (fun ls hl => ?_)
          refine lv_goto (tgt := 4) hx hb dX2_links_50 (by decide) ?_
          exact ih4 (k + 1) (nn + 0) (by omega) (by omega) (by first | exact lh_cntt hacc (by simp [c_1, c_2]) | exact lh_cntf hacc (by simp [c_1, c_2]) | exact lh_cnt0 hacc (by simp [c_1, c_2])) _ _ hP hD hS ls (lv_sub hl [0, 1, 2, 3] rfl)
        · have c_2r := c_2
          refine lv_aload_n hx hb dX2_links_22 rfl (lv_at hl 2 rfl) ?_
          refine va_get (D := D) (ci := 2) (v := .ref (ad 5)) (C := RX2) (T := TX2) (N := 13) hx hb hts hinX2 hown hK hP 0 rfl rfl 7 (by decide) fX2_23 (fun _ h9 => h9) rfl dX2_links_23 ?_
          refine lv_iload_n hx hb dX2_links_26 rfl (lv_at hl 0 rfl) ?_
          refine lh_ild (k := k) (N := 100) hx hb hK hP 5 0 rfl rfl (by omega) (by decide) dX2_links_27 ?_
          refine W.eq (g2 := F0 m 28 ls (.int ((xLi u k)) :: [.int (nI nn)])) rfl ?_
          refine lv_if_ne (tgt := 35) hx hb dX2_links_28 (by decide) (fun c_3 => ?_) (fun c_3 => ?_)
          · have c_3r := c_3
            refine lv_iconst (v := nI 0) hx hb dX2_links_35 (by decide) ?_
            refine lv_iload_n hx hb dX2_links_36 rfl (lv_at hl 3 rfl) ?_
            refine lv_icmp_ne (tgt := 44) hx hb dX2_links_37 (by decide) (fun c_4 => ?_) (fun c_4 => ?_)
            · have c_4 : near = true := b2i_n0 (fun h => c_4 h.symm)
              refine lv_iconst (v := nI 0) hx hb dX2_links_44 (by decide) ?_
              refine lv_iadd hx hb dX2_links_45 ?_
              refine lh_top (y := nI (nn + 0)) (nI_add _ _) ?_
              refine lv_istore_n (lv' := [(2, .int (nI (nn + 0))), (3, .int (nI k)), (0, .ref (ad 0)), (1, .int (b2i near))]) hx hb dX2_links_46 rfl hl (by decide) rfl (fun ls hl => ?_)
              refine lv_iinc (v := nI (k + 1)) (lv' := [(3, .int (nI (k + 1))), (2, .int (nI (nn + 0))), (0, .ref (ad 0)), (1, .int (b2i near))]) hx hb dX2_links_47 hl (k := 1) rfl (lh_inc _) (by decide) rfl (fun ls hl => ?_)
              refine lv_goto (tgt := 4) hx hb dX2_links_50 (by decide) ?_
              exact ih4 (k + 1) (nn + 0) (by omega) (by omega) (by first | exact lh_cntt hacc (by simp [c_1, c_2, c_3, c_4]) | exact lh_cntf hacc (by simp [c_1, c_2, c_3, c_4]) | exact lh_cnt0 hacc (by simp [c_1, c_2, c_3, c_4])) _ _ hP hD hS ls (lv_sub hl [0, 1, 2, 3] rfl)
            · have c_4 : near = false := b2i_e0 c_4.symm
              refine lv_iconst (v := nI 1) hx hb dX2_links_40 (by decide) ?_
              refine lv_goto (tgt := 45) hx hb dX2_links_41 (by decide) ?_
              refine lv_iadd hx hb dX2_links_45 ?_
              refine lh_top (y := nI (nn + 1)) (nI_add _ _) ?_
              refine lv_istore_n (lv' := [(2, .int (nI (nn + 1))), (3, .int (nI k)), (0, .ref (ad 0)), (1, .int (b2i near))]) hx hb dX2_links_46 rfl hl (by decide) rfl (fun ls hl => ?_)
              refine lv_iinc (v := nI (k + 1)) (lv' := [(3, .int (nI (k + 1))), (2, .int (nI (nn + 1))), (0, .ref (ad 0)), (1, .int (b2i near))]) hx hb dX2_links_47 hl (k := 1) rfl (lh_inc _) (by decide) rfl (fun ls hl => ?_)
              refine lv_goto (tgt := 4) hx hb dX2_links_50 (by decide) ?_
              exact ih4 (k + 1) (nn + 1) (by omega) (by omega) (by first | exact lh_cntt hacc (by simp [c_1, c_2, c_3, c_4]) | exact lh_cntf hacc (by simp [c_1, c_2, c_3, c_4]) | exact lh_cnt0 hacc (by simp [c_1, c_2, c_3, c_4])) _ _ hP hD hS ls (lv_sub hl [0, 1, 2, 3] rfl)
          · have c_3r := c_3
            refine lv_iconst (v := nI 1) hx hb dX2_links_31 (by decide) ?_
            refine lv_goto (tgt := 36) hx hb dX2_links_32 (by decide) ?_
            refine lv_iload_n hx hb dX2_links_36 rfl (lv_at hl 3 rfl) ?_
            refine lv_icmp_ne (tgt := 44) hx hb dX2_links_37 (by decide) (fun c_5 => ?_) (fun c_5 => ?_)
            · have c_5 : near = false := b2i_n1 (fun h => c_5 h.symm)
              refine lv_iconst (v := nI 0) hx hb dX2_links_44 (by decide) ?_
              refine lv_iadd hx hb dX2_links_45 ?_
              refine lh_top (y := nI (nn + 0)) (nI_add _ _) ?_
              refine lv_istore_n (lv' := [(2, .int (nI (nn + 0))), (3, .int (nI k)), (0, .ref (ad 0)), (1, .int (b2i near))]) hx hb dX2_links_46 rfl hl (by decide) rfl (fun ls hl => ?_)
              refine lv_iinc (v := nI (k + 1)) (lv' := [(3, .int (nI (k + 1))), (2, .int (nI (nn + 0))), (0, .ref (ad 0)), (1, .int (b2i near))]) hx hb dX2_links_47 hl (k := 1) rfl (lh_inc _) (by decide) rfl (fun ls hl => ?_)
              refine lv_goto (tgt := 4) hx hb dX2_links_50 (by decide) ?_
              exact ih4 (k + 1) (nn + 0) (by omega) (by omega) (by first | exact lh_cntt hacc (by simp [c_1, c_2, c_3, c_5]) | exact lh_cntf hacc (by simp [c_1, c_2, c_3, c_5]) | exact lh_cnt0 hacc (by simp [c_1, c_2, c_3, c_5])) _ _ hP hD hS ls (lv_sub hl [0, 1, 2, 3] rfl)
            · have c_5 : near = true := b2i_e1 c_5.symm
              refine lv_iconst (v := nI 1) hx hb dX2_links_40 (by decide) ?_
              refine lv_goto (tgt := 45) hx hb dX2_links_41 (by decide) ?_
              refine lv_iadd hx hb dX2_links_45 ?_
              refine lh_top (y := nI (nn + 1)) (nI_add _ _) ?_
              refine lv_istore_n (lv' := [(2, .int (nI (nn + 1))), (3, .int (nI k)), (0, .ref (ad 0)), (1, .int (b2i near))]) hx hb dX2_links_46 rfl hl (by decide) rfl (fun ls hl => ?_)
              refine lv_iinc (v := nI (k + 1)) (lv' := [(3, .int (nI (k + 1))), (2, .int (nI (nn + 1))), (0, .ref (ad 0)), (1, .int (b2i near))]) hx hb dX2_links_47 hl (k := 1) rfl (lh_inc _) (by decide) rfl (fun ls hl => ?_)
              refine lv_goto (tgt := 4) hx hb dX2_links_50 (by decide) ?_
              exact ih4 (k + 1) (nn + 1) (by omega) (by omega) (by first | exact lh_cntt hacc (by simp [c_1, c_2, c_3, c_5]) | exact lh_cntf hacc (by simp [c_1, c_2, c_3, c_5]) | exact lh_cnt0 hacc (by simp [c_1, c_2, c_3, c_5])) _ _ hP hD hS ls (lv_sub hl [0, 1, 2, 3] rfl)
  exact L4 _ 0 0 (Nat.lt_succ_self _) (by omega) (by rfl) _ _ hP hD hS ls (lv_sub hl [0, 1, 2, 3] rfl)
set_option maxRecDepth 100000 in
set_option maxHeartbeats 4000000 in
theorem kX2_isTrue (l : Launch) (D : va_G) (cI cZ : ClassId) (ad : Nat → Nat) (u : XS) (T : Nat) (inv : Inv T u) : CI l D [(cI, .int), (cZ, .boolean)] yX2_isTrue wsX2_isTrue ({ frames := 3, cells := 0, slots := 0, locals := 68 }) [.ref (ad 0)] (wM cI cZ ad u) (wM cI cZ ad u) (b2i (bal u)) := by
  have ok := inv.1
  obtain ⟨hM, hW, hHo, hAb, hLb, hRb, hDb⟩ := id ok
  refine lh_CIof (cc := cX2_isTrue) (maxL := 3) (ret := (some .boolean)) (own := RX2) (by decide) rfl rfl (Nat.le_of_ble_eq_true rfl) ?_
  intro p e s m below meth c A ls hx hb hr hlk hts hown hml hK hN hA hP hD hS hl
  have fX2_39 := hts (.fieldLink RX2 39 "LostHostsModel" "objects" "I") (by decide +kernel)
  have fX2_61 := hts (.fieldLink RX2 61 "LostHostsModel" "gone" "I") (by decide +kernel)
  have fX2_17 := hts (.fieldLink RX2 17 "LostHostsModel" "outOf" "[I") (by decide +kernel)
  have hinX2 : ∀ w ∈ u_ws RX2 TX2 13, w ∈ wsX2_isTrue := by decide +kernel
  have hl : lv_has ls 3 [(0, .ref (ad 0))] := hl
  refine lv_iconst (v := nI 1) hx hb dX2_isTrue_0 (by decide) ?_
  refine lv_istore_n (lv' := [(1, .int (nI 1)), (0, .ref (ad 0))]) hx hb dX2_isTrue_1 rfl hl (by decide) rfl (fun ls hl => ?_)
  refine lv_iconst (v := nI 0) hx hb dX2_isTrue_2 (by decide) ?_
  refine lv_istore_n (lv' := [(2, .int (nI 0)), (1, .int (nI 1)), (0, .ref (ad 0))]) hx hb dX2_isTrue_3 rfl hl (by decide) rfl (fun ls hl => ?_)
  have L4 : ∀ (n : Nat) (k : Nat) (is : Bool), xM u - k < n → (k ≤ xM u) → (is = alb (balP u) k) → ∀ (H : Heap) (locs : List Loc), va_P D vwCl (wM cI cZ ad u) H → va_D A (wM cI cZ ad u) → va_S A s.heap H locs → ∀ (ls : Array Slot), lv_has ls 3 [(2, .int (nI k)), (1, .int (b2i is)), (0, .ref (ad 0))] → W p l e ({ frames := 3, cells := 0, slots := 0, locals := 68 }) s m [.ref (ad 0)].toArray below meth c H locs 0 0 (QI below D [(cI, .int), (cZ, .boolean)] A (wM cI cZ ad u) (b2i (bal u)) [.ref (ad 0)].toArray s) (F0 m 4 ls []) := by
    intro n
    induction n with
    | zero => intro k is hmu; exact absurd hmu (Nat.not_lt_zero _)
    | succ n ih4 =>
      intro k is hmu4 hk his H locs hP hD hS ls hl
      refine lv_iload_n hx hb dX2_isTrue_4 rfl (lv_at hl 0 rfl) ?_
      refine lv_aload_n hx hb dX2_isTrue_5 rfl (lv_at hl 2 rfl) ?_
      refine va_get (D := D) (ci := 2) (v := .int (nI (xM u))) (C := RX2) (T := TX2) (N := 13) hx hb hts hinX2 hown hK hP 0 rfl rfl 1 (by decide) fX2_39 (fun _ h9 => h9) rfl dX2_isTrue_6 ?_
      refine lv_icmp_ge (tgt := 54) hx hb dX2_isTrue_9 (by decide) (fun c_1 => ?_) (fun c_1 => ?_)
      · have c_1 : xM u ≤ k := (nI_leI (by omega) (by omega)).mp c_1
        have c_1n : ¬ k < xM u := by omega
        refine lv_iload_n hx hb dX2_isTrue_54 rfl (lv_at hl 1 rfl) ?_
        exact lh_rz hx hb hr hlk hK hP hD hS (by exact congrArg b2i (by rw [his, show k = xM u by omega]; rfl)) rfl dX2_isTrue_55
      · have c_1 : k < xM u := Nat.lt_of_not_le (fun h => c_1 ((nI_leI (by omega) (by omega)).mpr h))
        refine lv_iload_n hx hb dX2_isTrue_12 rfl (lv_at hl 1 rfl) ?_
        refine lv_if_eq (tgt := 46) hx hb dX2_isTrue_13 (by decide) (fun c_2 => ?_) (fun c_2 => ?_)
        · have c_2 : is = false := b2i_e0 c_2
          refine lv_iconst (v := nI 0) hx hb dX2_isTrue_46 (by decide) ?_
          refine lv_istore_n (lv' := [(1, .int (nI 0)), (2, .int (nI k)), (0, .ref (ad 0))]) hx hb dX2_isTrue_47 rfl hl (by decide) rfl (fun ls hl => ?_)
          refine lv_iinc (v := nI (k + 1)) (lv' := [(2, .int (nI (k + 1))), (1, .int (nI 0)), (0, .ref (ad 0))]) hx hb dX2_isTrue_48 hl (k := 1) rfl (lh_inc _) (by decide) rfl (fun ls hl => ?_)
          refine lv_goto (tgt := 4) hx hb dX2_isTrue_51 (by decide) ?_
          exact ih4 (k + 1) false (by omega) (by omega) (by show _ = (alb (balP u) k && balP u k); rw [← his]; simp [balP, c_1, c_2]) _ _ hP hD hS ls (lv_sub hl [0, 1, 2] rfl)
        · have c_2 : is = true := b2i_n0 c_2
          refine lv_aload_n hx hb dX2_isTrue_16 rfl (lv_at hl 2 rfl) ?_
          refine va_get (D := D) (ci := 2) (v := .int (nI (gn u))) (C := RX2) (T := TX2) (N := 13) hx hb hts hinX2 hown hK hP 0 rfl rfl 4 (by decide) fX2_61 (fun _ h9 => h9) rfl dX2_isTrue_17 ?_
          refine lv_iload_n hx hb dX2_isTrue_20 rfl (lv_at hl 0 rfl) ?_
          refine lh_cSi ⟨hx, hb, hml, hown, hts⟩ (kX2_has l D _ _ (gn u) k (by first | omega | exact gn_lt31 hM | exact gn_lt31 (by omega)) (by omega)) (va_cwS 2 hts gX2_isTrue_X2_has rfl rfl rfl (by decide +kernel) ⟨Nat.le_of_ble_eq_true rfl, Nat.le_of_ble_eq_true rfl⟩) hK hN hP hD hS hA rfl hl.1 rfl (Nat.le_of_ble_eq_true rfl) ⟨Nat.le_of_ble_eq_true rfl, Nat.le_of_ble_eq_true rfl⟩ dX2_isTrue_21 (fun H locs hP hD hS => ?_)
          refine lv_if_ne (tgt := 42) hx hb dX2_isTrue_24 (by decide) (fun c_3 => ?_) (fun c_3 => ?_)
          · have c_3 : ((gn u).testBit k) = true := b2i_n0 c_3
            have c_3 := gnT (k := k) (by omega) c_3
            refine lv_iconst (v := nI 1) hx hb dX2_isTrue_42 (by decide) ?_
            refine lv_goto (tgt := 47) hx hb dX2_isTrue_43 (by decide) ?_
            refine lv_istore_n (lv' := [(1, .int (nI 1)), (2, .int (nI k)), (0, .ref (ad 0))]) hx hb dX2_isTrue_47 rfl hl (by decide) rfl (fun ls hl => ?_)
            refine lv_iinc (v := nI (k + 1)) (lv' := [(2, .int (nI (k + 1))), (1, .int (nI 1)), (0, .ref (ad 0))]) hx hb dX2_isTrue_48 hl (k := 1) rfl (lh_inc _) (by decide) rfl (fun ls hl => ?_)
            refine lv_goto (tgt := 4) hx hb dX2_isTrue_51 (by decide) ?_
            exact ih4 (k + 1) true (by omega) (by omega) (by show _ = (alb (balP u) k && balP u k); rw [← his]; simp [balP, c_1, c_2, c_3]) _ _ hP hD hS ls (lv_sub hl [0, 1, 2] rfl)
          · have c_3 : ((gn u).testBit k) = false := b2i_e0 c_3
            have c_3 := gnF (k := k) (by omega) c_3
            refine lv_aload_n hx hb dX2_isTrue_27 rfl (lv_at hl 2 rfl) ?_
            refine va_get (D := D) (ci := 2) (v := .ref (ad 3)) (C := RX2) (T := TX2) (N := 13) hx hb hts hinX2 hown hK hP 0 rfl rfl 5 (by decide) fX2_17 (fun _ h9 => h9) rfl dX2_isTrue_28 ?_
            refine lv_iload_n hx hb dX2_isTrue_31 rfl (lv_at hl 0 rfl) ?_
            refine lh_ild (k := k) (N := 10) hx hb hK hP 3 0 rfl rfl (by omega) (by decide) dX2_isTrue_32 ?_
            refine W.eq (g2 := F0 m 33 ls (.int ((xOu u k)) :: [])) rfl ?_
            refine lv_aload_n hx hb dX2_isTrue_33 rfl (lv_at hl 2 rfl) ?_
            refine lv_iload_n hx hb dX2_isTrue_34 rfl (lv_at hl 0 rfl) ?_
            refine lv_iconst (v := nI 1) hx hb dX2_isTrue_35 (by decide) ?_
            refine lh_cVi ⟨hx, hb, hml, hown, hts⟩ (kX2_heldOf l D cI cZ ad u k true ok (by omega)) (cwV 2 hts gX2_isTrue_X2_heldOf rfl rfl rfl (by decide +kernel) ⟨Nat.le_of_ble_eq_true rfl, Nat.le_of_ble_eq_true rfl⟩) hK hN hP hD hS hA 0 2 rfl rfl rfl rfl hl.1 rfl (Nat.le_of_ble_eq_true rfl) ⟨Nat.le_of_ble_eq_true rfl, Nat.le_of_ble_eq_true rfl⟩ dX2_isTrue_36 (fun H locs hP hD hS => ?_)
            refine lv_icmp_ne (tgt := 46) hx hb dX2_isTrue_39 (by decide) (fun c_4 => ?_) (fun c_4 => ?_)
            · have c_4r := c_4
              refine lv_iconst (v := nI 0) hx hb dX2_isTrue_46 (by decide) ?_
              refine lv_istore_n (lv' := [(1, .int (nI 0)), (2, .int (nI k)), (0, .ref (ad 0))]) hx hb dX2_isTrue_47 rfl hl (by decide) rfl (fun ls hl => ?_)
              refine lv_iinc (v := nI (k + 1)) (lv' := [(2, .int (nI (k + 1))), (1, .int (nI 0)), (0, .ref (ad 0))]) hx hb dX2_isTrue_48 hl (k := 1) rfl (lh_inc _) (by decide) rfl (fun ls hl => ?_)
              refine lv_goto (tgt := 4) hx hb dX2_isTrue_51 (by decide) ?_
              exact ih4 (k + 1) false (by omega) (by omega) (by show _ = (alb (balP u) k && balP u k); rw [← his]; simp [balP, c_1, c_2, c_3, c_4]) _ _ hP hD hS ls (lv_sub hl [0, 1, 2] rfl)
            · have c_4r := c_4
              refine lv_iconst (v := nI 1) hx hb dX2_isTrue_42 (by decide) ?_
              refine lv_goto (tgt := 47) hx hb dX2_isTrue_43 (by decide) ?_
              refine lv_istore_n (lv' := [(1, .int (nI 1)), (2, .int (nI k)), (0, .ref (ad 0))]) hx hb dX2_isTrue_47 rfl hl (by decide) rfl (fun ls hl => ?_)
              refine lv_iinc (v := nI (k + 1)) (lv' := [(2, .int (nI (k + 1))), (1, .int (nI 1)), (0, .ref (ad 0))]) hx hb dX2_isTrue_48 hl (k := 1) rfl (lh_inc _) (by decide) rfl (fun ls hl => ?_)
              refine lv_goto (tgt := 4) hx hb dX2_isTrue_51 (by decide) ?_
              exact ih4 (k + 1) true (by omega) (by omega) (by show _ = (alb (balP u) k && balP u k); rw [← his]; simp [balP, c_1, c_2, c_3, c_4]) _ _ hP hD hS ls (lv_sub hl [0, 1, 2] rfl)
  exact L4 _ 0 true (Nat.lt_succ_self _) (by omega) (by rfl) _ _ hP hD hS ls (lv_sub hl [0, 1, 2] rfl)
set_option maxRecDepth 100000 in
set_option maxHeartbeats 4000000 in
theorem kX2_recover (l : Launch) (D : va_G) (cI cZ : ClassId) (ad : Nat → Nat) (u : XS) (T : Nat) (inv : Inv T u) : CI l D [(cI, .int), (cZ, .boolean)] yX2_recover wsX2_recover ({ frames := 3, cells := 0, slots := 0, locals := 68 }) [.ref (ad 0)] (wM cI cZ ad u) (wM cI cZ ad (recS u)) (recR u) := by
  have ok := inv.1
  obtain ⟨hM, hW, hHo, hAb, hLb, hRb, hDb⟩ := id ok
  refine lh_CIof (cc := cX2_recover) (maxL := 4) (ret := (some .int)) (own := RX2) (by decide) rfl rfl (Nat.le_of_ble_eq_true rfl) ?_
  intro p e s m below meth c A ls hx hb hr hlk hts hown hml hK hN hA hP hD hS hl
  have fX2_39 := hts (.fieldLink RX2 39 "LostHostsModel" "objects" "I") (by decide +kernel)
  have fX2_61 := hts (.fieldLink RX2 61 "LostHostsModel" "gone" "I") (by decide +kernel)
  have fX2_17 := hts (.fieldLink RX2 17 "LostHostsModel" "outOf" "[I") (by decide +kernel)
  have hinX2 : ∀ w ∈ u_ws RX2 TX2 13, w ∈ wsX2_recover := by decide +kernel
  have hl : lv_has ls 4 [(0, .ref (ad 0))] := hl
  refine lv_iconst (v := nI 0) hx hb dX2_recover_0 (by decide) ?_
  refine lv_istore_n (lv' := [(1, .int (nI 0)), (0, .ref (ad 0))]) hx hb dX2_recover_1 rfl hl (by decide) rfl (fun ls hl => ?_)
  refine lv_iconst (v := nI 0) hx hb dX2_recover_2 (by decide) ?_
  refine lv_istore_n (lv' := [(2, .int (nI 0)), (1, .int (nI 0)), (0, .ref (ad 0))]) hx hb dX2_recover_3 rfl hl (by decide) rfl (fun ls hl => ?_)
  have L4 : ∀ (n : Nat) (k : Nat) (less : Int32) (t : XS), xM u - k < n → (k ≤ xM u) → (less = sum (fun b => if (xL u).testBit b then xOu u b - held u b else 0) k) → (t = sOu u (recO u k)) → ∀ (H : Heap) (locs : List Loc), va_P D vwCl (wM cI cZ ad t) H → va_D A (wM cI cZ ad t) → va_S A s.heap H locs → ∀ (ls : Array Slot), lv_has ls 4 [(2, .int (nI k)), (1, .int (less)), (0, .ref (ad 0))] → W p l e ({ frames := 3, cells := 0, slots := 0, locals := 68 }) s m [.ref (ad 0)].toArray below meth c H locs 0 0 (QI below D [(cI, .int), (cZ, .boolean)] A (wM cI cZ ad (recS u)) (recR u) [.ref (ad 0)].toArray s) (F0 m 4 ls []) := by
    intro n
    induction n with
    | zero => intro k less t hmu; exact absurd hmu (Nat.not_lt_zero _)
    | succ n ih4 =>
      intro k less t hmu4 hk hless ht H locs hP hD hS ls hl
      have htM : xM t = xM u := by rw [ht]
      have okt : okB t := by rw [ht]; exact ok
      refine lv_iload_n hx hb dX2_recover_4 rfl (lv_at hl 0 rfl) ?_
      refine lv_aload_n hx hb dX2_recover_5 rfl (lv_at hl 2 rfl) ?_
      refine va_get (D := D) (ci := 2) (v := .int (nI (xM t))) (C := RX2) (T := TX2) (N := 13) hx hb hts hinX2 hown hK hP 0 rfl rfl 1 (by decide) fX2_39 (fun _ h9 => h9) rfl dX2_recover_6 ?_
      refine lv_icmp_ge (tgt := 54) hx hb dX2_recover_9 (by decide) (fun c_1 => ?_) (fun c_1 => ?_)
      · have c_1 : xM t ≤ k := (nI_leI (by omega) (by omega)).mp c_1
        have c_1n : ¬ k < xM t := by omega
        refine lv_iload_n hx hb dX2_recover_54 rfl (lv_at hl 1 rfl) ?_
        exact lh_ri hx hb hr hlk hK hP hD hS (by rw [hless, show k = xM u by omega]; rfl) (by rw [ht, show k = xM u by omega]; rfl) dX2_recover_55
      · have c_1 : k < xM t := Nat.lt_of_not_le (fun h => c_1 ((nI_leI (by omega) (by omega)).mpr h))
        refine lv_aload_n hx hb dX2_recover_12 rfl (lv_at hl 2 rfl) ?_
        refine va_get (D := D) (ci := 2) (v := .int (nI (gn t))) (C := RX2) (T := TX2) (N := 13) hx hb hts hinX2 hown hK hP 0 rfl rfl 4 (by decide) fX2_61 (fun _ h9 => h9) rfl dX2_recover_13 ?_
        refine lv_iload_n hx hb dX2_recover_16 rfl (lv_at hl 0 rfl) ?_
        refine lh_cSi ⟨hx, hb, hml, hown, hts⟩ (kX2_has l D _ _ (gn t) k (by exact gn_lt31 (by omega)) (by omega)) (va_cwS 2 hts gX2_recover_X2_has rfl rfl rfl (by decide +kernel) ⟨Nat.le_of_ble_eq_true rfl, Nat.le_of_ble_eq_true rfl⟩) hK hN hP hD hS hA rfl hl.1 rfl (Nat.le_of_ble_eq_true rfl) ⟨Nat.le_of_ble_eq_true rfl, Nat.le_of_ble_eq_true rfl⟩ dX2_recover_17 (fun H locs hP hD hS => ?_)
        refine lv_if_ne (tgt := 48) hx hb dX2_recover_20 (by decide) (fun c_2 => ?_) (fun c_2 => ?_)
        · have c_2 : ((gn t).testBit k) = true := b2i_n0 c_2
          have c_2 := gnT (k := k) (by omega) c_2
          refine lv_iinc (v := nI (k + 1)) (lv' := [(2, .int (nI (k + 1))), (1, .int (less)), (0, .ref (ad 0))]) hx hb dX2_recover_48 hl (k := 0) rfl (lh_inc _) (by decide) rfl (fun ls hl => ?_)
          refine lv_goto (tgt := 4) hx hb dX2_recover_51 (by decide) ?_
          exact ih4 (k + 1) less t (by omega) (by omega) (by subst ht; first | exact recR_t hless c_2 | exact lh_sumf hless (if_neg (by rw [show (xL u).testBit k = false from c_2]; decide))) (by subst ht; first | exact congrArg (fun f => sOu u f) (recO_t c_2) | exact congrArg (fun f => sOu u f) (recO_f c_2)) _ _ hP hD hS ls (lv_sub hl [0, 1, 2] rfl)
        · have c_2 : ((gn t).testBit k) = false := b2i_e0 c_2
          have c_2 := gnF (k := k) (by omega) c_2
          refine lv_aload_n hx hb dX2_recover_23 rfl (lv_at hl 2 rfl) ?_
          refine lv_iload_n hx hb dX2_recover_24 rfl (lv_at hl 0 rfl) ?_
          refine lv_iconst (v := nI 0) hx hb dX2_recover_25 (by decide) ?_
          refine lh_cVi ⟨hx, hb, hml, hown, hts⟩ (kX2_heldOf l D cI cZ ad t k false okt (by omega)) (cwV 2 hts gX2_recover_X2_heldOf rfl rfl rfl (by decide +kernel) ⟨Nat.le_of_ble_eq_true rfl, Nat.le_of_ble_eq_true rfl⟩) hK hN hP hD hS hA 0 2 rfl rfl rfl rfl hl.1 rfl (Nat.le_of_ble_eq_true rfl) ⟨Nat.le_of_ble_eq_true rfl, Nat.le_of_ble_eq_true rfl⟩ dX2_recover_26 (fun H locs hP hD hS => ?_)
          refine lv_istore_n (lv' := [(3, .int ((inL t k + inE t k false))), (2, .int (nI k)), (1, .int (less)), (0, .ref (ad 0))]) hx hb dX2_recover_29 rfl hl (by decide) rfl (fun ls hl => ?_)
          refine lv_iload_n hx hb dX2_recover_30 rfl (lv_at hl 2 rfl) ?_
          refine lv_aload_n hx hb dX2_recover_31 rfl (lv_at hl 3 rfl) ?_
          refine va_get (D := D) (ci := 2) (v := .ref (ad 3)) (C := RX2) (T := TX2) (N := 13) hx hb hts hinX2 hown hK hP 0 rfl rfl 5 (by decide) fX2_17 (fun _ h9 => h9) rfl dX2_recover_32 ?_
          refine lv_iload_n hx hb dX2_recover_35 rfl (lv_at hl 1 rfl) ?_
          refine lh_ild (k := k) (N := 10) hx hb hK hP 3 0 rfl rfl (by omega) (by decide) dX2_recover_36 ?_
          refine W.eq (g2 := F0 m 37 ls (.int ((xOu t k)) :: [.int (less)])) rfl ?_
          refine lv_iload_n hx hb dX2_recover_37 rfl (lv_at hl 0 rfl) ?_
          refine lv_isub hx hb dX2_recover_38 ?_
          refine lv_iadd hx hb dX2_recover_39 ?_
          refine lv_istore_n (lv' := [(1, .int ((less + ((xOu t k) - (inL t k + inE t k false))))), (3, .int ((inL t k + inE t k false))), (2, .int (nI k)), (0, .ref (ad 0))]) hx hb dX2_recover_40 rfl hl (by decide) rfl (fun ls hl => ?_)
          refine lv_aload_n hx hb dX2_recover_41 rfl (lv_at hl 3 rfl) ?_
          refine va_get (D := D) (ci := 2) (v := .ref (ad 3)) (C := RX2) (T := TX2) (N := 13) hx hb hts hinX2 hown hK hP 0 rfl rfl 5 (by decide) fX2_17 (fun _ h9 => h9) rfl dX2_recover_42 ?_
          refine lv_iload_n hx hb dX2_recover_45 rfl (lv_at hl 2 rfl) ?_
          refine lv_iload_n hx hb dX2_recover_46 rfl (lv_at hl 1 rfl) ?_
          refine lh_ist (k := k) (N := 10) (f2 := upd (xOu t) k ((inL t k + inE t k false))) hx hb hK hP hD hS 3 0 rfl rfl (by omega) (by decide) (rfl) dX2_recover_47 (fun H locs hP hD hS => ?_)
          have hP : va_P D vwCl (wM cI cZ ad (sOu t (upd (xOu t) k ((inL t k + inE t k false))))) H := hP
          have hD : va_D A (wM cI cZ ad (sOu t (upd (xOu t) k ((inL t k + inE t k false))))) := hD
          refine lv_iinc (v := nI (k + 1)) (lv' := [(2, .int (nI (k + 1))), (1, .int ((less + ((xOu t k) - (inL t k + inE t k false))))), (3, .int ((inL t k + inE t k false))), (0, .ref (ad 0))]) hx hb dX2_recover_48 hl (k := 2) rfl (lh_inc _) (by decide) rfl (fun ls hl => ?_)
          refine lv_goto (tgt := 4) hx hb dX2_recover_51 (by decide) ?_
          exact ih4 (k + 1) (less + ((xOu t k) - (inL t k + inE t k false))) (sOu t (upd (xOu t) k ((inL t k + inE t k false)))) (by omega) (by omega) (by subst ht; first | exact recR_t hless c_2 | exact lh_sumf hless (if_neg (by rw [show (xL u).testBit k = false from c_2]; decide))) (by subst ht; first | exact congrArg (fun f => sOu u f) (recO_t c_2) | exact congrArg (fun f => sOu u f) (recO_f c_2)) _ _ hP hD hS ls (lv_sub hl [0, 1, 3] rfl)
  exact L4 _ 0 (nI 0) u (Nat.lt_succ_self _) (by omega) (by rfl) (by show u = sOu u (recO u 0); unfold recO; simp) _ _ hP hD hS ls (lv_sub hl [0, 1, 2] rfl)
set_option maxRecDepth 100000 in
set_option maxHeartbeats 4000000 in
theorem kX2_reachedNow (l : Launch) (D : va_G) (cI cZ : ClassId) (ad : Nat → Nat) (u : XS) (T : Nat) (inv : Inv T u) : CI l D [(cI, .int), (cZ, .boolean)] yX2_reachedNow wsX2_reachedNow ({ frames := 4, cells := 0, slots := 0, locals := 91 }) [.ref (ad 0)] (wM cI cZ ad u) (wM cI cZ ad u) (nI (reaX u)) := by
  have ok := inv.1
  obtain ⟨hM, hW, hHo, hAb, hLb, hRb, hDb⟩ := id ok
  refine lh_CIof (cc := cX2_reachedNow) (maxL := 3) (ret := (some .int)) (own := RX2) (by decide) rfl rfl (Nat.le_of_ble_eq_true rfl) ?_
  intro p e s m below meth c A ls hx hb hr hlk hts hown hml hK hN hA hP hD hS hl
  have hl : lv_has ls 3 [(0, .ref (ad 0))] := hl
  refine lv_aload_n hx hb dX2_reachedNow_0 rfl (lv_at hl 0 rfl) ?_
  refine lh_cVi ⟨hx, hb, hml, hown, hts⟩ (kX2_allRoots l D cI cZ ad u ok (by exact inv.2.2.1)) (cwV 0 hts gX2_reachedNow_X2_allRoots rfl rfl rfl (by decide +kernel) ⟨Nat.le_of_ble_eq_true rfl, Nat.le_of_ble_eq_true rfl⟩) hK hN hP hD hS hA 0 2 rfl rfl rfl rfl hl.1 rfl (Nat.le_of_ble_eq_true rfl) ⟨Nat.le_of_ble_eq_true rfl, Nat.le_of_ble_eq_true rfl⟩ dX2_reachedNow_1 (fun H locs hP hD hS => ?_)
  refine lv_istore_n (lv' := [(1, .int (nI (xL u &&& xR u))), (0, .ref (ad 0))]) hx hb dX2_reachedNow_4 rfl hl (by decide) rfl (fun ls hl => ?_)
  refine lv_iconst (v := (-1)) hx hb dX2_reachedNow_5 (by decide) ?_
  refine lv_istore_n (lv' := [(2, .int ((-1))), (1, .int (nI (xL u &&& xR u))), (0, .ref (ad 0))]) hx hb dX2_reachedNow_6 rfl hl (by decide) rfl (fun ls hl => ?_)
  have L7 : ∀ (n : Nat) (j : Nat) (had : Int32) (its : Nat), chm its had < n → (rkI u j its had) → ∀ (H : Heap) (locs : List Loc), va_P D vwCl (wM cI cZ ad u) H → va_D A (wM cI cZ ad u) → va_S A s.heap H locs → ∀ (ls : Array Slot), lv_has ls 3 [(2, .int (had)), (1, .int (nI its)), (0, .ref (ad 0))] → W p l e ({ frames := 4, cells := 0, slots := 0, locals := 91 }) s m [.ref (ad 0)].toArray below meth c H locs 0 0 (QI below D [(cI, .int), (cZ, .boolean)] A (wM cI cZ ad u) (nI (reaX u)) [.ref (ad 0)].toArray s) (F0 m 7 ls []) := by
    intro n
    induction n with
    | zero => intro j had its hmu; exact absurd hmu (Nat.not_lt_zero _)
    | succ n ih7 =>
      intro j had its hmu7 hc9 H locs hP hD hS ls hl
      have hi9 := rkI_lt inv hc9
      refine lv_iload_n hx hb dX2_reachedNow_7 rfl (lv_at hl 0 rfl) ?_
      refine lv_iload_n hx hb dX2_reachedNow_8 rfl (lv_at hl 1 rfl) ?_
      refine lv_icmp_eq (tgt := 25) hx hb dX2_reachedNow_9 (by decide) (fun c_1 => ?_) (fun c_1 => ?_)
      · have c_1r := c_1
        refine lv_iload_n hx hb dX2_reachedNow_25 rfl (lv_at hl 1 rfl) ?_
        exact lh_ri hx hb hr hlk hK hP hD hS (by exact congrArg nI (hc9.1.trans (rk_fix hLb (rkI_e inv hc9 c_1)))) rfl dX2_reachedNow_26
      · have c_1r := c_1
        refine lv_iload_n hx hb dX2_reachedNow_12 rfl (lv_at hl 1 rfl) ?_
        refine lv_istore_n (lv' := [(2, .int (nI its)), (1, .int (nI its)), (0, .ref (ad 0))]) hx hb dX2_reachedNow_13 rfl hl (by decide) rfl (fun ls hl => ?_)
        refine lv_iload_n hx hb dX2_reachedNow_14 rfl (lv_at hl 1 rfl) ?_
        refine lv_aload_n hx hb dX2_reachedNow_15 rfl (lv_at hl 2 rfl) ?_
        refine lv_iload_n hx hb dX2_reachedNow_16 rfl (lv_at hl 1 rfl) ?_
        refine lh_cVi ⟨hx, hb, hml, hown, hts⟩ (kX2_oneOn l D cI cZ ad u its ok (by omega) (by exact fun k hk => (inv.2.2.2.2.2.1 k hk).1)) (cwV 1 hts gX2_reachedNow_X2_oneOn rfl rfl rfl (by decide +kernel) ⟨Nat.le_of_ble_eq_true rfl, Nat.le_of_ble_eq_true rfl⟩) hK hN hP hD hS hA 0 2 rfl rfl rfl rfl hl.1 rfl (Nat.le_of_ble_eq_true rfl) ⟨Nat.le_of_ble_eq_true rfl, Nat.le_of_ble_eq_true rfl⟩ dX2_reachedNow_17 (fun H locs hP hD hS => ?_)
        refine lv_ior hx hb dX2_reachedNow_20 ?_
        refine lh_top (y := nI (its ||| (on2 u its))) (fa_or _ _) ?_
        refine lv_istore_n (lv' := [(1, .int (nI (its ||| (on2 u its)))), (2, .int (nI its)), (0, .ref (ad 0))]) hx hb dX2_reachedNow_21 rfl hl (by decide) rfl (fun ls hl => ?_)
        refine lv_goto (tgt := 7) hx hb dX2_reachedNow_22 (by decide) ?_
        exact ih7 (j + 1) (nI its) (its ||| (on2 u its)) (by exact rkI_m inv hc9 hmu7 c_1) (by exact rkI_s inv hc9) _ _ hP hD hS ls (lv_sub hl [1, 0, 2] rfl)
  exact L7 _ 0 (-1) (xL u &&& xR u) (Nat.lt_succ_self _) (by exact rkI_0 u) _ _ hP hD hS ls (lv_sub hl [0, 1, 2] rfl)

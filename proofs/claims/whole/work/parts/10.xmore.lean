set_option maxRecDepth 100000 in
set_option maxHeartbeats 4000000 in
theorem kX1_inLinksTo (l : Launch) (D : va_G) (cI : ClassId) (ad : Nat → Nat) (u : XS) (b : Nat) (ok : okB u) (hb2 : b < 10) : CI l D [(cI, .int)] yX1_inLinksTo wsX1_inLinksTo ({ frames := 2, cells := 0, slots := 0, locals := 43 }) [.ref (ad 0), .int (nI b)] (wX cI ad u) (wX cI ad u) (inL u b) := by
  obtain ⟨hM, hW, hHo, hAb, hLb, hRb, hDb⟩ := id ok
  refine lh_CIof (cc := cX1_inLinksTo) (maxL := 4) (ret := (some .int)) (own := RX1) (by decide) rfl rfl (Nat.le_of_ble_eq_true rfl) ?_
  intro p e s m below meth c A ls hx hb hr hlk hts hown hml hK hN hA hP hD hS hl
  have fX1_35 := hts (.fieldLink RX1 35 "LostHosts" "made" "I") (by decide +kernel)
  have fX1_19 := hts (.fieldLink RX1 19 "LostHosts" "links" "[I") (by decide +kernel)
  have hinX1 : ∀ w ∈ u_ws RX1 TX1 10, w ∈ wsX1_inLinksTo := by decide +kernel
  have hl : lv_has ls 4 [(0, .ref (ad 0)), (1, .int (nI b))] := hl
  refine lv_iconst (v := nI 0) hx hb dX1_inLinksTo_0 (by decide) ?_
  refine lv_istore_n (lv' := [(2, .int (nI 0)), (0, .ref (ad 0)), (1, .int (nI b))]) hx hb dX1_inLinksTo_1 rfl hl (by decide) rfl (fun ls hl => ?_)
  refine lv_iconst (v := nI 0) hx hb dX1_inLinksTo_2 (by decide) ?_
  refine lv_istore_n (lv' := [(3, .int (nI 0)), (2, .int (nI 0)), (0, .ref (ad 0)), (1, .int (nI b))]) hx hb dX1_inLinksTo_3 rfl hl (by decide) rfl (fun ls hl => ?_)
  have L4 : ∀ (n : Nat) (k : Nat) (acc : Int32), xM u - k < n → (k ≤ xM u) → (acc = sum (fun a => if lnk u a b then xLi u (a * 10 + b) else 0) k) → ∀ (H : Heap) (locs : List Loc), va_P D vwCl (wX cI ad u) H → va_D A (wX cI ad u) → va_S A s.heap H locs → ∀ (ls : Array Slot), lv_has ls 4 [(3, .int (nI k)), (2, .int (acc)), (0, .ref (ad 0)), (1, .int (nI b))] → W p l e ({ frames := 2, cells := 0, slots := 0, locals := 43 }) s m [.ref (ad 0), .int (nI b)].toArray below meth c H locs 0 0 (QI below D [(cI, .int)] A (wX cI ad u) (inL u b) [.ref (ad 0), .int (nI b)].toArray s) (F0 m 4 ls []) := by
    intro n
    induction n with
    | zero => intro k acc hmu; exact absurd hmu (Nat.not_lt_zero _)
    | succ n ih4 =>
      intro k acc hmu4 hk hacc H locs hP hD hS ls hl
      refine lv_iload_n hx hb dX1_inLinksTo_4 rfl (lv_at hl 0 rfl) ?_
      refine lv_aload_n hx hb dX1_inLinksTo_5 rfl (lv_at hl 2 rfl) ?_
      refine va_get (D := D) (ci := 1) (v := .int (nI (xM u))) (C := RX1) (T := TX1) (N := 10) hx hb hts hinX1 hown hK hP 0 rfl rfl 5 (by decide) fX1_35 (fun _ h9 => h9) rfl dX1_inLinksTo_6 ?_
      refine lv_icmp_ge (tgt := 40) hx hb dX1_inLinksTo_9 (by decide) (fun c_1 => ?_) (fun c_1 => ?_)
      · have c_1 : xM u ≤ k := (nI_leI (by omega) (by omega)).mp c_1
        have c_1n : ¬ k < xM u := by omega
        refine lv_iload_n hx hb dX1_inLinksTo_40 rfl (lv_at hl 1 rfl) ?_
        exact lh_ri hx hb hr hlk hK hP hD hS (by rw [hacc, show k = xM u by omega]; rfl) rfl dX1_inLinksTo_41
      · have c_1 : k < xM u := Nat.lt_of_not_le (fun h => c_1 ((nI_leI (by omega) (by omega)).mpr h))
        refine lv_aload_n hx hb dX1_inLinksTo_12 rfl (lv_at hl 2 rfl) ?_
        refine lv_iload_n hx hb dX1_inLinksTo_13 rfl (lv_at hl 0 rfl) ?_
        refine lv_iload_n hx hb dX1_inLinksTo_14 rfl (lv_at hl 3 rfl) ?_
        refine lh_cVi ⟨hx, hb, hml, hown, hts⟩ (kX1_hasLink l D cI ad u k b (by omega) (by omega)) (cwV 2 hts gX1_inLinksTo_X1_hasLink rfl rfl rfl (by decide +kernel) ⟨Nat.le_of_ble_eq_true rfl, Nat.le_of_ble_eq_true rfl⟩) hK hN hP hD hS hA 0 1 rfl rfl rfl rfl hl.1 rfl (Nat.le_of_ble_eq_true rfl) ⟨Nat.le_of_ble_eq_true rfl, Nat.le_of_ble_eq_true rfl⟩ dX1_inLinksTo_15 (fun H locs hP hD hS => ?_)
        refine lv_if_eq (tgt := 34) hx hb dX1_inLinksTo_18 (by decide) (fun c_2 => ?_) (fun c_2 => ?_)
        · have c_2 : (lnk u k b) = false := b2i_e0 c_2
          refine lv_iinc (v := nI (k + 1)) (lv' := [(3, .int (nI (k + 1))), (2, .int (acc)), (0, .ref (ad 0)), (1, .int (nI b))]) hx hb dX1_inLinksTo_34 hl (k := 0) rfl (lh_inc _) (by decide) rfl (fun ls hl => ?_)
          refine lv_goto (tgt := 4) hx hb dX1_inLinksTo_37 (by decide) ?_
          exact ih4 (k + 1) acc (by omega) (by omega) (by first | exact lh_sumt hacc (by simp [c_1, c_2]) | exact lh_sumf hacc (by simp [c_1, c_2])) _ _ hP hD hS ls (lv_sub hl [0, 1, 2, 3] rfl)
        · have c_2 : (lnk u k b) = true := b2i_n0 c_2
          refine lv_iload_n hx hb dX1_inLinksTo_21 rfl (lv_at hl 1 rfl) ?_
          refine lv_aload_n hx hb dX1_inLinksTo_22 rfl (lv_at hl 2 rfl) ?_
          refine va_get (D := D) (ci := 1) (v := .ref (ad 4)) (C := RX1) (T := TX1) (N := 10) hx hb hts hinX1 hown hK hP 0 rfl rfl 3 (by decide) fX1_19 (fun _ h9 => h9) rfl dX1_inLinksTo_23 ?_
          refine lv_iload_n hx hb dX1_inLinksTo_26 rfl (lv_at hl 0 rfl) ?_
          refine lv_iload_n hx hb dX1_inLinksTo_27 rfl (lv_at hl 3 rfl) ?_
          refine lh_cSi ⟨hx, hb, hml, hown, hts⟩ (kX1_at l D _ _ k b) (va_cwS 2 hts gX1_inLinksTo_X1_at rfl rfl rfl (by decide +kernel) ⟨Nat.le_of_ble_eq_true rfl, Nat.le_of_ble_eq_true rfl⟩) hK hN hP hD hS hA rfl hl.1 rfl (Nat.le_of_ble_eq_true rfl) ⟨Nat.le_of_ble_eq_true rfl, Nat.le_of_ble_eq_true rfl⟩ dX1_inLinksTo_28 (fun H locs hP hD hS => ?_)
          refine lh_ild (k := (k * 10 + b)) (N := 100) hx hb hK hP 4 0 rfl rfl (by omega) (by decide) dX1_inLinksTo_31 ?_
          refine W.eq (g2 := F0 m 32 ls (.int ((xLi u (k * 10 + b))) :: [.int (acc)])) rfl ?_
          refine lv_iadd hx hb dX1_inLinksTo_32 ?_
          refine lv_istore_n (lv' := [(2, .int ((acc + (xLi u (k * 10 + b))))), (3, .int (nI k)), (0, .ref (ad 0)), (1, .int (nI b))]) hx hb dX1_inLinksTo_33 rfl hl (by decide) rfl (fun ls hl => ?_)
          refine lv_iinc (v := nI (k + 1)) (lv' := [(3, .int (nI (k + 1))), (2, .int ((acc + (xLi u (k * 10 + b))))), (0, .ref (ad 0)), (1, .int (nI b))]) hx hb dX1_inLinksTo_34 hl (k := 1) rfl (lh_inc _) (by decide) rfl (fun ls hl => ?_)
          refine lv_goto (tgt := 4) hx hb dX1_inLinksTo_37 (by decide) ?_
          exact ih4 (k + 1) (acc + (xLi u (k * 10 + b))) (by omega) (by omega) (by first | exact lh_sumt hacc (by simp [c_1, c_2]) | exact lh_sumf hacc (by simp [c_1, c_2])) _ _ hP hD hS ls (lv_sub hl [0, 1, 2, 3] rfl)
  exact L4 _ 0 (nI 0) (Nat.lt_succ_self _) (by omega) (by rfl) _ _ hP hD hS ls (lv_sub hl [0, 1, 2, 3] rfl)
set_option maxRecDepth 100000 in
set_option maxHeartbeats 4000000 in
theorem kX1_goesTo (l : Launch) (D : va_G) (cI : ClassId) (ad : Nat → Nat) (u : XS) (k : Nat) (ok : okB u) (hk : k < 150) : CI l D [(cI, .int)] yX1_goesTo wsX1_goesTo ({ frames := 0, cells := 0, slots := 0, locals := 0 }) [.ref (ad 0), .int (nI k)] (wX cI ad u) (wX cI ad u) (nI (goT u k)) := by
  obtain ⟨hM, hW, hHo, hAb, hLb, hRb, hDb⟩ := id ok
  refine lh_CIof (cc := cX1_goesTo) (maxL := 3) (ret := (some .int)) (own := RX1) (by decide) rfl rfl (Nat.le_of_ble_eq_true rfl) ?_
  intro p e s m below meth c A ls hx hb hr hlk hts hown hml hK hN hA hP hD hS hl
  have fX1_31 := hts (.fieldLink RX1 31 "LostHosts" "letters" "LLostHosts$Letters;") (by decide +kernel)
  have fX0_127 := va_Nw.use (A := [.ref (ad 0), .int (nI k)].toArray) rfl hN.2.2.2
  have fX1_9 := hts (.fieldLink RX1 9 "LostHosts" "hostOf" "[I") (by decide +kernel)
  have fX0_124 := va_Nw.use (A := [.ref (ad 0), .int (nI k)].toArray) rfl hN.2.2.1
  have hinX0 : ∀ w ∈ u_ws RX0 TX0 4, w ∈ wsX1_goesTo := by decide +kernel
  have hinX1 : ∀ w ∈ u_ws RX1 TX1 10, w ∈ wsX1_goesTo := by decide +kernel
  have hl : lv_has ls 3 [(0, .ref (ad 0)), (1, .int (nI k))] := hl
  refine lv_aload_n hx hb dX1_goesTo_0 rfl (lv_at hl 0 rfl) ?_
  refine va_get (D := D) (ci := 1) (v := .ref (ad 5)) (C := RX1) (T := TX1) (N := 10) hx hb hts hinX1 hown hK hP 0 rfl rfl 4 (by decide) fX1_31 (fun _ h9 => h9) rfl dX1_goesTo_1 ?_
  refine va_getN (D := D) (ci := 0) (v := .ref (ad 7)) (C := RX0) (T := TX0) (N := 4) hx hb hts hinX0 hown hK hP 5 rfl rfl 1 (by decide) fX0_127 (fun _ h9 => h9) rfl dX1_goesTo_4 ?_
  refine lv_iload_n hx hb dX1_goesTo_7 rfl (lv_at hl 1 rfl) ?_
  refine lh_ild (k := k) (N := 150) hx hb hK hP 7 0 rfl rfl (by omega) (by decide) dX1_goesTo_8 ?_
  refine W.eq (g2 := F0 m 9 ls (.int (rv (xRc u k)) :: [])) rfl ?_
  refine lv_istore_n (lv' := [(2, .int (rv (xRc u k))), (0, .ref (ad 0)), (1, .int (nI k))]) hx hb dX1_goesTo_9 rfl hl (by decide) rfl (fun ls hl => ?_)
  refine lv_iload_n hx hb dX1_goesTo_10 rfl (lv_at hl 0 rfl) ?_
  refine lv_bipush (v := (-9)) hx hb dX1_goesTo_11 (by decide) ?_
  refine lv_icmp_ne (tgt := 33) hx hb dX1_goesTo_13 (by decide) (fun c_1 => ?_) (fun c_1 => ?_)
  · have c_1 : (xRc u k) < 10 := rv_ne9 c_1
    refine lv_aload_n hx hb dX1_goesTo_33 rfl (lv_at hl 1 rfl) ?_
    refine va_get (D := D) (ci := 1) (v := .ref (ad 1)) (C := RX1) (T := TX1) (N := 10) hx hb hts hinX1 hown hK hP 0 rfl rfl 0 (by decide) fX1_9 (fun _ h9 => h9) rfl dX1_goesTo_34 ?_
    refine lv_iload_n hx hb dX1_goesTo_37 rfl (lv_at hl 0 rfl) ?_
    refine lh_top (y := nI (xRc u k)) (rv_lt (by omega)) ?_
    refine lh_ild (k := xRc u k) (N := 10) hx hb hK hP 1 0 rfl rfl (by omega) (by decide) dX1_goesTo_38 ?_
    refine W.eq (g2 := F0 m 39 ls (.int (nI (xHo u (xRc u k))) :: [])) rfl ?_
    exact lh_ri hx hb hr hlk hK hP hD hS (by first | (simp [nI_0, nI_o, goT, c_1]; done) | (simp [nI_0, nI_o, goT, c_1]; rfl)) rfl dX1_goesTo_39
  · have c_1 : ¬ (xRc u k) < 10 := rv_eq9 c_1
    refine lv_aload_n hx hb dX1_goesTo_16 rfl (lv_at hl 1 rfl) ?_
    refine va_get (D := D) (ci := 1) (v := .ref (ad 1)) (C := RX1) (T := TX1) (N := 10) hx hb hts hinX1 hown hK hP 0 rfl rfl 0 (by decide) fX1_9 (fun _ h9 => h9) rfl dX1_goesTo_17 ?_
    refine lv_aload_n hx hb dX1_goesTo_20 rfl (lv_at hl 1 rfl) ?_
    refine va_get (D := D) (ci := 1) (v := .ref (ad 5)) (C := RX1) (T := TX1) (N := 10) hx hb hts hinX1 hown hK hP 0 rfl rfl 4 (by decide) fX1_31 (fun _ h9 => h9) rfl dX1_goesTo_21 ?_
    refine va_getN (D := D) (ci := 0) (v := .ref (ad 6)) (C := RX0) (T := TX0) (N := 4) hx hb hts hinX0 hown hK hP 5 rfl rfl 0 (by decide) fX0_124 (fun _ h9 => h9) rfl dX1_goesTo_24 ?_
    refine lv_iload_n hx hb dX1_goesTo_27 rfl (lv_at hl 2 rfl) ?_
    refine lh_ild (k := k) (N := 150) hx hb hK hP 6 0 rfl rfl (by omega) (by decide) dX1_goesTo_28 ?_
    refine W.eq (g2 := F0 m 29 ls (.int (nI (xAb u k)) :: [.ref (ad 1)])) rfl ?_
    refine lh_ild (k := xAb u k) (N := 10) hx hb hK hP 1 0 rfl rfl (by have h9 := hAb k; omega) (by decide) dX1_goesTo_29 ?_
    refine W.eq (g2 := F0 m 30 ls (.int (nI (xHo u (xAb u k))) :: [])) rfl ?_
    refine lv_goto (tgt := 39) hx hb dX1_goesTo_30 (by decide) ?_
    exact lh_ri hx hb hr hlk hK hP hD hS (by first | (simp [nI_0, nI_o, goT, c_1]; done) | (simp [nI_0, nI_o, goT, c_1]; rfl)) rfl dX1_goesTo_39
set_option maxRecDepth 100000 in
set_option maxHeartbeats 4000000 in
theorem kX1_inLettersAbout (l : Launch) (D : va_G) (cI : ClassId) (ad : Nat → Nat) (u : XS) (b : Nat) (al : Bool) (ok : okB u) (hb2 : b < 10) : CI l D [(cI, .int)] yX1_inLettersAbout wsX1_inLettersAbout ({ frames := 3, cells := 0, slots := 0, locals := 62 }) [.ref (ad 0), .int (nI b), .int (b2i al)] (wX cI ad u) (wX cI ad u) (inE u b al) := by
  obtain ⟨hM, hW, hHo, hAb, hLb, hRb, hDb⟩ := id ok
  refine lh_CIof (cc := cX1_inLettersAbout) (maxL := 5) (ret := (some .int)) (own := RX1) (by decide) rfl rfl (Nat.le_of_ble_eq_true rfl) ?_
  intro p e s m below meth c A ls hx hb hr hlk hts hown hml hK hN hA hP hD hS hl
  have fX1_31 := hts (.fieldLink RX1 31 "LostHosts" "letters" "LLostHosts$Letters;") (by decide +kernel)
  have fX0_86 := va_Nw.use (A := [.ref (ad 0), .int (nI b), .int (b2i al)].toArray) rfl hN.1
  have fX0_124 := va_Nw.use (A := [.ref (ad 0), .int (nI b), .int (b2i al)].toArray) rfl hN.2.2.1
  have fX0_121 := va_Nw.use (A := [.ref (ad 0), .int (nI b), .int (b2i al)].toArray) rfl hN.2.1
  have hinX0 : ∀ w ∈ u_ws RX0 TX0 4, w ∈ wsX1_inLettersAbout := by decide +kernel
  have hinX1 : ∀ w ∈ u_ws RX1 TX1 10, w ∈ wsX1_inLettersAbout := by decide +kernel
  have hl : lv_has ls 5 [(0, .ref (ad 0)), (1, .int (nI b)), (2, .int (b2i al))] := hl
  refine lv_iconst (v := nI 0) hx hb dX1_inLettersAbout_0 (by decide) ?_
  refine lv_istore_n (lv' := [(3, .int (nI 0)), (0, .ref (ad 0)), (1, .int (nI b)), (2, .int (b2i al))]) hx hb dX1_inLettersAbout_1 rfl hl (by decide) rfl (fun ls hl => ?_)
  refine lv_iconst (v := nI 0) hx hb dX1_inLettersAbout_2 (by decide) ?_
  refine lv_istore (lv' := [(4, .int (nI 0)), (3, .int (nI 0)), (0, .ref (ad 0)), (1, .int (nI b)), (2, .int (b2i al))]) hx hb dX1_inLettersAbout_3 hl (by decide) rfl (fun ls hl => ?_)
  have L5 : ∀ (n : Nat) (k : Nat) (acc : Int32), xW u - k < n → (k ≤ xW u) → (acc = sum (fun k => if xAb u k = b then (if al then xLo u k else if (xD u).testBit (goT u k) then 0 else xLo u k) else 0) k) → ∀ (H : Heap) (locs : List Loc), va_P D vwCl (wX cI ad u) H → va_D A (wX cI ad u) → va_S A s.heap H locs → ∀ (ls : Array Slot), lv_has ls 5 [(4, .int (nI k)), (3, .int (acc)), (0, .ref (ad 0)), (1, .int (nI b)), (2, .int (b2i al))] → W p l e ({ frames := 3, cells := 0, slots := 0, locals := 62 }) s m [.ref (ad 0), .int (nI b), .int (b2i al)].toArray below meth c H locs 0 0 (QI below D [(cI, .int)] A (wX cI ad u) (inE u b al) [.ref (ad 0), .int (nI b), .int (b2i al)].toArray s) (F0 m 5 ls []) := by
    intro n
    induction n with
    | zero => intro k acc hmu; exact absurd hmu (Nat.not_lt_zero _)
    | succ n ih5 =>
      intro k acc hmu5 hk hacc H locs hP hD hS ls hl
      refine lv_iload hx hb dX1_inLettersAbout_5 (lv_at hl 0 rfl) ?_
      refine lv_aload_n hx hb dX1_inLettersAbout_7 rfl (lv_at hl 2 rfl) ?_
      refine va_get (D := D) (ci := 1) (v := .ref (ad 5)) (C := RX1) (T := TX1) (N := 10) hx hb hts hinX1 hown hK hP 0 rfl rfl 4 (by decide) fX1_31 (fun _ h9 => h9) rfl dX1_inLettersAbout_8 ?_
      refine va_getN (D := D) (ci := 0) (v := .int (nI (xW u))) (C := RX0) (T := TX0) (N := 4) hx hb hts hinX0 hown hK hP 5 rfl rfl 3 (by decide) fX0_86 (fun _ h9 => h9) rfl dX1_inLettersAbout_11 ?_
      refine lv_icmp_ge (tgt := 67) hx hb dX1_inLettersAbout_14 (by decide) (fun c_1 => ?_) (fun c_1 => ?_)
      · have c_1 : xW u ≤ k := (nI_leI (by omega) (by omega)).mp c_1
        have c_1n : ¬ k < xW u := by omega
        refine lv_iload_n hx hb dX1_inLettersAbout_67 rfl (lv_at hl 1 rfl) ?_
        exact lh_ri hx hb hr hlk hK hP hD hS (by rw [hacc, show k = xW u by omega]; rfl) rfl dX1_inLettersAbout_68
      · have c_1 : k < xW u := Nat.lt_of_not_le (fun h => c_1 ((nI_leI (by omega) (by omega)).mpr h))
        refine lv_aload_n hx hb dX1_inLettersAbout_17 rfl (lv_at hl 2 rfl) ?_
        refine va_get (D := D) (ci := 1) (v := .ref (ad 5)) (C := RX1) (T := TX1) (N := 10) hx hb hts hinX1 hown hK hP 0 rfl rfl 4 (by decide) fX1_31 (fun _ h9 => h9) rfl dX1_inLettersAbout_18 ?_
        refine va_getN (D := D) (ci := 0) (v := .ref (ad 6)) (C := RX0) (T := TX0) (N := 4) hx hb hts hinX0 hown hK hP 5 rfl rfl 0 (by decide) fX0_124 (fun _ h9 => h9) rfl dX1_inLettersAbout_21 ?_
        refine lv_iload hx hb dX1_inLettersAbout_24 (lv_at hl 0 rfl) ?_
        refine lh_ild (k := k) (N := 150) hx hb hK hP 6 0 rfl rfl (by omega) (by decide) dX1_inLettersAbout_26 ?_
        refine W.eq (g2 := F0 m 27 ls (.int (nI (xAb u k)) :: [])) rfl ?_
        refine lv_iload_n hx hb dX1_inLettersAbout_27 rfl (lv_at hl 3 rfl) ?_
        refine lv_icmp_ne (tgt := 61) hx hb dX1_inLettersAbout_28 (by decide) (fun c_2 => ?_) (fun c_2 => ?_)
        · have c_2 : ¬ xAb u k = b := fun h => c_2 ((nI_eq (by have h9 := hAb k; omega) (by have h9 := hAb k; omega)).mpr h)
          refine lv_iinc (v := nI (k + 1)) (lv' := [(4, .int (nI (k + 1))), (3, .int (acc)), (0, .ref (ad 0)), (1, .int (nI b)), (2, .int (b2i al))]) hx hb dX1_inLettersAbout_61 hl (k := 0) rfl (lh_inc _) (by decide) rfl (fun ls hl => ?_)
          refine lv_goto (tgt := 5) hx hb dX1_inLettersAbout_64 (by decide) ?_
          exact ih5 (k + 1) acc (by omega) (by omega) (by first | exact lh_sumt hacc (by simp [c_1, c_2]) | exact lh_sumf hacc (by simp [c_1, c_2])) _ _ hP hD hS ls (lv_sub hl [0, 1, 2, 3, 4] rfl)
        · have c_2 : xAb u k = b := (nI_eq (by have h9 := hAb k; omega) (by have h9 := hAb k; omega)).mp c_2
          refine lv_iload_n hx hb dX1_inLettersAbout_31 rfl (lv_at hl 4 rfl) ?_
          refine lv_if_ne (tgt := 48) hx hb dX1_inLettersAbout_32 (by decide) (fun c_3 => ?_) (fun c_3 => ?_)
          · have c_3 : al = true := b2i_n0 c_3
            refine lv_iload_n hx hb dX1_inLettersAbout_48 rfl (lv_at hl 1 rfl) ?_
            refine lv_aload_n hx hb dX1_inLettersAbout_49 rfl (lv_at hl 2 rfl) ?_
            refine va_get (D := D) (ci := 1) (v := .ref (ad 5)) (C := RX1) (T := TX1) (N := 10) hx hb hts hinX1 hown hK hP 0 rfl rfl 4 (by decide) fX1_31 (fun _ h9 => h9) rfl dX1_inLettersAbout_50 ?_
            refine va_getN (D := D) (ci := 0) (v := .ref (ad 8)) (C := RX0) (T := TX0) (N := 4) hx hb hts hinX0 hown hK hP 5 rfl rfl 2 (by decide) fX0_121 (fun _ h9 => h9) rfl dX1_inLettersAbout_53 ?_
            refine lv_iload hx hb dX1_inLettersAbout_56 (lv_at hl 0 rfl) ?_
            refine lh_ild (k := k) (N := 150) hx hb hK hP 8 0 rfl rfl (by omega) (by decide) dX1_inLettersAbout_58 ?_
            refine W.eq (g2 := F0 m 59 ls (.int ((xLo u k)) :: [.int (acc)])) rfl ?_
            refine lv_iadd hx hb dX1_inLettersAbout_59 ?_
            refine lv_istore_n (lv' := [(3, .int ((acc + (xLo u k)))), (4, .int (nI k)), (0, .ref (ad 0)), (1, .int (nI b)), (2, .int (b2i al))]) hx hb dX1_inLettersAbout_60 rfl hl (by decide) rfl (fun ls hl => ?_)
            refine lv_iinc (v := nI (k + 1)) (lv' := [(4, .int (nI (k + 1))), (3, .int ((acc + (xLo u k)))), (0, .ref (ad 0)), (1, .int (nI b)), (2, .int (b2i al))]) hx hb dX1_inLettersAbout_61 hl (k := 1) rfl (lh_inc _) (by decide) rfl (fun ls hl => ?_)
            refine lv_goto (tgt := 5) hx hb dX1_inLettersAbout_64 (by decide) ?_
            exact ih5 (k + 1) (acc + (xLo u k)) (by omega) (by omega) (by first | exact lh_sumt hacc (by simp [c_1, c_2, c_3]) | exact lh_sumf hacc (by simp [c_1, c_2, c_3])) _ _ hP hD hS ls (lv_sub hl [0, 1, 2, 3, 4] rfl)
          · have c_3 : al = false := b2i_e0 c_3
            refine lv_aload_n hx hb dX1_inLettersAbout_35 rfl (lv_at hl 2 rfl) ?_
            refine lv_aload_n hx hb dX1_inLettersAbout_36 rfl (lv_at hl 2 rfl) ?_
            refine lv_iload hx hb dX1_inLettersAbout_37 (lv_at hl 0 rfl) ?_
            refine lh_cVi ⟨hx, hb, hml, hown, hts⟩ (kX1_goesTo l D cI ad u k ok (by omega)) (cwV 1 hts gX1_inLettersAbout_X1_goesTo rfl rfl rfl (by decide +kernel) ⟨Nat.le_of_ble_eq_true rfl, Nat.le_of_ble_eq_true rfl⟩) hK hN hP hD hS hA 0 1 rfl rfl rfl rfl hl.1 rfl (Nat.le_of_ble_eq_true rfl) ⟨Nat.le_of_ble_eq_true rfl, Nat.le_of_ble_eq_true rfl⟩ dX1_inLettersAbout_39 (fun H locs hP hD hS => ?_)
            refine lh_cVi ⟨hx, hb, hml, hown, hts⟩ (kX1_isDead l D cI ad u (goT u k) (by have h9 := goT_lt hHo k; omega)) (cwV 1 hts gX1_inLettersAbout_X1_isDead rfl rfl rfl (by decide +kernel) ⟨Nat.le_of_ble_eq_true rfl, Nat.le_of_ble_eq_true rfl⟩) hK hN hP hD hS hA 0 1 rfl rfl rfl rfl hl.1 rfl (Nat.le_of_ble_eq_true rfl) ⟨Nat.le_of_ble_eq_true rfl, Nat.le_of_ble_eq_true rfl⟩ dX1_inLettersAbout_42 (fun H locs hP hD hS => ?_)
            refine lv_if_ne (tgt := 61) hx hb dX1_inLettersAbout_45 (by decide) (fun c_4 => ?_) (fun c_4 => ?_)
            · have c_4 : ((xD u).testBit (goT u k)) = true := b2i_n0 c_4
              refine lv_iinc (v := nI (k + 1)) (lv' := [(4, .int (nI (k + 1))), (3, .int (acc)), (0, .ref (ad 0)), (1, .int (nI b)), (2, .int (b2i al))]) hx hb dX1_inLettersAbout_61 hl (k := 0) rfl (lh_inc _) (by decide) rfl (fun ls hl => ?_)
              refine lv_goto (tgt := 5) hx hb dX1_inLettersAbout_64 (by decide) ?_
              exact ih5 (k + 1) acc (by omega) (by omega) (by first | exact lh_sumt hacc (by simp [c_1, c_2, c_3, c_4]) | exact lh_sumf hacc (by simp [c_1, c_2, c_3, c_4])) _ _ hP hD hS ls (lv_sub hl [0, 1, 2, 3, 4] rfl)
            · have c_4 : ((xD u).testBit (goT u k)) = false := b2i_e0 c_4
              refine lv_iload_n hx hb dX1_inLettersAbout_48 rfl (lv_at hl 1 rfl) ?_
              refine lv_aload_n hx hb dX1_inLettersAbout_49 rfl (lv_at hl 2 rfl) ?_
              refine va_get (D := D) (ci := 1) (v := .ref (ad 5)) (C := RX1) (T := TX1) (N := 10) hx hb hts hinX1 hown hK hP 0 rfl rfl 4 (by decide) fX1_31 (fun _ h9 => h9) rfl dX1_inLettersAbout_50 ?_
              refine va_getN (D := D) (ci := 0) (v := .ref (ad 8)) (C := RX0) (T := TX0) (N := 4) hx hb hts hinX0 hown hK hP 5 rfl rfl 2 (by decide) fX0_121 (fun _ h9 => h9) rfl dX1_inLettersAbout_53 ?_
              refine lv_iload hx hb dX1_inLettersAbout_56 (lv_at hl 0 rfl) ?_
              refine lh_ild (k := k) (N := 150) hx hb hK hP 8 0 rfl rfl (by omega) (by decide) dX1_inLettersAbout_58 ?_
              refine W.eq (g2 := F0 m 59 ls (.int ((xLo u k)) :: [.int (acc)])) rfl ?_
              refine lv_iadd hx hb dX1_inLettersAbout_59 ?_
              refine lv_istore_n (lv' := [(3, .int ((acc + (xLo u k)))), (4, .int (nI k)), (0, .ref (ad 0)), (1, .int (nI b)), (2, .int (b2i al))]) hx hb dX1_inLettersAbout_60 rfl hl (by decide) rfl (fun ls hl => ?_)
              refine lv_iinc (v := nI (k + 1)) (lv' := [(4, .int (nI (k + 1))), (3, .int ((acc + (xLo u k)))), (0, .ref (ad 0)), (1, .int (nI b)), (2, .int (b2i al))]) hx hb dX1_inLettersAbout_61 hl (k := 1) rfl (lh_inc _) (by decide) rfl (fun ls hl => ?_)
              refine lv_goto (tgt := 5) hx hb dX1_inLettersAbout_64 (by decide) ?_
              exact ih5 (k + 1) (acc + (xLo u k)) (by omega) (by omega) (by first | exact lh_sumt hacc (by simp [c_1, c_2, c_3, c_4]) | exact lh_sumf hacc (by simp [c_1, c_2, c_3, c_4])) _ _ hP hD hS ls (lv_sub hl [0, 1, 2, 3, 4] rfl)
  exact L5 _ 0 (nI 0) (Nat.lt_succ_self _) (by omega) (by rfl) _ _ hP hD hS ls (lv_sub hl [0, 1, 2, 3, 4] rfl)
set_option maxRecDepth 100000 in
set_option maxHeartbeats 4000000 in
theorem kX1_isBalanced (l : Launch) (D : va_G) (cI : ClassId) (ad : Nat → Nat) (u : XS) (ok : okB u) : CI l D [(cI, .int)] yX1_isBalanced wsX1_isBalanced ({ frames := 4, cells := 0, slots := 0, locals := 86 }) [.ref (ad 0)] (wX cI ad u) (wX cI ad u) (b2i (bal u)) := by
  obtain ⟨hM, hW, hHo, hAb, hLb, hRb, hDb⟩ := id ok
  refine lh_CIof (cc := cX1_isBalanced) (maxL := 2) (ret := (some .boolean)) (own := RX1) (by decide) rfl rfl (Nat.le_of_ble_eq_true rfl) ?_
  intro p e s m below meth c A ls hx hb hr hlk hts hown hml hK hN hA hP hD hS hl
  have fX1_35 := hts (.fieldLink RX1 35 "LostHosts" "made" "I") (by decide +kernel)
  have fX1_13 := hts (.fieldLink RX1 13 "LostHosts" "out" "[I") (by decide +kernel)
  have hinX1 : ∀ w ∈ u_ws RX1 TX1 10, w ∈ wsX1_isBalanced := by decide +kernel
  have hl : lv_has ls 2 [(0, .ref (ad 0))] := hl
  refine lv_iconst (v := nI 0) hx hb dX1_isBalanced_0 (by decide) ?_
  refine lv_istore_n (lv' := [(1, .int (nI 0)), (0, .ref (ad 0))]) hx hb dX1_isBalanced_1 rfl hl (by decide) rfl (fun ls hl => ?_)
  have L2 : ∀ (n : Nat) (k : Nat), xM u - k < n → (k ≤ xM u) → (alb (balP u) k = true) → ∀ (H : Heap) (locs : List Loc), va_P D vwCl (wX cI ad u) H → va_D A (wX cI ad u) → va_S A s.heap H locs → ∀ (ls : Array Slot), lv_has ls 2 [(1, .int (nI k)), (0, .ref (ad 0))] → W p l e ({ frames := 4, cells := 0, slots := 0, locals := 86 }) s m [.ref (ad 0)].toArray below meth c H locs 0 0 (QI below D [(cI, .int)] A (wX cI ad u) (b2i (bal u)) [.ref (ad 0)].toArray s) (F0 m 2 ls []) := by
    intro n
    induction n with
    | zero => intro k hmu; exact absurd hmu (Nat.not_lt_zero _)
    | succ n ih2 =>
      intro k hmu2 hk halb H locs hP hD hS ls hl
      refine lv_iload_n hx hb dX1_isBalanced_2 rfl (lv_at hl 0 rfl) ?_
      refine lv_aload_n hx hb dX1_isBalanced_3 rfl (lv_at hl 1 rfl) ?_
      refine va_get (D := D) (ci := 1) (v := .int (nI (xM u))) (C := RX1) (T := TX1) (N := 10) hx hb hts hinX1 hown hK hP 0 rfl rfl 5 (by decide) fX1_35 (fun _ h9 => h9) rfl dX1_isBalanced_4 ?_
      refine lv_icmp_ge (tgt := 47) hx hb dX1_isBalanced_7 (by decide) (fun c_1 => ?_) (fun c_1 => ?_)
      · have c_1 : xM u ≤ k := (nI_leI (by omega) (by omega)).mp c_1
        have c_1n : ¬ k < xM u := by omega
        refine lv_iconst (v := nI 1) hx hb dX1_isBalanced_47 (by decide) ?_
        exact lh_rz hx hb hr hlk hK hP hD hS (by rw [show bal u = true from by unfold bal; rw [← show k = xM u by omega]; exact halb]; rfl) rfl dX1_isBalanced_48
      · have c_1 : k < xM u := Nat.lt_of_not_le (fun h => c_1 ((nI_leI (by omega) (by omega)).mpr h))
        refine lv_aload_n hx hb dX1_isBalanced_10 rfl (lv_at hl 1 rfl) ?_
        refine lv_iload_n hx hb dX1_isBalanced_11 rfl (lv_at hl 0 rfl) ?_
        refine lh_cVi ⟨hx, hb, hml, hown, hts⟩ (kX1_isLive l D cI ad u k (by omega)) (cwV 1 hts gX1_isBalanced_X1_isLive rfl rfl rfl (by decide +kernel) ⟨Nat.le_of_ble_eq_true rfl, Nat.le_of_ble_eq_true rfl⟩) hK hN hP hD hS hA 0 1 rfl rfl rfl rfl hl.1 rfl (Nat.le_of_ble_eq_true rfl) ⟨Nat.le_of_ble_eq_true rfl, Nat.le_of_ble_eq_true rfl⟩ dX1_isBalanced_12 (fun H locs hP hD hS => ?_)
        refine lv_if_eq (tgt := 41) hx hb dX1_isBalanced_15 (by decide) (fun c_2 => ?_) (fun c_2 => ?_)
        · have c_2 : ((xL u).testBit k) = false := b2i_e0 c_2
          refine lv_iinc (v := nI (k + 1)) (lv' := [(1, .int (nI (k + 1))), (0, .ref (ad 0))]) hx hb dX1_isBalanced_41 hl (k := 0) rfl (lh_inc _) (by decide) rfl (fun ls hl => ?_)
          refine lv_goto (tgt := 2) hx hb dX1_isBalanced_44 (by decide) ?_
          exact ih2 (k + 1) (by omega) (by omega) (by exact alb_t halb (by simp [balP, c_1, c_2])) _ _ hP hD hS ls (lv_sub hl [0, 1] rfl)
        · have c_2 : ((xL u).testBit k) = true := b2i_n0 c_2
          refine lv_aload_n hx hb dX1_isBalanced_18 rfl (lv_at hl 1 rfl) ?_
          refine va_get (D := D) (ci := 1) (v := .ref (ad 2)) (C := RX1) (T := TX1) (N := 10) hx hb hts hinX1 hown hK hP 0 rfl rfl 1 (by decide) fX1_13 (fun _ h9 => h9) rfl dX1_isBalanced_19 ?_
          refine lv_iload_n hx hb dX1_isBalanced_22 rfl (lv_at hl 0 rfl) ?_
          refine lh_ild (k := k) (N := 10) hx hb hK hP 2 0 rfl rfl (by omega) (by decide) dX1_isBalanced_23 ?_
          refine W.eq (g2 := F0 m 24 ls (.int ((xOu u k)) :: [])) rfl ?_
          refine lv_aload_n hx hb dX1_isBalanced_24 rfl (lv_at hl 1 rfl) ?_
          refine lv_iload_n hx hb dX1_isBalanced_25 rfl (lv_at hl 0 rfl) ?_
          refine lh_cVi ⟨hx, hb, hml, hown, hts⟩ (kX1_inLinksTo l D cI ad u k ok (by omega)) (cwV 1 hts gX1_isBalanced_X1_inLinksTo rfl rfl rfl (by decide +kernel) ⟨Nat.le_of_ble_eq_true rfl, Nat.le_of_ble_eq_true rfl⟩) hK hN hP hD hS hA 0 1 rfl rfl rfl rfl hl.1 rfl (Nat.le_of_ble_eq_true rfl) ⟨Nat.le_of_ble_eq_true rfl, Nat.le_of_ble_eq_true rfl⟩ dX1_isBalanced_26 (fun H locs hP hD hS => ?_)
          refine lv_aload_n hx hb dX1_isBalanced_29 rfl (lv_at hl 1 rfl) ?_
          refine lv_iload_n hx hb dX1_isBalanced_30 rfl (lv_at hl 0 rfl) ?_
          refine lv_iconst (v := nI 1) hx hb dX1_isBalanced_31 (by decide) ?_
          refine lh_cVi ⟨hx, hb, hml, hown, hts⟩ (kX1_inLettersAbout l D cI ad u k true ok (by omega)) (cwV 2 hts gX1_isBalanced_X1_inLettersAbout rfl rfl rfl (by decide +kernel) ⟨Nat.le_of_ble_eq_true rfl, Nat.le_of_ble_eq_true rfl⟩) hK hN hP hD hS hA 0 1 rfl rfl rfl rfl hl.1 rfl (Nat.le_of_ble_eq_true rfl) ⟨Nat.le_of_ble_eq_true rfl, Nat.le_of_ble_eq_true rfl⟩ dX1_isBalanced_32 (fun H locs hP hD hS => ?_)
          refine lv_iadd hx hb dX1_isBalanced_35 ?_
          refine lv_icmp_eq (tgt := 41) hx hb dX1_isBalanced_36 (by decide) (fun c_3 => ?_) (fun c_3 => ?_)
          · have c_3r := c_3
            refine lv_iinc (v := nI (k + 1)) (lv' := [(1, .int (nI (k + 1))), (0, .ref (ad 0))]) hx hb dX1_isBalanced_41 hl (k := 0) rfl (lh_inc _) (by decide) rfl (fun ls hl => ?_)
            refine lv_goto (tgt := 2) hx hb dX1_isBalanced_44 (by decide) ?_
            exact ih2 (k + 1) (by omega) (by omega) (by exact alb_t halb (by simp [balP, c_1, c_2, c_3])) _ _ hP hD hS ls (lv_sub hl [0, 1] rfl)
          · have c_3r := c_3
            refine lv_iconst (v := nI 0) hx hb dX1_isBalanced_39 (by decide) ?_
            exact lh_rz hx hb hr hlk hK hP hD hS (by rw [show bal u = false from alb_f (k := k) (by omega) (by simp [balP, c_1, c_2, c_3])]; rfl) rfl dX1_isBalanced_40
  exact L2 _ 0 (Nat.lt_succ_self _) (by omega) (by rfl) _ _ hP hD hS ls (lv_sub hl [0, 1] rfl)
set_option maxRecDepth 100000 in
set_option maxHeartbeats 4000000 in
theorem kX1_oneStepOn (l : Launch) (D : va_G) (cI : ClassId) (ad : Nat → Nat) (u : XS) (x : Nat) (ok : okB u) : CI l D [(cI, .int)] yX1_oneStepOn wsX1_oneStepOn ({ frames := 3, cells := 0, slots := 0, locals := 66 }) [.ref (ad 0), .int (nI x)] (wX cI ad u) (wX cI ad u) (nI (ons u x)) := by
  obtain ⟨hM, hW, hHo, hAb, hLb, hRb, hDb⟩ := id ok
  refine lh_CIof (cc := cX1_oneStepOn) (maxL := 4) (ret := (some .int)) (own := RX1) (by decide) rfl rfl (Nat.le_of_ble_eq_true rfl) ?_
  intro p e s m below meth c A ls hx hb hr hlk hts hown hml hK hN hA hP hD hS hl
  have fX1_35 := hts (.fieldLink RX1 35 "LostHosts" "made" "I") (by decide +kernel)
  have fX1_31 := hts (.fieldLink RX1 31 "LostHosts" "letters" "LLostHosts$Letters;") (by decide +kernel)
  have fX0_86 := va_Nw.use (A := [.ref (ad 0), .int (nI x)].toArray) rfl hN.1
  have fX1_39 := hts (.fieldLink RX1 39 "LostHosts" "live" "I") (by decide +kernel)
  have fX0_127 := va_Nw.use (A := [.ref (ad 0), .int (nI x)].toArray) rfl hN.2.2.2
  have fX0_124 := va_Nw.use (A := [.ref (ad 0), .int (nI x)].toArray) rfl hN.2.2.1
  have hinX0 : ∀ w ∈ u_ws RX0 TX0 4, w ∈ wsX1_oneStepOn := by decide +kernel
  have hinX1 : ∀ w ∈ u_ws RX1 TX1 10, w ∈ wsX1_oneStepOn := by decide +kernel
  have hl : lv_has ls 4 [(0, .ref (ad 0)), (1, .int (nI x))] := hl
  refine lv_iload_n hx hb dX1_oneStepOn_0 rfl (lv_at hl 1 rfl) ?_
  refine lv_istore_n (lv' := [(2, .int (nI x)), (0, .ref (ad 0)), (1, .int (nI x))]) hx hb dX1_oneStepOn_1 rfl hl (by decide) rfl (fun ls hl => ?_)
  refine lv_iconst (v := nI 0) hx hb dX1_oneStepOn_2 (by decide) ?_
  refine lv_istore_n (lv' := [(3, .int (nI 0)), (2, .int (nI x)), (0, .ref (ad 0)), (1, .int (nI x))]) hx hb dX1_oneStepOn_3 rfl hl (by decide) rfl (fun ls hl => ?_)
  have L4 : ∀ (n : Nat) (k : Nat) (acc : Nat), xM u - k < n → (k ≤ xM u) → (acc = fol (os1 u x) k x) → ∀ (H : Heap) (locs : List Loc), va_P D vwCl (wX cI ad u) H → va_D A (wX cI ad u) → va_S A s.heap H locs → ∀ (ls : Array Slot), lv_has ls 4 [(3, .int (nI k)), (2, .int (nI acc)), (0, .ref (ad 0)), (1, .int (nI x))] → W p l e ({ frames := 3, cells := 0, slots := 0, locals := 66 }) s m [.ref (ad 0), .int (nI x)].toArray below meth c H locs 0 0 (QI below D [(cI, .int)] A (wX cI ad u) (nI (ons u x)) [.ref (ad 0), .int (nI x)].toArray s) (F0 m 4 ls []) := by
    intro n
    induction n with
    | zero => intro k acc hmu; exact absurd hmu (Nat.not_lt_zero _)
    | succ n ih4 =>
      intro k acc hmu4 hk hacc H locs hP hD hS ls hl
      refine lv_iload_n hx hb dX1_oneStepOn_4 rfl (lv_at hl 0 rfl) ?_
      refine lv_aload_n hx hb dX1_oneStepOn_5 rfl (lv_at hl 2 rfl) ?_
      refine va_get (D := D) (ci := 1) (v := .int (nI (xM u))) (C := RX1) (T := TX1) (N := 10) hx hb hts hinX1 hown hK hP 0 rfl rfl 5 (by decide) fX1_35 (fun _ h9 => h9) rfl dX1_oneStepOn_6 ?_
      refine lv_icmp_ge (tgt := 34) hx hb dX1_oneStepOn_9 (by decide) (fun c_1 => ?_) (fun c_1 => ?_)
      · have c_1 : xM u ≤ k := (nI_leI (by omega) (by omega)).mp c_1
        have c_1n : ¬ k < xM u := by omega
        refine lv_iconst (v := nI 0) hx hb dX1_oneStepOn_34 (by decide) ?_
        refine lv_istore_n (lv' := [(3, .int (nI 0)), (2, .int (nI acc)), (0, .ref (ad 0)), (1, .int (nI x))]) hx hb dX1_oneStepOn_35 rfl hl (by decide) rfl (fun ls hl => ?_)
        have L36 : ∀ (n : Nat) (k2 : Nat) (ac2 : Nat), xW u - k2 < n → (k2 ≤ xW u) → (ac2 = fol (os2 u x) k2 (fol (os1 u x) (xM u) x)) → ∀ (H : Heap) (locs : List Loc), va_P D vwCl (wX cI ad u) H → va_D A (wX cI ad u) → va_S A s.heap H locs → ∀ (ls : Array Slot), lv_has ls 4 [(3, .int (nI k2)), (2, .int (nI ac2)), (0, .ref (ad 0)), (1, .int (nI x))] → W p l e ({ frames := 3, cells := 0, slots := 0, locals := 66 }) s m [.ref (ad 0), .int (nI x)].toArray below meth c H locs 0 0 (QI below D [(cI, .int)] A (wX cI ad u) (nI (ons u x)) [.ref (ad 0), .int (nI x)].toArray s) (F0 m 36 ls []) := by
          intro n
          induction n with
          | zero => intro k2 ac2 hmu; exact absurd hmu (Nat.not_lt_zero _)
          | succ n ih36 =>
            intro k2 ac2 hmu36 hk2 hac2 H locs hP hD hS ls hl
            refine lv_iload_n hx hb dX1_oneStepOn_36 rfl (lv_at hl 0 rfl) ?_
            refine lv_aload_n hx hb dX1_oneStepOn_37 rfl (lv_at hl 2 rfl) ?_
            refine va_get (D := D) (ci := 1) (v := .ref (ad 5)) (C := RX1) (T := TX1) (N := 10) hx hb hts hinX1 hown hK hP 0 rfl rfl 4 (by decide) fX1_31 (fun _ h9 => h9) rfl dX1_oneStepOn_38 ?_
            refine va_getN (D := D) (ci := 0) (v := .int (nI (xW u))) (C := RX0) (T := TX0) (N := 4) hx hb hts hinX0 hown hK hP 5 rfl rfl 3 (by decide) fX0_86 (fun _ h9 => h9) rfl dX1_oneStepOn_41 ?_
            refine lv_icmp_ge (tgt := 95) hx hb dX1_oneStepOn_44 (by decide) (fun c_2 => ?_) (fun c_2 => ?_)
            · have c_2 : xW u ≤ k2 := (nI_leI (by omega) (by omega)).mp c_2
              have c_2n : ¬ k2 < xW u := by omega
              refine lv_iload_n hx hb dX1_oneStepOn_95 rfl (lv_at hl 1 rfl) ?_
              refine lv_aload_n hx hb dX1_oneStepOn_96 rfl (lv_at hl 2 rfl) ?_
              refine va_get (D := D) (ci := 1) (v := .int (nI (xL u))) (C := RX1) (T := TX1) (N := 10) hx hb hts hinX1 hown hK hP 0 rfl rfl 6 (by decide) fX1_39 (fun _ h9 => h9) rfl dX1_oneStepOn_97 ?_
              refine lv_iand hx hb dX1_oneStepOn_100 ?_
              refine lh_top (y := nI (ac2 &&& xL u)) (fa_and _ _) ?_
              exact lh_ri hx hb hr hlk hK hP hD hS (by rw [hac2, show k2 = xW u by omega]; rfl) rfl dX1_oneStepOn_101
            · have c_2 : k2 < xW u := Nat.lt_of_not_le (fun h => c_2 ((nI_leI (by omega) (by omega)).mpr h))
              refine lv_aload_n hx hb dX1_oneStepOn_47 rfl (lv_at hl 2 rfl) ?_
              refine va_get (D := D) (ci := 1) (v := .ref (ad 5)) (C := RX1) (T := TX1) (N := 10) hx hb hts hinX1 hown hK hP 0 rfl rfl 4 (by decide) fX1_31 (fun _ h9 => h9) rfl dX1_oneStepOn_48 ?_
              refine lv_iload_n hx hb dX1_oneStepOn_51 rfl (lv_at hl 0 rfl) ?_
              refine lh_cVi ⟨hx, hb, hml, hown, hts⟩ (kX0_kind l D cI ad u k2 (by omega)) (cwV 1 hts gX1_oneStepOn_X0_kind rfl rfl rfl (by decide +kernel) ⟨Nat.le_of_ble_eq_true rfl, Nat.le_of_ble_eq_true rfl⟩) hK hN hP hD hS hA 5 0 rfl rfl rfl rfl hl.1 rfl (Nat.le_of_ble_eq_true rfl) ⟨Nat.le_of_ble_eq_true rfl, Nat.le_of_ble_eq_true rfl⟩ dX1_oneStepOn_52 (fun H locs hP hD hS => ?_)
              refine lv_if_ne (tgt := 89) hx hb dX1_oneStepOn_55 (by decide) (fun c_3 => ?_) (fun c_3 => ?_)
              · have c_3 : ¬ (kd u k2) = 0 := lh_nz c_3
                have c_3 := kd_1 c_3
                refine lv_iinc (v := nI (k2 + 1)) (lv' := [(3, .int (nI (k2 + 1))), (2, .int (nI ac2)), (0, .ref (ad 0)), (1, .int (nI x))]) hx hb dX1_oneStepOn_89 hl (k := 0) rfl (lh_inc _) (by decide) rfl (fun ls hl => ?_)
                refine lv_goto (tgt := 36) hx hb dX1_oneStepOn_92 (by decide) ?_
                exact ih36 (k2 + 1) ac2 (by omega) (by omega) (by rw [hac2]; simp [fol, os2, ← hac2, c_1n, c_1, c_2, c_3]) _ _ hP hD hS ls (lv_sub hl [0, 1, 2, 3] rfl)
              · have c_3 : (kd u k2) = 0 := lh_z (by exact kd_lt u k2) c_3
                have c_3 := kd_0 c_3
                refine lv_iload_n hx hb dX1_oneStepOn_58 rfl (lv_at hl 3 rfl) ?_
                refine lv_aload_n hx hb dX1_oneStepOn_59 rfl (lv_at hl 2 rfl) ?_
                refine va_get (D := D) (ci := 1) (v := .ref (ad 5)) (C := RX1) (T := TX1) (N := 10) hx hb hts hinX1 hown hK hP 0 rfl rfl 4 (by decide) fX1_31 (fun _ h9 => h9) rfl dX1_oneStepOn_60 ?_
                refine va_getN (D := D) (ci := 0) (v := .ref (ad 7)) (C := RX0) (T := TX0) (N := 4) hx hb hts hinX0 hown hK hP 5 rfl rfl 1 (by decide) fX0_127 (fun _ h9 => h9) rfl dX1_oneStepOn_63 ?_
                refine lv_iload_n hx hb dX1_oneStepOn_66 rfl (lv_at hl 0 rfl) ?_
                refine lh_ild (k := k2) (N := 150) hx hb hK hP 7 0 rfl rfl (by omega) (by decide) dX1_oneStepOn_67 ?_
                refine W.eq (g2 := F0 m 68 ls (.int (rv (xRc u k2)) :: [.int (nI x)])) rfl ?_
                refine lh_top (y := nI (xRc u k2)) (rv_lt (by omega)) ?_
                refine lh_cSi ⟨hx, hb, hml, hown, hts⟩ (kX1_isIn l D _ _ x (xRc u k2) (by omega)) (va_cwS 2 hts gX1_oneStepOn_X1_isIn rfl rfl rfl (by decide +kernel) ⟨Nat.le_of_ble_eq_true rfl, Nat.le_of_ble_eq_true rfl⟩) hK hN hP hD hS hA rfl hl.1 rfl (Nat.le_of_ble_eq_true rfl) ⟨Nat.le_of_ble_eq_true rfl, Nat.le_of_ble_eq_true rfl⟩ dX1_oneStepOn_68 (fun H locs hP hD hS => ?_)
                refine lv_if_eq (tgt := 89) hx hb dX1_oneStepOn_71 (by decide) (fun c_4 => ?_) (fun c_4 => ?_)
                · have c_4 : (x.testBit (xRc u k2)) = false := b2i_e0 c_4
                  refine lv_iinc (v := nI (k2 + 1)) (lv' := [(3, .int (nI (k2 + 1))), (2, .int (nI ac2)), (0, .ref (ad 0)), (1, .int (nI x))]) hx hb dX1_oneStepOn_89 hl (k := 0) rfl (lh_inc _) (by decide) rfl (fun ls hl => ?_)
                  refine lv_goto (tgt := 36) hx hb dX1_oneStepOn_92 (by decide) ?_
                  exact ih36 (k2 + 1) ac2 (by omega) (by omega) (by rw [hac2]; simp [fol, os2, ← hac2, c_1n, c_1, c_2, c_3, c_4]) _ _ hP hD hS ls (lv_sub hl [0, 1, 2, 3] rfl)
                · have c_4 : (x.testBit (xRc u k2)) = true := b2i_n0 c_4
                  refine lv_iload_n hx hb dX1_oneStepOn_74 rfl (lv_at hl 1 rfl) ?_
                  refine lv_aload_n hx hb dX1_oneStepOn_75 rfl (lv_at hl 2 rfl) ?_
                  refine va_get (D := D) (ci := 1) (v := .ref (ad 5)) (C := RX1) (T := TX1) (N := 10) hx hb hts hinX1 hown hK hP 0 rfl rfl 4 (by decide) fX1_31 (fun _ h9 => h9) rfl dX1_oneStepOn_76 ?_
                  refine va_getN (D := D) (ci := 0) (v := .ref (ad 6)) (C := RX0) (T := TX0) (N := 4) hx hb hts hinX0 hown hK hP 5 rfl rfl 0 (by decide) fX0_124 (fun _ h9 => h9) rfl dX1_oneStepOn_79 ?_
                  refine lv_iload_n hx hb dX1_oneStepOn_82 rfl (lv_at hl 0 rfl) ?_
                  refine lh_ild (k := k2) (N := 150) hx hb hK hP 6 0 rfl rfl (by omega) (by decide) dX1_oneStepOn_83 ?_
                  refine W.eq (g2 := F0 m 84 ls (.int (nI (xAb u k2)) :: [.int (nI ac2)])) rfl ?_
                  refine lh_cSi ⟨hx, hb, hml, hown, hts⟩ (kX1_bit l D _ _ (xAb u k2) (by have h9 := hAb k2; omega)) (va_cwS 1 hts gX1_oneStepOn_X1_bit rfl rfl rfl (by decide +kernel) ⟨Nat.le_of_ble_eq_true rfl, Nat.le_of_ble_eq_true rfl⟩) hK hN hP hD hS hA rfl hl.1 rfl (Nat.le_of_ble_eq_true rfl) ⟨Nat.le_of_ble_eq_true rfl, Nat.le_of_ble_eq_true rfl⟩ dX1_oneStepOn_84 (fun H locs hP hD hS => ?_)
                  refine lv_ior hx hb dX1_oneStepOn_87 ?_
                  refine lh_top (y := nI (ac2 ||| (2 ^ (xAb u k2)))) (fa_or _ _) ?_
                  refine lv_istore_n (lv' := [(2, .int (nI (ac2 ||| (2 ^ (xAb u k2))))), (3, .int (nI k2)), (0, .ref (ad 0)), (1, .int (nI x))]) hx hb dX1_oneStepOn_88 rfl hl (by decide) rfl (fun ls hl => ?_)
                  refine lv_iinc (v := nI (k2 + 1)) (lv' := [(3, .int (nI (k2 + 1))), (2, .int (nI (ac2 ||| (2 ^ (xAb u k2))))), (0, .ref (ad 0)), (1, .int (nI x))]) hx hb dX1_oneStepOn_89 hl (k := 1) rfl (lh_inc _) (by decide) rfl (fun ls hl => ?_)
                  refine lv_goto (tgt := 36) hx hb dX1_oneStepOn_92 (by decide) ?_
                  exact ih36 (k2 + 1) (ac2 ||| (2 ^ (xAb u k2))) (by omega) (by omega) (by rw [hac2]; simp [fol, os2, ← hac2, c_1n, c_1, c_2, c_3, c_4]) _ _ hP hD hS ls (lv_sub hl [0, 1, 2, 3] rfl)
        exact L36 _ 0 acc (Nat.lt_succ_self _) (by omega) (by rw [hacc, show k = xM u by omega]; rfl) _ _ hP hD hS ls (lv_sub hl [0, 1, 2, 3] rfl)
      · have c_1 : k < xM u := Nat.lt_of_not_le (fun h => c_1 ((nI_leI (by omega) (by omega)).mpr h))
        refine lv_iload_n hx hb dX1_oneStepOn_12 rfl (lv_at hl 3 rfl) ?_
        refine lv_iload_n hx hb dX1_oneStepOn_13 rfl (lv_at hl 0 rfl) ?_
        refine lh_cSi ⟨hx, hb, hml, hown, hts⟩ (kX1_isIn l D _ _ x k (by omega)) (va_cwS 2 hts gX1_oneStepOn_X1_isIn rfl rfl rfl (by decide +kernel) ⟨Nat.le_of_ble_eq_true rfl, Nat.le_of_ble_eq_true rfl⟩) hK hN hP hD hS hA rfl hl.1 rfl (Nat.le_of_ble_eq_true rfl) ⟨Nat.le_of_ble_eq_true rfl, Nat.le_of_ble_eq_true rfl⟩ dX1_oneStepOn_14 (fun H locs hP hD hS => ?_)
        refine lv_if_eq (tgt := 28) hx hb dX1_oneStepOn_17 (by decide) (fun c_5 => ?_) (fun c_5 => ?_)
        · have c_5 : (x.testBit k) = false := b2i_e0 c_5
          refine lv_iinc (v := nI (k + 1)) (lv' := [(3, .int (nI (k + 1))), (2, .int (nI acc)), (0, .ref (ad 0)), (1, .int (nI x))]) hx hb dX1_oneStepOn_28 hl (k := 0) rfl (lh_inc _) (by decide) rfl (fun ls hl => ?_)
          refine lv_goto (tgt := 4) hx hb dX1_oneStepOn_31 (by decide) ?_
          exact ih4 (k + 1) acc (by omega) (by omega) (by rw [hacc]; simp [fol, os1, ← hacc, c_1, c_5]) _ _ hP hD hS ls (lv_sub hl [0, 1, 2, 3] rfl)
        · have c_5 : (x.testBit k) = true := b2i_n0 c_5
          refine lv_iload_n hx hb dX1_oneStepOn_20 rfl (lv_at hl 1 rfl) ?_
          refine lv_aload_n hx hb dX1_oneStepOn_21 rfl (lv_at hl 2 rfl) ?_
          refine lv_iload_n hx hb dX1_oneStepOn_22 rfl (lv_at hl 0 rfl) ?_
          refine lh_cVi ⟨hx, hb, hml, hown, hts⟩ (kX1_linkedFrom l D cI ad u k ok (by omega)) (cwV 1 hts gX1_oneStepOn_X1_linkedFrom rfl rfl rfl (by decide +kernel) ⟨Nat.le_of_ble_eq_true rfl, Nat.le_of_ble_eq_true rfl⟩) hK hN hP hD hS hA 0 1 rfl rfl rfl rfl hl.1 rfl (Nat.le_of_ble_eq_true rfl) ⟨Nat.le_of_ble_eq_true rfl, Nat.le_of_ble_eq_true rfl⟩ dX1_oneStepOn_23 (fun H locs hP hD hS => ?_)
          refine lv_ior hx hb dX1_oneStepOn_26 ?_
          refine lh_top (y := nI (acc ||| (frO u k))) (fa_or _ _) ?_
          refine lv_istore_n (lv' := [(2, .int (nI (acc ||| (frO u k)))), (3, .int (nI k)), (0, .ref (ad 0)), (1, .int (nI x))]) hx hb dX1_oneStepOn_27 rfl hl (by decide) rfl (fun ls hl => ?_)
          refine lv_iinc (v := nI (k + 1)) (lv' := [(3, .int (nI (k + 1))), (2, .int (nI (acc ||| (frO u k)))), (0, .ref (ad 0)), (1, .int (nI x))]) hx hb dX1_oneStepOn_28 hl (k := 1) rfl (lh_inc _) (by decide) rfl (fun ls hl => ?_)
          refine lv_goto (tgt := 4) hx hb dX1_oneStepOn_31 (by decide) ?_
          exact ih4 (k + 1) (acc ||| (frO u k)) (by omega) (by omega) (by rw [hacc]; simp [fol, os1, ← hacc, c_1, c_5]) _ _ hP hD hS ls (lv_sub hl [0, 1, 2, 3] rfl)
  exact L4 _ 0 x (Nat.lt_succ_self _) (by omega) (by rfl) _ _ hP hD hS ls (lv_sub hl [0, 1, 2, 3] rfl)
set_option maxRecDepth 100000 in
set_option maxHeartbeats 4000000 in
theorem kX1_mayGive (l : Launch) (D : va_G) (cI : ClassId) (ad : Nat → Nat) (u : XS) (x : Nat) (a : Nat) (b : Nat) (hx9 : x < 10) (ha : a < 10) (hb2 : b < 10) : CI l D [(cI, .int)] yX1_mayGive wsX1_mayGive ({ frames := 3, cells := 0, slots := 0, locals := 62 }) [.ref (ad 0), .int (nI x), .int (nI a), .int (nI b)] (wX cI ad u) (wX cI ad u) (b2i (mayG u x a b)) := by
  refine lh_CIof (cc := cX1_mayGive) (maxL := 4) (ret := (some .boolean)) (own := RX1) (by decide) rfl rfl (Nat.le_of_ble_eq_true rfl) ?_
  intro p e s m below meth c A ls hx hb hr hlk hts hown hml hK hN hA hP hD hS hl
  have hl : lv_has ls 4 [(0, .ref (ad 0)), (1, .int (nI x)), (2, .int (nI a)), (3, .int (nI b))] := hl
  refine lv_aload_n hx hb dX1_mayGive_0 rfl (lv_at hl 0 rfl) ?_
  refine lv_iload_n hx hb dX1_mayGive_1 rfl (lv_at hl 1 rfl) ?_
  refine lh_cVi ⟨hx, hb, hml, hown, hts⟩ (kX1_isLive l D cI ad u x (by omega)) (cwV 1 hts gX1_mayGive_X1_isLive rfl rfl rfl (by decide +kernel) ⟨Nat.le_of_ble_eq_true rfl, Nat.le_of_ble_eq_true rfl⟩) hK hN hP hD hS hA 0 1 rfl rfl rfl rfl hl.1 rfl (Nat.le_of_ble_eq_true rfl) ⟨Nat.le_of_ble_eq_true rfl, Nat.le_of_ble_eq_true rfl⟩ dX1_mayGive_2 (fun H locs hP hD hS => ?_)
  refine lv_if_eq (tgt := 34) hx hb dX1_mayGive_5 (by decide) (fun c_1 => ?_) (fun c_1 => ?_)
  · have c_1 : ((xL u).testBit x) = false := b2i_e0 c_1
    refine lv_iconst (v := nI 0) hx hb dX1_mayGive_34 (by decide) ?_
    exact lh_rz hx hb hr hlk hK hP hD hS (by first | (simp [mayG, nI_0, nI_o, b2i, c_1]; done) | simp_all [mayG, b2i, nI_0, nI_o]) rfl dX1_mayGive_35
  · have c_1 : ((xL u).testBit x) = true := b2i_n0 c_1
    refine lv_aload_n hx hb dX1_mayGive_8 rfl (lv_at hl 0 rfl) ?_
    refine lv_iload_n hx hb dX1_mayGive_9 rfl (lv_at hl 2 rfl) ?_
    refine lh_cVi ⟨hx, hb, hml, hown, hts⟩ (kX1_isLive l D cI ad u a (by omega)) (cwV 1 hts gX1_mayGive_X1_isLive rfl rfl rfl (by decide +kernel) ⟨Nat.le_of_ble_eq_true rfl, Nat.le_of_ble_eq_true rfl⟩) hK hN hP hD hS hA 0 1 rfl rfl rfl rfl hl.1 rfl (Nat.le_of_ble_eq_true rfl) ⟨Nat.le_of_ble_eq_true rfl, Nat.le_of_ble_eq_true rfl⟩ dX1_mayGive_10 (fun H locs hP hD hS => ?_)
    refine lv_if_eq (tgt := 34) hx hb dX1_mayGive_13 (by decide) (fun c_2 => ?_) (fun c_2 => ?_)
    · have c_2 : ((xL u).testBit a) = false := b2i_e0 c_2
      refine lv_iconst (v := nI 0) hx hb dX1_mayGive_34 (by decide) ?_
      exact lh_rz hx hb hr hlk hK hP hD hS (by first | (simp [mayG, nI_0, nI_o, b2i, c_1, c_2]; done) | simp_all [mayG, b2i, nI_0, nI_o]) rfl dX1_mayGive_35
    · have c_2 : ((xL u).testBit a) = true := b2i_n0 c_2
      refine lv_aload_n hx hb dX1_mayGive_16 rfl (lv_at hl 0 rfl) ?_
      refine lv_iload_n hx hb dX1_mayGive_17 rfl (lv_at hl 3 rfl) ?_
      refine lh_cVi ⟨hx, hb, hml, hown, hts⟩ (kX1_isLive l D cI ad u b (by omega)) (cwV 1 hts gX1_mayGive_X1_isLive rfl rfl rfl (by decide +kernel) ⟨Nat.le_of_ble_eq_true rfl, Nat.le_of_ble_eq_true rfl⟩) hK hN hP hD hS hA 0 1 rfl rfl rfl rfl hl.1 rfl (Nat.le_of_ble_eq_true rfl) ⟨Nat.le_of_ble_eq_true rfl, Nat.le_of_ble_eq_true rfl⟩ dX1_mayGive_18 (fun H locs hP hD hS => ?_)
      refine lv_if_eq (tgt := 34) hx hb dX1_mayGive_21 (by decide) (fun c_3 => ?_) (fun c_3 => ?_)
      · have c_3 : ((xL u).testBit b) = false := b2i_e0 c_3
        refine lv_iconst (v := nI 0) hx hb dX1_mayGive_34 (by decide) ?_
        exact lh_rz hx hb hr hlk hK hP hD hS (by first | (simp [mayG, nI_0, nI_o, b2i, c_1, c_2, c_3]; done) | simp_all [mayG, b2i, nI_0, nI_o]) rfl dX1_mayGive_35
      · have c_3 : ((xL u).testBit b) = true := b2i_n0 c_3
        refine lv_iload_n hx hb dX1_mayGive_24 rfl (lv_at hl 2 rfl) ?_
        refine lv_iload_n hx hb dX1_mayGive_25 rfl (lv_at hl 1 rfl) ?_
        refine lv_icmp_eq (tgt := 34) hx hb dX1_mayGive_26 (by decide) (fun c_4 => ?_) (fun c_4 => ?_)
        · have c_4 : a = x := (nI_eq (by omega) (by omega)).mp c_4
          refine lv_iconst (v := nI 0) hx hb dX1_mayGive_34 (by decide) ?_
          exact lh_rz hx hb hr hlk hK hP hD hS (by first | (simp [mayG, nI_0, nI_o, b2i, c_1, c_2, c_3, c_4]; done) | simp_all [mayG, b2i, nI_0, nI_o]) rfl dX1_mayGive_35
        · have c_4 : ¬ a = x := fun h => c_4 ((nI_eq (by omega) (by omega)).mpr h)
          refine lv_iload_n hx hb dX1_mayGive_29 rfl (lv_at hl 2 rfl) ?_
          refine lv_iload_n hx hb dX1_mayGive_30 rfl (lv_at hl 3 rfl) ?_
          refine lv_icmp_ne (tgt := 36) hx hb dX1_mayGive_31 (by decide) (fun c_5 => ?_) (fun c_5 => ?_)
          · have c_5 : ¬ a = b := fun h => c_5 ((nI_eq (by omega) (by omega)).mpr h)
            refine lv_aload_n hx hb dX1_mayGive_36 rfl (lv_at hl 0 rfl) ?_
            refine lv_iload_n hx hb dX1_mayGive_37 rfl (lv_at hl 1 rfl) ?_
            refine lv_iload_n hx hb dX1_mayGive_38 rfl (lv_at hl 2 rfl) ?_
            refine lh_cVi ⟨hx, hb, hml, hown, hts⟩ (kX1_hasLink l D cI ad u x a (by omega) (by omega)) (cwV 2 hts gX1_mayGive_X1_hasLink rfl rfl rfl (by decide +kernel) ⟨Nat.le_of_ble_eq_true rfl, Nat.le_of_ble_eq_true rfl⟩) hK hN hP hD hS hA 0 1 rfl rfl rfl rfl hl.1 rfl (Nat.le_of_ble_eq_true rfl) ⟨Nat.le_of_ble_eq_true rfl, Nat.le_of_ble_eq_true rfl⟩ dX1_mayGive_39 (fun H locs hP hD hS => ?_)
            refine lv_if_eq (tgt := 63) hx hb dX1_mayGive_42 (by decide) (fun c_6 => ?_) (fun c_6 => ?_)
            · have c_6 : (lnk u x a) = false := b2i_e0 c_6
              refine lv_iconst (v := nI 0) hx hb dX1_mayGive_63 (by decide) ?_
              exact lh_rz hx hb hr hlk hK hP hD hS (by first | (simp [mayG, nI_0, nI_o, b2i, c_1, c_2, c_3, c_4, c_5, c_6]; done) | simp_all [mayG, b2i, nI_0, nI_o]) rfl dX1_mayGive_64
            · have c_6 : (lnk u x a) = true := b2i_n0 c_6
              refine lv_iload_n hx hb dX1_mayGive_45 rfl (lv_at hl 1 rfl) ?_
              refine lv_iload_n hx hb dX1_mayGive_46 rfl (lv_at hl 3 rfl) ?_
              refine lv_icmp_eq (tgt := 59) hx hb dX1_mayGive_47 (by decide) (fun c_7 => ?_) (fun c_7 => ?_)
              · have c_7 : x = b := (nI_eq (by omega) (by omega)).mp c_7
                refine lv_iconst (v := nI 1) hx hb dX1_mayGive_59 (by decide) ?_
                refine lv_goto (tgt := 64) hx hb dX1_mayGive_60 (by decide) ?_
                exact lh_rz hx hb hr hlk hK hP hD hS (by first | (simp [mayG, nI_0, nI_o, b2i, c_1, c_2, c_3, c_4, c_5, c_6, c_7]; done) | simp_all [mayG, b2i, nI_0, nI_o]) rfl dX1_mayGive_64
              · have c_7 : ¬ x = b := fun h => c_7 ((nI_eq (by omega) (by omega)).mpr h)
                refine lv_aload_n hx hb dX1_mayGive_50 rfl (lv_at hl 0 rfl) ?_
                refine lv_iload_n hx hb dX1_mayGive_51 rfl (lv_at hl 1 rfl) ?_
                refine lv_iload_n hx hb dX1_mayGive_52 rfl (lv_at hl 3 rfl) ?_
                refine lh_cVi ⟨hx, hb, hml, hown, hts⟩ (kX1_hasLink l D cI ad u x b (by omega) (by omega)) (cwV 2 hts gX1_mayGive_X1_hasLink rfl rfl rfl (by decide +kernel) ⟨Nat.le_of_ble_eq_true rfl, Nat.le_of_ble_eq_true rfl⟩) hK hN hP hD hS hA 0 1 rfl rfl rfl rfl hl.1 rfl (Nat.le_of_ble_eq_true rfl) ⟨Nat.le_of_ble_eq_true rfl, Nat.le_of_ble_eq_true rfl⟩ dX1_mayGive_53 (fun H locs hP hD hS => ?_)
                refine lv_if_eq (tgt := 63) hx hb dX1_mayGive_56 (by decide) (fun c_8 => ?_) (fun c_8 => ?_)
                · have c_8 : (lnk u x b) = false := b2i_e0 c_8
                  refine lv_iconst (v := nI 0) hx hb dX1_mayGive_63 (by decide) ?_
                  exact lh_rz hx hb hr hlk hK hP hD hS (by first | (simp [mayG, nI_0, nI_o, b2i, c_1, c_2, c_3, c_4, c_5, c_6, c_7, c_8]; done) | simp_all [mayG, b2i, nI_0, nI_o]) rfl dX1_mayGive_64
                · have c_8 : (lnk u x b) = true := b2i_n0 c_8
                  refine lv_iconst (v := nI 1) hx hb dX1_mayGive_59 (by decide) ?_
                  refine lv_goto (tgt := 64) hx hb dX1_mayGive_60 (by decide) ?_
                  exact lh_rz hx hb hr hlk hK hP hD hS (by first | (simp [mayG, nI_0, nI_o, b2i, c_1, c_2, c_3, c_4, c_5, c_6, c_7, c_8]; done) | simp_all [mayG, b2i, nI_0, nI_o]) rfl dX1_mayGive_64
          · have c_5 : a = b := (nI_eq (by omega) (by omega)).mp c_5
            refine lv_iconst (v := nI 0) hx hb dX1_mayGive_34 (by decide) ?_
            exact lh_rz hx hb hr hlk hK hP hD hS (by first | (simp [mayG, nI_0, nI_o, b2i, c_1, c_2, c_3, c_4, c_5]; done) | simp_all [mayG, b2i, nI_0, nI_o]) rfl dX1_mayGive_35
set_option maxRecDepth 100000 in
set_option maxHeartbeats 4000000 in
theorem kX1_split (l : Launch) (D : va_G) (cI : ClassId) (ad : Nat → Nat) (u : XS) (x : Nat) (b : Nat) (hx9 : x < 10) (hb2 : b < 10) : CI l D [(cI, .int)] yX1_split wsX1_split ({ frames := 1, cells := 0, slots := 0, locals := 21 }) [.ref (ad 0), .int (nI x), .int (nI b)] (wX cI ad u) (wX cI ad (splS u x b)) (splR u x b) := by
  refine lh_CIof (cc := cX1_split) (maxL := 5) (ret := (some .int)) (own := RX1) (by decide) rfl rfl (Nat.le_of_ble_eq_true rfl) ?_
  intro p e s m below meth c A ls hx hb hr hlk hts hown hml hK hN hA hP hD hS hl
  have fX1_19 := hts (.fieldLink RX1 19 "LostHosts" "links" "[I") (by decide +kernel)
  have fX1_13 := hts (.fieldLink RX1 13 "LostHosts" "out" "[I") (by decide +kernel)
  have fX1_48 := hts (.fieldLink RX1 48 "LostHosts" "filled" "I") (by decide +kernel)
  have hinX1 : ∀ w ∈ u_ws RX1 TX1 10, w ∈ wsX1_split := by decide +kernel
  have hl : lv_has ls 5 [(0, .ref (ad 0)), (1, .int (nI x)), (2, .int (nI b))] := hl
  refine lv_iload_n hx hb dX1_split_0 rfl (lv_at hl 1 rfl) ?_
  refine lv_iload_n hx hb dX1_split_1 rfl (lv_at hl 2 rfl) ?_
  refine lh_cSi ⟨hx, hb, hml, hown, hts⟩ (kX1_at l D _ _ x b) (va_cwS 2 hts gX1_split_X1_at rfl rfl rfl (by decide +kernel) ⟨Nat.le_of_ble_eq_true rfl, Nat.le_of_ble_eq_true rfl⟩) hK hN hP hD hS hA rfl hl.1 rfl (Nat.le_of_ble_eq_true rfl) ⟨Nat.le_of_ble_eq_true rfl, Nat.le_of_ble_eq_true rfl⟩ dX1_split_2 (fun H locs hP hD hS => ?_)
  refine lv_istore_n (lv' := [(3, .int (nI (x * 10 + b))), (0, .ref (ad 0)), (1, .int (nI x)), (2, .int (nI b))]) hx hb dX1_split_5 rfl hl (by decide) rfl (fun ls hl => ?_)
  refine lv_aload_n hx hb dX1_split_6 rfl (lv_at hl 1 rfl) ?_
  refine va_get (D := D) (ci := 1) (v := .ref (ad 4)) (C := RX1) (T := TX1) (N := 10) hx hb hts hinX1 hown hK hP 0 rfl rfl 3 (by decide) fX1_19 (fun _ h9 => h9) rfl dX1_split_7 ?_
  refine lv_iload_n hx hb dX1_split_10 rfl (lv_at hl 0 rfl) ?_
  refine lh_ild (k := (x * 10 + b)) (N := 100) hx hb hK hP 4 0 rfl rfl (by omega) (by decide) dX1_split_11 ?_
  refine W.eq (g2 := F0 m 12 ls (.int ((xLi u (x * 10 + b))) :: [])) rfl ?_
  refine lv_iconst (v := nI 1) hx hb dX1_split_12 (by decide) ?_
  refine lv_icmp_ne (tgt := 48) hx hb dX1_split_13 (by decide) (fun c_1 => ?_) (fun c_1 => ?_)
  · have c_1r := c_1
    refine lv_aload_n hx hb dX1_split_48 rfl (lv_at hl 1 rfl) ?_
    refine va_get (D := D) (ci := 1) (v := .ref (ad 4)) (C := RX1) (T := TX1) (N := 10) hx hb hts hinX1 hown hK hP 0 rfl rfl 3 (by decide) fX1_19 (fun _ h9 => h9) rfl dX1_split_49 ?_
    refine lv_iload_n hx hb dX1_split_52 rfl (lv_at hl 0 rfl) ?_
    refine lh_ild (k := (x * 10 + b)) (N := 100) hx hb hK hP 4 0 rfl rfl (by omega) (by decide) dX1_split_53 ?_
    refine W.eq (g2 := F0 m 54 ls (.int ((xLi u (x * 10 + b))) :: [])) rfl ?_
    refine lv_iconst (v := nI 2) hx hb dX1_split_54 (by decide) ?_
    refine lv_idiv hx hb dX1_split_55 (by decide) ?_
    refine lv_istore (lv' := [(4, .int (((xLi u (x * 10 + b)) / nI 2))), (3, .int (nI (x * 10 + b))), (0, .ref (ad 0)), (1, .int (nI x)), (2, .int (nI b))]) hx hb dX1_split_56 hl (by decide) rfl (fun ls hl => ?_)
    refine lv_aload_n hx hb dX1_split_58 rfl (lv_at hl 2 rfl) ?_
    refine va_get (D := D) (ci := 1) (v := .ref (ad 4)) (C := RX1) (T := TX1) (N := 10) hx hb hts hinX1 hown hK hP 0 rfl rfl 3 (by decide) fX1_19 (fun _ h9 => h9) rfl dX1_split_59 ?_
    refine lv_iload_n hx hb dX1_split_62 rfl (lv_at hl 1 rfl) ?_
    refine lv_dup2_11 hx hb dX1_split_63 rfl rfl ?_
    refine lh_ild (k := (x * 10 + b)) (N := 100) hx hb hK hP 4 0 rfl rfl (by omega) (by decide) dX1_split_64 ?_
    refine W.eq (g2 := F0 m 65 ls (.int ((xLi u (x * 10 + b))) :: [.int (nI (x * 10 + b)), .ref (ad 4)])) rfl ?_
    refine lv_iload hx hb dX1_split_65 (lv_at hl 0 rfl) ?_
    refine lv_isub hx hb dX1_split_67 ?_
    refine lh_ist (k := (x * 10 + b)) (N := 100) (f2 := upd (xLi u) (x * 10 + b) (((xLi u (x * 10 + b)) - ((xLi u (x * 10 + b)) / nI 2)))) hx hb hK hP hD hS 4 0 rfl rfl (by omega) (by decide) (rfl) dX1_split_68 (fun H locs hP hD hS => ?_)
    have hP : va_P D vwCl (wX cI ad (sLi u (upd (xLi u) (x * 10 + b) (((xLi u (x * 10 + b)) - ((xLi u (x * 10 + b)) / nI 2)))))) H := hP
    have hD : va_D A (wX cI ad (sLi u (upd (xLi u) (x * 10 + b) (((xLi u (x * 10 + b)) - ((xLi u (x * 10 + b)) / nI 2)))))) := hD
    refine lv_iload hx hb dX1_split_69 (lv_at hl 0 rfl) ?_
    exact lh_ri hx hb hr hlk hK hP hD hS (by (simp [splR, splW, pk_us, c_1])) (by first | (simp [splS, splW, pk_us, fa_upd_twice, c_1]; done) | (simp [splS, splW, pk_us, fa_upd_twice, c_1]; rfl)) dX1_split_71
  · have c_1r := c_1
    refine lv_aload_n hx hb dX1_split_16 rfl (lv_at hl 1 rfl) ?_
    refine va_get (D := D) (ci := 1) (v := .ref (ad 2)) (C := RX1) (T := TX1) (N := 10) hx hb hts hinX1 hown hK hP 0 rfl rfl 1 (by decide) fX1_13 (fun _ h9 => h9) rfl dX1_split_17 ?_
    refine lv_iload_n hx hb dX1_split_20 rfl (lv_at hl 3 rfl) ?_
    refine lv_dup2_11 hx hb dX1_split_21 rfl rfl ?_
    refine lh_ild (k := b) (N := 10) hx hb hK hP 2 0 rfl rfl (by omega) (by decide) dX1_split_22 ?_
    refine W.eq (g2 := F0 m 23 ls (.int ((xOu u b)) :: [.int (nI b), .ref (ad 2)])) rfl ?_
    refine lv_bipush (v := nI 64) hx hb dX1_split_23 (by decide) ?_
    refine lv_iadd hx hb dX1_split_25 ?_
    refine lh_ist (k := b) (N := 10) (f2 := upd (xOu u) b (((xOu u b) + nI 64))) hx hb hK hP hD hS 2 0 rfl rfl (by omega) (by decide) (rfl) dX1_split_26 (fun H locs hP hD hS => ?_)
    have hP : va_P D vwCl (wX cI ad (sOu u (upd (xOu u) b (((xOu u b) + nI 64))))) H := hP
    have hD : va_D A (wX cI ad (sOu u (upd (xOu u) b (((xOu u b) + nI 64))))) := hD
    refine lv_aload_n hx hb dX1_split_27 rfl (lv_at hl 1 rfl) ?_
    refine va_get (D := D) (ci := 1) (v := .ref (ad 4)) (C := RX1) (T := TX1) (N := 10) hx hb hts hinX1 hown hK hP 0 rfl rfl 3 (by decide) fX1_19 (fun _ h9 => h9) rfl dX1_split_28 ?_
    refine lv_iload_n hx hb dX1_split_31 rfl (lv_at hl 0 rfl) ?_
    refine lv_dup2_11 hx hb dX1_split_32 rfl rfl ?_
    refine lh_ild (k := (x * 10 + b)) (N := 100) hx hb hK hP 4 0 rfl rfl (by omega) (by decide) dX1_split_33 ?_
    refine W.eq (g2 := F0 m 34 ls (.int ((xLi u (x * 10 + b))) :: [.int (nI (x * 10 + b)), .ref (ad 4)])) rfl ?_
    refine lv_bipush (v := nI 64) hx hb dX1_split_34 (by decide) ?_
    refine lv_iadd hx hb dX1_split_36 ?_
    refine lh_ist (k := (x * 10 + b)) (N := 100) (f2 := upd (xLi u) (x * 10 + b) (((xLi u (x * 10 + b)) + nI 64))) hx hb hK hP hD hS 4 0 rfl rfl (by omega) (by decide) (rfl) dX1_split_37 (fun H locs hP hD hS => ?_)
    have hP : va_P D vwCl (wX cI ad (sLi (sOu u (upd (xOu u) b (((xOu u b) + nI 64)))) (upd (xLi u) (x * 10 + b) (((xLi u (x * 10 + b)) + nI 64))))) H := hP
    have hD : va_D A (wX cI ad (sLi (sOu u (upd (xOu u) b (((xOu u b) + nI 64)))) (upd (xLi u) (x * 10 + b) (((xLi u (x * 10 + b)) + nI 64))))) := hD
    refine lv_aload_n hx hb dX1_split_38 rfl (lv_at hl 1 rfl) ?_
    refine lv_dup hx hb dX1_split_39 rfl ?_
    refine va_get (D := D) (ci := 1) (v := .int (xF u)) (C := RX1) (T := TX1) (N := 10) hx hb hts hinX1 hown hK hP 0 rfl rfl 9 (by decide) fX1_48 (fun _ h9 => h9) rfl dX1_split_40 ?_
    refine lv_iconst (v := nI 1) hx hb dX1_split_43 (by decide) ?_
    refine lv_iadd hx hb dX1_split_44 ?_
    refine va_put (D := D) (ci := 1) (v := .int ((xF u + nI 1))) (ty := .int) (C := RX1) (T := TX1) (N := 10) hx hb hts hinX1 tyX1 tyX1_ok nmX1 hown hK hP hD hS 0 rfl rfl 9 (by decide) fX1_48 (fun _ h9 => h9) rfl (by decide +kernel) rfl rfl (Nat.le_of_ble_eq_true rfl) dX1_split_45 (fun H locs hP hD hS => ?_)
    have hP : va_P D vwCl (wX cI ad (sLi (sOu (sF u ((xF u + nI 1))) (upd (xOu u) b (((xOu u b) + nI 64)))) (upd (xLi u) (x * 10 + b) (((xLi u (x * 10 + b)) + nI 64))))) H := hP
    have hD : va_D A (wX cI ad (sLi (sOu (sF u ((xF u + nI 1))) (upd (xOu u) b (((xOu u b) + nI 64)))) (upd (xLi u) (x * 10 + b) (((xLi u (x * 10 + b)) + nI 64))))) := hD
    refine lv_aload_n hx hb dX1_split_48 rfl (lv_at hl 1 rfl) ?_
    refine va_get (D := D) (ci := 1) (v := .ref (ad 4)) (C := RX1) (T := TX1) (N := 10) hx hb hts hinX1 hown hK hP 0 rfl rfl 3 (by decide) fX1_19 (fun _ h9 => h9) rfl dX1_split_49 ?_
    refine lv_iload_n hx hb dX1_split_52 rfl (lv_at hl 0 rfl) ?_
    refine lh_ild (k := (x * 10 + b)) (N := 100) hx hb hK hP 4 0 rfl rfl (by omega) (by decide) dX1_split_53 ?_
    refine W.eq (g2 := F0 m 54 ls (.int ((upd (xLi u) (x * 10 + b) (((xLi u (x * 10 + b)) + nI 64)) (x * 10 + b))) :: [])) rfl ?_
    refine lv_iconst (v := nI 2) hx hb dX1_split_54 (by decide) ?_
    refine lv_idiv hx hb dX1_split_55 (by decide) ?_
    refine lv_istore (lv' := [(4, .int (((upd (xLi u) (x * 10 + b) (((xLi u (x * 10 + b)) + nI 64)) (x * 10 + b)) / nI 2))), (3, .int (nI (x * 10 + b))), (0, .ref (ad 0)), (1, .int (nI x)), (2, .int (nI b))]) hx hb dX1_split_56 hl (by decide) rfl (fun ls hl => ?_)
    refine lv_aload_n hx hb dX1_split_58 rfl (lv_at hl 2 rfl) ?_
    refine va_get (D := D) (ci := 1) (v := .ref (ad 4)) (C := RX1) (T := TX1) (N := 10) hx hb hts hinX1 hown hK hP 0 rfl rfl 3 (by decide) fX1_19 (fun _ h9 => h9) rfl dX1_split_59 ?_
    refine lv_iload_n hx hb dX1_split_62 rfl (lv_at hl 1 rfl) ?_
    refine lv_dup2_11 hx hb dX1_split_63 rfl rfl ?_
    refine lh_ild (k := (x * 10 + b)) (N := 100) hx hb hK hP 4 0 rfl rfl (by omega) (by decide) dX1_split_64 ?_
    refine W.eq (g2 := F0 m 65 ls (.int ((upd (xLi u) (x * 10 + b) (((xLi u (x * 10 + b)) + nI 64)) (x * 10 + b))) :: [.int (nI (x * 10 + b)), .ref (ad 4)])) rfl ?_
    refine lv_iload hx hb dX1_split_65 (lv_at hl 0 rfl) ?_
    refine lv_isub hx hb dX1_split_67 ?_
    refine lh_ist (k := (x * 10 + b)) (N := 100) (f2 := upd (upd (xLi u) (x * 10 + b) (((xLi u (x * 10 + b)) + nI 64))) (x * 10 + b) (((upd (xLi u) (x * 10 + b) (((xLi u (x * 10 + b)) + nI 64)) (x * 10 + b)) - ((upd (xLi u) (x * 10 + b) (((xLi u (x * 10 + b)) + nI 64)) (x * 10 + b)) / nI 2)))) hx hb hK hP hD hS 4 0 rfl rfl (by omega) (by decide) (rfl) dX1_split_68 (fun H locs hP hD hS => ?_)
    have hP : va_P D vwCl (wX cI ad (sLi (sOu (sF u ((xF u + nI 1))) (upd (xOu u) b (((xOu u b) + nI 64)))) (upd (upd (xLi u) (x * 10 + b) (((xLi u (x * 10 + b)) + nI 64))) (x * 10 + b) (((upd (xLi u) (x * 10 + b) (((xLi u (x * 10 + b)) + nI 64)) (x * 10 + b)) - ((upd (xLi u) (x * 10 + b) (((xLi u (x * 10 + b)) + nI 64)) (x * 10 + b)) / nI 2)))))) H := hP
    have hD : va_D A (wX cI ad (sLi (sOu (sF u ((xF u + nI 1))) (upd (xOu u) b (((xOu u b) + nI 64)))) (upd (upd (xLi u) (x * 10 + b) (((xLi u (x * 10 + b)) + nI 64))) (x * 10 + b) (((upd (xLi u) (x * 10 + b) (((xLi u (x * 10 + b)) + nI 64)) (x * 10 + b)) - ((upd (xLi u) (x * 10 + b) (((xLi u (x * 10 + b)) + nI 64)) (x * 10 + b)) / nI 2)))))) := hD
    refine lv_iload hx hb dX1_split_69 (lv_at hl 0 rfl) ?_
    exact lh_ri hx hb hr hlk hK hP hD hS (by (simp [splR, splW, pk_us, c_1])) (by first | (simp [splS, splW, pk_us, fa_upd_twice, c_1]; done) | (simp [splS, splW, pk_us, fa_upd_twice, c_1]; rfl)) dX1_split_71
set_option maxRecDepth 100000 in
set_option maxHeartbeats 4000000 in
theorem kX1_grantArrives (l : Launch) (D : va_G) (cI : ClassId) (ad : Nat → Nat) (u : XS) (b : Nat) (a : Nat) (w : Int32) (ok : okB u) (hb2 : b < 10) (ha : a < 10) (hW9 : xW u < 150) : CV l D [(cI, .int)] yX1_grantArrives wsX1_grantArrives ({ frames := 3, cells := 0, slots := 0, locals := 66 }) [.ref (ad 0), .int (nI b), .int (nI a), .int (w)] (wX cI ad u) (wX cI ad (gra u b a w)) := by
  obtain ⟨hM, hW, hHo, hAb, hLb, hRb, hDb⟩ := id ok
  refine lh_CVof (cc := cX1_grantArrives) (maxL := 5) (ret := none) (own := RX1) (by decide) rfl rfl (Nat.le_of_ble_eq_true rfl) ?_
  intro p e s m below meth c A ls hx hb hr hlk hts hown hml hK hN hA hP hD hS hl
  have fX1_9 := hts (.fieldLink RX1 9 "LostHosts" "hostOf" "[I") (by decide +kernel)
  have fX1_31 := hts (.fieldLink RX1 31 "LostHosts" "letters" "LLostHosts$Letters;") (by decide +kernel)
  have fX1_13 := hts (.fieldLink RX1 13 "LostHosts" "out" "[I") (by decide +kernel)
  have hinX1 : ∀ w ∈ u_ws RX1 TX1 10, w ∈ wsX1_grantArrives := by decide +kernel
  have hl : lv_has ls 5 [(0, .ref (ad 0)), (1, .int (nI b)), (2, .int (nI a)), (3, .int (w))] := hl
  refine lv_aload_n hx hb dX1_grantArrives_0 rfl (lv_at hl 0 rfl) ?_
  refine lv_aload_n hx hb dX1_grantArrives_1 rfl (lv_at hl 0 rfl) ?_
  refine va_get (D := D) (ci := 1) (v := .ref (ad 1)) (C := RX1) (T := TX1) (N := 10) hx hb hts hinX1 hown hK hP 0 rfl rfl 0 (by decide) fX1_9 (fun _ h9 => h9) rfl dX1_grantArrives_2 ?_
  refine lv_iload_n hx hb dX1_grantArrives_5 rfl (lv_at hl 2 rfl) ?_
  refine lh_ild (k := a) (N := 10) hx hb hK hP 1 0 rfl rfl (by omega) (by decide) dX1_grantArrives_6 ?_
  refine W.eq (g2 := F0 m 7 ls (.int (nI (xHo u a)) :: [.ref (ad 0)])) rfl ?_
  refine lh_cVi ⟨hx, hb, hml, hown, hts⟩ (kX1_isDead l D cI ad u (xHo u a) (by have h9 := hHo a; omega)) (cwV 1 hts gX1_grantArrives_X1_isDead rfl rfl rfl (by decide +kernel) ⟨Nat.le_of_ble_eq_true rfl, Nat.le_of_ble_eq_true rfl⟩) hK hN hP hD hS hA 0 1 rfl rfl rfl rfl hl.1 rfl (Nat.le_of_ble_eq_true rfl) ⟨Nat.le_of_ble_eq_true rfl, Nat.le_of_ble_eq_true rfl⟩ dX1_grantArrives_7 (fun H locs hP hD hS => ?_)
  refine lv_if_ne (tgt := 21) hx hb dX1_grantArrives_10 (by decide) (fun c_1 => ?_) (fun c_1 => ?_)
  · have c_1 : ((xD u).testBit (xHo u a)) = true := b2i_n0 c_1
    exact lh_rv hx hb hr hlk hK hP hD hS (by first | (simp [nI_0, nI_o, gra, c_1]; done) | (simp [nI_0, nI_o, gra, c_1]; rfl)) dX1_grantArrives_21
  · have c_1 : ((xD u).testBit (xHo u a)) = false := b2i_e0 c_1
    refine lv_aload_n hx hb dX1_grantArrives_13 rfl (lv_at hl 0 rfl) ?_
    refine lv_iload_n hx hb dX1_grantArrives_14 rfl (lv_at hl 1 rfl) ?_
    refine lh_cVi ⟨hx, hb, hml, hown, hts⟩ (kX1_isLive l D cI ad u b (by omega)) (cwV 1 hts gX1_grantArrives_X1_isLive rfl rfl rfl (by decide +kernel) ⟨Nat.le_of_ble_eq_true rfl, Nat.le_of_ble_eq_true rfl⟩) hK hN hP hD hS hA 0 1 rfl rfl rfl rfl hl.1 rfl (Nat.le_of_ble_eq_true rfl) ⟨Nat.le_of_ble_eq_true rfl, Nat.le_of_ble_eq_true rfl⟩ dX1_grantArrives_15 (fun H locs hP hD hS => ?_)
    refine lv_if_ne (tgt := 22) hx hb dX1_grantArrives_18 (by decide) (fun c_2 => ?_) (fun c_2 => ?_)
    · have c_2 : ((xL u).testBit b) = true := b2i_n0 c_2
      refine lv_aload_n hx hb dX1_grantArrives_22 rfl (lv_at hl 0 rfl) ?_
      refine lv_iload_n hx hb dX1_grantArrives_23 rfl (lv_at hl 2 rfl) ?_
      refine lv_iload_n hx hb dX1_grantArrives_24 rfl (lv_at hl 1 rfl) ?_
      refine lh_cVi ⟨hx, hb, hml, hown, hts⟩ (kX1_onOneHost l D cI ad u a b ok (by omega) (by omega)) (cwV 2 hts gX1_grantArrives_X1_onOneHost rfl rfl rfl (by decide +kernel) ⟨Nat.le_of_ble_eq_true rfl, Nat.le_of_ble_eq_true rfl⟩) hK hN hP hD hS hA 0 1 rfl rfl rfl rfl hl.1 rfl (Nat.le_of_ble_eq_true rfl) ⟨Nat.le_of_ble_eq_true rfl, Nat.le_of_ble_eq_true rfl⟩ dX1_grantArrives_25 (fun H locs hP hD hS => ?_)
      refine lv_istore (lv' := [(4, .int (b2i (nbr u a b))), (0, .ref (ad 0)), (1, .int (nI b)), (2, .int (nI a)), (3, .int (w))]) hx hb dX1_grantArrives_28 hl (by decide) rfl (fun ls hl => ?_)
      refine lv_iload hx hb dX1_grantArrives_30 (lv_at hl 0 rfl) ?_
      refine lv_if_eq (tgt := 45) hx hb dX1_grantArrives_32 (by decide) (fun c_3 => ?_) (fun c_3 => ?_)
      · have c_3 : (nbr u a b) = false := b2i_e0 c_3
        refine lv_aload_n hx hb dX1_grantArrives_45 rfl (lv_at hl 1 rfl) ?_
        refine lv_iload_n hx hb dX1_grantArrives_46 rfl (lv_at hl 3 rfl) ?_
        refine lh_cVi ⟨hx, hb, hml, hown, hts⟩ (kX1_isLive l D cI ad u a (by omega)) (cwV 1 hts gX1_grantArrives_X1_isLive rfl rfl rfl (by decide +kernel) ⟨Nat.le_of_ble_eq_true rfl, Nat.le_of_ble_eq_true rfl⟩) hK hN hP hD hS hA 0 1 rfl rfl rfl rfl hl.1 rfl (Nat.le_of_ble_eq_true rfl) ⟨Nat.le_of_ble_eq_true rfl, Nat.le_of_ble_eq_true rfl⟩ dX1_grantArrives_47 (fun H locs hP hD hS => ?_)
        refine lv_if_eq (tgt := 72) hx hb dX1_grantArrives_50 (by decide) (fun c_4 => ?_) (fun c_4 => ?_)
        · have c_4 : ((xL u).testBit a) = false := b2i_e0 c_4
          refine lv_iload hx hb dX1_grantArrives_72 (lv_at hl 0 rfl) ?_
          refine lv_if_ne (tgt := 86) hx hb dX1_grantArrives_74 (by decide) (fun c_5 => ?_) (fun c_5 => ?_)
          · have c_5 : (nbr u a b) = true := b2i_n0 c_5
            exact absurd (c_5.symm.trans c_3) (by decide)
          · have c_5 : (nbr u a b) = false := b2i_e0 c_5
            refine lv_aload_n hx hb dX1_grantArrives_77 rfl (lv_at hl 1 rfl) ?_
            refine va_get (D := D) (ci := 1) (v := .ref (ad 5)) (C := RX1) (T := TX1) (N := 10) hx hb hts hinX1 hown hK hP 0 rfl rfl 4 (by decide) fX1_31 (fun _ h9 => h9) rfl dX1_grantArrives_78 ?_
            refine lv_iload_n hx hb dX1_grantArrives_81 rfl (lv_at hl 2 rfl) ?_
            refine lv_iload_n hx hb dX1_grantArrives_82 rfl (lv_at hl 4 rfl) ?_
            refine lh_cVv ⟨hx, hb, hml, hown, hts⟩ (kX0_sendReturn l D cI ad u b w (by first | exact hW9 | (show xW u < 150; exact hW9))) (cwV 2 hts gX1_grantArrives_X0_sendReturn rfl rfl rfl (by decide +kernel) ⟨Nat.le_of_ble_eq_true rfl, Nat.le_of_ble_eq_true rfl⟩) hK hN hP hD hS hA 5 0 rfl rfl rfl rfl hl.1 rfl (Nat.le_of_ble_eq_true rfl) ⟨Nat.le_of_ble_eq_true rfl, Nat.le_of_ble_eq_true rfl⟩ dX1_grantArrives_83 (fun H locs hP hD hS => ?_)
            have hP : va_P D vwCl (wX cI ad (app u b 10 w)) H := hP
            have hD : va_D A (wX cI ad (app u b 10 w)) := hD
            exact lh_rv hx hb hr hlk hK hP hD hS (by first | (simp [nI_0, nI_o, gra, c_1, c_2, c_3, c_4, c_5]; done) | (simp [nI_0, nI_o, gra, c_1, c_2, c_3, c_4, c_5]; rfl)) dX1_grantArrives_86
        · have c_4 : ((xL u).testBit a) = true := b2i_n0 c_4
          refine lv_aload_n hx hb dX1_grantArrives_53 rfl (lv_at hl 1 rfl) ?_
          refine lv_iload_n hx hb dX1_grantArrives_54 rfl (lv_at hl 3 rfl) ?_
          refine lv_iload_n hx hb dX1_grantArrives_55 rfl (lv_at hl 2 rfl) ?_
          refine lv_iload hx hb dX1_grantArrives_56 (lv_at hl 0 rfl) ?_
          refine lv_if_eq (tgt := 65) hx hb dX1_grantArrives_58 (by decide) (fun c_6 => ?_) (fun c_6 => ?_)
          · have c_6 : (nbr u a b) = false := b2i_e0 c_6
            refine lv_iload_n hx hb dX1_grantArrives_65 rfl (lv_at hl 4 rfl) ?_
            refine lh_cVv ⟨hx, hb, hml, hown, hts⟩ (kX1_addLink l D cI ad u a b w (by omega) (by omega)) (cwV 3 hts gX1_grantArrives_X1_addLink rfl rfl rfl (by decide +kernel) ⟨Nat.le_of_ble_eq_true rfl, Nat.le_of_ble_eq_true rfl⟩) hK hN hP hD hS hA 0 1 rfl rfl rfl rfl hl.1 rfl (Nat.le_of_ble_eq_true rfl) ⟨Nat.le_of_ble_eq_true rfl, Nat.le_of_ble_eq_true rfl⟩ dX1_grantArrives_66 (fun H locs hP hD hS => ?_)
            have hP : va_P D vwCl (wX cI ad (adL u a b w)) H := hP
            have hD : va_D A (wX cI ad (adL u a b w)) := hD
            refine lv_goto (tgt := 86) hx hb dX1_grantArrives_69 (by decide) ?_
            exact lh_rv hx hb hr hlk hK hP hD hS (by first | (simp [nI_0, nI_o, gra, c_1, c_2, c_3, c_4, c_6]; done) | (simp [nI_0, nI_o, gra, c_1, c_2, c_3, c_4, c_6]; rfl)) dX1_grantArrives_86
          · have c_6 : (nbr u a b) = true := b2i_n0 c_6
            exact absurd (c_6.symm.trans c_3) (by decide)
      · have c_3 : (nbr u a b) = true := b2i_n0 c_3
        refine lv_aload_n hx hb dX1_grantArrives_35 rfl (lv_at hl 1 rfl) ?_
        refine va_get (D := D) (ci := 1) (v := .ref (ad 2)) (C := RX1) (T := TX1) (N := 10) hx hb hts hinX1 hown hK hP 0 rfl rfl 1 (by decide) fX1_13 (fun _ h9 => h9) rfl dX1_grantArrives_36 ?_
        refine lv_iload_n hx hb dX1_grantArrives_39 rfl (lv_at hl 2 rfl) ?_
        refine lv_dup2_11 hx hb dX1_grantArrives_40 rfl rfl ?_
        refine lh_ild (k := b) (N := 10) hx hb hK hP 2 0 rfl rfl (by omega) (by decide) dX1_grantArrives_41 ?_
        refine W.eq (g2 := F0 m 42 ls (.int ((xOu u b)) :: [.int (nI b), .ref (ad 2)])) rfl ?_
        refine lv_iload_n hx hb dX1_grantArrives_42 rfl (lv_at hl 4 rfl) ?_
        refine lv_isub hx hb dX1_grantArrives_43 ?_
        refine lh_ist (k := b) (N := 10) (f2 := upd (xOu u) b (((xOu u b) - w))) hx hb hK hP hD hS 2 0 rfl rfl (by omega) (by decide) (rfl) dX1_grantArrives_44 (fun H locs hP hD hS => ?_)
        have hP : va_P D vwCl (wX cI ad (sOu u (upd (xOu u) b (((xOu u b) - w))))) H := hP
        have hD : va_D A (wX cI ad (sOu u (upd (xOu u) b (((xOu u b) - w))))) := hD
        refine lv_aload_n hx hb dX1_grantArrives_45 rfl (lv_at hl 1 rfl) ?_
        refine lv_iload_n hx hb dX1_grantArrives_46 rfl (lv_at hl 3 rfl) ?_
        refine lh_cVi ⟨hx, hb, hml, hown, hts⟩ (kX1_isLive l D cI ad (sOu u (upd (xOu u) b (((xOu u b) - w)))) a (by omega)) (cwV 1 hts gX1_grantArrives_X1_isLive rfl rfl rfl (by decide +kernel) ⟨Nat.le_of_ble_eq_true rfl, Nat.le_of_ble_eq_true rfl⟩) hK hN hP hD hS hA 0 1 rfl rfl rfl rfl hl.1 rfl (Nat.le_of_ble_eq_true rfl) ⟨Nat.le_of_ble_eq_true rfl, Nat.le_of_ble_eq_true rfl⟩ dX1_grantArrives_47 (fun H locs hP hD hS => ?_)
        refine lv_if_eq (tgt := 72) hx hb dX1_grantArrives_50 (by decide) (fun c_7 => ?_) (fun c_7 => ?_)
        · have c_7 : ((xL (sOu u (upd (xOu u) b (((xOu u b) - w))))).testBit a) = false := b2i_e0 c_7
          refine lv_iload hx hb dX1_grantArrives_72 (lv_at hl 0 rfl) ?_
          refine lv_if_ne (tgt := 86) hx hb dX1_grantArrives_74 (by decide) (fun c_8 => ?_) (fun c_8 => ?_)
          · have c_8 : (nbr u a b) = true := b2i_n0 c_8
            exact lh_rv hx hb hr hlk hK hP hD hS (by first | (simp [nI_0, nI_o, gra, c_1, c_2, c_3, c_7, c_8]; done) | (simp [nI_0, nI_o, gra, c_1, c_2, c_3, c_7, c_8]; rfl)) dX1_grantArrives_86
          · have c_8 : (nbr u a b) = false := b2i_e0 c_8
            exact absurd (c_8.symm.trans c_3) (by decide)
        · have c_7 : ((xL (sOu u (upd (xOu u) b (((xOu u b) - w))))).testBit a) = true := b2i_n0 c_7
          refine lv_aload_n hx hb dX1_grantArrives_53 rfl (lv_at hl 1 rfl) ?_
          refine lv_iload_n hx hb dX1_grantArrives_54 rfl (lv_at hl 3 rfl) ?_
          refine lv_iload_n hx hb dX1_grantArrives_55 rfl (lv_at hl 2 rfl) ?_
          refine lv_iload hx hb dX1_grantArrives_56 (lv_at hl 0 rfl) ?_
          refine lv_if_eq (tgt := 65) hx hb dX1_grantArrives_58 (by decide) (fun c_9 => ?_) (fun c_9 => ?_)
          · have c_9 : (nbr u a b) = false := b2i_e0 c_9
            exact absurd (c_9.symm.trans c_3) (by decide)
          · have c_9 : (nbr u a b) = true := b2i_n0 c_9
            refine lv_iconst (v := nI 0) hx hb dX1_grantArrives_61 (by decide) ?_
            refine lv_goto (tgt := 66) hx hb dX1_grantArrives_62 (by decide) ?_
            refine lh_cVv ⟨hx, hb, hml, hown, hts⟩ (kX1_addLink l D cI ad (sOu u (upd (xOu u) b (((xOu u b) - w)))) a b (nI 0) (by omega) (by omega)) (cwV 3 hts gX1_grantArrives_X1_addLink rfl rfl rfl (by decide +kernel) ⟨Nat.le_of_ble_eq_true rfl, Nat.le_of_ble_eq_true rfl⟩) hK hN hP hD hS hA 0 1 rfl rfl rfl rfl hl.1 rfl (Nat.le_of_ble_eq_true rfl) ⟨Nat.le_of_ble_eq_true rfl, Nat.le_of_ble_eq_true rfl⟩ dX1_grantArrives_66 (fun H locs hP hD hS => ?_)
            have hP : va_P D vwCl (wX cI ad (adL (sOu u (upd (xOu u) b (((xOu u b) - w)))) a b (nI 0))) H := hP
            have hD : va_D A (wX cI ad (adL (sOu u (upd (xOu u) b (((xOu u b) - w)))) a b (nI 0))) := hD
            refine lv_goto (tgt := 86) hx hb dX1_grantArrives_69 (by decide) ?_
            exact lh_rv hx hb hr hlk hK hP hD hS (by first | (simp [nI_0, nI_o, gra, c_1, c_2, c_3, c_7, c_9]; done) | (simp [nI_0, nI_o, gra, c_1, c_2, c_3, c_7, c_9]; rfl)) dX1_grantArrives_86
    · have c_2 : ((xL u).testBit b) = false := b2i_e0 c_2
      exact lh_rv hx hb hr hlk hK hP hD hS (by first | (simp [nI_0, nI_o, gra, c_1, c_2]; done) | (simp [nI_0, nI_o, gra, c_1, c_2]; rfl)) dX1_grantArrives_21
set_option maxRecDepth 100000 in
set_option maxHeartbeats 4000000 in
theorem kX1_arrive (l : Launch) (D : va_G) (cI : ClassId) (ad : Nat → Nat) (u : XS) (k : Nat) (ok : okB u) (hk : k < xW u) : CI l D [(cI, .int)] yX1_arrive wsX1_arrive ({ frames := 4, cells := 0, slots := 0, locals := 90 }) [.ref (ad 0), .int (nI k)] (wX cI ad u) (wX cI ad (arr u k)) (nI (kd u k)) := by
  obtain ⟨hM, hW, hHo, hAb, hLb, hRb, hDb⟩ := id ok
  refine lh_CIof (cc := cX1_arrive) (maxL := 6) (ret := (some .int)) (own := RX1) (by decide) rfl rfl (Nat.le_of_ble_eq_true rfl) ?_
  intro p e s m below meth c A ls hx hb hr hlk hts hown hml hK hN hA hP hD hS hl
  have fX1_31 := hts (.fieldLink RX1 31 "LostHosts" "letters" "LLostHosts$Letters;") (by decide +kernel)
  have fX0_124 := va_Nw.use (A := [.ref (ad 0), .int (nI k)].toArray) rfl hN.2.2.1
  have fX0_127 := va_Nw.use (A := [.ref (ad 0), .int (nI k)].toArray) rfl hN.2.2.2
  have fX0_121 := va_Nw.use (A := [.ref (ad 0), .int (nI k)].toArray) rfl hN.2.1
  have fX1_13 := hts (.fieldLink RX1 13 "LostHosts" "out" "[I") (by decide +kernel)
  have hinX0 : ∀ w ∈ u_ws RX0 TX0 4, w ∈ wsX1_arrive := by decide +kernel
  have hinX1 : ∀ w ∈ u_ws RX1 TX1 10, w ∈ wsX1_arrive := by decide +kernel
  have hl : lv_has ls 6 [(0, .ref (ad 0)), (1, .int (nI k))] := hl
  refine lv_aload_n hx hb dX1_arrive_0 rfl (lv_at hl 0 rfl) ?_
  refine va_get (D := D) (ci := 1) (v := .ref (ad 5)) (C := RX1) (T := TX1) (N := 10) hx hb hts hinX1 hown hK hP 0 rfl rfl 4 (by decide) fX1_31 (fun _ h9 => h9) rfl dX1_arrive_1 ?_
  refine lv_iload_n hx hb dX1_arrive_4 rfl (lv_at hl 1 rfl) ?_
  refine lh_cVi ⟨hx, hb, hml, hown, hts⟩ (kX0_kind l D cI ad u k (by omega)) (cwV 1 hts gX1_arrive_X0_kind rfl rfl rfl (by decide +kernel) ⟨Nat.le_of_ble_eq_true rfl, Nat.le_of_ble_eq_true rfl⟩) hK hN hP hD hS hA 5 0 rfl rfl rfl rfl hl.1 rfl (Nat.le_of_ble_eq_true rfl) ⟨Nat.le_of_ble_eq_true rfl, Nat.le_of_ble_eq_true rfl⟩ dX1_arrive_5 (fun H locs hP hD hS => ?_)
  refine lv_istore_n (lv' := [(2, .int (nI (kd u k))), (0, .ref (ad 0)), (1, .int (nI k))]) hx hb dX1_arrive_8 rfl hl (by decide) rfl (fun ls hl => ?_)
  refine lv_aload_n hx hb dX1_arrive_9 rfl (lv_at hl 1 rfl) ?_
  refine va_get (D := D) (ci := 1) (v := .ref (ad 5)) (C := RX1) (T := TX1) (N := 10) hx hb hts hinX1 hown hK hP 0 rfl rfl 4 (by decide) fX1_31 (fun _ h9 => h9) rfl dX1_arrive_10 ?_
  refine va_getN (D := D) (ci := 0) (v := .ref (ad 6)) (C := RX0) (T := TX0) (N := 4) hx hb hts hinX0 hown hK hP 5 rfl rfl 0 (by decide) fX0_124 (fun _ h9 => h9) rfl dX1_arrive_13 ?_
  refine lv_iload_n hx hb dX1_arrive_16 rfl (lv_at hl 2 rfl) ?_
  refine lh_ild (k := k) (N := 150) hx hb hK hP 6 0 rfl rfl (by omega) (by decide) dX1_arrive_17 ?_
  refine W.eq (g2 := F0 m 18 ls (.int (nI (xAb u k)) :: [])) rfl ?_
  refine lv_istore_n (lv' := [(3, .int (nI (xAb u k))), (2, .int (nI (kd u k))), (0, .ref (ad 0)), (1, .int (nI k))]) hx hb dX1_arrive_18 rfl hl (by decide) rfl (fun ls hl => ?_)
  refine lv_aload_n hx hb dX1_arrive_19 rfl (lv_at hl 2 rfl) ?_
  refine va_get (D := D) (ci := 1) (v := .ref (ad 5)) (C := RX1) (T := TX1) (N := 10) hx hb hts hinX1 hown hK hP 0 rfl rfl 4 (by decide) fX1_31 (fun _ h9 => h9) rfl dX1_arrive_20 ?_
  refine va_getN (D := D) (ci := 0) (v := .ref (ad 7)) (C := RX0) (T := TX0) (N := 4) hx hb hts hinX0 hown hK hP 5 rfl rfl 1 (by decide) fX0_127 (fun _ h9 => h9) rfl dX1_arrive_23 ?_
  refine lv_iload_n hx hb dX1_arrive_26 rfl (lv_at hl 3 rfl) ?_
  refine lh_ild (k := k) (N := 150) hx hb hK hP 7 0 rfl rfl (by omega) (by decide) dX1_arrive_27 ?_
  refine W.eq (g2 := F0 m 28 ls (.int (rv (xRc u k)) :: [])) rfl ?_
  refine lv_istore (lv' := [(4, .int (rv (xRc u k))), (3, .int (nI (xAb u k))), (2, .int (nI (kd u k))), (0, .ref (ad 0)), (1, .int (nI k))]) hx hb dX1_arrive_28 hl (by decide) rfl (fun ls hl => ?_)
  refine lv_aload_n hx hb dX1_arrive_30 rfl (lv_at hl 3 rfl) ?_
  refine va_get (D := D) (ci := 1) (v := .ref (ad 5)) (C := RX1) (T := TX1) (N := 10) hx hb hts hinX1 hown hK hP 0 rfl rfl 4 (by decide) fX1_31 (fun _ h9 => h9) rfl dX1_arrive_31 ?_
  refine va_getN (D := D) (ci := 0) (v := .ref (ad 8)) (C := RX0) (T := TX0) (N := 4) hx hb hts hinX0 hown hK hP 5 rfl rfl 2 (by decide) fX0_121 (fun _ h9 => h9) rfl dX1_arrive_34 ?_
  refine lv_iload_n hx hb dX1_arrive_37 rfl (lv_at hl 4 rfl) ?_
  refine lh_ild (k := k) (N := 150) hx hb hK hP 8 0 rfl rfl (by omega) (by decide) dX1_arrive_38 ?_
  refine W.eq (g2 := F0 m 39 ls (.int ((xLo u k)) :: [])) rfl ?_
  refine lv_istore (lv' := [(5, .int ((xLo u k))), (4, .int (rv (xRc u k))), (3, .int (nI (xAb u k))), (2, .int (nI (kd u k))), (0, .ref (ad 0)), (1, .int (nI k))]) hx hb dX1_arrive_39 hl (by decide) rfl (fun ls hl => ?_)
  refine lv_aload_n hx hb dX1_arrive_41 rfl (lv_at hl 4 rfl) ?_
  refine va_get (D := D) (ci := 1) (v := .ref (ad 5)) (C := RX1) (T := TX1) (N := 10) hx hb hts hinX1 hown hK hP 0 rfl rfl 4 (by decide) fX1_31 (fun _ h9 => h9) rfl dX1_arrive_42 ?_
  refine lv_iload_n hx hb dX1_arrive_45 rfl (lv_at hl 5 rfl) ?_
  refine lh_cVv ⟨hx, hb, hml, hown, hts⟩ (kX0_takeAway l D cI ad u k (by omega) (by omega)) (cwV 1 hts gX1_arrive_X0_takeAway rfl rfl rfl (by decide +kernel) ⟨Nat.le_of_ble_eq_true rfl, Nat.le_of_ble_eq_true rfl⟩) hK hN hP hD hS hA 5 0 rfl rfl rfl rfl hl.1 rfl (Nat.le_of_ble_eq_true rfl) ⟨Nat.le_of_ble_eq_true rfl, Nat.le_of_ble_eq_true rfl⟩ dX1_arrive_46 (fun H locs hP hD hS => ?_)
  have hP : va_P D vwCl (wX cI ad (tak u k)) H := hP
  have hD : va_D A (wX cI ad (tak u k)) := hD
  refine lv_iload_n hx hb dX1_arrive_49 rfl (lv_at hl 3 rfl) ?_
  refine lv_if_ne (tgt := 65) hx hb dX1_arrive_50 (by decide) (fun c_1 => ?_) (fun c_1 => ?_)
  · have c_1 : ¬ (kd u k) = 0 := lh_nz c_1
    have c_1 := kd_1 c_1
    refine lv_aload_n hx hb dX1_arrive_65 rfl (lv_at hl 4 rfl) ?_
    refine lv_iload_n hx hb dX1_arrive_66 rfl (lv_at hl 2 rfl) ?_
    refine lh_cVi ⟨hx, hb, hml, hown, hts⟩ (kX1_isLive l D cI ad (tak u k) (xAb u k) (by have h9 := hAb k; omega)) (cwV 1 hts gX1_arrive_X1_isLive rfl rfl rfl (by decide +kernel) ⟨Nat.le_of_ble_eq_true rfl, Nat.le_of_ble_eq_true rfl⟩) hK hN hP hD hS hA 0 1 rfl rfl rfl rfl hl.1 rfl (Nat.le_of_ble_eq_true rfl) ⟨Nat.le_of_ble_eq_true rfl, Nat.le_of_ble_eq_true rfl⟩ dX1_arrive_67 (fun H locs hP hD hS => ?_)
    refine lv_if_eq (tgt := 84) hx hb dX1_arrive_70 (by decide) (fun c_2 => ?_) (fun c_2 => ?_)
    · have c_2 : ((xL (tak u k)).testBit (xAb u k)) = false := b2i_e0 c_2
      have c_2 : (xL u).testBit (xAb u k) = false := c_2
      refine lv_iload_n hx hb dX1_arrive_84 rfl (lv_at hl 3 rfl) ?_
      exact lh_ri hx hb hr hlk hK hP hD hS rfl (by first | (simp [nI_0, nI_o, arr, c_1, c_2]; done) | (simp [nI_0, nI_o, arr, c_1, c_2]; rfl)) dX1_arrive_85
    · have c_2 : ((xL (tak u k)).testBit (xAb u k)) = true := b2i_n0 c_2
      have c_2 : (xL u).testBit (xAb u k) = true := c_2
      refine lv_aload_n hx hb dX1_arrive_73 rfl (lv_at hl 4 rfl) ?_
      refine va_get (D := D) (ci := 1) (v := .ref (ad 2)) (C := RX1) (T := TX1) (N := 10) hx hb hts hinX1 hown hK hP 0 rfl rfl 1 (by decide) fX1_13 (fun _ h9 => h9) rfl dX1_arrive_74 ?_
      refine lv_iload_n hx hb dX1_arrive_77 rfl (lv_at hl 2 rfl) ?_
      refine lv_dup2_11 hx hb dX1_arrive_78 rfl rfl ?_
      refine lh_ild (k := xAb u k) (N := 10) hx hb hK hP 2 0 rfl rfl (by have h9 := hAb k; omega) (by decide) dX1_arrive_79 ?_
      refine W.eq (g2 := F0 m 80 ls (.int ((xOu (tak u k) (xAb u k))) :: [.int (nI (xAb u k)), .ref (ad 2)])) rfl ?_
      refine lv_iload hx hb dX1_arrive_80 (lv_at hl 0 rfl) ?_
      refine lv_isub hx hb dX1_arrive_82 ?_
      refine lh_ist (k := xAb u k) (N := 10) (f2 := upd (xOu (tak u k)) (xAb u k) (((xOu (tak u k) (xAb u k)) - (xLo u k)))) hx hb hK hP hD hS 2 0 rfl rfl (by have h9 := hAb k; omega) (by decide) (rfl) dX1_arrive_83 (fun H locs hP hD hS => ?_)
      have hP : va_P D vwCl (wX cI ad (sOu (tak u k) (upd (xOu (tak u k)) (xAb u k) (((xOu (tak u k) (xAb u k)) - (xLo u k)))))) H := hP
      have hD : va_D A (wX cI ad (sOu (tak u k) (upd (xOu (tak u k)) (xAb u k) (((xOu (tak u k) (xAb u k)) - (xLo u k)))))) := hD
      refine lv_iload_n hx hb dX1_arrive_84 rfl (lv_at hl 3 rfl) ?_
      exact lh_ri hx hb hr hlk hK hP hD hS rfl (by first | (simp [nI_0, nI_o, arr, c_1, c_2]; done) | (simp [nI_0, nI_o, arr, c_1, c_2]; rfl)) dX1_arrive_85
  · have c_1 : (kd u k) = 0 := lh_z (by exact kd_lt u k) c_1
    have c_1 := kd_0 c_1
    refine lv_aload_n hx hb dX1_arrive_53 rfl (lv_at hl 4 rfl) ?_
    refine lv_iload_n hx hb dX1_arrive_54 rfl (lv_at hl 2 rfl) ?_
    refine lv_iload hx hb dX1_arrive_55 (lv_at hl 1 rfl) ?_
    refine lh_top (y := nI (xRc u k)) (rv_lt (by omega)) ?_
    refine lv_iload hx hb dX1_arrive_57 (lv_at hl 0 rfl) ?_
    refine lh_cVv ⟨hx, hb, hml, hown, hts⟩ (kX1_grantArrives l D cI ad (tak u k) (xAb u k) (xRc u k) (xLo u k) (okB_tak ok k) (by exact hAb k) (by omega) (by show xW u - 1 < 150; omega)) (cwV 3 hts gX1_arrive_X1_grantArrives rfl rfl rfl (by decide +kernel) ⟨Nat.le_of_ble_eq_true rfl, Nat.le_of_ble_eq_true rfl⟩) hK hN hP hD hS hA 0 1 rfl rfl rfl rfl hl.1 rfl (Nat.le_of_ble_eq_true rfl) ⟨Nat.le_of_ble_eq_true rfl, Nat.le_of_ble_eq_true rfl⟩ dX1_arrive_59 (fun H locs hP hD hS => ?_)
    have hP : va_P D vwCl (wX cI ad (gra (tak u k) (xAb u k) (xRc u k) (xLo u k))) H := hP
    have hD : va_D A (wX cI ad (gra (tak u k) (xAb u k) (xRc u k) (xLo u k))) := hD
    refine lv_goto (tgt := 84) hx hb dX1_arrive_62 (by decide) ?_
    refine lv_iload_n hx hb dX1_arrive_84 rfl (lv_at hl 3 rfl) ?_
    exact lh_ri hx hb hr hlk hK hP hD hS rfl (by first | (simp [nI_0, nI_o, arr, c_1]; done) | (simp [nI_0, nI_o, arr, c_1]; rfl)) dX1_arrive_85
set_option maxRecDepth 100000 in
set_option maxHeartbeats 4000000 in
theorem kX1_deliverAll (l : Launch) (D : va_G) (cI : ClassId) (ad : Nat → Nat) (u : XS) (ok : okB u) : CV l D [(cI, .int)] yX1_deliverAll wsX1_deliverAll ({ frames := 5, cells := 0, slots := 0, locals := 115 }) [.ref (ad 0)] (wX cI ad u) (wX cI ad (dlv u)) := by
  refine lh_CVof (cc := cX1_deliverAll) (maxL := 2) (ret := none) (own := RX1) (by decide) rfl rfl (Nat.le_of_ble_eq_true rfl) ?_
  intro p e s m below meth c A ls hx hb hr hlk hts hown hml hK hN hA hP hD hS hl
  have fX1_31 := hts (.fieldLink RX1 31 "LostHosts" "letters" "LLostHosts$Letters;") (by decide +kernel)
  have fX0_86 := va_Nw.use (A := [.ref (ad 0)].toArray) rfl hN.1
  have hinX0 : ∀ w ∈ u_ws RX0 TX0 4, w ∈ wsX1_deliverAll := by decide +kernel
  have hinX1 : ∀ w ∈ u_ws RX1 TX1 10, w ∈ wsX1_deliverAll := by decide +kernel
  have hl : lv_has ls 2 [(0, .ref (ad 0))] := hl
  refine lv_iconst (v := nI 0) hx hb dX1_deliverAll_0 (by decide) ?_
  refine lv_istore_n (lv' := [(1, .int (nI 0)), (0, .ref (ad 0))]) hx hb dX1_deliverAll_1 rfl hl (by decide) rfl (fun ls hl => ?_)
  have L2 : ∀ (n : Nat) (n1 : Nat) (t : XS), 300 - n1 < n → (n1 ≤ 300) → (t = rep dst n1 u) → (okB t) → ∀ (H : Heap) (locs : List Loc), va_P D vwCl (wX cI ad t) H → va_D A (wX cI ad t) → va_S A s.heap H locs → ∀ (ls : Array Slot), lv_has ls 2 [(1, .int (nI n1)), (0, .ref (ad 0))] → W p l e ({ frames := 5, cells := 0, slots := 0, locals := 115 }) s m [.ref (ad 0)].toArray below meth c H locs 0 0 (QV below D [(cI, .int)] A (wX cI ad (dlv u)) [.ref (ad 0)].toArray s) (F0 m 2 ls []) := by
    intro n
    induction n with
    | zero => intro n1 t hmu; exact absurd hmu (Nat.not_lt_zero _)
    | succ n ih2 =>
      intro n1 t hmu2 hn1 ht hok H locs hP hD hS ls hl
      have hW9 := hok.2.1
      refine lv_iload_n hx hb dX1_deliverAll_2 rfl (lv_at hl 0 rfl) ?_
      refine lv_sipush (v := nI 300) hx hb dX1_deliverAll_3 (by decide) ?_
      refine lv_icmp_ge (tgt := 31) hx hb dX1_deliverAll_6 (by decide) (fun c_1 => ?_) (fun c_1 => ?_)
      · have c_1 : 300 ≤ n1 := (nI_leI (by omega) (by omega)).mp c_1
        have c_1n : ¬ n1 < 300 := by omega
        exact lh_rv hx hb hr hlk hK hP hD hS (by rw [ht]; first | (rw [show n1 = 300 by omega]; rfl) | exact congrArg (wX cI ad) (dst_end (by rw [← ht]; omega) 300 (by omega)).symm) dX1_deliverAll_31
      · have c_1 : n1 < 300 := Nat.lt_of_not_le (fun h => c_1 ((nI_leI (by omega) (by omega)).mpr h))
        refine lv_aload_n hx hb dX1_deliverAll_9 rfl (lv_at hl 1 rfl) ?_
        refine va_get (D := D) (ci := 1) (v := .ref (ad 5)) (C := RX1) (T := TX1) (N := 10) hx hb hts hinX1 hown hK hP 0 rfl rfl 4 (by decide) fX1_31 (fun _ h9 => h9) rfl dX1_deliverAll_10 ?_
        refine va_getN (D := D) (ci := 0) (v := .int (nI (xW t))) (C := RX0) (T := TX0) (N := 4) hx hb hts hinX0 hown hK hP 5 rfl rfl 3 (by decide) fX0_86 (fun _ h9 => h9) rfl dX1_deliverAll_13 ?_
        refine lv_if_le (tgt := 31) hx hb dX1_deliverAll_16 (by decide) (fun c_2 => ?_) (fun c_2 => ?_)
        · have c_2 : xW t = 0 := lh_le0 (by omega) c_2
          exact lh_rv hx hb hr hlk hK hP hD hS (by rw [ht]; first | (rw [show n1 = 300 by omega]; rfl) | exact congrArg (wX cI ad) (dst_end (by rw [← ht]; omega) 300 (by omega)).symm) dX1_deliverAll_31
        · have c_2 : 0 < xW t := lh_gt0 (by omega) c_2
          refine lv_aload_n hx hb dX1_deliverAll_19 rfl (lv_at hl 1 rfl) ?_
          refine lv_iconst (v := nI 0) hx hb dX1_deliverAll_20 (by decide) ?_
          refine lh_cVi ⟨hx, hb, hml, hown, hts⟩ (kX1_arrive l D cI ad t 0 hok (by omega)) (cwV 1 hts gX1_deliverAll_X1_arrive rfl rfl rfl (by decide +kernel) ⟨Nat.le_of_ble_eq_true rfl, Nat.le_of_ble_eq_true rfl⟩) hK hN hP hD hS hA 0 1 rfl rfl rfl rfl hl.1 rfl (Nat.le_of_ble_eq_true rfl) ⟨Nat.le_of_ble_eq_true rfl, Nat.le_of_ble_eq_true rfl⟩ dX1_deliverAll_21 (fun H locs hP hD hS => ?_)
          have hP : va_P D vwCl (wX cI ad (arr t 0)) H := hP
          have hD : va_D A (wX cI ad (arr t 0)) := hD
          refine lv_pop hx hb dX1_deliverAll_24 rfl ?_
          refine lv_iinc (v := nI (n1 + 1)) (lv' := [(1, .int (nI (n1 + 1))), (0, .ref (ad 0))]) hx hb dX1_deliverAll_25 hl (k := 0) rfl (lh_inc _) (by decide) rfl (fun ls hl => ?_)
          refine lv_goto (tgt := 2) hx hb dX1_deliverAll_28 (by decide) ?_
          exact ih2 (n1 + 1) (arr t 0) (by omega) (by omega) (by subst ht; simp [rep, dst]; omega) (by exact okB_arr hok (by omega)) _ _ hP hD hS ls (lv_sub hl [0, 1] rfl)
  exact L2 _ 0 u (Nat.lt_succ_self _) (by omega) (by rfl) (by exact ok) _ _ hP hD hS ls (lv_sub hl [0, 1] rfl)
set_option maxRecDepth 100000 in
set_option maxHeartbeats 4000000 in
theorem kX1_heldBy (l : Launch) (D : va_G) (cI : ClassId) (ad : Nat → Nat) (u : XS) (x : Nat) (ok : okB u) (hx9 : x < 1024) : CI l D [(cI, .int)] yX1_heldBy wsX1_heldBy ({ frames := 2, cells := 0, slots := 0, locals := 41 }) [.ref (ad 0), .int (nI x)] (wX cI ad u) (wX cI ad u) (nI (hel u x)) := by
  obtain ⟨hM, hW, hHo, hAb, hLb, hRb, hDb⟩ := id ok
  refine lh_CIof (cc := cX1_heldBy) (maxL := 3) (ret := (some .int)) (own := RX1) (by decide) rfl rfl (Nat.le_of_ble_eq_true rfl) ?_
  intro p e s m below meth c A ls hx hb hr hlk hts hown hml hK hN hA hP hD hS hl
  have fX1_42 := hts (.fieldLink RX1 42 "LostHosts" "roots" "I") (by decide +kernel)
  have fX1_31 := hts (.fieldLink RX1 31 "LostHosts" "letters" "LLostHosts$Letters;") (by decide +kernel)
  have fX0_86 := va_Nw.use (A := [.ref (ad 0), .int (nI x)].toArray) rfl hN.1
  have fX0_124 := va_Nw.use (A := [.ref (ad 0), .int (nI x)].toArray) rfl hN.2.2.1
  have hinX0 : ∀ w ∈ u_ws RX0 TX0 4, w ∈ wsX1_heldBy := by decide +kernel
  have hinX1 : ∀ w ∈ u_ws RX1 TX1 10, w ∈ wsX1_heldBy := by decide +kernel
  have hl : lv_has ls 3 [(0, .ref (ad 0)), (1, .int (nI x))] := hl
  refine lv_iload_n hx hb dX1_heldBy_0 rfl (lv_at hl 1 rfl) ?_
  refine lv_aload_n hx hb dX1_heldBy_1 rfl (lv_at hl 0 rfl) ?_
  refine va_get (D := D) (ci := 1) (v := .int (nI (xR u))) (C := RX1) (T := TX1) (N := 10) hx hb hts hinX1 hown hK hP 0 rfl rfl 7 (by decide) fX1_42 (fun _ h9 => h9) rfl dX1_heldBy_2 ?_
  refine lv_iand hx hb dX1_heldBy_5 ?_
  refine lh_top (y := nI (x &&& xR u)) (fa_and _ _) ?_
  refine lv_if_eq (tgt := 11) hx hb dX1_heldBy_6 (by decide) (fun c_1 => ?_) (fun c_1 => ?_)
  · have c_1 : (x &&& xR u) = 0 := lh_z (by have h9 := and_lt (b := xR u) hx9; omega) c_1
    refine lv_iconst (v := nI 0) hx hb dX1_heldBy_11 (by decide) ?_
    refine lv_istore_n (lv' := [(2, .int (nI 0)), (0, .ref (ad 0)), (1, .int (nI x))]) hx hb dX1_heldBy_12 rfl hl (by decide) rfl (fun ls hl => ?_)
    have L13 : ∀ (n : Nat) (k : Nat), xW u - k < n → (k ≤ xW u) → (anb (fun k => decide (xRc u k < 10) && x.testBit (xAb u k)) k = false) → ∀ (H : Heap) (locs : List Loc), va_P D vwCl (wX cI ad u) H → va_D A (wX cI ad u) → va_S A s.heap H locs → ∀ (ls : Array Slot), lv_has ls 3 [(2, .int (nI k)), (0, .ref (ad 0)), (1, .int (nI x))] → W p l e ({ frames := 2, cells := 0, slots := 0, locals := 41 }) s m [.ref (ad 0), .int (nI x)].toArray below meth c H locs 0 0 (QI below D [(cI, .int)] A (wX cI ad u) (nI (hel u x)) [.ref (ad 0), .int (nI x)].toArray s) (F0 m 13 ls []) := by
      intro n
      induction n with
      | zero => intro k hmu; exact absurd hmu (Nat.not_lt_zero _)
      | succ n ih13 =>
        intro k hmu13 hk hanb H locs hP hD hS ls hl
        refine lv_iload_n hx hb dX1_heldBy_13 rfl (lv_at hl 0 rfl) ?_
        refine lv_aload_n hx hb dX1_heldBy_14 rfl (lv_at hl 1 rfl) ?_
        refine va_get (D := D) (ci := 1) (v := .ref (ad 5)) (C := RX1) (T := TX1) (N := 10) hx hb hts hinX1 hown hK hP 0 rfl rfl 4 (by decide) fX1_31 (fun _ h9 => h9) rfl dX1_heldBy_15 ?_
        refine va_getN (D := D) (ci := 0) (v := .int (nI (xW u))) (C := RX0) (T := TX0) (N := 4) hx hb hts hinX0 hown hK hP 5 rfl rfl 3 (by decide) fX0_86 (fun _ h9 => h9) rfl dX1_heldBy_18 ?_
        refine lv_icmp_ge (tgt := 59) hx hb dX1_heldBy_21 (by decide) (fun c_2 => ?_) (fun c_2 => ?_)
        · have c_2 : xW u ≤ k := (nI_leI (by omega) (by omega)).mp c_2
          have c_2n : ¬ k < xW u := by omega
          refine lv_iconst (v := nI 0) hx hb dX1_heldBy_59 (by decide) ?_
          exact lh_ri hx hb hr hlk hK hP hD hS (by unfold hel; rw [if_pos (by assumption), ← show k = xW u by omega, hanb]; rfl) rfl dX1_heldBy_60
        · have c_2 : k < xW u := Nat.lt_of_not_le (fun h => c_2 ((nI_leI (by omega) (by omega)).mpr h))
          refine lv_aload_n hx hb dX1_heldBy_24 rfl (lv_at hl 1 rfl) ?_
          refine va_get (D := D) (ci := 1) (v := .ref (ad 5)) (C := RX1) (T := TX1) (N := 10) hx hb hts hinX1 hown hK hP 0 rfl rfl 4 (by decide) fX1_31 (fun _ h9 => h9) rfl dX1_heldBy_25 ?_
          refine lv_iload_n hx hb dX1_heldBy_28 rfl (lv_at hl 0 rfl) ?_
          refine lh_cVi ⟨hx, hb, hml, hown, hts⟩ (kX0_kind l D cI ad u k (by omega)) (cwV 1 hts gX1_heldBy_X0_kind rfl rfl rfl (by decide +kernel) ⟨Nat.le_of_ble_eq_true rfl, Nat.le_of_ble_eq_true rfl⟩) hK hN hP hD hS hA 5 0 rfl rfl rfl rfl hl.1 rfl (Nat.le_of_ble_eq_true rfl) ⟨Nat.le_of_ble_eq_true rfl, Nat.le_of_ble_eq_true rfl⟩ dX1_heldBy_29 (fun H locs hP hD hS => ?_)
          refine lv_if_ne (tgt := 53) hx hb dX1_heldBy_32 (by decide) (fun c_3 => ?_) (fun c_3 => ?_)
          · have c_3 : ¬ (kd u k) = 0 := lh_nz c_3
            have c_3 := kd_1 c_3
            refine lv_iinc (v := nI (k + 1)) (lv' := [(2, .int (nI (k + 1))), (0, .ref (ad 0)), (1, .int (nI x))]) hx hb dX1_heldBy_53 hl (k := 0) rfl (lh_inc _) (by decide) rfl (fun ls hl => ?_)
            refine lv_goto (tgt := 13) hx hb dX1_heldBy_56 (by decide) ?_
            exact ih13 (k + 1) (by omega) (by omega) (by exact anb_f hanb (by simp [c_1, c_2, c_3])) _ _ hP hD hS ls (lv_sub hl [0, 1, 2] rfl)
          · have c_3 : (kd u k) = 0 := lh_z (by exact kd_lt u k) c_3
            have c_3 := kd_0 c_3
            refine lv_iload_n hx hb dX1_heldBy_35 rfl (lv_at hl 2 rfl) ?_
            refine lv_aload_n hx hb dX1_heldBy_36 rfl (lv_at hl 1 rfl) ?_
            refine va_get (D := D) (ci := 1) (v := .ref (ad 5)) (C := RX1) (T := TX1) (N := 10) hx hb hts hinX1 hown hK hP 0 rfl rfl 4 (by decide) fX1_31 (fun _ h9 => h9) rfl dX1_heldBy_37 ?_
            refine va_getN (D := D) (ci := 0) (v := .ref (ad 6)) (C := RX0) (T := TX0) (N := 4) hx hb hts hinX0 hown hK hP 5 rfl rfl 0 (by decide) fX0_124 (fun _ h9 => h9) rfl dX1_heldBy_40 ?_
            refine lv_iload_n hx hb dX1_heldBy_43 rfl (lv_at hl 0 rfl) ?_
            refine lh_ild (k := k) (N := 150) hx hb hK hP 6 0 rfl rfl (by omega) (by decide) dX1_heldBy_44 ?_
            refine W.eq (g2 := F0 m 45 ls (.int (nI (xAb u k)) :: [.int (nI x)])) rfl ?_
            refine lh_cSi ⟨hx, hb, hml, hown, hts⟩ (kX1_isIn l D _ _ x (xAb u k) (by have h9 := hAb k; omega)) (va_cwS 2 hts gX1_heldBy_X1_isIn rfl rfl rfl (by decide +kernel) ⟨Nat.le_of_ble_eq_true rfl, Nat.le_of_ble_eq_true rfl⟩) hK hN hP hD hS hA rfl hl.1 rfl (Nat.le_of_ble_eq_true rfl) ⟨Nat.le_of_ble_eq_true rfl, Nat.le_of_ble_eq_true rfl⟩ dX1_heldBy_45 (fun H locs hP hD hS => ?_)
            refine lv_if_eq (tgt := 53) hx hb dX1_heldBy_48 (by decide) (fun c_4 => ?_) (fun c_4 => ?_)
            · have c_4 : (x.testBit (xAb u k)) = false := b2i_e0 c_4
              refine lv_iinc (v := nI (k + 1)) (lv' := [(2, .int (nI (k + 1))), (0, .ref (ad 0)), (1, .int (nI x))]) hx hb dX1_heldBy_53 hl (k := 0) rfl (lh_inc _) (by decide) rfl (fun ls hl => ?_)
              refine lv_goto (tgt := 13) hx hb dX1_heldBy_56 (by decide) ?_
              exact ih13 (k + 1) (by omega) (by omega) (by exact anb_f hanb (by simp [c_1, c_2, c_3, c_4])) _ _ hP hD hS ls (lv_sub hl [0, 1, 2] rfl)
            · have c_4 : (x.testBit (xAb u k)) = true := b2i_n0 c_4
              refine lv_iconst (v := nI 2) hx hb dX1_heldBy_51 (by decide) ?_
              exact lh_ri hx hb hr hlk hK hP hD hS (by unfold hel; rw [if_pos (by assumption), if_pos (anb_of (k := k) (by omega) (by simp [c_1, c_2, c_3, c_4]))]) rfl dX1_heldBy_52
    exact L13 _ 0 (Nat.lt_succ_self _) (by omega) (by rfl) _ _ hP hD hS ls (lv_sub hl [0, 1, 2] rfl)
  · have c_1 : ¬ (x &&& xR u) = 0 := lh_nz c_1
    refine lv_iconst (v := nI 1) hx hb dX1_heldBy_9 (by decide) ?_
    exact lh_ri hx hb hr hlk hK hP hD hS (by first | (simp [nI_0, nI_o, hel, c_1]; done) | (simp [nI_0, nI_o, hel, c_1]; rfl)) rfl dX1_heldBy_10
set_option maxRecDepth 100000 in
set_option maxHeartbeats 4000000 in
theorem kX1_backOf (l : Launch) (D : va_G) (cI : ClassId) (ad : Nat → Nat) (u : XS) (b : Nat) (ok : okB u) (hb2 : b < 10) : CI l D [(cI, .int)] yX1_backOf wsX1_backOf ({ frames := 3, cells := 0, slots := 0, locals := 66 }) [.ref (ad 0), .int (nI b)] (wX cI ad u) (wX cI ad u) (nI (clo (backR u) (2 ^ b))) := by
  obtain ⟨hM, hW, hHo, hAb, hLb, hRb, hDb⟩ := id ok
  refine lh_CIof (cc := cX1_backOf) (maxL := 5) (ret := (some .int)) (own := RX1) (by decide) rfl rfl (Nat.le_of_ble_eq_true rfl) ?_
  intro p e s m below meth c A ls hx hb hr hlk hts hown hml hK hN hA hP hD hS hl
  have fX1_35 := hts (.fieldLink RX1 35 "LostHosts" "made" "I") (by decide +kernel)
  have hinX1 : ∀ w ∈ u_ws RX1 TX1 10, w ∈ wsX1_backOf := by decide +kernel
  have hl : lv_has ls 5 [(0, .ref (ad 0)), (1, .int (nI b))] := hl
  refine lv_iload_n hx hb dX1_backOf_0 rfl (lv_at hl 1 rfl) ?_
  refine lh_cSi ⟨hx, hb, hml, hown, hts⟩ (kX1_bit l D _ _ b (by omega)) (va_cwS 1 hts gX1_backOf_X1_bit rfl rfl rfl (by decide +kernel) ⟨Nat.le_of_ble_eq_true rfl, Nat.le_of_ble_eq_true rfl⟩) hK hN hP hD hS hA rfl hl.1 rfl (Nat.le_of_ble_eq_true rfl) ⟨Nat.le_of_ble_eq_true rfl, Nat.le_of_ble_eq_true rfl⟩ dX1_backOf_1 (fun H locs hP hD hS => ?_)
  refine lv_istore_n (lv' := [(2, .int (nI (2 ^ b))), (0, .ref (ad 0)), (1, .int (nI b))]) hx hb dX1_backOf_4 rfl hl (by decide) rfl (fun ls hl => ?_)
  refine lv_iconst (v := nI 0) hx hb dX1_backOf_5 (by decide) ?_
  refine lv_istore_n (lv' := [(3, .int (nI 0)), (2, .int (nI (2 ^ b))), (0, .ref (ad 0)), (1, .int (nI b))]) hx hb dX1_backOf_6 rfl hl (by decide) rfl (fun ls hl => ?_)
  have L7 : ∀ (n : Nat) (r : Nat) (acc : Nat), 10 - r < n → (r ≤ 10) → (acc = rep (fol (bstep u) (xM u)) r (2 ^ b)) → ∀ (H : Heap) (locs : List Loc), va_P D vwCl (wX cI ad u) H → va_D A (wX cI ad u) → va_S A s.heap H locs → ∀ (ls : Array Slot), lv_has ls 5 [(3, .int (nI r)), (2, .int (nI acc)), (0, .ref (ad 0)), (1, .int (nI b))] → W p l e ({ frames := 3, cells := 0, slots := 0, locals := 66 }) s m [.ref (ad 0), .int (nI b)].toArray below meth c H locs 0 0 (QI below D [(cI, .int)] A (wX cI ad u) (nI (clo (backR u) (2 ^ b))) [.ref (ad 0), .int (nI b)].toArray s) (F0 m 7 ls []) := by
    intro n
    induction n with
    | zero => intro r acc hmu; exact absurd hmu (Nat.not_lt_zero _)
    | succ n ih7 =>
      intro r acc hmu7 hr9 hacc H locs hP hD hS ls hl
      refine lv_iload_n hx hb dX1_backOf_7 rfl (lv_at hl 0 rfl) ?_
      refine lv_bipush (v := nI 10) hx hb dX1_backOf_8 (by decide) ?_
      refine lv_icmp_ge (tgt := 56) hx hb dX1_backOf_10 (by decide) (fun c_1 => ?_) (fun c_1 => ?_)
      · have c_1 : 10 ≤ r := (nI_leI (by omega) (by omega)).mp c_1
        have c_1n : ¬ r < 10 := by omega
        refine lv_iload_n hx hb dX1_backOf_56 rfl (lv_at hl 1 rfl) ?_
        exact lh_ri hx hb hr hlk hK hP hD hS (by rw [hacc, show r = 10 by omega]; exact congrArg nI (brnd hM (Nat.pow_lt_pow_right (by decide : 1 < 2) hb2))) rfl dX1_backOf_57
      · have c_1 : r < 10 := Nat.lt_of_not_le (fun h => c_1 ((nI_leI (by omega) (by omega)).mpr h))
        refine lv_iconst (v := nI 0) hx hb dX1_backOf_13 (by decide) ?_
        refine lv_istore (lv' := [(4, .int (nI 0)), (3, .int (nI r)), (2, .int (nI acc)), (0, .ref (ad 0)), (1, .int (nI b))]) hx hb dX1_backOf_14 hl (by decide) rfl (fun ls hl => ?_)
        have L16 : ∀ (n : Nat) (a : Nat) (ac2 : Nat), xM u - a < n → (a ≤ xM u) → (ac2 = fol (bstep u) a acc) → ∀ (H : Heap) (locs : List Loc), va_P D vwCl (wX cI ad u) H → va_D A (wX cI ad u) → va_S A s.heap H locs → ∀ (ls : Array Slot), lv_has ls 5 [(4, .int (nI a)), (3, .int (nI r)), (2, .int (nI ac2)), (0, .ref (ad 0)), (1, .int (nI b))] → W p l e ({ frames := 3, cells := 0, slots := 0, locals := 66 }) s m [.ref (ad 0), .int (nI b)].toArray below meth c H locs 0 0 (QI below D [(cI, .int)] A (wX cI ad u) (nI (clo (backR u) (2 ^ b))) [.ref (ad 0), .int (nI b)].toArray s) (F0 m 16 ls []) := by
          intro n
          induction n with
          | zero => intro a ac2 hmu; exact absurd hmu (Nat.not_lt_zero _)
          | succ n ih16 =>
            intro a ac2 hmu16 ha hac2 H locs hP hD hS ls hl
            refine lv_iload hx hb dX1_backOf_16 (lv_at hl 0 rfl) ?_
            refine lv_aload_n hx hb dX1_backOf_18 rfl (lv_at hl 3 rfl) ?_
            refine va_get (D := D) (ci := 1) (v := .int (nI (xM u))) (C := RX1) (T := TX1) (N := 10) hx hb hts hinX1 hown hK hP 0 rfl rfl 5 (by decide) fX1_35 (fun _ h9 => h9) rfl dX1_backOf_19 ?_
            refine lv_icmp_ge (tgt := 50) hx hb dX1_backOf_22 (by decide) (fun c_2 => ?_) (fun c_2 => ?_)
            · have c_2 : xM u ≤ a := (nI_leI (by omega) (by omega)).mp c_2
              have c_2n : ¬ a < xM u := by omega
              refine lv_iinc (v := nI (r + 1)) (lv' := [(3, .int (nI (r + 1))), (4, .int (nI a)), (2, .int (nI ac2)), (0, .ref (ad 0)), (1, .int (nI b))]) hx hb dX1_backOf_50 hl (k := 1) rfl (lh_inc _) (by decide) rfl (fun ls hl => ?_)
              refine lv_goto (tgt := 7) hx hb dX1_backOf_53 (by decide) ?_
              exact ih7 (r + 1) ac2 (by omega) (by omega) (by rw [hac2, hacc, show a = xM u by omega]; rfl) _ _ hP hD hS ls (lv_sub hl [0, 2, 3, 4] rfl)
            · have c_2 : a < xM u := Nat.lt_of_not_le (fun h => c_2 ((nI_leI (by omega) (by omega)).mpr h))
              refine lv_aload_n hx hb dX1_backOf_25 rfl (lv_at hl 3 rfl) ?_
              refine lv_iload hx hb dX1_backOf_26 (lv_at hl 0 rfl) ?_
              refine lh_cVi ⟨hx, hb, hml, hown, hts⟩ (kX1_linkedFrom l D cI ad u a ok (by omega)) (cwV 1 hts gX1_backOf_X1_linkedFrom rfl rfl rfl (by decide +kernel) ⟨Nat.le_of_ble_eq_true rfl, Nat.le_of_ble_eq_true rfl⟩) hK hN hP hD hS hA 0 1 rfl rfl rfl rfl hl.1 rfl (Nat.le_of_ble_eq_true rfl) ⟨Nat.le_of_ble_eq_true rfl, Nat.le_of_ble_eq_true rfl⟩ dX1_backOf_28 (fun H locs hP hD hS => ?_)
              refine lv_iload_n hx hb dX1_backOf_31 rfl (lv_at hl 2 rfl) ?_
              refine lv_iand hx hb dX1_backOf_32 ?_
              refine lh_top (y := nI ((frO u a) &&& ac2)) (fa_and _ _) ?_
              refine lv_if_eq (tgt := 44) hx hb dX1_backOf_33 (by decide) (fun c_3 => ?_) (fun c_3 => ?_)
              · have c_3 : ((frO u a) &&& ac2) = 0 := lh_z (by have h9 := and_lt (b := ac2) (frO_lt hM a); omega) c_3
                refine lv_iinc (v := nI (a + 1)) (lv' := [(4, .int (nI (a + 1))), (3, .int (nI r)), (2, .int (nI ac2)), (0, .ref (ad 0)), (1, .int (nI b))]) hx hb dX1_backOf_44 hl (k := 0) rfl (lh_inc _) (by decide) rfl (fun ls hl => ?_)
                refine lv_goto (tgt := 16) hx hb dX1_backOf_47 (by decide) ?_
                exact ih16 (a + 1) ac2 (by omega) (by omega) (by rw [hac2]; simp [fol, bstep, ← hac2, c_1, c_2, c_3]) _ _ hP hD hS ls (lv_sub hl [0, 1, 2, 3, 4] rfl)
              · have c_3 : ¬ ((frO u a) &&& ac2) = 0 := lh_nz c_3
                refine lv_iload_n hx hb dX1_backOf_36 rfl (lv_at hl 2 rfl) ?_
                refine lv_iload hx hb dX1_backOf_37 (lv_at hl 0 rfl) ?_
                refine lh_cSi ⟨hx, hb, hml, hown, hts⟩ (kX1_bit l D _ _ a (by omega)) (va_cwS 1 hts gX1_backOf_X1_bit rfl rfl rfl (by decide +kernel) ⟨Nat.le_of_ble_eq_true rfl, Nat.le_of_ble_eq_true rfl⟩) hK hN hP hD hS hA rfl hl.1 rfl (Nat.le_of_ble_eq_true rfl) ⟨Nat.le_of_ble_eq_true rfl, Nat.le_of_ble_eq_true rfl⟩ dX1_backOf_39 (fun H locs hP hD hS => ?_)
                refine lv_ior hx hb dX1_backOf_42 ?_
                refine lh_top (y := nI (ac2 ||| (2 ^ a))) (fa_or _ _) ?_
                refine lv_istore_n (lv' := [(2, .int (nI (ac2 ||| (2 ^ a)))), (4, .int (nI a)), (3, .int (nI r)), (0, .ref (ad 0)), (1, .int (nI b))]) hx hb dX1_backOf_43 rfl hl (by decide) rfl (fun ls hl => ?_)
                refine lv_iinc (v := nI (a + 1)) (lv' := [(4, .int (nI (a + 1))), (2, .int (nI (ac2 ||| (2 ^ a)))), (3, .int (nI r)), (0, .ref (ad 0)), (1, .int (nI b))]) hx hb dX1_backOf_44 hl (k := 1) rfl (lh_inc _) (by decide) rfl (fun ls hl => ?_)
                refine lv_goto (tgt := 16) hx hb dX1_backOf_47 (by decide) ?_
                exact ih16 (a + 1) (ac2 ||| (2 ^ a)) (by omega) (by omega) (by rw [hac2]; simp [fol, bstep, ← hac2, c_1, c_2, c_3]) _ _ hP hD hS ls (lv_sub hl [0, 2, 1, 3, 4] rfl)
        exact L16 _ 0 acc (Nat.lt_succ_self _) (by omega) (by rfl) _ _ hP hD hS ls (lv_sub hl [0, 1, 2, 3, 4] rfl)
  exact L7 _ 0 (2 ^ b) (Nat.lt_succ_self _) (by omega) (by rfl) _ _ hP hD hS ls (lv_sub hl [0, 1, 2, 3] rfl)
set_option maxRecDepth 100000 in
set_option maxHeartbeats 4000000 in
theorem kX1_collectOn (l : Launch) (D : va_G) (cI : ClassId) (ad : Nat → Nat) (u : XS) (h : Nat) (ok : okB u) (hh : h < 4) (hW9 : xW u + 9 * cn (xL u) ≤ 150) : CI l D [(cI, .int)] yX1_collectOn wsX1_collectOn ({ frames := 5, cells := 0, slots := 0, locals := 107 }) [.ref (ad 0), .int (nI h)] (wX cI ad u) (wX cI ad (colS u h)) (nI (cn (colL u h))) := by
  obtain ⟨hM, hW, hHo, hAb, hLb, hRb, hDb⟩ := id ok
  refine lh_CIof (cc := cX1_collectOn) (maxL := 5) (ret := (some .int)) (own := RX1) (by decide) rfl rfl (Nat.le_of_ble_eq_true rfl) ?_
  intro p e s m below meth c A ls hx hb hr hlk hts hown hml hK hN hA hP hD hS hl
  have fX1_42 := hts (.fieldLink RX1 42 "LostHosts" "roots" "I") (by decide +kernel)
  have hinX1 : ∀ w ∈ u_ws RX1 TX1 10, w ∈ wsX1_collectOn := by decide +kernel
  have hl : lv_has ls 5 [(0, .ref (ad 0)), (1, .int (nI h))] := hl
  refine lv_aload_n hx hb dX1_collectOn_0 rfl (lv_at hl 0 rfl) ?_
  refine lv_iload_n hx hb dX1_collectOn_1 rfl (lv_at hl 1 rfl) ?_
  refine lh_cVi ⟨hx, hb, hml, hown, hts⟩ (kX1_livingOn l D cI ad u h ok (by omega)) (cwV 1 hts gX1_collectOn_X1_livingOn rfl rfl rfl (by decide +kernel) ⟨Nat.le_of_ble_eq_true rfl, Nat.le_of_ble_eq_true rfl⟩) hK hN hP hD hS hA 0 1 rfl rfl rfl rfl hl.1 rfl (Nat.le_of_ble_eq_true rfl) ⟨Nat.le_of_ble_eq_true rfl, Nat.le_of_ble_eq_true rfl⟩ dX1_collectOn_2 (fun H locs hP hD hS => ?_)
  refine lv_istore_n (lv' := [(2, .int (nI (onH u h))), (0, .ref (ad 0)), (1, .int (nI h))]) hx hb dX1_collectOn_5 rfl hl (by decide) rfl (fun ls hl => ?_)
  refine lv_aload_n hx hb dX1_collectOn_6 rfl (lv_at hl 1 rfl) ?_
  refine lv_iload_n hx hb dX1_collectOn_7 rfl (lv_at hl 2 rfl) ?_
  refine lh_cVi ⟨hx, hb, hml, hown, hts⟩ (kX1_staying l D cI ad u h ok (by omega)) (cwV 1 hts gX1_collectOn_X1_staying rfl rfl rfl (by decide +kernel) ⟨Nat.le_of_ble_eq_true rfl, Nat.le_of_ble_eq_true rfl⟩) hK hN hP hD hS hA 0 1 rfl rfl rfl rfl hl.1 rfl (Nat.le_of_ble_eq_true rfl) ⟨Nat.le_of_ble_eq_true rfl, Nat.le_of_ble_eq_true rfl⟩ dX1_collectOn_8 (fun H locs hP hD hS => ?_)
  refine lv_istore_n (lv' := [(3, .int (nI (stay u h))), (2, .int (nI (onH u h))), (0, .ref (ad 0)), (1, .int (nI h))]) hx hb dX1_collectOn_11 rfl hl (by decide) rfl (fun ls hl => ?_)
  refine lv_aload_n hx hb dX1_collectOn_12 rfl (lv_at hl 2 rfl) ?_
  refine lv_iload_n hx hb dX1_collectOn_13 rfl (lv_at hl 0 rfl) ?_
  refine lv_aload_n hx hb dX1_collectOn_14 rfl (lv_at hl 2 rfl) ?_
  refine lv_iload_n hx hb dX1_collectOn_15 rfl (lv_at hl 1 rfl) ?_
  refine lv_aload_n hx hb dX1_collectOn_16 rfl (lv_at hl 2 rfl) ?_
  refine va_get (D := D) (ci := 1) (v := .int (nI (xR u))) (C := RX1) (T := TX1) (N := 10) hx hb hts hinX1 hown hK hP 0 rfl rfl 7 (by decide) fX1_42 (fun _ h9 => h9) rfl dX1_collectOn_17 ?_
  refine lv_iand hx hb dX1_collectOn_20 ?_
  refine lh_top (y := nI ((onH u h) &&& xR u)) (fa_and _ _) ?_
  refine lh_cVi ⟨hx, hb, hml, hown, hts⟩ (kX1_withNear l D cI ad u ((onH u h) &&& xR u) (by exact and_ltR hRb)) (cwV 1 hts gX1_collectOn_X1_withNear rfl rfl rfl (by decide +kernel) ⟨Nat.le_of_ble_eq_true rfl, Nat.le_of_ble_eq_true rfl⟩) hK hN hP hD hS hA 0 1 rfl rfl rfl rfl hl.1 rfl (Nat.le_of_ble_eq_true rfl) ⟨Nat.le_of_ble_eq_true rfl, Nat.le_of_ble_eq_true rfl⟩ dX1_collectOn_21 (fun H locs hP hD hS => ?_)
  refine lh_cVv ⟨hx, hb, hml, hown, hts⟩ (kX1_grow l D cI ad u (stay u h) (clo (nearR u) ((onH u h) &&& xR u)) (by omega)) (cwV 2 hts gX1_collectOn_X1_grow rfl rfl rfl (by decide +kernel) ⟨Nat.le_of_ble_eq_true rfl, Nat.le_of_ble_eq_true rfl⟩) hK hN hP hD hS hA 0 1 rfl rfl rfl rfl hl.1 rfl (Nat.le_of_ble_eq_true rfl) ⟨Nat.le_of_ble_eq_true rfl, Nat.le_of_ble_eq_true rfl⟩ dX1_collectOn_24 (fun H locs hP hD hS => ?_)
  have hP : va_P D vwCl (wX cI ad (grw u (stay u h) (clo (nearR u) ((onH u h) &&& xR u)))) H := hP
  have hD : va_D A (wX cI ad (grw u (stay u h) (clo (nearR u) ((onH u h) &&& xR u)))) := hD
  refine lv_iload_n hx hb dX1_collectOn_27 rfl (lv_at hl 1 rfl) ?_
  refine lv_iload_n hx hb dX1_collectOn_28 rfl (lv_at hl 0 rfl) ?_
  refine lv_iconst (v := (-1)) hx hb dX1_collectOn_29 (by decide) ?_
  refine lv_ixor hx hb dX1_collectOn_30 ?_
  refine lv_iand hx hb dX1_collectOn_31 ?_
  refine lh_top (y := nI (dif (onH u h) (stay u h))) (lh_not _ (by have h9 := onH_lt hM h; omega)) ?_
  refine lv_istore (lv' := [(4, .int (nI (dif (onH u h) (stay u h)))), (3, .int (nI (stay u h))), (2, .int (nI (onH u h))), (0, .ref (ad 0)), (1, .int (nI h))]) hx hb dX1_collectOn_32 hl (by decide) rfl (fun ls hl => ?_)
  refine lv_aload_n hx hb dX1_collectOn_34 rfl (lv_at hl 3 rfl) ?_
  refine lv_iload hx hb dX1_collectOn_35 (lv_at hl 0 rfl) ?_
  refine lh_cVv ⟨hx, hb, hml, hown, hts⟩ (kX1_sendReturnsOf l D cI ad (grw u (stay u h) (clo (nearR u) ((onH u h) &&& xR u))) (dif (onH u h) (stay u h)) (by exact hM) (by exact colL_W hW9)) (cwV 1 hts gX1_collectOn_X1_sendReturnsOf rfl rfl rfl (by decide +kernel) ⟨Nat.le_of_ble_eq_true rfl, Nat.le_of_ble_eq_true rfl⟩) hK hN hP hD hS hA 0 1 rfl rfl rfl rfl hl.1 rfl (Nat.le_of_ble_eq_true rfl) ⟨Nat.le_of_ble_eq_true rfl, Nat.le_of_ble_eq_true rfl⟩ dX1_collectOn_37 (fun H locs hP hD hS => ?_)
  have hP : va_P D vwCl (wX cI ad (sro (grw u (stay u h) (clo (nearR u) ((onH u h) &&& xR u))) (dif (onH u h) (stay u h)))) H := hP
  have hD : va_D A (wX cI ad (sro (grw u (stay u h) (clo (nearR u) ((onH u h) &&& xR u))) (dif (onH u h) (stay u h)))) := hD
  refine lv_aload_n hx hb dX1_collectOn_40 rfl (lv_at hl 3 rfl) ?_
  refine lv_iload hx hb dX1_collectOn_41 (lv_at hl 0 rfl) ?_
  refine lh_cVi ⟨hx, hb, hml, hown, hts⟩ (kX1_becomeGone l D cI ad (sro (grw u (stay u h) (clo (nearR u) ((onH u h) &&& xR u))) (dif (onH u h) (stay u h))) (dif (onH u h) (stay u h)) (okB_sro (u := colG u h) (okB_grw ok _ _) (colL_W hW9)) (by exact colL_lt hM)) (cwV 1 hts gX1_collectOn_X1_becomeGone rfl rfl rfl (by decide +kernel) ⟨Nat.le_of_ble_eq_true rfl, Nat.le_of_ble_eq_true rfl⟩) hK hN hP hD hS hA 0 1 rfl rfl rfl rfl hl.1 rfl (Nat.le_of_ble_eq_true rfl) ⟨Nat.le_of_ble_eq_true rfl, Nat.le_of_ble_eq_true rfl⟩ dX1_collectOn_43 (fun H locs hP hD hS => ?_)
  have hP : va_P D vwCl (wX cI ad (bgo (sro (grw u (stay u h) (clo (nearR u) ((onH u h) &&& xR u))) (dif (onH u h) (stay u h))) (dif (onH u h) (stay u h)))) H := hP
  have hD : va_D A (wX cI ad (bgo (sro (grw u (stay u h) (clo (nearR u) ((onH u h) &&& xR u))) (dif (onH u h) (stay u h))) (dif (onH u h) (stay u h)))) := hD
  exact lh_ri hx hb hr hlk hK hP hD hS (by rfl) (by rfl) dX1_collectOn_46

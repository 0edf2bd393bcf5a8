set_option maxRecDepth 100000 in
set_option maxHeartbeats 4000000 in
theorem kJ6_bitCount_0f7a4 (l : Launch) (D : va_G) (tys : List (ClassId × FieldType)) (ws : va_W) (x : Nat) (hx9 : x < 1024) : CI l D tys yJ6_bitCount_0f7a4 wsJ6_bitCount_0f7a4 ({ frames := 0, cells := 0, slots := 0, locals := 0 }) [.int (nI x)] ws ws (nI (cn x)) := by
  refine lh_CIof (cc := cJ6_bitCount_0f7a4) (maxL := 1) (ret := (some .int)) (own := RJ6) (by decide) rfl rfl (Nat.le_of_ble_eq_true rfl) ?_
  intro p e s m below meth c A ls hx hb hr hlk hts hown hml hK hN hA hP hD hS hl
  have hl : lv_has ls 1 [(0, .int (nI x))] := hl
  refine lv_iload_n hx hb dJ6_bitCount_0f7a4_0 rfl (lv_at hl 0 rfl) ?_
  refine lv_iload_n hx hb dJ6_bitCount_0f7a4_1 rfl (lv_at hl 0 rfl) ?_
  refine lv_iconst (v := nI 1) hx hb dJ6_bitCount_0f7a4_2 (by decide) ?_
  refine lv_iushr (v := (((nI x : Int32).toUInt32 >>> ((nI 1 : Int32).toUInt32 &&& Int32.toUInt32 31)).toInt32)) hx hb dJ6_bitCount_0f7a4_3 rfl ?_
  refine lv_ldcw (v := 1431655765) hx hb hown (hts (.constant RJ6 265 1431655765) (by decide +kernel)) dJ6_bitCount_0f7a4_4 ?_
  refine lv_iand hx hb dJ6_bitCount_0f7a4_7 ?_
  refine lv_isub hx hb dJ6_bitCount_0f7a4_8 ?_
  refine lv_istore_n (lv' := [(0, .int ((nI x - ((((nI x : Int32).toUInt32 >>> ((nI 1 : Int32).toUInt32 &&& Int32.toUInt32 31)).toInt32) &&& 1431655765))))]) hx hb dJ6_bitCount_0f7a4_9 rfl hl (by decide) rfl (fun ls hl => ?_)
  refine lv_iload_n hx hb dJ6_bitCount_0f7a4_10 rfl (lv_at hl 0 rfl) ?_
  refine lv_ldcw (v := 858993459) hx hb hown (hts (.constant RJ6 266 858993459) (by decide +kernel)) dJ6_bitCount_0f7a4_11 ?_
  refine lv_iand hx hb dJ6_bitCount_0f7a4_14 ?_
  refine lv_iload_n hx hb dJ6_bitCount_0f7a4_15 rfl (lv_at hl 0 rfl) ?_
  refine lv_iconst (v := nI 2) hx hb dJ6_bitCount_0f7a4_16 (by decide) ?_
  refine lv_iushr (v := ((((nI x - ((((nI x : Int32).toUInt32 >>> ((nI 1 : Int32).toUInt32 &&& Int32.toUInt32 31)).toInt32) &&& 1431655765)) : Int32).toUInt32 >>> ((nI 2 : Int32).toUInt32 &&& Int32.toUInt32 31)).toInt32)) hx hb dJ6_bitCount_0f7a4_17 rfl ?_
  refine lv_ldcw (v := 858993459) hx hb hown (hts (.constant RJ6 266 858993459) (by decide +kernel)) dJ6_bitCount_0f7a4_18 ?_
  refine lv_iand hx hb dJ6_bitCount_0f7a4_21 ?_
  refine lv_iadd hx hb dJ6_bitCount_0f7a4_22 ?_
  refine lv_istore_n (lv' := [(0, .int ((((nI x - ((((nI x : Int32).toUInt32 >>> ((nI 1 : Int32).toUInt32 &&& Int32.toUInt32 31)).toInt32) &&& 1431655765)) &&& 858993459) + (((((nI x - ((((nI x : Int32).toUInt32 >>> ((nI 1 : Int32).toUInt32 &&& Int32.toUInt32 31)).toInt32) &&& 1431655765)) : Int32).toUInt32 >>> ((nI 2 : Int32).toUInt32 &&& Int32.toUInt32 31)).toInt32) &&& 858993459))))]) hx hb dJ6_bitCount_0f7a4_23 rfl hl (by decide) rfl (fun ls hl => ?_)
  refine lv_iload_n hx hb dJ6_bitCount_0f7a4_24 rfl (lv_at hl 0 rfl) ?_
  refine lv_iload_n hx hb dJ6_bitCount_0f7a4_25 rfl (lv_at hl 0 rfl) ?_
  refine lv_iconst (v := nI 4) hx hb dJ6_bitCount_0f7a4_26 (by decide) ?_
  refine lv_iushr (v := ((((((nI x - ((((nI x : Int32).toUInt32 >>> ((nI 1 : Int32).toUInt32 &&& Int32.toUInt32 31)).toInt32) &&& 1431655765)) &&& 858993459) + (((((nI x - ((((nI x : Int32).toUInt32 >>> ((nI 1 : Int32).toUInt32 &&& Int32.toUInt32 31)).toInt32) &&& 1431655765)) : Int32).toUInt32 >>> ((nI 2 : Int32).toUInt32 &&& Int32.toUInt32 31)).toInt32) &&& 858993459)) : Int32).toUInt32 >>> ((nI 4 : Int32).toUInt32 &&& Int32.toUInt32 31)).toInt32)) hx hb dJ6_bitCount_0f7a4_27 rfl ?_
  refine lv_iadd hx hb dJ6_bitCount_0f7a4_28 ?_
  refine lv_ldcw (v := 252645135) hx hb hown (hts (.constant RJ6 267 252645135) (by decide +kernel)) dJ6_bitCount_0f7a4_29 ?_
  refine lv_iand hx hb dJ6_bitCount_0f7a4_32 ?_
  refine lv_istore_n (lv' := [(0, .int ((((((nI x - ((((nI x : Int32).toUInt32 >>> ((nI 1 : Int32).toUInt32 &&& Int32.toUInt32 31)).toInt32) &&& 1431655765)) &&& 858993459) + (((((nI x - ((((nI x : Int32).toUInt32 >>> ((nI 1 : Int32).toUInt32 &&& Int32.toUInt32 31)).toInt32) &&& 1431655765)) : Int32).toUInt32 >>> ((nI 2 : Int32).toUInt32 &&& Int32.toUInt32 31)).toInt32) &&& 858993459)) + ((((((nI x - ((((nI x : Int32).toUInt32 >>> ((nI 1 : Int32).toUInt32 &&& Int32.toUInt32 31)).toInt32) &&& 1431655765)) &&& 858993459) + (((((nI x - ((((nI x : Int32).toUInt32 >>> ((nI 1 : Int32).toUInt32 &&& Int32.toUInt32 31)).toInt32) &&& 1431655765)) : Int32).toUInt32 >>> ((nI 2 : Int32).toUInt32 &&& Int32.toUInt32 31)).toInt32) &&& 858993459)) : Int32).toUInt32 >>> ((nI 4 : Int32).toUInt32 &&& Int32.toUInt32 31)).toInt32)) &&& 252645135)))]) hx hb dJ6_bitCount_0f7a4_33 rfl hl (by decide) rfl (fun ls hl => ?_)
  refine lv_iload_n hx hb dJ6_bitCount_0f7a4_34 rfl (lv_at hl 0 rfl) ?_
  refine lv_iload_n hx hb dJ6_bitCount_0f7a4_35 rfl (lv_at hl 0 rfl) ?_
  refine lv_bipush (v := nI 8) hx hb dJ6_bitCount_0f7a4_36 (by decide) ?_
  refine lv_iushr (v := ((((((((nI x - ((((nI x : Int32).toUInt32 >>> ((nI 1 : Int32).toUInt32 &&& Int32.toUInt32 31)).toInt32) &&& 1431655765)) &&& 858993459) + (((((nI x - ((((nI x : Int32).toUInt32 >>> ((nI 1 : Int32).toUInt32 &&& Int32.toUInt32 31)).toInt32) &&& 1431655765)) : Int32).toUInt32 >>> ((nI 2 : Int32).toUInt32 &&& Int32.toUInt32 31)).toInt32) &&& 858993459)) + ((((((nI x - ((((nI x : Int32).toUInt32 >>> ((nI 1 : Int32).toUInt32 &&& Int32.toUInt32 31)).toInt32) &&& 1431655765)) &&& 858993459) + (((((nI x - ((((nI x : Int32).toUInt32 >>> ((nI 1 : Int32).toUInt32 &&& Int32.toUInt32 31)).toInt32) &&& 1431655765)) : Int32).toUInt32 >>> ((nI 2 : Int32).toUInt32 &&& Int32.toUInt32 31)).toInt32) &&& 858993459)) : Int32).toUInt32 >>> ((nI 4 : Int32).toUInt32 &&& Int32.toUInt32 31)).toInt32)) &&& 252645135) : Int32).toUInt32 >>> ((nI 8 : Int32).toUInt32 &&& Int32.toUInt32 31)).toInt32)) hx hb dJ6_bitCount_0f7a4_38 rfl ?_
  refine lv_iadd hx hb dJ6_bitCount_0f7a4_39 ?_
  refine lv_istore_n (lv' := [(0, .int (((((((nI x - ((((nI x : Int32).toUInt32 >>> ((nI 1 : Int32).toUInt32 &&& Int32.toUInt32 31)).toInt32) &&& 1431655765)) &&& 858993459) + (((((nI x - ((((nI x : Int32).toUInt32 >>> ((nI 1 : Int32).toUInt32 &&& Int32.toUInt32 31)).toInt32) &&& 1431655765)) : Int32).toUInt32 >>> ((nI 2 : Int32).toUInt32 &&& Int32.toUInt32 31)).toInt32) &&& 858993459)) + ((((((nI x - ((((nI x : Int32).toUInt32 >>> ((nI 1 : Int32).toUInt32 &&& Int32.toUInt32 31)).toInt32) &&& 1431655765)) &&& 858993459) + (((((nI x - ((((nI x : Int32).toUInt32 >>> ((nI 1 : Int32).toUInt32 &&& Int32.toUInt32 31)).toInt32) &&& 1431655765)) : Int32).toUInt32 >>> ((nI 2 : Int32).toUInt32 &&& Int32.toUInt32 31)).toInt32) &&& 858993459)) : Int32).toUInt32 >>> ((nI 4 : Int32).toUInt32 &&& Int32.toUInt32 31)).toInt32)) &&& 252645135) + ((((((((nI x - ((((nI x : Int32).toUInt32 >>> ((nI 1 : Int32).toUInt32 &&& Int32.toUInt32 31)).toInt32) &&& 1431655765)) &&& 858993459) + (((((nI x - ((((nI x : Int32).toUInt32 >>> ((nI 1 : Int32).toUInt32 &&& Int32.toUInt32 31)).toInt32) &&& 1431655765)) : Int32).toUInt32 >>> ((nI 2 : Int32).toUInt32 &&& Int32.toUInt32 31)).toInt32) &&& 858993459)) + ((((((nI x - ((((nI x : Int32).toUInt32 >>> ((nI 1 : Int32).toUInt32 &&& Int32.toUInt32 31)).toInt32) &&& 1431655765)) &&& 858993459) + (((((nI x - ((((nI x : Int32).toUInt32 >>> ((nI 1 : Int32).toUInt32 &&& Int32.toUInt32 31)).toInt32) &&& 1431655765)) : Int32).toUInt32 >>> ((nI 2 : Int32).toUInt32 &&& Int32.toUInt32 31)).toInt32) &&& 858993459)) : Int32).toUInt32 >>> ((nI 4 : Int32).toUInt32 &&& Int32.toUInt32 31)).toInt32)) &&& 252645135) : Int32).toUInt32 >>> ((nI 8 : Int32).toUInt32 &&& Int32.toUInt32 31)).toInt32))))]) hx hb dJ6_bitCount_0f7a4_40 rfl hl (by decide) rfl (fun ls hl => ?_)
  refine lv_iload_n hx hb dJ6_bitCount_0f7a4_41 rfl (lv_at hl 0 rfl) ?_
  refine lv_iload_n hx hb dJ6_bitCount_0f7a4_42 rfl (lv_at hl 0 rfl) ?_
  refine lv_bipush (v := nI 16) hx hb dJ6_bitCount_0f7a4_43 (by decide) ?_
  refine lv_iushr (v := (((((((((nI x - ((((nI x : Int32).toUInt32 >>> ((nI 1 : Int32).toUInt32 &&& Int32.toUInt32 31)).toInt32) &&& 1431655765)) &&& 858993459) + (((((nI x - ((((nI x : Int32).toUInt32 >>> ((nI 1 : Int32).toUInt32 &&& Int32.toUInt32 31)).toInt32) &&& 1431655765)) : Int32).toUInt32 >>> ((nI 2 : Int32).toUInt32 &&& Int32.toUInt32 31)).toInt32) &&& 858993459)) + ((((((nI x - ((((nI x : Int32).toUInt32 >>> ((nI 1 : Int32).toUInt32 &&& Int32.toUInt32 31)).toInt32) &&& 1431655765)) &&& 858993459) + (((((nI x - ((((nI x : Int32).toUInt32 >>> ((nI 1 : Int32).toUInt32 &&& Int32.toUInt32 31)).toInt32) &&& 1431655765)) : Int32).toUInt32 >>> ((nI 2 : Int32).toUInt32 &&& Int32.toUInt32 31)).toInt32) &&& 858993459)) : Int32).toUInt32 >>> ((nI 4 : Int32).toUInt32 &&& Int32.toUInt32 31)).toInt32)) &&& 252645135) + ((((((((nI x - ((((nI x : Int32).toUInt32 >>> ((nI 1 : Int32).toUInt32 &&& Int32.toUInt32 31)).toInt32) &&& 1431655765)) &&& 858993459) + (((((nI x - ((((nI x : Int32).toUInt32 >>> ((nI 1 : Int32).toUInt32 &&& Int32.toUInt32 31)).toInt32) &&& 1431655765)) : Int32).toUInt32 >>> ((nI 2 : Int32).toUInt32 &&& Int32.toUInt32 31)).toInt32) &&& 858993459)) + ((((((nI x - ((((nI x : Int32).toUInt32 >>> ((nI 1 : Int32).toUInt32 &&& Int32.toUInt32 31)).toInt32) &&& 1431655765)) &&& 858993459) + (((((nI x - ((((nI x : Int32).toUInt32 >>> ((nI 1 : Int32).toUInt32 &&& Int32.toUInt32 31)).toInt32) &&& 1431655765)) : Int32).toUInt32 >>> ((nI 2 : Int32).toUInt32 &&& Int32.toUInt32 31)).toInt32) &&& 858993459)) : Int32).toUInt32 >>> ((nI 4 : Int32).toUInt32 &&& Int32.toUInt32 31)).toInt32)) &&& 252645135) : Int32).toUInt32 >>> ((nI 8 : Int32).toUInt32 &&& Int32.toUInt32 31)).toInt32)) : Int32).toUInt32 >>> ((nI 16 : Int32).toUInt32 &&& Int32.toUInt32 31)).toInt32)) hx hb dJ6_bitCount_0f7a4_45 rfl ?_
  refine lv_iadd hx hb dJ6_bitCount_0f7a4_46 ?_
  refine lv_istore_n (lv' := [(0, .int ((((((((nI x - ((((nI x : Int32).toUInt32 >>> ((nI 1 : Int32).toUInt32 &&& Int32.toUInt32 31)).toInt32) &&& 1431655765)) &&& 858993459) + (((((nI x - ((((nI x : Int32).toUInt32 >>> ((nI 1 : Int32).toUInt32 &&& Int32.toUInt32 31)).toInt32) &&& 1431655765)) : Int32).toUInt32 >>> ((nI 2 : Int32).toUInt32 &&& Int32.toUInt32 31)).toInt32) &&& 858993459)) + ((((((nI x - ((((nI x : Int32).toUInt32 >>> ((nI 1 : Int32).toUInt32 &&& Int32.toUInt32 31)).toInt32) &&& 1431655765)) &&& 858993459) + (((((nI x - ((((nI x : Int32).toUInt32 >>> ((nI 1 : Int32).toUInt32 &&& Int32.toUInt32 31)).toInt32) &&& 1431655765)) : Int32).toUInt32 >>> ((nI 2 : Int32).toUInt32 &&& Int32.toUInt32 31)).toInt32) &&& 858993459)) : Int32).toUInt32 >>> ((nI 4 : Int32).toUInt32 &&& Int32.toUInt32 31)).toInt32)) &&& 252645135) + ((((((((nI x - ((((nI x : Int32).toUInt32 >>> ((nI 1 : Int32).toUInt32 &&& Int32.toUInt32 31)).toInt32) &&& 1431655765)) &&& 858993459) + (((((nI x - ((((nI x : Int32).toUInt32 >>> ((nI 1 : Int32).toUInt32 &&& Int32.toUInt32 31)).toInt32) &&& 1431655765)) : Int32).toUInt32 >>> ((nI 2 : Int32).toUInt32 &&& Int32.toUInt32 31)).toInt32) &&& 858993459)) + ((((((nI x - ((((nI x : Int32).toUInt32 >>> ((nI 1 : Int32).toUInt32 &&& Int32.toUInt32 31)).toInt32) &&& 1431655765)) &&& 858993459) + (((((nI x - ((((nI x : Int32).toUInt32 >>> ((nI 1 : Int32).toUInt32 &&& Int32.toUInt32 31)).toInt32) &&& 1431655765)) : Int32).toUInt32 >>> ((nI 2 : Int32).toUInt32 &&& Int32.toUInt32 31)).toInt32) &&& 858993459)) : Int32).toUInt32 >>> ((nI 4 : Int32).toUInt32 &&& Int32.toUInt32 31)).toInt32)) &&& 252645135) : Int32).toUInt32 >>> ((nI 8 : Int32).toUInt32 &&& Int32.toUInt32 31)).toInt32)) + (((((((((nI x - ((((nI x : Int32).toUInt32 >>> ((nI 1 : Int32).toUInt32 &&& Int32.toUInt32 31)).toInt32) &&& 1431655765)) &&& 858993459) + (((((nI x - ((((nI x : Int32).toUInt32 >>> ((nI 1 : Int32).toUInt32 &&& Int32.toUInt32 31)).toInt32) &&& 1431655765)) : Int32).toUInt32 >>> ((nI 2 : Int32).toUInt32 &&& Int32.toUInt32 31)).toInt32) &&& 858993459)) + ((((((nI x - ((((nI x : Int32).toUInt32 >>> ((nI 1 : Int32).toUInt32 &&& Int32.toUInt32 31)).toInt32) &&& 1431655765)) &&& 858993459) + (((((nI x - ((((nI x : Int32).toUInt32 >>> ((nI 1 : Int32).toUInt32 &&& Int32.toUInt32 31)).toInt32) &&& 1431655765)) : Int32).toUInt32 >>> ((nI 2 : Int32).toUInt32 &&& Int32.toUInt32 31)).toInt32) &&& 858993459)) : Int32).toUInt32 >>> ((nI 4 : Int32).toUInt32 &&& Int32.toUInt32 31)).toInt32)) &&& 252645135) + ((((((((nI x - ((((nI x : Int32).toUInt32 >>> ((nI 1 : Int32).toUInt32 &&& Int32.toUInt32 31)).toInt32) &&& 1431655765)) &&& 858993459) + (((((nI x - ((((nI x : Int32).toUInt32 >>> ((nI 1 : Int32).toUInt32 &&& Int32.toUInt32 31)).toInt32) &&& 1431655765)) : Int32).toUInt32 >>> ((nI 2 : Int32).toUInt32 &&& Int32.toUInt32 31)).toInt32) &&& 858993459)) + ((((((nI x - ((((nI x : Int32).toUInt32 >>> ((nI 1 : Int32).toUInt32 &&& Int32.toUInt32 31)).toInt32) &&& 1431655765)) &&& 858993459) + (((((nI x - ((((nI x : Int32).toUInt32 >>> ((nI 1 : Int32).toUInt32 &&& Int32.toUInt32 31)).toInt32) &&& 1431655765)) : Int32).toUInt32 >>> ((nI 2 : Int32).toUInt32 &&& Int32.toUInt32 31)).toInt32) &&& 858993459)) : Int32).toUInt32 >>> ((nI 4 : Int32).toUInt32 &&& Int32.toUInt32 31)).toInt32)) &&& 252645135) : Int32).toUInt32 >>> ((nI 8 : Int32).toUInt32 &&& Int32.toUInt32 31)).toInt32)) : Int32).toUInt32 >>> ((nI 16 : Int32).toUInt32 &&& Int32.toUInt32 31)).toInt32))))]) hx hb dJ6_bitCount_0f7a4_47 rfl hl (by decide) rfl (fun ls hl => ?_)
  refine lv_iload_n hx hb dJ6_bitCount_0f7a4_48 rfl (lv_at hl 0 rfl) ?_
  refine lv_bipush (v := nI 63) hx hb dJ6_bitCount_0f7a4_49 (by decide) ?_
  refine lv_iand hx hb dJ6_bitCount_0f7a4_51 ?_
  exact lh_ri hx hb hr hlk hK hP hD hS (by exact bcM_cn x hx9) rfl dJ6_bitCount_0f7a4_52
set_option maxRecDepth 100000 in
set_option maxHeartbeats 4000000 in
theorem kX1_livingOn (l : Launch) (D : va_G) (cI : ClassId) (ad : Nat → Nat) (u : XS) (h : Nat) (ok : okB u) (hh : h < 4) : CI l D [(cI, .int)] yX1_livingOn wsX1_livingOn ({ frames := 4, cells := 0, slots := 0, locals := 84 }) [.ref (ad 0), .int (nI h)] (wX cI ad u) (wX cI ad u) (nI (onH u h)) := by
  obtain ⟨hM, hW, hHo, hAb, hLb, hRb, hDb⟩ := id ok
  refine lh_CIof (cc := cX1_livingOn) (maxL := 4) (ret := (some .int)) (own := RX1) (by decide) rfl rfl (Nat.le_of_ble_eq_true rfl) ?_
  intro p e s m below meth c A ls hx hb hr hlk hts hown hml hK hN hA hP hD hS hl
  have fX1_35 := hts (.fieldLink RX1 35 "LostHosts" "made" "I") (by decide +kernel)
  have hinX1 : ∀ w ∈ u_ws RX1 TX1 10, w ∈ wsX1_livingOn := by decide +kernel
  have hl : lv_has ls 4 [(0, .ref (ad 0)), (1, .int (nI h))] := hl
  refine lv_iconst (v := nI 0) hx hb dX1_livingOn_0 (by decide) ?_
  refine lv_istore_n (lv' := [(2, .int (nI 0)), (0, .ref (ad 0)), (1, .int (nI h))]) hx hb dX1_livingOn_1 rfl hl (by decide) rfl (fun ls hl => ?_)
  refine lv_iconst (v := nI 0) hx hb dX1_livingOn_2 (by decide) ?_
  refine lv_istore_n (lv' := [(3, .int (nI 0)), (2, .int (nI 0)), (0, .ref (ad 0)), (1, .int (nI h))]) hx hb dX1_livingOn_3 rfl hl (by decide) rfl (fun ls hl => ?_)
  have L4 : ∀ (n : Nat) (k : Nat) (acc : Nat), xM u - k < n → (k ≤ xM u) → (acc = mk (fun a => lvo u a h) k) → ∀ (H : Heap) (locs : List Loc), va_P D vwCl (wX cI ad u) H → va_D A (wX cI ad u) → va_S A s.heap H locs → ∀ (ls : Array Slot), lv_has ls 4 [(3, .int (nI k)), (2, .int (nI acc)), (0, .ref (ad 0)), (1, .int (nI h))] → W p l e ({ frames := 4, cells := 0, slots := 0, locals := 84 }) s m [.ref (ad 0), .int (nI h)].toArray below meth c H locs 0 0 (QI below D [(cI, .int)] A (wX cI ad u) (nI (onH u h)) [.ref (ad 0), .int (nI h)].toArray s) (F0 m 4 ls []) := by
    intro n
    induction n with
    | zero => intro k acc hmu; exact absurd hmu (Nat.not_lt_zero _)
    | succ n ih4 =>
      intro k acc hmu4 hk hacc H locs hP hD hS ls hl
      refine lv_iload_n hx hb dX1_livingOn_4 rfl (lv_at hl 0 rfl) ?_
      refine lv_aload_n hx hb dX1_livingOn_5 rfl (lv_at hl 2 rfl) ?_
      refine va_get (D := D) (ci := 1) (v := .int (nI (xM u))) (C := RX1) (T := TX1) (N := 10) hx hb hts hinX1 hown hK hP 0 rfl rfl 5 (by decide) fX1_35 (fun _ h9 => h9) rfl dX1_livingOn_6 ?_
      refine lv_icmp_ge (tgt := 34) hx hb dX1_livingOn_9 (by decide) (fun c_1 => ?_) (fun c_1 => ?_)
      · have c_1 : xM u ≤ k := (nI_leI (by omega) (by omega)).mp c_1
        have c_1n : ¬ k < xM u := by omega
        refine lv_iload_n hx hb dX1_livingOn_34 rfl (lv_at hl 1 rfl) ?_
        exact lh_ri hx hb hr hlk hK hP hD hS (by rw [hacc, show k = xM u by omega]; rfl) rfl dX1_livingOn_35
      · have c_1 : k < xM u := Nat.lt_of_not_le (fun h => c_1 ((nI_leI (by omega) (by omega)).mpr h))
        refine lv_aload_n hx hb dX1_livingOn_12 rfl (lv_at hl 2 rfl) ?_
        refine lv_iload_n hx hb dX1_livingOn_13 rfl (lv_at hl 0 rfl) ?_
        refine lv_iload_n hx hb dX1_livingOn_14 rfl (lv_at hl 3 rfl) ?_
        refine lh_cVi ⟨hx, hb, hml, hown, hts⟩ (kX1_livesOn l D cI ad u k h ok (by omega) (by omega)) (cwV 2 hts gX1_livingOn_X1_livesOn rfl rfl rfl (by decide +kernel) ⟨Nat.le_of_ble_eq_true rfl, Nat.le_of_ble_eq_true rfl⟩) hK hN hP hD hS hA 0 1 rfl rfl rfl rfl hl.1 rfl (Nat.le_of_ble_eq_true rfl) ⟨Nat.le_of_ble_eq_true rfl, Nat.le_of_ble_eq_true rfl⟩ dX1_livingOn_15 (fun H locs hP hD hS => ?_)
        refine lv_if_eq (tgt := 28) hx hb dX1_livingOn_18 (by decide) (fun c_2 => ?_) (fun c_2 => ?_)
        · have c_2 : (lvo u k h) = false := b2i_e0 c_2
          refine lv_iinc (v := nI (k + 1)) (lv' := [(3, .int (nI (k + 1))), (2, .int (nI acc)), (0, .ref (ad 0)), (1, .int (nI h))]) hx hb dX1_livingOn_28 hl (k := 0) rfl (lh_inc _) (by decide) rfl (fun ls hl => ?_)
          refine lv_goto (tgt := 4) hx hb dX1_livingOn_31 (by decide) ?_
          exact ih4 (k + 1) acc (by omega) (by omega) (by first | exact lh_mkt hacc (by simp [c_1, c_2]) | exact lh_mkf hacc (by simp [c_1, c_2]) | exact lh_mk0 hacc (by simp [c_1, c_2])) _ _ hP hD hS ls (lv_sub hl [0, 1, 2, 3] rfl)
        · have c_2 : (lvo u k h) = true := b2i_n0 c_2
          refine lv_iload_n hx hb dX1_livingOn_21 rfl (lv_at hl 1 rfl) ?_
          refine lv_iload_n hx hb dX1_livingOn_22 rfl (lv_at hl 0 rfl) ?_
          refine lh_cSi ⟨hx, hb, hml, hown, hts⟩ (kX1_bit l D _ _ k (by omega)) (va_cwS 1 hts gX1_livingOn_X1_bit rfl rfl rfl (by decide +kernel) ⟨Nat.le_of_ble_eq_true rfl, Nat.le_of_ble_eq_true rfl⟩) hK hN hP hD hS hA rfl hl.1 rfl (Nat.le_of_ble_eq_true rfl) ⟨Nat.le_of_ble_eq_true rfl, Nat.le_of_ble_eq_true rfl⟩ dX1_livingOn_23 (fun H locs hP hD hS => ?_)
          refine lv_ior hx hb dX1_livingOn_26 ?_
          refine lh_top (y := nI (acc ||| (2 ^ k))) (fa_or _ _) ?_
          refine lv_istore_n (lv' := [(2, .int (nI (acc ||| (2 ^ k)))), (3, .int (nI k)), (0, .ref (ad 0)), (1, .int (nI h))]) hx hb dX1_livingOn_27 rfl hl (by decide) rfl (fun ls hl => ?_)
          refine lv_iinc (v := nI (k + 1)) (lv' := [(3, .int (nI (k + 1))), (2, .int (nI (acc ||| (2 ^ k)))), (0, .ref (ad 0)), (1, .int (nI h))]) hx hb dX1_livingOn_28 hl (k := 1) rfl (lh_inc _) (by decide) rfl (fun ls hl => ?_)
          refine lv_goto (tgt := 4) hx hb dX1_livingOn_31 (by decide) ?_
          exact ih4 (k + 1) (acc ||| (2 ^ k)) (by omega) (by omega) (by first | exact lh_mkt hacc (by simp [c_1, c_2]) | exact lh_mkf hacc (by simp [c_1, c_2]) | exact lh_mk0 hacc (by simp [c_1, c_2])) _ _ hP hD hS ls (lv_sub hl [0, 1, 2, 3] rfl)
  exact L4 _ 0 0 (Nat.lt_succ_self _) (by omega) (by rfl) _ _ hP hD hS ls (lv_sub hl [0, 1, 2, 3] rfl)
set_option maxRecDepth 100000 in
set_option maxHeartbeats 4000000 in
theorem kX1_linkedFrom (l : Launch) (D : va_G) (cI : ClassId) (ad : Nat → Nat) (u : XS) (a : Nat) (ok : okB u) (ha : a < 10) : CI l D [(cI, .int)] yX1_linkedFrom wsX1_linkedFrom ({ frames := 2, cells := 0, slots := 0, locals := 43 }) [.ref (ad 0), .int (nI a)] (wX cI ad u) (wX cI ad u) (nI (frO u a)) := by
  obtain ⟨hM, hW, hHo, hAb, hLb, hRb, hDb⟩ := id ok
  refine lh_CIof (cc := cX1_linkedFrom) (maxL := 4) (ret := (some .int)) (own := RX1) (by decide) rfl rfl (Nat.le_of_ble_eq_true rfl) ?_
  intro p e s m below meth c A ls hx hb hr hlk hts hown hml hK hN hA hP hD hS hl
  have fX1_35 := hts (.fieldLink RX1 35 "LostHosts" "made" "I") (by decide +kernel)
  have hinX1 : ∀ w ∈ u_ws RX1 TX1 10, w ∈ wsX1_linkedFrom := by decide +kernel
  have hl : lv_has ls 4 [(0, .ref (ad 0)), (1, .int (nI a))] := hl
  refine lv_iconst (v := nI 0) hx hb dX1_linkedFrom_0 (by decide) ?_
  refine lv_istore_n (lv' := [(2, .int (nI 0)), (0, .ref (ad 0)), (1, .int (nI a))]) hx hb dX1_linkedFrom_1 rfl hl (by decide) rfl (fun ls hl => ?_)
  refine lv_iconst (v := nI 0) hx hb dX1_linkedFrom_2 (by decide) ?_
  refine lv_istore_n (lv' := [(3, .int (nI 0)), (2, .int (nI 0)), (0, .ref (ad 0)), (1, .int (nI a))]) hx hb dX1_linkedFrom_3 rfl hl (by decide) rfl (fun ls hl => ?_)
  have L4 : ∀ (n : Nat) (k : Nat) (acc : Nat), xM u - k < n → (k ≤ xM u) → (acc = mk (fun b => lnk u a b) k) → ∀ (H : Heap) (locs : List Loc), va_P D vwCl (wX cI ad u) H → va_D A (wX cI ad u) → va_S A s.heap H locs → ∀ (ls : Array Slot), lv_has ls 4 [(3, .int (nI k)), (2, .int (nI acc)), (0, .ref (ad 0)), (1, .int (nI a))] → W p l e ({ frames := 2, cells := 0, slots := 0, locals := 43 }) s m [.ref (ad 0), .int (nI a)].toArray below meth c H locs 0 0 (QI below D [(cI, .int)] A (wX cI ad u) (nI (frO u a)) [.ref (ad 0), .int (nI a)].toArray s) (F0 m 4 ls []) := by
    intro n
    induction n with
    | zero => intro k acc hmu; exact absurd hmu (Nat.not_lt_zero _)
    | succ n ih4 =>
      intro k acc hmu4 hk hacc H locs hP hD hS ls hl
      refine lv_iload_n hx hb dX1_linkedFrom_4 rfl (lv_at hl 0 rfl) ?_
      refine lv_aload_n hx hb dX1_linkedFrom_5 rfl (lv_at hl 2 rfl) ?_
      refine va_get (D := D) (ci := 1) (v := .int (nI (xM u))) (C := RX1) (T := TX1) (N := 10) hx hb hts hinX1 hown hK hP 0 rfl rfl 5 (by decide) fX1_35 (fun _ h9 => h9) rfl dX1_linkedFrom_6 ?_
      refine lv_icmp_ge (tgt := 34) hx hb dX1_linkedFrom_9 (by decide) (fun c_1 => ?_) (fun c_1 => ?_)
      · have c_1 : xM u ≤ k := (nI_leI (by omega) (by omega)).mp c_1
        have c_1n : ¬ k < xM u := by omega
        refine lv_iload_n hx hb dX1_linkedFrom_34 rfl (lv_at hl 1 rfl) ?_
        exact lh_ri hx hb hr hlk hK hP hD hS (by rw [hacc, show k = xM u by omega]; rfl) rfl dX1_linkedFrom_35
      · have c_1 : k < xM u := Nat.lt_of_not_le (fun h => c_1 ((nI_leI (by omega) (by omega)).mpr h))
        refine lv_aload_n hx hb dX1_linkedFrom_12 rfl (lv_at hl 2 rfl) ?_
        refine lv_iload_n hx hb dX1_linkedFrom_13 rfl (lv_at hl 3 rfl) ?_
        refine lv_iload_n hx hb dX1_linkedFrom_14 rfl (lv_at hl 0 rfl) ?_
        refine lh_cVi ⟨hx, hb, hml, hown, hts⟩ (kX1_hasLink l D cI ad u a k (by omega) (by omega)) (cwV 2 hts gX1_linkedFrom_X1_hasLink rfl rfl rfl (by decide +kernel) ⟨Nat.le_of_ble_eq_true rfl, Nat.le_of_ble_eq_true rfl⟩) hK hN hP hD hS hA 0 1 rfl rfl rfl rfl hl.1 rfl (Nat.le_of_ble_eq_true rfl) ⟨Nat.le_of_ble_eq_true rfl, Nat.le_of_ble_eq_true rfl⟩ dX1_linkedFrom_15 (fun H locs hP hD hS => ?_)
        refine lv_if_eq (tgt := 28) hx hb dX1_linkedFrom_18 (by decide) (fun c_2 => ?_) (fun c_2 => ?_)
        · have c_2 : (lnk u a k) = false := b2i_e0 c_2
          refine lv_iinc (v := nI (k + 1)) (lv' := [(3, .int (nI (k + 1))), (2, .int (nI acc)), (0, .ref (ad 0)), (1, .int (nI a))]) hx hb dX1_linkedFrom_28 hl (k := 0) rfl (lh_inc _) (by decide) rfl (fun ls hl => ?_)
          refine lv_goto (tgt := 4) hx hb dX1_linkedFrom_31 (by decide) ?_
          exact ih4 (k + 1) acc (by omega) (by omega) (by first | exact lh_mkt hacc (by simp [c_1, c_2]) | exact lh_mkf hacc (by simp [c_1, c_2]) | exact lh_mk0 hacc (by simp [c_1, c_2])) _ _ hP hD hS ls (lv_sub hl [0, 1, 2, 3] rfl)
        · have c_2 : (lnk u a k) = true := b2i_n0 c_2
          refine lv_iload_n hx hb dX1_linkedFrom_21 rfl (lv_at hl 1 rfl) ?_
          refine lv_iload_n hx hb dX1_linkedFrom_22 rfl (lv_at hl 0 rfl) ?_
          refine lh_cSi ⟨hx, hb, hml, hown, hts⟩ (kX1_bit l D _ _ k (by omega)) (va_cwS 1 hts gX1_linkedFrom_X1_bit rfl rfl rfl (by decide +kernel) ⟨Nat.le_of_ble_eq_true rfl, Nat.le_of_ble_eq_true rfl⟩) hK hN hP hD hS hA rfl hl.1 rfl (Nat.le_of_ble_eq_true rfl) ⟨Nat.le_of_ble_eq_true rfl, Nat.le_of_ble_eq_true rfl⟩ dX1_linkedFrom_23 (fun H locs hP hD hS => ?_)
          refine lv_ior hx hb dX1_linkedFrom_26 ?_
          refine lh_top (y := nI (acc ||| (2 ^ k))) (fa_or _ _) ?_
          refine lv_istore_n (lv' := [(2, .int (nI (acc ||| (2 ^ k)))), (3, .int (nI k)), (0, .ref (ad 0)), (1, .int (nI a))]) hx hb dX1_linkedFrom_27 rfl hl (by decide) rfl (fun ls hl => ?_)
          refine lv_iinc (v := nI (k + 1)) (lv' := [(3, .int (nI (k + 1))), (2, .int (nI (acc ||| (2 ^ k)))), (0, .ref (ad 0)), (1, .int (nI a))]) hx hb dX1_linkedFrom_28 hl (k := 1) rfl (lh_inc _) (by decide) rfl (fun ls hl => ?_)
          refine lv_goto (tgt := 4) hx hb dX1_linkedFrom_31 (by decide) ?_
          exact ih4 (k + 1) (acc ||| (2 ^ k)) (by omega) (by omega) (by first | exact lh_mkt hacc (by simp [c_1, c_2]) | exact lh_mkf hacc (by simp [c_1, c_2]) | exact lh_mk0 hacc (by simp [c_1, c_2])) _ _ hP hD hS ls (lv_sub hl [0, 1, 2, 3] rfl)
  exact L4 _ 0 0 (Nat.lt_succ_self _) (by omega) (by rfl) _ _ hP hD hS ls (lv_sub hl [0, 1, 2, 3] rfl)
set_option maxRecDepth 100000 in
set_option maxHeartbeats 4000000 in
theorem kX1_linkedTo (l : Launch) (D : va_G) (cI : ClassId) (ad : Nat → Nat) (u : XS) (b : Nat) (ok : okB u) (ha : b < 10) : CI l D [(cI, .int)] yX1_linkedTo wsX1_linkedTo ({ frames := 2, cells := 0, slots := 0, locals := 43 }) [.ref (ad 0), .int (nI b)] (wX cI ad u) (wX cI ad u) (nI (toO u b)) := by
  obtain ⟨hM, hW, hHo, hAb, hLb, hRb, hDb⟩ := id ok
  refine lh_CIof (cc := cX1_linkedTo) (maxL := 4) (ret := (some .int)) (own := RX1) (by decide) rfl rfl (Nat.le_of_ble_eq_true rfl) ?_
  intro p e s m below meth c A ls hx hb hr hlk hts hown hml hK hN hA hP hD hS hl
  have fX1_35 := hts (.fieldLink RX1 35 "LostHosts" "made" "I") (by decide +kernel)
  have hinX1 : ∀ w ∈ u_ws RX1 TX1 10, w ∈ wsX1_linkedTo := by decide +kernel
  have hl : lv_has ls 4 [(0, .ref (ad 0)), (1, .int (nI b))] := hl
  refine lv_iconst (v := nI 0) hx hb dX1_linkedTo_0 (by decide) ?_
  refine lv_istore_n (lv' := [(2, .int (nI 0)), (0, .ref (ad 0)), (1, .int (nI b))]) hx hb dX1_linkedTo_1 rfl hl (by decide) rfl (fun ls hl => ?_)
  refine lv_iconst (v := nI 0) hx hb dX1_linkedTo_2 (by decide) ?_
  refine lv_istore_n (lv' := [(3, .int (nI 0)), (2, .int (nI 0)), (0, .ref (ad 0)), (1, .int (nI b))]) hx hb dX1_linkedTo_3 rfl hl (by decide) rfl (fun ls hl => ?_)
  have L4 : ∀ (n : Nat) (k : Nat) (acc : Nat), xM u - k < n → (k ≤ xM u) → (acc = mk (fun a => lnk u a b) k) → ∀ (H : Heap) (locs : List Loc), va_P D vwCl (wX cI ad u) H → va_D A (wX cI ad u) → va_S A s.heap H locs → ∀ (ls : Array Slot), lv_has ls 4 [(3, .int (nI k)), (2, .int (nI acc)), (0, .ref (ad 0)), (1, .int (nI b))] → W p l e ({ frames := 2, cells := 0, slots := 0, locals := 43 }) s m [.ref (ad 0), .int (nI b)].toArray below meth c H locs 0 0 (QI below D [(cI, .int)] A (wX cI ad u) (nI (toO u b)) [.ref (ad 0), .int (nI b)].toArray s) (F0 m 4 ls []) := by
    intro n
    induction n with
    | zero => intro k acc hmu; exact absurd hmu (Nat.not_lt_zero _)
    | succ n ih4 =>
      intro k acc hmu4 hk hacc H locs hP hD hS ls hl
      refine lv_iload_n hx hb dX1_linkedTo_4 rfl (lv_at hl 0 rfl) ?_
      refine lv_aload_n hx hb dX1_linkedTo_5 rfl (lv_at hl 2 rfl) ?_
      refine va_get (D := D) (ci := 1) (v := .int (nI (xM u))) (C := RX1) (T := TX1) (N := 10) hx hb hts hinX1 hown hK hP 0 rfl rfl 5 (by decide) fX1_35 (fun _ h9 => h9) rfl dX1_linkedTo_6 ?_
      refine lv_icmp_ge (tgt := 34) hx hb dX1_linkedTo_9 (by decide) (fun c_1 => ?_) (fun c_1 => ?_)
      · have c_1 : xM u ≤ k := (nI_leI (by omega) (by omega)).mp c_1
        have c_1n : ¬ k < xM u := by omega
        refine lv_iload_n hx hb dX1_linkedTo_34 rfl (lv_at hl 1 rfl) ?_
        exact lh_ri hx hb hr hlk hK hP hD hS (by rw [hacc, show k = xM u by omega]; rfl) rfl dX1_linkedTo_35
      · have c_1 : k < xM u := Nat.lt_of_not_le (fun h => c_1 ((nI_leI (by omega) (by omega)).mpr h))
        refine lv_aload_n hx hb dX1_linkedTo_12 rfl (lv_at hl 2 rfl) ?_
        refine lv_iload_n hx hb dX1_linkedTo_13 rfl (lv_at hl 0 rfl) ?_
        refine lv_iload_n hx hb dX1_linkedTo_14 rfl (lv_at hl 3 rfl) ?_
        refine lh_cVi ⟨hx, hb, hml, hown, hts⟩ (kX1_hasLink l D cI ad u k b (by omega) (by omega)) (cwV 2 hts gX1_linkedTo_X1_hasLink rfl rfl rfl (by decide +kernel) ⟨Nat.le_of_ble_eq_true rfl, Nat.le_of_ble_eq_true rfl⟩) hK hN hP hD hS hA 0 1 rfl rfl rfl rfl hl.1 rfl (Nat.le_of_ble_eq_true rfl) ⟨Nat.le_of_ble_eq_true rfl, Nat.le_of_ble_eq_true rfl⟩ dX1_linkedTo_15 (fun H locs hP hD hS => ?_)
        refine lv_if_eq (tgt := 28) hx hb dX1_linkedTo_18 (by decide) (fun c_2 => ?_) (fun c_2 => ?_)
        · have c_2 : (lnk u k b) = false := b2i_e0 c_2
          refine lv_iinc (v := nI (k + 1)) (lv' := [(3, .int (nI (k + 1))), (2, .int (nI acc)), (0, .ref (ad 0)), (1, .int (nI b))]) hx hb dX1_linkedTo_28 hl (k := 0) rfl (lh_inc _) (by decide) rfl (fun ls hl => ?_)
          refine lv_goto (tgt := 4) hx hb dX1_linkedTo_31 (by decide) ?_
          exact ih4 (k + 1) acc (by omega) (by omega) (by first | exact lh_mkt hacc (by simp [c_1, c_2]) | exact lh_mkf hacc (by simp [c_1, c_2]) | exact lh_mk0 hacc (by simp [c_1, c_2])) _ _ hP hD hS ls (lv_sub hl [0, 1, 2, 3] rfl)
        · have c_2 : (lnk u k b) = true := b2i_n0 c_2
          refine lv_iload_n hx hb dX1_linkedTo_21 rfl (lv_at hl 1 rfl) ?_
          refine lv_iload_n hx hb dX1_linkedTo_22 rfl (lv_at hl 0 rfl) ?_
          refine lh_cSi ⟨hx, hb, hml, hown, hts⟩ (kX1_bit l D _ _ k (by omega)) (va_cwS 1 hts gX1_linkedTo_X1_bit rfl rfl rfl (by decide +kernel) ⟨Nat.le_of_ble_eq_true rfl, Nat.le_of_ble_eq_true rfl⟩) hK hN hP hD hS hA rfl hl.1 rfl (Nat.le_of_ble_eq_true rfl) ⟨Nat.le_of_ble_eq_true rfl, Nat.le_of_ble_eq_true rfl⟩ dX1_linkedTo_23 (fun H locs hP hD hS => ?_)
          refine lv_ior hx hb dX1_linkedTo_26 ?_
          refine lh_top (y := nI (acc ||| (2 ^ k))) (fa_or _ _) ?_
          refine lv_istore_n (lv' := [(2, .int (nI (acc ||| (2 ^ k)))), (3, .int (nI k)), (0, .ref (ad 0)), (1, .int (nI b))]) hx hb dX1_linkedTo_27 rfl hl (by decide) rfl (fun ls hl => ?_)
          refine lv_iinc (v := nI (k + 1)) (lv' := [(3, .int (nI (k + 1))), (2, .int (nI (acc ||| (2 ^ k)))), (0, .ref (ad 0)), (1, .int (nI b))]) hx hb dX1_linkedTo_28 hl (k := 1) rfl (lh_inc _) (by decide) rfl (fun ls hl => ?_)
          refine lv_goto (tgt := 4) hx hb dX1_linkedTo_31 (by decide) ?_
          exact ih4 (k + 1) (acc ||| (2 ^ k)) (by omega) (by omega) (by first | exact lh_mkt hacc (by simp [c_1, c_2]) | exact lh_mkf hacc (by simp [c_1, c_2]) | exact lh_mk0 hacc (by simp [c_1, c_2])) _ _ hP hD hS ls (lv_sub hl [0, 1, 2, 3] rfl)
  exact L4 _ 0 0 (Nat.lt_succ_self _) (by omega) (by rfl) _ _ hP hD hS ls (lv_sub hl [0, 1, 2, 3] rfl)
set_option maxRecDepth 100000 in
set_option maxHeartbeats 4000000 in
theorem kX1_nearLinks (l : Launch) (D : va_G) (cI : ClassId) (ad : Nat → Nat) (u : XS) : CI l D [(cI, .int)] yX1_nearLinks wsX1_nearLinks ({ frames := 0, cells := 0, slots := 0, locals := 0 }) [.ref (ad 0)] (wX cI ad u) (wX cI ad u) (nI (cnt (fun x => decide (xLi u x = 0)) 100)) := by
  refine lh_CIof (cc := cX1_nearLinks) (maxL := 3) (ret := (some .int)) (own := RX1) (by decide) rfl rfl (Nat.le_of_ble_eq_true rfl) ?_
  intro p e s m below meth c A ls hx hb hr hlk hts hown hml hK hN hA hP hD hS hl
  have fX1_19 := hts (.fieldLink RX1 19 "LostHosts" "links" "[I") (by decide +kernel)
  have hinX1 : ∀ w ∈ u_ws RX1 TX1 10, w ∈ wsX1_nearLinks := by decide +kernel
  have hl : lv_has ls 3 [(0, .ref (ad 0))] := hl
  refine lv_iconst (v := nI 0) hx hb dX1_nearLinks_0 (by decide) ?_
  refine lv_istore_n (lv' := [(1, .int (nI 0)), (0, .ref (ad 0))]) hx hb dX1_nearLinks_1 rfl hl (by decide) rfl (fun ls hl => ?_)
  refine lv_iconst (v := nI 0) hx hb dX1_nearLinks_2 (by decide) ?_
  refine lv_istore_n (lv' := [(2, .int (nI 0)), (1, .int (nI 0)), (0, .ref (ad 0))]) hx hb dX1_nearLinks_3 rfl hl (by decide) rfl (fun ls hl => ?_)
  have L4 : ∀ (n : Nat) (k : Nat) (acc : Nat), 100 - k < n → (k ≤ 100) → (acc = cnt (fun x => decide (xLi u x = 0)) k) → ∀ (H : Heap) (locs : List Loc), va_P D vwCl (wX cI ad u) H → va_D A (wX cI ad u) → va_S A s.heap H locs → ∀ (ls : Array Slot), lv_has ls 3 [(2, .int (nI k)), (1, .int (nI acc)), (0, .ref (ad 0))] → W p l e ({ frames := 0, cells := 0, slots := 0, locals := 0 }) s m [.ref (ad 0)].toArray below meth c H locs 0 0 (QI below D [(cI, .int)] A (wX cI ad u) (nI (cnt (fun x => decide (xLi u x = 0)) 100)) [.ref (ad 0)].toArray s) (F0 m 4 ls []) := by
    intro n
    induction n with
    | zero => intro k acc hmu; exact absurd hmu (Nat.not_lt_zero _)
    | succ n ih4 =>
      intro k acc hmu4 hk hacc H locs hP hD hS ls hl
      refine lv_iload_n hx hb dX1_nearLinks_4 rfl (lv_at hl 0 rfl) ?_
      refine lv_aload_n hx hb dX1_nearLinks_5 rfl (lv_at hl 2 rfl) ?_
      refine va_get (D := D) (ci := 1) (v := .ref (ad 4)) (C := RX1) (T := TX1) (N := 10) hx hb hts hinX1 hown hK hP 0 rfl rfl 3 (by decide) fX1_19 (fun _ h9 => h9) rfl dX1_nearLinks_6 ?_
      refine va_alen (v := nI 100) hx hb hK hP 4 0 rfl rfl rfl dX1_nearLinks_9 ?_
      refine lv_icmp_ge (tgt := 31) hx hb dX1_nearLinks_10 (by decide) (fun c_1 => ?_) (fun c_1 => ?_)
      · have c_1 : 100 ≤ k := (nI_leI (by omega) (by omega)).mp c_1
        have c_1n : ¬ k < 100 := by omega
        refine lv_iload_n hx hb dX1_nearLinks_31 rfl (lv_at hl 1 rfl) ?_
        exact lh_ri hx hb hr hlk hK hP hD hS (by rw [hacc, show k = 100 by omega]) rfl dX1_nearLinks_32
      · have c_1 : k < 100 := Nat.lt_of_not_le (fun h => c_1 ((nI_leI (by omega) (by omega)).mpr h))
        refine lv_aload_n hx hb dX1_nearLinks_13 rfl (lv_at hl 2 rfl) ?_
        refine va_get (D := D) (ci := 1) (v := .ref (ad 4)) (C := RX1) (T := TX1) (N := 10) hx hb hts hinX1 hown hK hP 0 rfl rfl 3 (by decide) fX1_19 (fun _ h9 => h9) rfl dX1_nearLinks_14 ?_
        refine lv_iload_n hx hb dX1_nearLinks_17 rfl (lv_at hl 0 rfl) ?_
        refine lh_ild (k := k) (N := 100) hx hb hK hP 4 0 rfl rfl (by omega) (by decide) dX1_nearLinks_18 ?_
        refine W.eq (g2 := F0 m 19 ls (.int ((xLi u k)) :: [])) rfl ?_
        refine lv_if_ne (tgt := 25) hx hb dX1_nearLinks_19 (by decide) (fun c_2 => ?_) (fun c_2 => ?_)
        · have c_2r := c_2
          refine lv_iinc (v := nI (k + 1)) (lv' := [(2, .int (nI (k + 1))), (1, .int (nI acc)), (0, .ref (ad 0))]) hx hb dX1_nearLinks_25 hl (k := 0) rfl (lh_inc _) (by decide) rfl (fun ls hl => ?_)
          refine lv_goto (tgt := 4) hx hb dX1_nearLinks_28 (by decide) ?_
          exact ih4 (k + 1) acc (by omega) (by omega) (by first | exact lh_cntt hacc (by simp [c_1, c_2]) | exact lh_cntf hacc (by simp [c_1, c_2])) _ _ hP hD hS ls (lv_sub hl [0, 1, 2] rfl)
        · have c_2r := c_2
          refine lv_iinc (v := nI (acc + 1)) (lv' := [(1, .int (nI (acc + 1))), (2, .int (nI k)), (0, .ref (ad 0))]) hx hb dX1_nearLinks_22 hl (k := 1) rfl (lh_inc _) (by decide) rfl (fun ls hl => ?_)
          refine lv_iinc (v := nI (k + 1)) (lv' := [(2, .int (nI (k + 1))), (1, .int (nI (acc + 1))), (0, .ref (ad 0))]) hx hb dX1_nearLinks_25 hl (k := 1) rfl (lh_inc _) (by decide) rfl (fun ls hl => ?_)
          refine lv_goto (tgt := 4) hx hb dX1_nearLinks_28 (by decide) ?_
          exact ih4 (k + 1) (acc + 1) (by omega) (by omega) (by first | exact lh_cntt hacc (by simp [c_1, c_2]) | exact lh_cntf hacc (by simp [c_1, c_2])) _ _ hP hD hS ls (lv_sub hl [0, 1, 2] rfl)
  exact L4 _ 0 0 (Nat.lt_succ_self _) (by omega) (by rfl) _ _ hP hD hS ls (lv_sub hl [0, 1, 2] rfl)
set_option maxRecDepth 100000 in
set_option maxHeartbeats 4000000 in
theorem kX1_farLinks (l : Launch) (D : va_G) (cI : ClassId) (ad : Nat → Nat) (u : XS) : CI l D [(cI, .int)] yX1_farLinks wsX1_farLinks ({ frames := 0, cells := 0, slots := 0, locals := 0 }) [.ref (ad 0)] (wX cI ad u) (wX cI ad u) (nI (cnt (fun x => !decide (xLi u x ≤ 0)) 100)) := by
  refine lh_CIof (cc := cX1_farLinks) (maxL := 3) (ret := (some .int)) (own := RX1) (by decide) rfl rfl (Nat.le_of_ble_eq_true rfl) ?_
  intro p e s m below meth c A ls hx hb hr hlk hts hown hml hK hN hA hP hD hS hl
  have fX1_19 := hts (.fieldLink RX1 19 "LostHosts" "links" "[I") (by decide +kernel)
  have hinX1 : ∀ w ∈ u_ws RX1 TX1 10, w ∈ wsX1_farLinks := by decide +kernel
  have hl : lv_has ls 3 [(0, .ref (ad 0))] := hl
  refine lv_iconst (v := nI 0) hx hb dX1_farLinks_0 (by decide) ?_
  refine lv_istore_n (lv' := [(1, .int (nI 0)), (0, .ref (ad 0))]) hx hb dX1_farLinks_1 rfl hl (by decide) rfl (fun ls hl => ?_)
  refine lv_iconst (v := nI 0) hx hb dX1_farLinks_2 (by decide) ?_
  refine lv_istore_n (lv' := [(2, .int (nI 0)), (1, .int (nI 0)), (0, .ref (ad 0))]) hx hb dX1_farLinks_3 rfl hl (by decide) rfl (fun ls hl => ?_)
  have L4 : ∀ (n : Nat) (k : Nat) (acc : Nat), 100 - k < n → (k ≤ 100) → (acc = cnt (fun x => !decide (xLi u x ≤ 0)) k) → ∀ (H : Heap) (locs : List Loc), va_P D vwCl (wX cI ad u) H → va_D A (wX cI ad u) → va_S A s.heap H locs → ∀ (ls : Array Slot), lv_has ls 3 [(2, .int (nI k)), (1, .int (nI acc)), (0, .ref (ad 0))] → W p l e ({ frames := 0, cells := 0, slots := 0, locals := 0 }) s m [.ref (ad 0)].toArray below meth c H locs 0 0 (QI below D [(cI, .int)] A (wX cI ad u) (nI (cnt (fun x => !decide (xLi u x ≤ 0)) 100)) [.ref (ad 0)].toArray s) (F0 m 4 ls []) := by
    intro n
    induction n with
    | zero => intro k acc hmu; exact absurd hmu (Nat.not_lt_zero _)
    | succ n ih4 =>
      intro k acc hmu4 hk hacc H locs hP hD hS ls hl
      refine lv_iload_n hx hb dX1_farLinks_4 rfl (lv_at hl 0 rfl) ?_
      refine lv_aload_n hx hb dX1_farLinks_5 rfl (lv_at hl 2 rfl) ?_
      refine va_get (D := D) (ci := 1) (v := .ref (ad 4)) (C := RX1) (T := TX1) (N := 10) hx hb hts hinX1 hown hK hP 0 rfl rfl 3 (by decide) fX1_19 (fun _ h9 => h9) rfl dX1_farLinks_6 ?_
      refine va_alen (v := nI 100) hx hb hK hP 4 0 rfl rfl rfl dX1_farLinks_9 ?_
      refine lv_icmp_ge (tgt := 31) hx hb dX1_farLinks_10 (by decide) (fun c_1 => ?_) (fun c_1 => ?_)
      · have c_1 : 100 ≤ k := (nI_leI (by omega) (by omega)).mp c_1
        have c_1n : ¬ k < 100 := by omega
        refine lv_iload_n hx hb dX1_farLinks_31 rfl (lv_at hl 1 rfl) ?_
        exact lh_ri hx hb hr hlk hK hP hD hS (by rw [hacc, show k = 100 by omega]) rfl dX1_farLinks_32
      · have c_1 : k < 100 := Nat.lt_of_not_le (fun h => c_1 ((nI_leI (by omega) (by omega)).mpr h))
        refine lv_aload_n hx hb dX1_farLinks_13 rfl (lv_at hl 2 rfl) ?_
        refine va_get (D := D) (ci := 1) (v := .ref (ad 4)) (C := RX1) (T := TX1) (N := 10) hx hb hts hinX1 hown hK hP 0 rfl rfl 3 (by decide) fX1_19 (fun _ h9 => h9) rfl dX1_farLinks_14 ?_
        refine lv_iload_n hx hb dX1_farLinks_17 rfl (lv_at hl 0 rfl) ?_
        refine lh_ild (k := k) (N := 100) hx hb hK hP 4 0 rfl rfl (by omega) (by decide) dX1_farLinks_18 ?_
        refine W.eq (g2 := F0 m 19 ls (.int ((xLi u k)) :: [])) rfl ?_
        refine lv_if_le (tgt := 25) hx hb dX1_farLinks_19 (by decide) (fun c_2 => ?_) (fun c_2 => ?_)
        · have c_2r := c_2
          refine lv_iinc (v := nI (k + 1)) (lv' := [(2, .int (nI (k + 1))), (1, .int (nI acc)), (0, .ref (ad 0))]) hx hb dX1_farLinks_25 hl (k := 0) rfl (lh_inc _) (by decide) rfl (fun ls hl => ?_)
          refine lv_goto (tgt := 4) hx hb dX1_farLinks_28 (by decide) ?_
          exact ih4 (k + 1) acc (by omega) (by omega) (by first | exact lh_cntt hacc (by simp [c_1, c_2]) | exact lh_cntf hacc (by simp [c_1, c_2])) _ _ hP hD hS ls (lv_sub hl [0, 1, 2] rfl)
        · have c_2r := c_2
          refine lv_iinc (v := nI (acc + 1)) (lv' := [(1, .int (nI (acc + 1))), (2, .int (nI k)), (0, .ref (ad 0))]) hx hb dX1_farLinks_22 hl (k := 1) rfl (lh_inc _) (by decide) rfl (fun ls hl => ?_)
          refine lv_iinc (v := nI (k + 1)) (lv' := [(2, .int (nI (k + 1))), (1, .int (nI (acc + 1))), (0, .ref (ad 0))]) hx hb dX1_farLinks_25 hl (k := 1) rfl (lh_inc _) (by decide) rfl (fun ls hl => ?_)
          refine lv_goto (tgt := 4) hx hb dX1_farLinks_28 (by decide) ?_
          exact ih4 (k + 1) (acc + 1) (by omega) (by omega) (by first | exact lh_cntt hacc (by simp [c_1, c_2]) | exact lh_cntf hacc (by simp [c_1, c_2])) _ _ hP hD hS ls (lv_sub hl [0, 1, 2] rfl)
  exact L4 _ 0 0 (Nat.lt_succ_self _) (by omega) (by rfl) _ _ hP hD hS ls (lv_sub hl [0, 1, 2] rfl)
set_option maxRecDepth 100000 in
set_option maxHeartbeats 4000000 in
theorem kX1_withNear (l : Launch) (D : va_G) (cI : ClassId) (ad : Nat → Nat) (u : XS) (x : Nat) (hx9 : x < 1024) : CI l D [(cI, .int)] yX1_withNear wsX1_withNear ({ frames := 2, cells := 0, slots := 0, locals := 41 }) [.ref (ad 0), .int (nI x)] (wX cI ad u) (wX cI ad u) (nI (clo (nearR u) x)) := by
  refine lh_CIof (cc := cX1_withNear) (maxL := 5) (ret := (some .int)) (own := RX1) (by decide) rfl rfl (Nat.le_of_ble_eq_true rfl) ?_
  intro p e s m below meth c A ls hx hb hr hlk hts hown hml hK hN hA hP hD hS hl
  have fX1_19 := hts (.fieldLink RX1 19 "LostHosts" "links" "[I") (by decide +kernel)
  have hinX1 : ∀ w ∈ u_ws RX1 TX1 10, w ∈ wsX1_withNear := by decide +kernel
  have hl : lv_has ls 5 [(0, .ref (ad 0)), (1, .int (nI x))] := hl
  refine lv_iload_n hx hb dX1_withNear_0 rfl (lv_at hl 1 rfl) ?_
  refine lv_istore_n (lv' := [(2, .int (nI x)), (0, .ref (ad 0)), (1, .int (nI x))]) hx hb dX1_withNear_1 rfl hl (by decide) rfl (fun ls hl => ?_)
  refine lv_iconst (v := nI 0) hx hb dX1_withNear_2 (by decide) ?_
  refine lv_istore_n (lv' := [(3, .int (nI 0)), (2, .int (nI x)), (0, .ref (ad 0)), (1, .int (nI x))]) hx hb dX1_withNear_3 rfl hl (by decide) rfl (fun ls hl => ?_)
  have L4 : ∀ (n : Nat) (r : Nat) (acc : Nat), 10 - r < n → (r ≤ 10) → (acc = rep (fol (nstep u) 100) r x) → ∀ (H : Heap) (locs : List Loc), va_P D vwCl (wX cI ad u) H → va_D A (wX cI ad u) → va_S A s.heap H locs → ∀ (ls : Array Slot), lv_has ls 5 [(3, .int (nI r)), (2, .int (nI acc)), (0, .ref (ad 0)), (1, .int (nI x))] → W p l e ({ frames := 2, cells := 0, slots := 0, locals := 41 }) s m [.ref (ad 0), .int (nI x)].toArray below meth c H locs 0 0 (QI below D [(cI, .int)] A (wX cI ad u) (nI (clo (nearR u) x)) [.ref (ad 0), .int (nI x)].toArray s) (F0 m 4 ls []) := by
    intro n
    induction n with
    | zero => intro r acc hmu; exact absurd hmu (Nat.not_lt_zero _)
    | succ n ih4 =>
      intro r acc hmu4 hr9 hacc H locs hP hD hS ls hl
      refine lv_iload_n hx hb dX1_withNear_4 rfl (lv_at hl 0 rfl) ?_
      refine lv_bipush (v := nI 10) hx hb dX1_withNear_5 (by decide) ?_
      refine lv_icmp_ge (tgt := 68) hx hb dX1_withNear_7 (by decide) (fun c_1 => ?_) (fun c_1 => ?_)
      · have c_1 : 10 ≤ r := (nI_leI (by omega) (by omega)).mp c_1
        have c_1n : ¬ r < 10 := by omega
        refine lv_iload_n hx hb dX1_withNear_68 rfl (lv_at hl 1 rfl) ?_
        exact lh_ri hx hb hr hlk hK hP hD hS (by rw [hacc, show r = 10 by omega]; exact congrArg nI (nrnd hx9)) rfl dX1_withNear_69
      · have c_1 : r < 10 := Nat.lt_of_not_le (fun h => c_1 ((nI_leI (by omega) (by omega)).mpr h))
        refine lv_iconst (v := nI 0) hx hb dX1_withNear_10 (by decide) ?_
        refine lv_istore (lv' := [(4, .int (nI 0)), (3, .int (nI r)), (2, .int (nI acc)), (0, .ref (ad 0)), (1, .int (nI x))]) hx hb dX1_withNear_11 hl (by decide) rfl (fun ls hl => ?_)
        have L13 : ∀ (n : Nat) (i : Nat) (ac2 : Nat), 100 - i < n → (i ≤ 100) → (ac2 = fol (nstep u) i acc) → ∀ (H : Heap) (locs : List Loc), va_P D vwCl (wX cI ad u) H → va_D A (wX cI ad u) → va_S A s.heap H locs → ∀ (ls : Array Slot), lv_has ls 5 [(4, .int (nI i)), (3, .int (nI r)), (2, .int (nI ac2)), (0, .ref (ad 0)), (1, .int (nI x))] → W p l e ({ frames := 2, cells := 0, slots := 0, locals := 41 }) s m [.ref (ad 0), .int (nI x)].toArray below meth c H locs 0 0 (QI below D [(cI, .int)] A (wX cI ad u) (nI (clo (nearR u) x)) [.ref (ad 0), .int (nI x)].toArray s) (F0 m 13 ls []) := by
          intro n
          induction n with
          | zero => intro i ac2 hmu; exact absurd hmu (Nat.not_lt_zero _)
          | succ n ih13 =>
            intro i ac2 hmu13 hi hac2 H locs hP hD hS ls hl
            refine lv_iload hx hb dX1_withNear_13 (lv_at hl 0 rfl) ?_
            refine lv_aload_n hx hb dX1_withNear_15 rfl (lv_at hl 3 rfl) ?_
            refine va_get (D := D) (ci := 1) (v := .ref (ad 4)) (C := RX1) (T := TX1) (N := 10) hx hb hts hinX1 hown hK hP 0 rfl rfl 3 (by decide) fX1_19 (fun _ h9 => h9) rfl dX1_withNear_16 ?_
            refine va_alen (v := nI 100) hx hb hK hP 4 0 rfl rfl rfl dX1_withNear_19 ?_
            refine lv_icmp_ge (tgt := 62) hx hb dX1_withNear_20 (by decide) (fun c_2 => ?_) (fun c_2 => ?_)
            · have c_2 : 100 ≤ i := (nI_leI (by omega) (by omega)).mp c_2
              have c_2n : ¬ i < 100 := by omega
              refine lv_iinc (v := nI (r + 1)) (lv' := [(3, .int (nI (r + 1))), (4, .int (nI i)), (2, .int (nI ac2)), (0, .ref (ad 0)), (1, .int (nI x))]) hx hb dX1_withNear_62 hl (k := 1) rfl (lh_inc _) (by decide) rfl (fun ls hl => ?_)
              refine lv_goto (tgt := 4) hx hb dX1_withNear_65 (by decide) ?_
              exact ih4 (r + 1) ac2 (by omega) (by omega) (by rw [hac2, hacc, show i = 100 by omega]; rfl) _ _ hP hD hS ls (lv_sub hl [0, 2, 3, 4] rfl)
            · have c_2 : i < 100 := Nat.lt_of_not_le (fun h => c_2 ((nI_leI (by omega) (by omega)).mpr h))
              refine lv_aload_n hx hb dX1_withNear_23 rfl (lv_at hl 3 rfl) ?_
              refine va_get (D := D) (ci := 1) (v := .ref (ad 4)) (C := RX1) (T := TX1) (N := 10) hx hb hts hinX1 hown hK hP 0 rfl rfl 3 (by decide) fX1_19 (fun _ h9 => h9) rfl dX1_withNear_24 ?_
              refine lv_iload hx hb dX1_withNear_27 (lv_at hl 0 rfl) ?_
              refine lh_ild (k := i) (N := 100) hx hb hK hP 4 0 rfl rfl (by omega) (by decide) dX1_withNear_29 ?_
              refine W.eq (g2 := F0 m 30 ls (.int ((xLi u i)) :: [])) rfl ?_
              refine lv_if_ne (tgt := 56) hx hb dX1_withNear_30 (by decide) (fun c_3 => ?_) (fun c_3 => ?_)
              · have c_3r := c_3
                refine lv_iinc (v := nI (i + 1)) (lv' := [(4, .int (nI (i + 1))), (3, .int (nI r)), (2, .int (nI ac2)), (0, .ref (ad 0)), (1, .int (nI x))]) hx hb dX1_withNear_56 hl (k := 0) rfl (lh_inc _) (by decide) rfl (fun ls hl => ?_)
                refine lv_goto (tgt := 13) hx hb dX1_withNear_59 (by decide) ?_
                exact ih13 (i + 1) ac2 (by omega) (by omega) (by rw [hac2]; simp [fol, nstep, ← hac2, c_1, c_2, c_3]) _ _ hP hD hS ls (lv_sub hl [0, 1, 2, 3, 4] rfl)
              · have c_3r := c_3
                refine lv_iload_n hx hb dX1_withNear_33 rfl (lv_at hl 2 rfl) ?_
                refine lv_iload hx hb dX1_withNear_34 (lv_at hl 0 rfl) ?_
                refine lv_bipush (v := nI 10) hx hb dX1_withNear_36 (by decide) ?_
                refine lv_idiv hx hb dX1_withNear_38 (by decide) ?_
                refine lh_top (y := nI (i / 10)) (pk_div (by omega) (by decide) (by decide)) ?_
                refine lh_cSi ⟨hx, hb, hml, hown, hts⟩ (kX1_isIn l D _ _ ac2 (i / 10) (by omega)) (va_cwS 2 hts gX1_withNear_X1_isIn rfl rfl rfl (by decide +kernel) ⟨Nat.le_of_ble_eq_true rfl, Nat.le_of_ble_eq_true rfl⟩) hK hN hP hD hS hA rfl hl.1 rfl (Nat.le_of_ble_eq_true rfl) ⟨Nat.le_of_ble_eq_true rfl, Nat.le_of_ble_eq_true rfl⟩ dX1_withNear_39 (fun H locs hP hD hS => ?_)
                refine lv_if_eq (tgt := 56) hx hb dX1_withNear_42 (by decide) (fun c_4 => ?_) (fun c_4 => ?_)
                · have c_4 : (ac2.testBit (i / 10)) = false := b2i_e0 c_4
                  refine lv_iinc (v := nI (i + 1)) (lv' := [(4, .int (nI (i + 1))), (3, .int (nI r)), (2, .int (nI ac2)), (0, .ref (ad 0)), (1, .int (nI x))]) hx hb dX1_withNear_56 hl (k := 0) rfl (lh_inc _) (by decide) rfl (fun ls hl => ?_)
                  refine lv_goto (tgt := 13) hx hb dX1_withNear_59 (by decide) ?_
                  exact ih13 (i + 1) ac2 (by omega) (by omega) (by rw [hac2]; simp [fol, nstep, ← hac2, c_1, c_2, c_3, c_4]) _ _ hP hD hS ls (lv_sub hl [0, 1, 2, 3, 4] rfl)
                · have c_4 : (ac2.testBit (i / 10)) = true := b2i_n0 c_4
                  refine lv_iload_n hx hb dX1_withNear_45 rfl (lv_at hl 2 rfl) ?_
                  refine lv_iload hx hb dX1_withNear_46 (lv_at hl 0 rfl) ?_
                  refine lv_bipush (v := nI 10) hx hb dX1_withNear_48 (by decide) ?_
                  refine lv_irem hx hb dX1_withNear_50 (by decide) ?_
                  refine lh_top (y := nI (i % 10)) (pk_rem (by omega) (by decide) (by decide)) ?_
                  refine lh_cSi ⟨hx, hb, hml, hown, hts⟩ (kX1_bit l D _ _ (i % 10) (by omega)) (va_cwS 1 hts gX1_withNear_X1_bit rfl rfl rfl (by decide +kernel) ⟨Nat.le_of_ble_eq_true rfl, Nat.le_of_ble_eq_true rfl⟩) hK hN hP hD hS hA rfl hl.1 rfl (Nat.le_of_ble_eq_true rfl) ⟨Nat.le_of_ble_eq_true rfl, Nat.le_of_ble_eq_true rfl⟩ dX1_withNear_51 (fun H locs hP hD hS => ?_)
                  refine lv_ior hx hb dX1_withNear_54 ?_
                  refine lh_top (y := nI (ac2 ||| (2 ^ (i % 10)))) (fa_or _ _) ?_
                  refine lv_istore_n (lv' := [(2, .int (nI (ac2 ||| (2 ^ (i % 10))))), (4, .int (nI i)), (3, .int (nI r)), (0, .ref (ad 0)), (1, .int (nI x))]) hx hb dX1_withNear_55 rfl hl (by decide) rfl (fun ls hl => ?_)
                  refine lv_iinc (v := nI (i + 1)) (lv' := [(4, .int (nI (i + 1))), (2, .int (nI (ac2 ||| (2 ^ (i % 10))))), (3, .int (nI r)), (0, .ref (ad 0)), (1, .int (nI x))]) hx hb dX1_withNear_56 hl (k := 1) rfl (lh_inc _) (by decide) rfl (fun ls hl => ?_)
                  refine lv_goto (tgt := 13) hx hb dX1_withNear_59 (by decide) ?_
                  exact ih13 (i + 1) (ac2 ||| (2 ^ (i % 10))) (by omega) (by omega) (by rw [hac2]; simp [fol, nstep, ← hac2, c_1, c_2, c_3, c_4]) _ _ hP hD hS ls (lv_sub hl [0, 2, 1, 3, 4] rfl)
        exact L13 _ 0 acc (Nat.lt_succ_self _) (by omega) (by rfl) _ _ hP hD hS ls (lv_sub hl [0, 1, 2, 3, 4] rfl)
  exact L4 _ 0 x (Nat.lt_succ_self _) (by omega) (by rfl) _ _ hP hD hS ls (lv_sub hl [0, 1, 2, 3] rfl)
set_option maxRecDepth 100000 in
set_option maxHeartbeats 4000000 in
theorem kX1_staying (l : Launch) (D : va_G) (cI : ClassId) (ad : Nat → Nat) (u : XS) (h : Nat) (ok : okB u) (hh : h < 4) : CI l D [(cI, .int)] yX1_staying wsX1_staying ({ frames := 4, cells := 0, slots := 0, locals := 84 }) [.ref (ad 0), .int (nI h)] (wX cI ad u) (wX cI ad u) (nI (stay u h)) := by
  obtain ⟨hM, hW, hHo, hAb, hLb, hRb, hDb⟩ := id ok
  refine lh_CIof (cc := cX1_staying) (maxL := 4) (ret := (some .int)) (own := RX1) (by decide) rfl rfl (Nat.le_of_ble_eq_true rfl) ?_
  intro p e s m below meth c A ls hx hb hr hlk hts hown hml hK hN hA hP hD hS hl
  have fX1_35 := hts (.fieldLink RX1 35 "LostHosts" "made" "I") (by decide +kernel)
  have fX1_42 := hts (.fieldLink RX1 42 "LostHosts" "roots" "I") (by decide +kernel)
  have fX1_13 := hts (.fieldLink RX1 13 "LostHosts" "out" "[I") (by decide +kernel)
  have hinX1 : ∀ w ∈ u_ws RX1 TX1 10, w ∈ wsX1_staying := by decide +kernel
  have hl : lv_has ls 4 [(0, .ref (ad 0)), (1, .int (nI h))] := hl
  refine lv_iconst (v := nI 0) hx hb dX1_staying_0 (by decide) ?_
  refine lv_istore_n (lv' := [(2, .int (nI 0)), (0, .ref (ad 0)), (1, .int (nI h))]) hx hb dX1_staying_1 rfl hl (by decide) rfl (fun ls hl => ?_)
  refine lv_iconst (v := nI 0) hx hb dX1_staying_2 (by decide) ?_
  refine lv_istore_n (lv' := [(3, .int (nI 0)), (2, .int (nI 0)), (0, .ref (ad 0)), (1, .int (nI h))]) hx hb dX1_staying_3 rfl hl (by decide) rfl (fun ls hl => ?_)
  have L4 : ∀ (n : Nat) (k : Nat) (acc : Nat), xM u - k < n → (k ≤ xM u) → (acc = mk (fun a => lvo u a h && ((xR u).testBit a || !decide (xOu u a ≤ 0))) k) → ∀ (H : Heap) (locs : List Loc), va_P D vwCl (wX cI ad u) H → va_D A (wX cI ad u) → va_S A s.heap H locs → ∀ (ls : Array Slot), lv_has ls 4 [(3, .int (nI k)), (2, .int (nI acc)), (0, .ref (ad 0)), (1, .int (nI h))] → W p l e ({ frames := 4, cells := 0, slots := 0, locals := 84 }) s m [.ref (ad 0), .int (nI h)].toArray below meth c H locs 0 0 (QI below D [(cI, .int)] A (wX cI ad u) (nI (stay u h)) [.ref (ad 0), .int (nI h)].toArray s) (F0 m 4 ls []) := by
    intro n
    induction n with
    | zero => intro k acc hmu; exact absurd hmu (Nat.not_lt_zero _)
    | succ n ih4 =>
      intro k acc hmu4 hk hacc H locs hP hD hS ls hl
      refine lv_iload_n hx hb dX1_staying_4 rfl (lv_at hl 0 rfl) ?_
      refine lv_aload_n hx hb dX1_staying_5 rfl (lv_at hl 2 rfl) ?_
      refine va_get (D := D) (ci := 1) (v := .int (nI (xM u))) (C := RX1) (T := TX1) (N := 10) hx hb hts hinX1 hown hK hP 0 rfl rfl 5 (by decide) fX1_35 (fun _ h9 => h9) rfl dX1_staying_6 ?_
      refine lv_icmp_ge (tgt := 54) hx hb dX1_staying_9 (by decide) (fun c_1 => ?_) (fun c_1 => ?_)
      · have c_1 : xM u ≤ k := (nI_leI (by omega) (by omega)).mp c_1
        have c_1n : ¬ k < xM u := by omega
        refine lv_aload_n hx hb dX1_staying_54 rfl (lv_at hl 2 rfl) ?_
        refine lv_iload_n hx hb dX1_staying_55 rfl (lv_at hl 1 rfl) ?_
        refine lh_cVi ⟨hx, hb, hml, hown, hts⟩ (kX1_withNear l D cI ad u acc (by rw [hacc]; exact mk1024 (by omega))) (cwV 1 hts gX1_staying_X1_withNear rfl rfl rfl (by decide +kernel) ⟨Nat.le_of_ble_eq_true rfl, Nat.le_of_ble_eq_true rfl⟩) hK hN hP hD hS hA 0 1 rfl rfl rfl rfl hl.1 rfl (Nat.le_of_ble_eq_true rfl) ⟨Nat.le_of_ble_eq_true rfl, Nat.le_of_ble_eq_true rfl⟩ dX1_staying_56 (fun H locs hP hD hS => ?_)
        exact lh_ri hx hb hr hlk hK hP hD hS (by rw [hacc, show k = xM u by omega]; rfl) rfl dX1_staying_59
      · have c_1 : k < xM u := Nat.lt_of_not_le (fun h => c_1 ((nI_leI (by omega) (by omega)).mpr h))
        refine lv_aload_n hx hb dX1_staying_12 rfl (lv_at hl 2 rfl) ?_
        refine lv_iload_n hx hb dX1_staying_13 rfl (lv_at hl 0 rfl) ?_
        refine lv_iload_n hx hb dX1_staying_14 rfl (lv_at hl 3 rfl) ?_
        refine lh_cVi ⟨hx, hb, hml, hown, hts⟩ (kX1_livesOn l D cI ad u k h ok (by omega) (by omega)) (cwV 2 hts gX1_staying_X1_livesOn rfl rfl rfl (by decide +kernel) ⟨Nat.le_of_ble_eq_true rfl, Nat.le_of_ble_eq_true rfl⟩) hK hN hP hD hS hA 0 1 rfl rfl rfl rfl hl.1 rfl (Nat.le_of_ble_eq_true rfl) ⟨Nat.le_of_ble_eq_true rfl, Nat.le_of_ble_eq_true rfl⟩ dX1_staying_15 (fun H locs hP hD hS => ?_)
        refine lv_if_eq (tgt := 48) hx hb dX1_staying_18 (by decide) (fun c_2 => ?_) (fun c_2 => ?_)
        · have c_2 : (lvo u k h) = false := b2i_e0 c_2
          refine lv_iinc (v := nI (k + 1)) (lv' := [(3, .int (nI (k + 1))), (2, .int (nI acc)), (0, .ref (ad 0)), (1, .int (nI h))]) hx hb dX1_staying_48 hl (k := 0) rfl (lh_inc _) (by decide) rfl (fun ls hl => ?_)
          refine lv_goto (tgt := 4) hx hb dX1_staying_51 (by decide) ?_
          exact ih4 (k + 1) acc (by omega) (by omega) (by first | exact lh_mkt hacc (by simp [c_1, c_2]) | exact lh_mkf hacc (by simp [c_1, c_2]) | exact lh_mk0 hacc (by simp [c_1, c_2])) _ _ hP hD hS ls (lv_sub hl [0, 1, 2, 3] rfl)
        · have c_2 : (lvo u k h) = true := b2i_n0 c_2
          refine lv_aload_n hx hb dX1_staying_21 rfl (lv_at hl 2 rfl) ?_
          refine va_get (D := D) (ci := 1) (v := .int (nI (xR u))) (C := RX1) (T := TX1) (N := 10) hx hb hts hinX1 hown hK hP 0 rfl rfl 7 (by decide) fX1_42 (fun _ h9 => h9) rfl dX1_staying_22 ?_
          refine lv_iload_n hx hb dX1_staying_25 rfl (lv_at hl 0 rfl) ?_
          refine lh_cSi ⟨hx, hb, hml, hown, hts⟩ (kX1_isIn l D _ _ (xR u) k (by omega)) (va_cwS 2 hts gX1_staying_X1_isIn rfl rfl rfl (by decide +kernel) ⟨Nat.le_of_ble_eq_true rfl, Nat.le_of_ble_eq_true rfl⟩) hK hN hP hD hS hA rfl hl.1 rfl (Nat.le_of_ble_eq_true rfl) ⟨Nat.le_of_ble_eq_true rfl, Nat.le_of_ble_eq_true rfl⟩ dX1_staying_26 (fun H locs hP hD hS => ?_)
          refine lv_if_ne (tgt := 41) hx hb dX1_staying_29 (by decide) (fun c_3 => ?_) (fun c_3 => ?_)
          · have c_3 : ((xR u).testBit k) = true := b2i_n0 c_3
            refine lv_iload_n hx hb dX1_staying_41 rfl (lv_at hl 1 rfl) ?_
            refine lv_iload_n hx hb dX1_staying_42 rfl (lv_at hl 0 rfl) ?_
            refine lh_cSi ⟨hx, hb, hml, hown, hts⟩ (kX1_bit l D _ _ k (by omega)) (va_cwS 1 hts gX1_staying_X1_bit rfl rfl rfl (by decide +kernel) ⟨Nat.le_of_ble_eq_true rfl, Nat.le_of_ble_eq_true rfl⟩) hK hN hP hD hS hA rfl hl.1 rfl (Nat.le_of_ble_eq_true rfl) ⟨Nat.le_of_ble_eq_true rfl, Nat.le_of_ble_eq_true rfl⟩ dX1_staying_43 (fun H locs hP hD hS => ?_)
            refine lv_ior hx hb dX1_staying_46 ?_
            refine lh_top (y := nI (acc ||| (2 ^ k))) (fa_or _ _) ?_
            refine lv_istore_n (lv' := [(2, .int (nI (acc ||| (2 ^ k)))), (3, .int (nI k)), (0, .ref (ad 0)), (1, .int (nI h))]) hx hb dX1_staying_47 rfl hl (by decide) rfl (fun ls hl => ?_)
            refine lv_iinc (v := nI (k + 1)) (lv' := [(3, .int (nI (k + 1))), (2, .int (nI (acc ||| (2 ^ k)))), (0, .ref (ad 0)), (1, .int (nI h))]) hx hb dX1_staying_48 hl (k := 1) rfl (lh_inc _) (by decide) rfl (fun ls hl => ?_)
            refine lv_goto (tgt := 4) hx hb dX1_staying_51 (by decide) ?_
            exact ih4 (k + 1) (acc ||| (2 ^ k)) (by omega) (by omega) (by first | exact lh_mkt hacc (by simp [c_1, c_2, c_3]) | exact lh_mkf hacc (by simp [c_1, c_2, c_3]) | exact lh_mk0 hacc (by simp [c_1, c_2, c_3])) _ _ hP hD hS ls (lv_sub hl [0, 1, 2, 3] rfl)
          · have c_3 : ((xR u).testBit k) = false := b2i_e0 c_3
            refine lv_aload_n hx hb dX1_staying_32 rfl (lv_at hl 2 rfl) ?_
            refine va_get (D := D) (ci := 1) (v := .ref (ad 2)) (C := RX1) (T := TX1) (N := 10) hx hb hts hinX1 hown hK hP 0 rfl rfl 1 (by decide) fX1_13 (fun _ h9 => h9) rfl dX1_staying_33 ?_
            refine lv_iload_n hx hb dX1_staying_36 rfl (lv_at hl 0 rfl) ?_
            refine lh_ild (k := k) (N := 10) hx hb hK hP 2 0 rfl rfl (by omega) (by decide) dX1_staying_37 ?_
            refine W.eq (g2 := F0 m 38 ls (.int ((xOu u k)) :: [])) rfl ?_
            refine lv_if_le (tgt := 48) hx hb dX1_staying_38 (by decide) (fun c_4 => ?_) (fun c_4 => ?_)
            · have c_4r := c_4
              refine lv_iinc (v := nI (k + 1)) (lv' := [(3, .int (nI (k + 1))), (2, .int (nI acc)), (0, .ref (ad 0)), (1, .int (nI h))]) hx hb dX1_staying_48 hl (k := 0) rfl (lh_inc _) (by decide) rfl (fun ls hl => ?_)
              refine lv_goto (tgt := 4) hx hb dX1_staying_51 (by decide) ?_
              exact ih4 (k + 1) acc (by omega) (by omega) (by first | exact lh_mkt hacc (by simp [c_1, c_2, c_3, c_4]) | exact lh_mkf hacc (by simp [c_1, c_2, c_3, c_4]) | exact lh_mk0 hacc (by simp [c_1, c_2, c_3, c_4])) _ _ hP hD hS ls (lv_sub hl [0, 1, 2, 3] rfl)
            · have c_4r := c_4
              refine lv_iload_n hx hb dX1_staying_41 rfl (lv_at hl 1 rfl) ?_
              refine lv_iload_n hx hb dX1_staying_42 rfl (lv_at hl 0 rfl) ?_
              refine lh_cSi ⟨hx, hb, hml, hown, hts⟩ (kX1_bit l D _ _ k (by omega)) (va_cwS 1 hts gX1_staying_X1_bit rfl rfl rfl (by decide +kernel) ⟨Nat.le_of_ble_eq_true rfl, Nat.le_of_ble_eq_true rfl⟩) hK hN hP hD hS hA rfl hl.1 rfl (Nat.le_of_ble_eq_true rfl) ⟨Nat.le_of_ble_eq_true rfl, Nat.le_of_ble_eq_true rfl⟩ dX1_staying_43 (fun H locs hP hD hS => ?_)
              refine lv_ior hx hb dX1_staying_46 ?_
              refine lh_top (y := nI (acc ||| (2 ^ k))) (fa_or _ _) ?_
              refine lv_istore_n (lv' := [(2, .int (nI (acc ||| (2 ^ k)))), (3, .int (nI k)), (0, .ref (ad 0)), (1, .int (nI h))]) hx hb dX1_staying_47 rfl hl (by decide) rfl (fun ls hl => ?_)
              refine lv_iinc (v := nI (k + 1)) (lv' := [(3, .int (nI (k + 1))), (2, .int (nI (acc ||| (2 ^ k)))), (0, .ref (ad 0)), (1, .int (nI h))]) hx hb dX1_staying_48 hl (k := 1) rfl (lh_inc _) (by decide) rfl (fun ls hl => ?_)
              refine lv_goto (tgt := 4) hx hb dX1_staying_51 (by decide) ?_
              exact ih4 (k + 1) (acc ||| (2 ^ k)) (by omega) (by omega) (by first | exact lh_mkt hacc (by simp [c_1, c_2, c_3, c_4]) | exact lh_mkf hacc (by simp [c_1, c_2, c_3, c_4]) | exact lh_mk0 hacc (by simp [c_1, c_2, c_3, c_4])) _ _ hP hD hS ls (lv_sub hl [0, 1, 2, 3] rfl)
  exact L4 _ 0 0 (Nat.lt_succ_self _) (by omega) (by rfl) _ _ hP hD hS ls (lv_sub hl [0, 1, 2, 3] rfl)
set_option maxRecDepth 100000 in
set_option maxHeartbeats 4000000 in
theorem kX1_grow (l : Launch) (D : va_G) (cI : ClassId) (ad : Nat → Nat) (u : XS) (st : Nat) (yo : Nat) (hM : xM u ≤ 10) : CV l D [(cI, .int)] yX1_grow wsX1_grow ({ frames := 2, cells := 0, slots := 0, locals := 41 }) [.ref (ad 0), .int (nI st), .int (nI yo)] (wX cI ad u) (wX cI ad (grw u st yo)) := by
  refine lh_CVof (cc := cX1_grow) (maxL := 4) (ret := none) (own := RX1) (by decide) rfl rfl (Nat.le_of_ble_eq_true rfl) ?_
  intro p e s m below meth c A ls hx hb hr hlk hts hown hml hK hN hA hP hD hS hl
  have fX1_35 := hts (.fieldLink RX1 35 "LostHosts" "made" "I") (by decide +kernel)
  have fX1_16 := hts (.fieldLink RX1 16 "LostHosts" "age" "[I") (by decide +kernel)
  have hinX1 : ∀ w ∈ u_ws RX1 TX1 10, w ∈ wsX1_grow := by decide +kernel
  have hl : lv_has ls 4 [(0, .ref (ad 0)), (1, .int (nI st)), (2, .int (nI yo))] := hl
  refine lv_iconst (v := nI 0) hx hb dX1_grow_0 (by decide) ?_
  refine lv_istore_n (lv' := [(3, .int (nI 0)), (0, .ref (ad 0)), (1, .int (nI st)), (2, .int (nI yo))]) hx hb dX1_grow_1 rfl hl (by decide) rfl (fun ls hl => ?_)
  have L2 : ∀ (n : Nat) (k : Nat) (t : XS), xM u - k < n → (k ≤ xM u) → (t = sAg u (fol (ast st yo) k (xAg u))) → ∀ (H : Heap) (locs : List Loc), va_P D vwCl (wX cI ad t) H → va_D A (wX cI ad t) → va_S A s.heap H locs → ∀ (ls : Array Slot), lv_has ls 4 [(3, .int (nI k)), (0, .ref (ad 0)), (1, .int (nI st)), (2, .int (nI yo))] → W p l e ({ frames := 2, cells := 0, slots := 0, locals := 41 }) s m [.ref (ad 0), .int (nI st), .int (nI yo)].toArray below meth c H locs 0 0 (QV below D [(cI, .int)] A (wX cI ad (grw u st yo)) [.ref (ad 0), .int (nI st), .int (nI yo)].toArray s) (F0 m 2 ls []) := by
    intro n
    induction n with
    | zero => intro k t hmu; exact absurd hmu (Nat.not_lt_zero _)
    | succ n ih2 =>
      intro k t hmu2 hk ht H locs hP hD hS ls hl
      have htM : xM t = xM u := by rw [ht]
      refine lv_iload_n hx hb dX1_grow_2 rfl (lv_at hl 0 rfl) ?_
      refine lv_aload_n hx hb dX1_grow_3 rfl (lv_at hl 1 rfl) ?_
      refine va_get (D := D) (ci := 1) (v := .int (nI (xM t))) (C := RX1) (T := TX1) (N := 10) hx hb hts hinX1 hown hK hP 0 rfl rfl 5 (by decide) fX1_35 (fun _ h9 => h9) rfl dX1_grow_4 ?_
      refine lv_icmp_ge (tgt := 61) hx hb dX1_grow_7 (by decide) (fun c_1 => ?_) (fun c_1 => ?_)
      · have c_1 : xM t ≤ k := (nI_leI (by omega) (by omega)).mp c_1
        have c_1n : ¬ k < xM t := by omega
        exact lh_rv hx hb hr hlk hK hP hD hS (by rw [ht, show k = xM u by omega]; rfl) dX1_grow_61
      · have c_1 : k < xM t := Nat.lt_of_not_le (fun h => c_1 ((nI_leI (by omega) (by omega)).mpr h))
        refine lv_iload_n hx hb dX1_grow_10 rfl (lv_at hl 3 rfl) ?_
        refine lv_iload_n hx hb dX1_grow_11 rfl (lv_at hl 0 rfl) ?_
        refine lh_cSi ⟨hx, hb, hml, hown, hts⟩ (kX1_isIn l D _ _ yo k (by omega)) (va_cwS 2 hts gX1_grow_X1_isIn rfl rfl rfl (by decide +kernel) ⟨Nat.le_of_ble_eq_true rfl, Nat.le_of_ble_eq_true rfl⟩) hK hN hP hD hS hA rfl hl.1 rfl (Nat.le_of_ble_eq_true rfl) ⟨Nat.le_of_ble_eq_true rfl, Nat.le_of_ble_eq_true rfl⟩ dX1_grow_12 (fun H locs hP hD hS => ?_)
        refine lv_if_eq (tgt := 28) hx hb dX1_grow_15 (by decide) (fun c_2 => ?_) (fun c_2 => ?_)
        · have c_2 : (yo.testBit k) = false := b2i_e0 c_2
          refine lv_iload_n hx hb dX1_grow_28 rfl (lv_at hl 2 rfl) ?_
          refine lv_iload_n hx hb dX1_grow_29 rfl (lv_at hl 0 rfl) ?_
          refine lh_cSi ⟨hx, hb, hml, hown, hts⟩ (kX1_isIn l D _ _ st k (by omega)) (va_cwS 2 hts gX1_grow_X1_isIn rfl rfl rfl (by decide +kernel) ⟨Nat.le_of_ble_eq_true rfl, Nat.le_of_ble_eq_true rfl⟩) hK hN hP hD hS hA rfl hl.1 rfl (Nat.le_of_ble_eq_true rfl) ⟨Nat.le_of_ble_eq_true rfl, Nat.le_of_ble_eq_true rfl⟩ dX1_grow_30 (fun H locs hP hD hS => ?_)
          refine lv_if_eq (tgt := 55) hx hb dX1_grow_33 (by decide) (fun c_3 => ?_) (fun c_3 => ?_)
          · have c_3 : (st.testBit k) = false := b2i_e0 c_3
            refine lv_iinc (v := nI (k + 1)) (lv' := [(3, .int (nI (k + 1))), (0, .ref (ad 0)), (1, .int (nI st)), (2, .int (nI yo))]) hx hb dX1_grow_55 hl (k := 0) rfl (lh_inc _) (by decide) rfl (fun ls hl => ?_)
            refine lv_goto (tgt := 2) hx hb dX1_grow_58 (by decide) ?_
            exact ih2 (k + 1) t (by omega) (by omega) (by subst ht; simp [fol, ast, nI_0, c_1, c_2, c_3]) _ _ hP hD hS ls (lv_sub hl [0, 1, 2, 3] rfl)
          · have c_3 : (st.testBit k) = true := b2i_n0 c_3
            refine lv_aload_n hx hb dX1_grow_36 rfl (lv_at hl 1 rfl) ?_
            refine va_get (D := D) (ci := 1) (v := .ref (ad 3)) (C := RX1) (T := TX1) (N := 10) hx hb hts hinX1 hown hK hP 0 rfl rfl 2 (by decide) fX1_16 (fun _ h9 => h9) rfl dX1_grow_37 ?_
            refine lv_iload_n hx hb dX1_grow_40 rfl (lv_at hl 0 rfl) ?_
            refine lv_aload_n hx hb dX1_grow_41 rfl (lv_at hl 1 rfl) ?_
            refine va_get (D := D) (ci := 1) (v := .ref (ad 3)) (C := RX1) (T := TX1) (N := 10) hx hb hts hinX1 hown hK hP 0 rfl rfl 2 (by decide) fX1_16 (fun _ h9 => h9) rfl dX1_grow_42 ?_
            refine lv_iload_n hx hb dX1_grow_45 rfl (lv_at hl 0 rfl) ?_
            refine lh_ild (k := k) (N := 10) hx hb hK hP 3 0 rfl rfl (by omega) (by decide) dX1_grow_46 ?_
            refine W.eq (g2 := F0 m 47 ls (.int ((xAg t k)) :: [.int (nI k), .ref (ad 3)])) rfl ?_
            refine lv_iconst (v := nI 1) hx hb dX1_grow_47 (by decide) ?_
            refine lv_iadd hx hb dX1_grow_48 ?_
            refine lv_bipush (v := nI 9) hx hb dX1_grow_49 (by decide) ?_
            refine va_mmin hx hb (hml.trans hl.1.symm) hown (hts (.methodLink RX1 199 Lib.Math.min.name) (by decide +kernel)) (hts (.static Lib.Math.min.name) (by decide +kernel)) (hts (.initialized "java/lang/Math") (by decide +kernel)) (hts (.code Lib.Math.min.name Lib.Math.min.code 2 (some .int)) (by decide +kernel)) (Nat.le_of_ble_eq_true rfl) (Nat.le_of_ble_eq_true rfl) (Nat.zero_le _) (Nat.zero_le _) dX1_grow_51 ?_
            refine lh_ist (k := k) (N := 10) (f2 := upd (xAg t) k ((if nI 9 < ((xAg t k) + nI 1) then nI 9 else ((xAg t k) + nI 1)))) hx hb hK hP hD hS 3 0 rfl rfl (by omega) (by decide) (rfl) dX1_grow_54 (fun H locs hP hD hS => ?_)
            have hP : va_P D vwCl (wX cI ad (sAg t (upd (xAg t) k ((if nI 9 < ((xAg t k) + nI 1) then nI 9 else ((xAg t k) + nI 1)))))) H := hP
            have hD : va_D A (wX cI ad (sAg t (upd (xAg t) k ((if nI 9 < ((xAg t k) + nI 1) then nI 9 else ((xAg t k) + nI 1)))))) := hD
            refine lv_iinc (v := nI (k + 1)) (lv' := [(3, .int (nI (k + 1))), (0, .ref (ad 0)), (1, .int (nI st)), (2, .int (nI yo))]) hx hb dX1_grow_55 hl (k := 0) rfl (lh_inc _) (by decide) rfl (fun ls hl => ?_)
            refine lv_goto (tgt := 2) hx hb dX1_grow_58 (by decide) ?_
            exact ih2 (k + 1) (sAg t (upd (xAg t) k ((if nI 9 < ((xAg t k) + nI 1) then nI 9 else ((xAg t k) + nI 1))))) (by omega) (by omega) (by subst ht; simp [fol, ast, nI_0, c_1, c_2, c_3]) _ _ hP hD hS ls (lv_sub hl [0, 1, 2, 3] rfl)
        · have c_2 : (yo.testBit k) = true := b2i_n0 c_2
          refine lv_aload_n hx hb dX1_grow_18 rfl (lv_at hl 1 rfl) ?_
          refine va_get (D := D) (ci := 1) (v := .ref (ad 3)) (C := RX1) (T := TX1) (N := 10) hx hb hts hinX1 hown hK hP 0 rfl rfl 2 (by decide) fX1_16 (fun _ h9 => h9) rfl dX1_grow_19 ?_
          refine lv_iload_n hx hb dX1_grow_22 rfl (lv_at hl 0 rfl) ?_
          refine lv_iconst (v := nI 0) hx hb dX1_grow_23 (by decide) ?_
          refine lh_ist (k := k) (N := 10) (f2 := upd (xAg t) k (nI 0)) hx hb hK hP hD hS 3 0 rfl rfl (by omega) (by decide) (rfl) dX1_grow_24 (fun H locs hP hD hS => ?_)
          have hP : va_P D vwCl (wX cI ad (sAg t (upd (xAg t) k (nI 0)))) H := hP
          have hD : va_D A (wX cI ad (sAg t (upd (xAg t) k (nI 0)))) := hD
          refine lv_goto (tgt := 55) hx hb dX1_grow_25 (by decide) ?_
          refine lv_iinc (v := nI (k + 1)) (lv' := [(3, .int (nI (k + 1))), (0, .ref (ad 0)), (1, .int (nI st)), (2, .int (nI yo))]) hx hb dX1_grow_55 hl (k := 0) rfl (lh_inc _) (by decide) rfl (fun ls hl => ?_)
          refine lv_goto (tgt := 2) hx hb dX1_grow_58 (by decide) ?_
          exact ih2 (k + 1) (sAg t (upd (xAg t) k (nI 0))) (by omega) (by omega) (by subst ht; simp [fol, ast, nI_0, c_1, c_2]) _ _ hP hD hS ls (lv_sub hl [0, 1, 2, 3] rfl)
  exact L2 _ 0 u (Nat.lt_succ_self _) (by omega) (by rfl) _ _ hP hD hS ls (lv_sub hl [0, 1, 2, 3] rfl)
set_option maxRecDepth 100000 in
set_option maxHeartbeats 4000000 in
theorem kX1_sendReturnsOf (l : Launch) (D : va_G) (cI : ClassId) (ad : Nat → Nat) (u : XS) (x : Nat) (hM : xM u ≤ 10) (hW9 : xW u + 9 * cn x ≤ 150) : CV l D [(cI, .int)] yX1_sendReturnsOf wsX1_sendReturnsOf ({ frames := 2, cells := 0, slots := 0, locals := 45 }) [.ref (ad 0), .int (nI x)] (wX cI ad u) (wX cI ad (sro u x)) := by
  refine lh_CVof (cc := cX1_sendReturnsOf) (maxL := 4) (ret := none) (own := RX1) (by decide) rfl rfl (Nat.le_of_ble_eq_true rfl) ?_
  intro p e s m below meth c A ls hx hb hr hlk hts hown hml hK hN hA hP hD hS hl
  have fX1_35 := hts (.fieldLink RX1 35 "LostHosts" "made" "I") (by decide +kernel)
  have fX1_19 := hts (.fieldLink RX1 19 "LostHosts" "links" "[I") (by decide +kernel)
  have fX1_31 := hts (.fieldLink RX1 31 "LostHosts" "letters" "LLostHosts$Letters;") (by decide +kernel)
  have hinX1 : ∀ w ∈ u_ws RX1 TX1 10, w ∈ wsX1_sendReturnsOf := by decide +kernel
  have hl : lv_has ls 4 [(0, .ref (ad 0)), (1, .int (nI x))] := hl
  refine lv_iconst (v := nI 0) hx hb dX1_sendReturnsOf_0 (by decide) ?_
  refine lv_istore_n (lv' := [(2, .int (nI 0)), (0, .ref (ad 0)), (1, .int (nI x))]) hx hb dX1_sendReturnsOf_1 rfl hl (by decide) rfl (fun ls hl => ?_)
  have L2 : ∀ (n : Nat) (a : Nat) (t : XS), xM u - a < n → (a ≤ xM u) → (t = fol (fun a t => srow x a (xM u) t) a u) → ∀ (H : Heap) (locs : List Loc), va_P D vwCl (wX cI ad t) H → va_D A (wX cI ad t) → va_S A s.heap H locs → ∀ (ls : Array Slot), lv_has ls 4 [(2, .int (nI a)), (0, .ref (ad 0)), (1, .int (nI x))] → W p l e ({ frames := 2, cells := 0, slots := 0, locals := 45 }) s m [.ref (ad 0), .int (nI x)].toArray below meth c H locs 0 0 (QV below D [(cI, .int)] A (wX cI ad (sro u x)) [.ref (ad 0), .int (nI x)].toArray s) (F0 m 2 ls []) := by
    intro n
    induction n with
    | zero => intro a t hmu; exact absurd hmu (Nat.not_lt_zero _)
    | succ n ih2 =>
      intro a t hmu2 ha ht H locs hP hD hS ls hl
      have htM : xM t = xM u := by rw [ht]; exact fol_M (fun a t => srow_M x a (xM u) t) a u
      refine lv_iload_n hx hb dX1_sendReturnsOf_2 rfl (lv_at hl 0 rfl) ?_
      refine lv_aload_n hx hb dX1_sendReturnsOf_3 rfl (lv_at hl 1 rfl) ?_
      refine va_get (D := D) (ci := 1) (v := .int (nI (xM t))) (C := RX1) (T := TX1) (N := 10) hx hb hts hinX1 hown hK hP 0 rfl rfl 5 (by decide) fX1_35 (fun _ h9 => h9) rfl dX1_sendReturnsOf_4 ?_
      refine lv_icmp_ge (tgt := 79) hx hb dX1_sendReturnsOf_7 (by decide) (fun c_1 => ?_) (fun c_1 => ?_)
      · have c_1 : xM t ≤ a := (nI_leI (by omega) (by omega)).mp c_1
        have c_1n : ¬ a < xM t := by omega
        exact lh_rv hx hb hr hlk hK hP hD hS (by rw [ht, show a = xM u by omega]; rfl) dX1_sendReturnsOf_79
      · have c_1 : a < xM t := Nat.lt_of_not_le (fun h => c_1 ((nI_leI (by omega) (by omega)).mpr h))
        refine lv_iconst (v := nI 0) hx hb dX1_sendReturnsOf_10 (by decide) ?_
        refine lv_istore_n (lv' := [(3, .int (nI 0)), (2, .int (nI a)), (0, .ref (ad 0)), (1, .int (nI x))]) hx hb dX1_sendReturnsOf_11 rfl hl (by decide) rfl (fun ls hl => ?_)
        have L12 : ∀ (n : Nat) (b : Nat) (t2 : XS), xM u - b < n → (b ≤ xM u) → (t2 = srow x a b t) → ∀ (H : Heap) (locs : List Loc), va_P D vwCl (wX cI ad t2) H → va_D A (wX cI ad t2) → va_S A s.heap H locs → ∀ (ls : Array Slot), lv_has ls 4 [(3, .int (nI b)), (2, .int (nI a)), (0, .ref (ad 0)), (1, .int (nI x))] → W p l e ({ frames := 2, cells := 0, slots := 0, locals := 45 }) s m [.ref (ad 0), .int (nI x)].toArray below meth c H locs 0 0 (QV below D [(cI, .int)] A (wX cI ad (sro u x)) [.ref (ad 0), .int (nI x)].toArray s) (F0 m 12 ls []) := by
          intro n
          induction n with
          | zero => intro b t2 hmu; exact absurd hmu (Nat.not_lt_zero _)
          | succ n ih12 =>
            intro b t2 hmu12 hb3 ht2 H locs hP hD hS ls hl
            have ht2M : xM t2 = xM u := by rw [ht2, srow_M]; exact htM
            refine lv_iload_n hx hb dX1_sendReturnsOf_12 rfl (lv_at hl 0 rfl) ?_
            refine lv_aload_n hx hb dX1_sendReturnsOf_13 rfl (lv_at hl 2 rfl) ?_
            refine va_get (D := D) (ci := 1) (v := .int (nI (xM t2))) (C := RX1) (T := TX1) (N := 10) hx hb hts hinX1 hown hK hP 0 rfl rfl 5 (by decide) fX1_35 (fun _ h9 => h9) rfl dX1_sendReturnsOf_14 ?_
            refine lv_icmp_ge (tgt := 73) hx hb dX1_sendReturnsOf_17 (by decide) (fun c_2 => ?_) (fun c_2 => ?_)
            · have c_2 : xM t2 ≤ b := (nI_leI (by omega) (by omega)).mp c_2
              have c_2n : ¬ b < xM t2 := by omega
              refine lv_iinc (v := nI (a + 1)) (lv' := [(2, .int (nI (a + 1))), (3, .int (nI b)), (0, .ref (ad 0)), (1, .int (nI x))]) hx hb dX1_sendReturnsOf_73 hl (k := 1) rfl (lh_inc _) (by decide) rfl (fun ls hl => ?_)
              refine lv_goto (tgt := 2) hx hb dX1_sendReturnsOf_76 (by decide) ?_
              exact ih2 (a + 1) t2 (by omega) (by omega) (by rw [ht2, ht, show b = xM u by omega]; rfl) _ _ hP hD hS ls (lv_sub hl [0, 2, 3] rfl)
            · have c_2 : b < xM t2 := Nat.lt_of_not_le (fun h => c_2 ((nI_leI (by omega) (by omega)).mpr h))
              refine lv_iload_n hx hb dX1_sendReturnsOf_20 rfl (lv_at hl 3 rfl) ?_
              refine lv_iload_n hx hb dX1_sendReturnsOf_21 rfl (lv_at hl 1 rfl) ?_
              refine lh_cSi ⟨hx, hb, hml, hown, hts⟩ (kX1_isIn l D _ _ x a (by omega)) (va_cwS 2 hts gX1_sendReturnsOf_X1_isIn rfl rfl rfl (by decide +kernel) ⟨Nat.le_of_ble_eq_true rfl, Nat.le_of_ble_eq_true rfl⟩) hK hN hP hD hS hA rfl hl.1 rfl (Nat.le_of_ble_eq_true rfl) ⟨Nat.le_of_ble_eq_true rfl, Nat.le_of_ble_eq_true rfl⟩ dX1_sendReturnsOf_22 (fun H locs hP hD hS => ?_)
              refine lv_if_eq (tgt := 67) hx hb dX1_sendReturnsOf_25 (by decide) (fun c_3 => ?_) (fun c_3 => ?_)
              · have c_3 : (x.testBit a) = false := b2i_e0 c_3
                refine lv_iinc (v := nI (b + 1)) (lv' := [(3, .int (nI (b + 1))), (2, .int (nI a)), (0, .ref (ad 0)), (1, .int (nI x))]) hx hb dX1_sendReturnsOf_67 hl (k := 0) rfl (lh_inc _) (by decide) rfl (fun ls hl => ?_)
                refine lv_goto (tgt := 12) hx hb dX1_sendReturnsOf_70 (by decide) ?_
                exact ih12 (b + 1) t2 (by omega) (by omega) (by rw [srow_succ, ← ht2]; simp [sstep, c_1, c_2, c_3]) _ _ hP hD hS ls (lv_sub hl [0, 1, 2, 3] rfl)
              · have c_3 : (x.testBit a) = true := b2i_n0 c_3
                refine lv_iload_n hx hb dX1_sendReturnsOf_28 rfl (lv_at hl 3 rfl) ?_
                refine lv_iload_n hx hb dX1_sendReturnsOf_29 rfl (lv_at hl 0 rfl) ?_
                refine lh_cSi ⟨hx, hb, hml, hown, hts⟩ (kX1_isIn l D _ _ x b (by omega)) (va_cwS 2 hts gX1_sendReturnsOf_X1_isIn rfl rfl rfl (by decide +kernel) ⟨Nat.le_of_ble_eq_true rfl, Nat.le_of_ble_eq_true rfl⟩) hK hN hP hD hS hA rfl hl.1 rfl (Nat.le_of_ble_eq_true rfl) ⟨Nat.le_of_ble_eq_true rfl, Nat.le_of_ble_eq_true rfl⟩ dX1_sendReturnsOf_30 (fun H locs hP hD hS => ?_)
                refine lv_if_ne (tgt := 67) hx hb dX1_sendReturnsOf_33 (by decide) (fun c_4 => ?_) (fun c_4 => ?_)
                · have c_4 : (x.testBit b) = true := b2i_n0 c_4
                  refine lv_iinc (v := nI (b + 1)) (lv' := [(3, .int (nI (b + 1))), (2, .int (nI a)), (0, .ref (ad 0)), (1, .int (nI x))]) hx hb dX1_sendReturnsOf_67 hl (k := 0) rfl (lh_inc _) (by decide) rfl (fun ls hl => ?_)
                  refine lv_goto (tgt := 12) hx hb dX1_sendReturnsOf_70 (by decide) ?_
                  exact ih12 (b + 1) t2 (by omega) (by omega) (by rw [srow_succ, ← ht2]; simp [sstep, c_1, c_2, c_3, c_4]) _ _ hP hD hS ls (lv_sub hl [0, 1, 2, 3] rfl)
                · have c_4 : (x.testBit b) = false := b2i_e0 c_4
                  refine lv_aload_n hx hb dX1_sendReturnsOf_36 rfl (lv_at hl 2 rfl) ?_
                  refine va_get (D := D) (ci := 1) (v := .ref (ad 4)) (C := RX1) (T := TX1) (N := 10) hx hb hts hinX1 hown hK hP 0 rfl rfl 3 (by decide) fX1_19 (fun _ h9 => h9) rfl dX1_sendReturnsOf_37 ?_
                  refine lv_iload_n hx hb dX1_sendReturnsOf_40 rfl (lv_at hl 1 rfl) ?_
                  refine lv_iload_n hx hb dX1_sendReturnsOf_41 rfl (lv_at hl 0 rfl) ?_
                  refine lh_cSi ⟨hx, hb, hml, hown, hts⟩ (kX1_at l D _ _ a b) (va_cwS 2 hts gX1_sendReturnsOf_X1_at rfl rfl rfl (by decide +kernel) ⟨Nat.le_of_ble_eq_true rfl, Nat.le_of_ble_eq_true rfl⟩) hK hN hP hD hS hA rfl hl.1 rfl (Nat.le_of_ble_eq_true rfl) ⟨Nat.le_of_ble_eq_true rfl, Nat.le_of_ble_eq_true rfl⟩ dX1_sendReturnsOf_42 (fun H locs hP hD hS => ?_)
                  refine lh_ild (k := (a * 10 + b)) (N := 100) hx hb hK hP 4 0 rfl rfl (by omega) (by decide) dX1_sendReturnsOf_45 ?_
                  refine W.eq (g2 := F0 m 46 ls (.int ((xLi t2 (a * 10 + b))) :: [])) rfl ?_
                  refine lv_if_le (tgt := 67) hx hb dX1_sendReturnsOf_46 (by decide) (fun c_5 => ?_) (fun c_5 => ?_)
                  · have c_5r := c_5
                    refine lv_iinc (v := nI (b + 1)) (lv' := [(3, .int (nI (b + 1))), (2, .int (nI a)), (0, .ref (ad 0)), (1, .int (nI x))]) hx hb dX1_sendReturnsOf_67 hl (k := 0) rfl (lh_inc _) (by decide) rfl (fun ls hl => ?_)
                    refine lv_goto (tgt := 12) hx hb dX1_sendReturnsOf_70 (by decide) ?_
                    exact ih12 (b + 1) t2 (by omega) (by omega) (by rw [srow_succ, ← ht2]; simp [sstep, c_1, c_2, c_3, c_4, c_5]) _ _ hP hD hS ls (lv_sub hl [0, 1, 2, 3] rfl)
                  · have c_5r := c_5
                    refine lv_aload_n hx hb dX1_sendReturnsOf_49 rfl (lv_at hl 2 rfl) ?_
                    refine va_get (D := D) (ci := 1) (v := .ref (ad 5)) (C := RX1) (T := TX1) (N := 10) hx hb hts hinX1 hown hK hP 0 rfl rfl 4 (by decide) fX1_31 (fun _ h9 => h9) rfl dX1_sendReturnsOf_50 ?_
                    refine lv_iload_n hx hb dX1_sendReturnsOf_53 rfl (lv_at hl 0 rfl) ?_
                    refine lv_aload_n hx hb dX1_sendReturnsOf_54 rfl (lv_at hl 2 rfl) ?_
                    refine va_get (D := D) (ci := 1) (v := .ref (ad 4)) (C := RX1) (T := TX1) (N := 10) hx hb hts hinX1 hown hK hP 0 rfl rfl 3 (by decide) fX1_19 (fun _ h9 => h9) rfl dX1_sendReturnsOf_55 ?_
                    refine lv_iload_n hx hb dX1_sendReturnsOf_58 rfl (lv_at hl 1 rfl) ?_
                    refine lv_iload_n hx hb dX1_sendReturnsOf_59 rfl (lv_at hl 0 rfl) ?_
                    refine lh_cSi ⟨hx, hb, hml, hown, hts⟩ (kX1_at l D _ _ a b) (va_cwS 2 hts gX1_sendReturnsOf_X1_at rfl rfl rfl (by decide +kernel) ⟨Nat.le_of_ble_eq_true rfl, Nat.le_of_ble_eq_true rfl⟩) hK hN hP hD hS hA rfl hl.1 rfl (Nat.le_of_ble_eq_true rfl) ⟨Nat.le_of_ble_eq_true rfl, Nat.le_of_ble_eq_true rfl⟩ dX1_sendReturnsOf_60 (fun H locs hP hD hS => ?_)
                    refine lh_ild (k := (a * 10 + b)) (N := 100) hx hb hK hP 4 0 rfl rfl (by omega) (by decide) dX1_sendReturnsOf_63 ?_
                    refine W.eq (g2 := F0 m 64 ls (.int ((xLi t2 (a * 10 + b))) :: [.int (nI b), .ref (ad 5)])) rfl ?_
                    refine lh_cVv ⟨hx, hb, hml, hown, hts⟩ (kX0_sendReturn l D cI ad t2 b (xLi t2 (a * 10 + b)) (by rw [ht2, ht]; exact sro_room hM hW9 (by omega) (by omega) c_3 c_4)) (cwV 2 hts gX1_sendReturnsOf_X0_sendReturn rfl rfl rfl (by decide +kernel) ⟨Nat.le_of_ble_eq_true rfl, Nat.le_of_ble_eq_true rfl⟩) hK hN hP hD hS hA 5 0 rfl rfl rfl rfl hl.1 rfl (Nat.le_of_ble_eq_true rfl) ⟨Nat.le_of_ble_eq_true rfl, Nat.le_of_ble_eq_true rfl⟩ dX1_sendReturnsOf_64 (fun H locs hP hD hS => ?_)
                    have hP : va_P D vwCl (wX cI ad (app t2 b 10 (xLi t2 (a * 10 + b)))) H := hP
                    have hD : va_D A (wX cI ad (app t2 b 10 (xLi t2 (a * 10 + b)))) := hD
                    refine lv_iinc (v := nI (b + 1)) (lv' := [(3, .int (nI (b + 1))), (2, .int (nI a)), (0, .ref (ad 0)), (1, .int (nI x))]) hx hb dX1_sendReturnsOf_67 hl (k := 0) rfl (lh_inc _) (by decide) rfl (fun ls hl => ?_)
                    refine lv_goto (tgt := 12) hx hb dX1_sendReturnsOf_70 (by decide) ?_
                    exact ih12 (b + 1) (app t2 b 10 (xLi t2 (a * 10 + b))) (by omega) (by omega) (by rw [srow_succ, ← ht2]; simp [sstep, c_1, c_2, c_3, c_4, c_5]) _ _ hP hD hS ls (lv_sub hl [0, 1, 2, 3] rfl)
        exact L12 _ 0 t (Nat.lt_succ_self _) (by omega) (by rfl) _ _ hP hD hS ls (lv_sub hl [0, 1, 2, 3] rfl)
  exact L2 _ 0 u (Nat.lt_succ_self _) (by omega) (by rfl) _ _ hP hD hS ls (lv_sub hl [0, 1, 2] rfl)
set_option maxRecDepth 100000 in
set_option maxHeartbeats 4000000 in
theorem kX1_becomeGone (l : Launch) (D : va_G) (cI : ClassId) (ad : Nat → Nat) (u : XS) (x : Nat) (ok : okB u) (hx9 : x < 1024) : CI l D [(cI, .int)] yX1_becomeGone wsX1_becomeGone ({ frames := 2, cells := 0, slots := 0, locals := 41 }) [.ref (ad 0), .int (nI x)] (wX cI ad u) (wX cI ad (bgo u x)) (nI (cn x)) := by
  obtain ⟨hM, hW, hHo, hAb, hLb, hRb, hDb⟩ := id ok
  refine lh_CIof (cc := cX1_becomeGone) (maxL := 4) (ret := (some .int)) (own := RX1) (by decide) rfl rfl (Nat.le_of_ble_eq_true rfl) ?_
  intro p e s m below meth c A ls hx hb hr hlk hts hown hml hK hN hA hP hD hS hl
  have fX1_35 := hts (.fieldLink RX1 35 "LostHosts" "made" "I") (by decide +kernel)
  have fX1_39 := hts (.fieldLink RX1 39 "LostHosts" "live" "I") (by decide +kernel)
  have fX1_19 := hts (.fieldLink RX1 19 "LostHosts" "links" "[I") (by decide +kernel)
  have hinX1 : ∀ w ∈ u_ws RX1 TX1 10, w ∈ wsX1_becomeGone := by decide +kernel
  have hl : lv_has ls 4 [(0, .ref (ad 0)), (1, .int (nI x))] := hl
  refine lv_iconst (v := nI 0) hx hb dX1_becomeGone_0 (by decide) ?_
  refine lv_istore_n (lv' := [(2, .int (nI 0)), (0, .ref (ad 0)), (1, .int (nI x))]) hx hb dX1_becomeGone_1 rfl hl (by decide) rfl (fun ls hl => ?_)
  have L2 : ∀ (n : Nat) (a : Nat) (t : XS), xM u - a < n → (a ≤ xM u) → (t = sLi u (fol (fun a f => grow x a (xM u) f) a (xLi u))) → ∀ (H : Heap) (locs : List Loc), va_P D vwCl (wX cI ad t) H → va_D A (wX cI ad t) → va_S A s.heap H locs → ∀ (ls : Array Slot), lv_has ls 4 [(2, .int (nI a)), (0, .ref (ad 0)), (1, .int (nI x))] → W p l e ({ frames := 2, cells := 0, slots := 0, locals := 41 }) s m [.ref (ad 0), .int (nI x)].toArray below meth c H locs 0 0 (QI below D [(cI, .int)] A (wX cI ad (bgo u x)) (nI (cn x)) [.ref (ad 0), .int (nI x)].toArray s) (F0 m 2 ls []) := by
    intro n
    induction n with
    | zero => intro a t hmu; exact absurd hmu (Nat.not_lt_zero _)
    | succ n ih2 =>
      intro a t hmu2 ha ht H locs hP hD hS ls hl
      have htM : xM t = xM u := by rw [ht]
      refine lv_iload_n hx hb dX1_becomeGone_2 rfl (lv_at hl 0 rfl) ?_
      refine lv_aload_n hx hb dX1_becomeGone_3 rfl (lv_at hl 1 rfl) ?_
      refine va_get (D := D) (ci := 1) (v := .int (nI (xM t))) (C := RX1) (T := TX1) (N := 10) hx hb hts hinX1 hown hK hP 0 rfl rfl 5 (by decide) fX1_35 (fun _ h9 => h9) rfl dX1_becomeGone_4 ?_
      refine lv_icmp_ge (tgt := 60) hx hb dX1_becomeGone_7 (by decide) (fun c_1 => ?_) (fun c_1 => ?_)
      · have c_1 : xM t ≤ a := (nI_leI (by omega) (by omega)).mp c_1
        have c_1n : ¬ a < xM t := by omega
        refine lv_aload_n hx hb dX1_becomeGone_60 rfl (lv_at hl 1 rfl) ?_
        refine lv_dup hx hb dX1_becomeGone_61 rfl ?_
        refine va_get (D := D) (ci := 1) (v := .int (nI (xL t))) (C := RX1) (T := TX1) (N := 10) hx hb hts hinX1 hown hK hP 0 rfl rfl 6 (by decide) fX1_39 (fun _ h9 => h9) rfl dX1_becomeGone_62 ?_
        refine lv_iload_n hx hb dX1_becomeGone_65 rfl (lv_at hl 2 rfl) ?_
        refine lv_iconst (v := (-1)) hx hb dX1_becomeGone_66 (by decide) ?_
        refine lv_ixor hx hb dX1_becomeGone_67 ?_
        refine lv_iand hx hb dX1_becomeGone_68 ?_
        refine lh_top (y := nI (dif (xL t) x)) (lh_not _ (by have h9 : xL t = xL u := (by rw [ht]); omega)) ?_
        refine va_put (D := D) (ci := 1) (v := .int (nI (dif (xL t) x))) (ty := .int) (C := RX1) (T := TX1) (N := 10) hx hb hts hinX1 tyX1 tyX1_ok nmX1 hown hK hP hD hS 0 rfl rfl 6 (by decide) fX1_39 (fun _ h9 => h9) rfl (by decide +kernel) rfl rfl (Nat.le_of_ble_eq_true rfl) dX1_becomeGone_69 (fun H locs hP hD hS => ?_)
        have hP : va_P D vwCl (wX cI ad (sL t ((dif (xL t) x)))) H := hP
        have hD : va_D A (wX cI ad (sL t ((dif (xL t) x)))) := hD
        refine lv_iload_n hx hb dX1_becomeGone_72 rfl (lv_at hl 2 rfl) ?_
        refine lh_cSi ⟨hx, hb, hml, hown, hts⟩ (kJ6_bitCount_0f7a4 l D _ _ x (by omega)) (va_cwS 1 hts gX1_becomeGone_J6_bitCount_0f7a4 rfl rfl rfl (by decide +kernel) ⟨Nat.le_of_ble_eq_true rfl, Nat.le_of_ble_eq_true rfl⟩) hK hN hP hD hS hA rfl hl.1 rfl (Nat.le_of_ble_eq_true rfl) ⟨Nat.le_of_ble_eq_true rfl, Nat.le_of_ble_eq_true rfl⟩ dX1_becomeGone_73 (fun H locs hP hD hS => ?_)
        exact lh_ri hx hb hr hlk hK hP hD hS rfl (by subst ht; rw [show a = xM u by omega]; rfl) dX1_becomeGone_76
      · have c_1 : a < xM t := Nat.lt_of_not_le (fun h => c_1 ((nI_leI (by omega) (by omega)).mpr h))
        refine lv_iconst (v := nI 0) hx hb dX1_becomeGone_10 (by decide) ?_
        refine lv_istore_n (lv' := [(3, .int (nI 0)), (2, .int (nI a)), (0, .ref (ad 0)), (1, .int (nI x))]) hx hb dX1_becomeGone_11 rfl hl (by decide) rfl (fun ls hl => ?_)
        have L12 : ∀ (n : Nat) (b : Nat) (t2 : XS), xM u - b < n → (b ≤ xM u) → (t2 = sLi u (grow x a b (xLi t))) → ∀ (H : Heap) (locs : List Loc), va_P D vwCl (wX cI ad t2) H → va_D A (wX cI ad t2) → va_S A s.heap H locs → ∀ (ls : Array Slot), lv_has ls 4 [(3, .int (nI b)), (2, .int (nI a)), (0, .ref (ad 0)), (1, .int (nI x))] → W p l e ({ frames := 2, cells := 0, slots := 0, locals := 41 }) s m [.ref (ad 0), .int (nI x)].toArray below meth c H locs 0 0 (QI below D [(cI, .int)] A (wX cI ad (bgo u x)) (nI (cn x)) [.ref (ad 0), .int (nI x)].toArray s) (F0 m 12 ls []) := by
          intro n
          induction n with
          | zero => intro b t2 hmu; exact absurd hmu (Nat.not_lt_zero _)
          | succ n ih12 =>
            intro b t2 hmu12 hb3 ht2 H locs hP hD hS ls hl
            have ht2M : xM t2 = xM u := by rw [ht2]
            refine lv_iload_n hx hb dX1_becomeGone_12 rfl (lv_at hl 0 rfl) ?_
            refine lv_aload_n hx hb dX1_becomeGone_13 rfl (lv_at hl 2 rfl) ?_
            refine va_get (D := D) (ci := 1) (v := .int (nI (xM t2))) (C := RX1) (T := TX1) (N := 10) hx hb hts hinX1 hown hK hP 0 rfl rfl 5 (by decide) fX1_35 (fun _ h9 => h9) rfl dX1_becomeGone_14 ?_
            refine lv_icmp_ge (tgt := 54) hx hb dX1_becomeGone_17 (by decide) (fun c_2 => ?_) (fun c_2 => ?_)
            · have c_2 : xM t2 ≤ b := (nI_leI (by omega) (by omega)).mp c_2
              have c_2n : ¬ b < xM t2 := by omega
              refine lv_iinc (v := nI (a + 1)) (lv' := [(2, .int (nI (a + 1))), (3, .int (nI b)), (0, .ref (ad 0)), (1, .int (nI x))]) hx hb dX1_becomeGone_54 hl (k := 1) rfl (lh_inc _) (by decide) rfl (fun ls hl => ?_)
              refine lv_goto (tgt := 2) hx hb dX1_becomeGone_57 (by decide) ?_
              exact ih2 (a + 1) t2 (by omega) (by omega) (by subst ht2; subst ht; rw [show b = xM u by omega]; rfl) _ _ hP hD hS ls (lv_sub hl [0, 2, 3] rfl)
            · have c_2 : b < xM t2 := Nat.lt_of_not_le (fun h => c_2 ((nI_leI (by omega) (by omega)).mpr h))
              refine lv_iload_n hx hb dX1_becomeGone_20 rfl (lv_at hl 3 rfl) ?_
              refine lv_iload_n hx hb dX1_becomeGone_21 rfl (lv_at hl 1 rfl) ?_
              refine lh_cSi ⟨hx, hb, hml, hown, hts⟩ (kX1_isIn l D _ _ x a (by omega)) (va_cwS 2 hts gX1_becomeGone_X1_isIn rfl rfl rfl (by decide +kernel) ⟨Nat.le_of_ble_eq_true rfl, Nat.le_of_ble_eq_true rfl⟩) hK hN hP hD hS hA rfl hl.1 rfl (Nat.le_of_ble_eq_true rfl) ⟨Nat.le_of_ble_eq_true rfl, Nat.le_of_ble_eq_true rfl⟩ dX1_becomeGone_22 (fun H locs hP hD hS => ?_)
              refine lv_if_ne (tgt := 36) hx hb dX1_becomeGone_25 (by decide) (fun c_3 => ?_) (fun c_3 => ?_)
              · have c_3 : (x.testBit a) = true := b2i_n0 c_3
                refine lv_aload_n hx hb dX1_becomeGone_36 rfl (lv_at hl 2 rfl) ?_
                refine va_get (D := D) (ci := 1) (v := .ref (ad 4)) (C := RX1) (T := TX1) (N := 10) hx hb hts hinX1 hown hK hP 0 rfl rfl 3 (by decide) fX1_19 (fun _ h9 => h9) rfl dX1_becomeGone_37 ?_
                refine lv_iload_n hx hb dX1_becomeGone_40 rfl (lv_at hl 1 rfl) ?_
                refine lv_iload_n hx hb dX1_becomeGone_41 rfl (lv_at hl 0 rfl) ?_
                refine lh_cSi ⟨hx, hb, hml, hown, hts⟩ (kX1_at l D _ _ a b) (va_cwS 2 hts gX1_becomeGone_X1_at rfl rfl rfl (by decide +kernel) ⟨Nat.le_of_ble_eq_true rfl, Nat.le_of_ble_eq_true rfl⟩) hK hN hP hD hS hA rfl hl.1 rfl (Nat.le_of_ble_eq_true rfl) ⟨Nat.le_of_ble_eq_true rfl, Nat.le_of_ble_eq_true rfl⟩ dX1_becomeGone_42 (fun H locs hP hD hS => ?_)
                refine lv_bipush (v := (-9)) hx hb dX1_becomeGone_45 (by decide) ?_
                refine lh_ist (k := (a * 10 + b)) (N := 100) (f2 := upd (xLi t2) (a * 10 + b) ((-9))) hx hb hK hP hD hS 4 0 rfl rfl (by omega) (by decide) (rfl) dX1_becomeGone_47 (fun H locs hP hD hS => ?_)
                have hP : va_P D vwCl (wX cI ad (sLi t2 (upd (xLi t2) (a * 10 + b) ((-9))))) H := hP
                have hD : va_D A (wX cI ad (sLi t2 (upd (xLi t2) (a * 10 + b) ((-9))))) := hD
                refine lv_iinc (v := nI (b + 1)) (lv' := [(3, .int (nI (b + 1))), (2, .int (nI a)), (0, .ref (ad 0)), (1, .int (nI x))]) hx hb dX1_becomeGone_48 hl (k := 0) rfl (lh_inc _) (by decide) rfl (fun ls hl => ?_)
                refine lv_goto (tgt := 12) hx hb dX1_becomeGone_51 (by decide) ?_
                exact ih12 (b + 1) (sLi t2 (upd (xLi t2) (a * 10 + b) ((-9)))) (by omega) (by omega) (by subst ht2; simp [grow, fol, gstep, c_1, c_2, c_3]; done) _ _ hP hD hS ls (lv_sub hl [0, 1, 2, 3] rfl)
              · have c_3 : (x.testBit a) = false := b2i_e0 c_3
                refine lv_iload_n hx hb dX1_becomeGone_28 rfl (lv_at hl 3 rfl) ?_
                refine lv_iload_n hx hb dX1_becomeGone_29 rfl (lv_at hl 0 rfl) ?_
                refine lh_cSi ⟨hx, hb, hml, hown, hts⟩ (kX1_isIn l D _ _ x b (by omega)) (va_cwS 2 hts gX1_becomeGone_X1_isIn rfl rfl rfl (by decide +kernel) ⟨Nat.le_of_ble_eq_true rfl, Nat.le_of_ble_eq_true rfl⟩) hK hN hP hD hS hA rfl hl.1 rfl (Nat.le_of_ble_eq_true rfl) ⟨Nat.le_of_ble_eq_true rfl, Nat.le_of_ble_eq_true rfl⟩ dX1_becomeGone_30 (fun H locs hP hD hS => ?_)
                refine lv_if_eq (tgt := 48) hx hb dX1_becomeGone_33 (by decide) (fun c_4 => ?_) (fun c_4 => ?_)
                · have c_4 : (x.testBit b) = false := b2i_e0 c_4
                  refine lv_iinc (v := nI (b + 1)) (lv' := [(3, .int (nI (b + 1))), (2, .int (nI a)), (0, .ref (ad 0)), (1, .int (nI x))]) hx hb dX1_becomeGone_48 hl (k := 0) rfl (lh_inc _) (by decide) rfl (fun ls hl => ?_)
                  refine lv_goto (tgt := 12) hx hb dX1_becomeGone_51 (by decide) ?_
                  exact ih12 (b + 1) t2 (by omega) (by omega) (by subst ht2; simp [grow, fol, gstep, c_1, c_2, c_3, c_4]; done) _ _ hP hD hS ls (lv_sub hl [0, 1, 2, 3] rfl)
                · have c_4 : (x.testBit b) = true := b2i_n0 c_4
                  refine lv_aload_n hx hb dX1_becomeGone_36 rfl (lv_at hl 2 rfl) ?_
                  refine va_get (D := D) (ci := 1) (v := .ref (ad 4)) (C := RX1) (T := TX1) (N := 10) hx hb hts hinX1 hown hK hP 0 rfl rfl 3 (by decide) fX1_19 (fun _ h9 => h9) rfl dX1_becomeGone_37 ?_
                  refine lv_iload_n hx hb dX1_becomeGone_40 rfl (lv_at hl 1 rfl) ?_
                  refine lv_iload_n hx hb dX1_becomeGone_41 rfl (lv_at hl 0 rfl) ?_
                  refine lh_cSi ⟨hx, hb, hml, hown, hts⟩ (kX1_at l D _ _ a b) (va_cwS 2 hts gX1_becomeGone_X1_at rfl rfl rfl (by decide +kernel) ⟨Nat.le_of_ble_eq_true rfl, Nat.le_of_ble_eq_true rfl⟩) hK hN hP hD hS hA rfl hl.1 rfl (Nat.le_of_ble_eq_true rfl) ⟨Nat.le_of_ble_eq_true rfl, Nat.le_of_ble_eq_true rfl⟩ dX1_becomeGone_42 (fun H locs hP hD hS => ?_)
                  refine lv_bipush (v := (-9)) hx hb dX1_becomeGone_45 (by decide) ?_
                  refine lh_ist (k := (a * 10 + b)) (N := 100) (f2 := upd (xLi t2) (a * 10 + b) ((-9))) hx hb hK hP hD hS 4 0 rfl rfl (by omega) (by decide) (rfl) dX1_becomeGone_47 (fun H locs hP hD hS => ?_)
                  have hP : va_P D vwCl (wX cI ad (sLi t2 (upd (xLi t2) (a * 10 + b) ((-9))))) H := hP
                  have hD : va_D A (wX cI ad (sLi t2 (upd (xLi t2) (a * 10 + b) ((-9))))) := hD
                  refine lv_iinc (v := nI (b + 1)) (lv' := [(3, .int (nI (b + 1))), (2, .int (nI a)), (0, .ref (ad 0)), (1, .int (nI x))]) hx hb dX1_becomeGone_48 hl (k := 0) rfl (lh_inc _) (by decide) rfl (fun ls hl => ?_)
                  refine lv_goto (tgt := 12) hx hb dX1_becomeGone_51 (by decide) ?_
                  exact ih12 (b + 1) (sLi t2 (upd (xLi t2) (a * 10 + b) ((-9)))) (by omega) (by omega) (by subst ht2; simp [grow, fol, gstep, c_1, c_2, c_3, c_4]; done) _ _ hP hD hS ls (lv_sub hl [0, 1, 2, 3] rfl)
        exact L12 _ 0 t (Nat.lt_succ_self _) (by omega) (by rw [ht]; rfl) _ _ hP hD hS ls (lv_sub hl [0, 1, 2, 3] rfl)
  exact L2 _ 0 u (Nat.lt_succ_self _) (by omega) (by rfl) _ _ hP hD hS ls (lv_sub hl [0, 1, 2] rfl)

set_option maxRecDepth 100000 in
set_option maxHeartbeats 4000000 in
theorem kX2_settle (l : Launch) (D : va_G) (cI cZ : ClassId) (ad : Nat → Nat) (u : XS) (T : Nat) (inv : Inv T u) (hT : T ≤ 1000000) : CI l D [(cI, .int), (cZ, .boolean)] yX2_settle wsX2_settle ({ frames := 7, cells := 0, slots := 0, locals := 163 }) [.ref (ad 0)] (wM cI cZ ad u) (wM cI cZ ad (stl 11 u)) (nI (stN 11 u)) := by
  have ok := inv.1
  obtain ⟨hM, hW, hHo, hAb, hLb, hRb, hDb⟩ := id ok
  refine lh_CIof (cc := cX2_settle) (maxL := 4) (ret := (some .int)) (own := RX2) (by decide) rfl rfl (Nat.le_of_ble_eq_true rfl) ?_
  intro p e s m below meth c A ls hx hb hr hlk hts hown hml hK hN hA hP hD hS hl
  have fX2_74 := hts (.fieldLink RX2 74 "LostHostsModel" "letters" "I") (by decide +kernel)
  have hinX2 : ∀ w ∈ u_ws RX2 TX2 13, w ∈ wsX2_settle := by decide +kernel
  have hl : lv_has ls 4 [(0, .ref (ad 0))] := hl
  refine lv_iconst (v := nI 0) hx hb dX2_settle_0 (by decide) ?_
  refine lv_istore_n (lv' := [(1, .int (nI 0)), (0, .ref (ad 0))]) hx hb dX2_settle_1 rfl hl (by decide) rfl (fun ls hl => ?_)
  refine lv_iconst (v := nI 1) hx hb dX2_settle_2 (by decide) ?_
  refine lv_istore_n (lv' := [(2, .int (nI 1)), (1, .int (nI 0)), (0, .ref (ad 0))]) hx hb dX2_settle_3 rfl hl (by decide) rfl (fun ls hl => ?_)
  have L4 : ∀ (n : Nat) (more : Bool) (nn : Nat) (m9 : Nat) (t : XS), (if more = true then m9 else 0) < n → (more = true → stl m9 t = stl 11 u ∧ nn + stN m9 t = stN 11 u ∧ cn (xL t) + 1 ≤ m9 ∧ Inv T t) → (more = false → t = stl 11 u ∧ nn = stN 11 u) → ∀ (H : Heap) (locs : List Loc), va_P D vwCl (wM cI cZ ad t) H → va_D A (wM cI cZ ad t) → va_S A s.heap H locs → ∀ (ls : Array Slot), lv_has ls 4 [(2, .int (b2i more)), (1, .int (nI nn)), (0, .ref (ad 0))] → W p l e ({ frames := 7, cells := 0, slots := 0, locals := 163 }) s m [.ref (ad 0)].toArray below meth c H locs 0 0 (QI below D [(cI, .int), (cZ, .boolean)] A (wM cI cZ ad (stl 11 u)) (nI (stN 11 u)) [.ref (ad 0)].toArray s) (F0 m 4 ls []) := by
    intro n
    induction n with
    | zero => intro more nn m9 t hmu; exact absurd hmu (Nat.not_lt_zero _)
    | succ n ih4 =>
      intro more nn m9 t hmu4 hmr hmf H locs hP hD hS ls hl
      refine lv_iload_n hx hb dX2_settle_4 rfl (lv_at hl 0 rfl) ?_
      refine lv_if_eq (tgt := 53) hx hb dX2_settle_5 (by decide) (fun c_1 => ?_) (fun c_1 => ?_)
      · have c_1 : more = false := b2i_e0 c_1
        refine lv_iload_n hx hb dX2_settle_53 rfl (lv_at hl 1 rfl) ?_
        exact lh_ri hx hb hr hlk hK hP hD hS (by rw [(hmf c_1).2]) (by rw [(hmf c_1).1]) dX2_settle_54
      · have c_1 : more = true := b2i_n0 c_1
        obtain ⟨q1, q2, q3, hi⟩ := hmr c_1
        have L8 : ∀ (n : Nat) (j : Nat) (t2 : XS), lm t2 < n → (t2 = rep dst j t) → (Inv T t2) → ∀ (H : Heap) (locs : List Loc), va_P D vwCl (wM cI cZ ad t2) H → va_D A (wM cI cZ ad t2) → va_S A s.heap H locs → ∀ (ls : Array Slot), lv_has ls 4 [(2, .int (b2i more)), (1, .int (nI nn)), (0, .ref (ad 0))] → W p l e ({ frames := 7, cells := 0, slots := 0, locals := 163 }) s m [.ref (ad 0)].toArray below meth c H locs 0 0 (QI below D [(cI, .int), (cZ, .boolean)] A (wM cI cZ ad (stl 11 u)) (nI (stN 11 u)) [.ref (ad 0)].toArray s) (F0 m 8 ls []) := by
          intro n
          induction n with
          | zero => intro j t2 hmu; exact absurd hmu (Nat.not_lt_zero _)
          | succ n ih8 =>
            intro j t2 hmu8 ht2 hi2 H locs hP hD hS ls hl
            have hW2 := hi2.1.2.1
            refine lv_aload_n hx hb dX2_settle_8 rfl (lv_at hl 2 rfl) ?_
            refine va_get (D := D) (ci := 2) (v := .int (nI (xW t2))) (C := RX2) (T := TX2) (N := 13) hx hb hts hinX2 hown hK hP 0 rfl rfl 8 (by decide) fX2_74 (fun _ h9 => h9) rfl dX2_settle_9 ?_
            refine lv_if_le (tgt := 24) hx hb dX2_settle_12 (by decide) (fun c_2 => ?_) (fun c_2 => ?_)
            · have c_2 : xW t2 = 0 := lh_le0 (by omega) c_2
              have e9 := dlv_of hi.1.2.1 ht2 c_2
              refine lv_aload_n hx hb dX2_settle_24 rfl (lv_at hl 2 rfl) ?_
              refine lh_cVi ⟨hx, hb, hml, hown, hts⟩ (kX2_collectsAll l D cI cZ ad t2 T (by exact hi2)) (cwV 0 hts gX2_settle_X2_collectsAll rfl rfl rfl (by decide +kernel) ⟨Nat.le_of_ble_eq_true rfl, Nat.le_of_ble_eq_true rfl⟩) hK hN hP hD hS hA 0 2 rfl rfl rfl rfl hl.1 rfl (Nat.le_of_ble_eq_true rfl) ⟨Nat.le_of_ble_eq_true rfl, Nat.le_of_ble_eq_true rfl⟩ dX2_settle_25 (fun H locs hP hD hS => ?_)
              have hP : va_P D vwCl (wM cI cZ ad (caS 4 t2)) H := hP
              have hD : va_D A (wM cI cZ ad (caS 4 t2)) := hD
              refine lv_istore_n (lv' := [(3, .int (nI (caN 4 t2))), (2, .int (b2i more)), (1, .int (nI nn)), (0, .ref (ad 0))]) hx hb dX2_settle_28 rfl hl (by decide) rfl (fun ls hl => ?_)
              refine lv_iload_n hx hb dX2_settle_29 rfl (lv_at hl 2 rfl) ?_
              refine lv_iload_n hx hb dX2_settle_30 rfl (lv_at hl 0 rfl) ?_
              refine lv_iadd hx hb dX2_settle_31 ?_
              refine lh_top (y := nI (nn + (caN 4 t2))) (nI_add _ _) ?_
              refine lv_istore_n (lv' := [(1, .int (nI (nn + (caN 4 t2)))), (3, .int (nI (caN 4 t2))), (2, .int (b2i more)), (0, .ref (ad 0))]) hx hb dX2_settle_32 rfl hl (by decide) rfl (fun ls hl => ?_)
              refine lv_iload_n hx hb dX2_settle_33 rfl (lv_at hl 1 rfl) ?_
              refine lv_if_gt (tgt := 44) hx hb dX2_settle_34 (by decide) (fun c_3 => ?_) (fun c_3 => ?_)
              · have c_3 : 0 < (caN 4 t2) := lh_gtT (by have h9 := caN_le hi2 4; omega) c_3
                refine lv_iconst (v := nI 1) hx hb dX2_settle_44 (by decide) ?_
                refine lv_goto (tgt := 49) hx hb dX2_settle_45 (by decide) ?_
                refine lv_istore_n (lv' := [(2, .int (nI 1)), (1, .int (nI (nn + (caN 4 t2)))), (3, .int (nI (caN 4 t2))), (0, .ref (ad 0))]) hx hb dX2_settle_49 rfl hl (by decide) rfl (fun ls hl => ?_)
                refine lv_goto (tgt := 4) hx hb dX2_settle_50 (by decide) ?_
                exact ih4 true (nn + (caN 4 t2)) (m9 - 1) (caS 4 t2) (by rw [c_1] at hmu4; simp only [if_true] at hmu4; first | (simp only [if_true]; omega) | (simp; omega)) (by first | exact fun q => Bool.noConfusion q | exact fun _ => mset_c2 e9 q1 q2 q3 hi hT c_3) (by first | exact fun q => Bool.noConfusion q | exact fun _ => mset_e2 e9 q1 q2 q3 hi hT c_2) _ _ hP hD hS ls (lv_sub hl [0, 1, 3] rfl)
              · have c_3 : (caN 4 t2) = 0 := lh_gtF (by have h9 := caN_le hi2 4; omega) c_3
                refine lv_aload_n hx hb dX2_settle_37 rfl (lv_at hl 3 rfl) ?_
                refine va_get (D := D) (ci := 2) (v := .int (nI (xW (caS 4 t2)))) (C := RX2) (T := TX2) (N := 13) hx hb hts hinX2 hown hK hP 0 rfl rfl 8 (by decide) fX2_74 (fun _ h9 => h9) rfl dX2_settle_38 ?_
                refine lv_if_le (tgt := 48) hx hb dX2_settle_41 (by decide) (fun c_4 => ?_) (fun c_4 => ?_)
                · have c_4 : xW (caS 4 t2) = 0 := lh_le0 (by have h9 := (Inv_caS hi2 4).1.2.1; omega) c_4
                  refine lv_iconst (v := nI 0) hx hb dX2_settle_48 (by decide) ?_
                  refine lv_istore_n (lv' := [(2, .int (nI 0)), (1, .int (nI (nn + (caN 4 t2)))), (3, .int (nI (caN 4 t2))), (0, .ref (ad 0))]) hx hb dX2_settle_49 rfl hl (by decide) rfl (fun ls hl => ?_)
                  refine lv_goto (tgt := 4) hx hb dX2_settle_50 (by decide) ?_
                  exact ih4 false (nn + (caN 4 t2)) (m9 - 1) (caS 4 t2) (by rw [c_1] at hmu4; simp only [if_true] at hmu4; first | (simp only [if_true]; omega) | (simp; omega)) (by first | exact fun q => Bool.noConfusion q | exact fun _ => mset_c2 e9 q1 q2 q3 hi hT c_4) (by first | exact fun q => Bool.noConfusion q | exact fun _ => mset_e2 e9 q1 q2 q3 hi hT c_3) _ _ hP hD hS ls (lv_sub hl [0, 1, 3] rfl)
                · have c_4 : 0 < xW (caS 4 t2) := lh_gt0 (by have h9 := (Inv_caS hi2 4).1.2.1; omega) c_4
                  exact absurd c_4 (by rw [caW02 e9 hi hT c_3]; decide)
            · have c_2 : 0 < xW t2 := lh_gt0 (by omega) c_2
              refine lv_aload_n hx hb dX2_settle_15 rfl (lv_at hl 2 rfl) ?_
              refine lv_iconst (v := nI 0) hx hb dX2_settle_16 (by decide) ?_
              refine lh_cVi ⟨hx, hb, hml, hown, hts⟩ (kX2_delivers l D cI cZ ad t2 0 (hi2.1) (by omega) (by exact (Inv_le hi2 (by omega)).1) (by exact fun q => ((Inv_le hi2 (by omega)).2.1 q).1)) (cwV 1 hts gX2_settle_X2_delivers rfl rfl rfl (by decide +kernel) ⟨Nat.le_of_ble_eq_true rfl, Nat.le_of_ble_eq_true rfl⟩) hK hN hP hD hS hA 0 2 rfl rfl rfl rfl hl.1 rfl (Nat.le_of_ble_eq_true rfl) ⟨Nat.le_of_ble_eq_true rfl, Nat.le_of_ble_eq_true rfl⟩ dX2_settle_17 (fun H locs hP hD hS => ?_)
              have hP : va_P D vwCl (wM cI cZ ad (arr t2 0)) H := hP
              have hD : va_D A (wM cI cZ ad (arr t2 0)) := hD
              refine lv_pop hx hb dX2_settle_20 rfl ?_
              refine lv_goto (tgt := 8) hx hb dX2_settle_21 (by decide) ?_
              exact ih8 (j + 1) (arr t2 0) (by have h9 := lm_arr t2 (k := 0) (by omega); omega) (by subst ht2; exact dst_s c_2) (by exact Inv_arr hi2 (by omega) hT) _ _ hP hD hS ls (lv_sub hl [0, 1, 2] rfl)
        exact L8 _ 0 t (Nat.lt_succ_self _) (by rfl) (by exact hi) _ _ hP hD hS ls (lv_sub hl [0, 1, 2] rfl)
  exact L4 _ true 0 11 u (Nat.lt_succ_self _) (by exact fun _ => ⟨rfl, Nat.zero_add _, Nat.succ_le_succ (cn_le _), inv⟩) (by exact fun q => Bool.noConfusion q) _ _ hP hD hS ls (lv_sub hl [0, 1, 2] rfl)

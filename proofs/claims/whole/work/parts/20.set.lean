/-! SETTLING -/
def caS : Nat → XS → XS
  | 0, u => u
  | h + 1, u => if (xD (caS h u)).testBit h then caS h u else colS (caS h u) h
def caN : Nat → XS → Nat
  | 0, _ => 0
  | h + 1, u => caN h u + (if (xD (caS h u)).testBit h then 0 else cn (colL (caS h u) h))
def stl : Nat → XS → XS
  | 0, u => u
  | n + 1, u => if caN 4 (dlv u) = 0 ∧ xW (caS 4 (dlv u)) = 0 then caS 4 (dlv u) else stl n (caS 4 (dlv u))
def stN : Nat → XS → Nat
  | 0, _ => 0
  | n + 1, u => caN 4 (dlv u) + (if caN 4 (dlv u) = 0 ∧ xW (caS 4 (dlv u)) = 0 then 0 else stN n (caS 4 (dlv u)))
theorem caS_t {u : XS} {h : Nat} (c : (xD (caS h u)).testBit h = true) : caS h u = caS (h + 1) u := by
  show _ = (if (xD (caS h u)).testBit h then caS h u else colS (caS h u) h)
  rw [if_pos c]
theorem caS_f {u : XS} {h : Nat} (c : (xD (caS h u)).testBit h = false) : colS (caS h u) h = caS (h + 1) u := by
  show _ = (if (xD (caS h u)).testBit h then caS h u else colS (caS h u) h)
  rw [c]
  rfl
theorem caN_t {u : XS} {h g g2 : Nat} (hg : g2 = g + caN h u) (c : (xD (caS h u)).testBit h = true) : g2 = g + caN (h + 1) u := by
  show _ = g + (caN h u + (if (xD (caS h u)).testBit h then 0 else cn (colL (caS h u) h)))
  rw [if_pos c, hg]
  omega
theorem caN_t0 {u : XS} {h g g2 : Nat} (hg : g2 = g + caN h u) (c : (xD (caS h u)).testBit h = true) : g2 + 0 = g + caN (h + 1) u := caN_t hg c
theorem caN_f {u : XS} {h g g2 : Nat} (hg : g2 = g + caN h u) (c : (xD (caS h u)).testBit h = false) : g2 + cn (colL (caS h u) h) = g + caN (h + 1) u := by
  show _ = g + (caN h u + (if (xD (caS h u)).testBit h then 0 else cn (colL (caS h u) h)))
  rw [c, hg]
  simp; omega
theorem Inv_caS {T : Nat} {u : XS} (inv : Inv T u) (h : Nat) : Inv T (caS h u) := by
  induction h with
  | zero => exact inv
  | succ h ih =>
    show Inv T (if (xD (caS h u)).testBit h then caS h u else colS (caS h u) h)
    split
    · exact ih
    · exact Inv_colS ih h
theorem Inv_dlv {T : Nat} {u : XS} (inv : Inv T u) (hT : T ≤ 1000000) : Inv T (dlv u) := Inv_rep inv hT 300
theorem Inv_stl {T : Nat} (hT : T ≤ 1000000) (n : Nat) : ∀ u, Inv T u → Inv T (stl n u) := by
  induction n with
  | zero => exact fun u h => h
  | succ n ih =>
    intro u h
    show Inv T (if _ then caS 4 (dlv u) else stl n (caS 4 (dlv u)))
    split
    · exact Inv_caS (Inv_dlv h hT) 4
    · exact ih _ (Inv_caS (Inv_dlv h hT) 4)
theorem colS_L (u : XS) (h : Nat) (hM : xM u ≤ 10) : cn (xL (colS u h)) + cn (colL u h) = cn (xL u) := by
  have e : xL (colS u h) = dif (xL u) (colL u h) := by
    show dif (xL (sro (colG u h) (colL u h))) (colL u h) = _
    rw [(sroK_all (u := colG u h) (colL u h) hM).2.1]
    rfl
  rw [e]
  exact cn_dif (colL_sub u h)
theorem colS_W {u : XS} {h : Nat} (hM : xM u ≤ 10) (h0 : cn (colL u h) = 0) : xW (colS u h) = xW u := by
  have h1 := sro_W (u := colG u h) (X := colL u h) hM
  have h2 := (sroK_all (u := colG u h) (colL u h) hM).2.2.2.2.2.2.2.2.2.1
  have e1 : xW (colS u h) = xW (sro (colG u h) (colL u h)) := rfl
  have e2 : xW (colG u h) = xW u := rfl
  omega
theorem caS_L {T : Nat} {u : XS} (inv : Inv T u) (h : Nat) : cn (xL (caS h u)) + caN h u = cn (xL u) := by
  induction h with
  | zero => rfl
  | succ h ih =>
    show cn (xL (if (xD (caS h u)).testBit h then caS h u else colS (caS h u) h)) + (caN h u + (if (xD (caS h u)).testBit h then 0 else cn (colL (caS h u) h))) = _
    have := colS_L (caS h u) h (Inv_caS inv h).1.1
    split <;> omega
theorem caS_W {T : Nat} {u : XS} (inv : Inv T u) (h : Nat) (h0 : caN h u = 0) : xW (caS h u) = xW u := by
  induction h with
  | zero => rfl
  | succ h ih =>
    have h0 : caN h u + (if (xD (caS h u)).testBit h then 0 else cn (colL (caS h u) h)) = 0 := h0
    show xW (if (xD (caS h u)).testBit h then caS h u else colS (caS h u) h) = _
    have ih := ih (by omega)
    split
    · exact ih
    · rename_i c
      rw [if_neg c] at h0
      rw [colS_W (Inv_caS inv h).1.1 (by omega), ih]
theorem caN_le {T : Nat} {u : XS} (inv : Inv T u) (h : Nat) : caN h u ≤ 10 := by
  have h1 := caS_L inv h
  have h2 := cn_le (xL u)
  omega
/-- how much is to be delivered yet -/
def lmg (r : Nat) : Nat := if r < 10 then 2 else 1
def lm (u : XS) : Nat := fb_sm (fun k => lmg (xRc u k)) (xW u)
theorem lmg_1 (r : Nat) : 1 ≤ lmg r ∧ lmg r ≤ 2 := by unfold lmg; split <;> omega
theorem lm_tak (u : XS) {k : Nat} (hk : k < xW u) : lm (tak u k) + lmg (xRc u k) = lm u := sm_cpy lmg (xRc u) hk
theorem lm_app (u : XS) (b : Nat) (w : Int32) : lm (app u b 10 w) = lm u + 1 := by
  unfold lm
  show fb_sm (fun k => lmg (va_up (xRc u) (xW u) 10 k)) (xW u + 1) = _
  rw [fb_sm_succ, show lmg (va_up (xRc u) (xW u) 10 (xW u)) = 1 by rw [va_up_self]; rfl]
  congr 1
  exact fb_sm_cong (fun k hk => by rw [va_up_ne _ _ (by omega)])
theorem lm_arr (u : XS) {k : Nat} (hk : k < xW u) : lm (arr u k) + 1 ≤ lm u := by
  have h1 := lm_tak u hk
  unfold arr
  split
  · rename_i h
    have h2 : lmg (xRc u k) = 2 := if_pos h
    have e : ∀ b a w, lm (adL (tak u k) b a w) = lm (tak u k) := fun _ _ _ => rfl
    have e2 : ∀ f b a w, lm (adL (sOu (tak u k) f) b a w) = lm (tak u k) := fun _ _ _ _ => rfl
    have e3 : ∀ f, lm (sOu (tak u k) f) = lm (tak u k) := fun _ => rfl
    unfold gra
    split
    · omega
    · split
      · split
        · split
          · rw [e2]; omega
          · rw [e3]; omega
        · split
          · rw [e]; omega
          · rw [lm_app]; omega
      · omega
  · have h2 := (lmg_1 (xRc u k)).1
    split
    · show lm (tak u k) + 1 ≤ _; omega
    · omega
theorem lm_W (u : XS) : xW u ≤ lm u ∧ lm u ≤ 2 * xW u := by
  unfold lm
  constructor
  · have := fb_sm_le (f := fun _ => 1) (g := fun k => lmg (xRc u k)) (n := xW u) (fun k _ => (lmg_1 _).1)
    rw [fb_sm_const] at this
    omega
  · have := fb_sm_bound (f := fun k => lmg (xRc u k)) (c := 2) (n := xW u) (fun k _ => (lmg_1 _).2)
    omega
theorem lm_rep (u : XS) (n : Nat) : xW (rep dst n u) = 0 ∨ lm (rep dst n u) + n ≤ lm u := by
  induction n with
  | zero => right; exact Nat.le_refl _
  | succ n ih =>
    show xW (dst (rep dst n u)) = 0 ∨ lm (dst (rep dst n u)) + (n + 1) ≤ lm u
    unfold dst
    by_cases h : xW (rep dst n u) = 0
    · left
      show xW (if xW (rep dst n u) = 0 then rep dst n u else arr (rep dst n u) 0) = 0
      rw [if_pos h]; exact h
    · right
      show lm (if xW (rep dst n u) = 0 then rep dst n u else arr (rep dst n u) 0) + (n + 1) ≤ lm u
      rw [if_neg h]
      rcases ih with q | q
      · exact absurd q h
      · have := lm_arr (rep dst n u) (k := 0) (by omega)
        omega
theorem dlv_eq (u : XS) : dlv u = rep dst 300 u := by unfold dlv; rfl
theorem dlv_W {u : XS} (hW : xW u ≤ 150) : xW (dlv u) = 0 := by
  rw [dlv_eq]
  rcases lm_rep u 300 with h | h
  · exact h
  · have h1 := (lm_W u).2
    have h2 := (lm_W (rep dst 300 u)).1
    omega
theorem dlv_is {u : XS} (hW : xW u ≤ 150) {j : Nat} (h : xW (rep dst j u) = 0) : rep dst j u = dlv u := by
  have h9 := dlv_W hW
  rw [dlv_eq] at h9 ⊢
  rcases Nat.le_total j 300 with q | q
  · exact (dst_end h 300 q).symm
  · exact dst_end (n := 300) h9 j q
theorem dst_s {u : XS} (c : 0 < xW u) : arr u 0 = dst u := by
  unfold dst
  rw [if_neg (by omega)]
theorem arr_L (u : XS) (k : Nat) : xL (arr u k) = xL u := by
  unfold arr gra
  split
  · split
    · rfl
    · split
      · split
        · split <;> rfl
        · split <;> rfl
      · rfl
  · split <;> rfl
theorem dlv_L (u : XS) : xL (dlv u) = xL u := by
  have : ∀ n, xL (rep dst n u) = xL u := by
    intro n
    induction n with
    | zero => rfl
    | succ n ih =>
      show xL (if xW (rep dst n u) = 0 then rep dst n u else arr (rep dst n u) 0) = _
      split
      · exact ih
      · rw [arr_L]; exact ih
  rw [dlv_eq]
  exact this 300
theorem caW0 {T : Nat} {u : XS} (inv : Inv T u) (hT : T ≤ 1000000) (h : caN 4 (dlv u) = 0) : xW (caS 4 (dlv u)) = 0 := by
  rw [caS_W (Inv_dlv inv hT) 4 h]
  exact dlv_W inv.1.2.1
theorem stl_go {n : Nat} {u : XS} (h : ¬ (caN 4 (dlv u) = 0 ∧ xW (caS 4 (dlv u)) = 0)) : stl (n + 1) u = stl n (caS 4 (dlv u)) ∧ stN (n + 1) u = caN 4 (dlv u) + stN n (caS 4 (dlv u)) := by
  constructor
  · show (if _ then _ else _) = _
    rw [if_neg h]
  · show caN 4 (dlv u) + (if _ then _ else _) = _
    rw [if_neg h]
theorem stl_end {n : Nat} {u : XS} (h : caN 4 (dlv u) = 0 ∧ xW (caS 4 (dlv u)) = 0) : stl (n + 1) u = caS 4 (dlv u) ∧ stN (n + 1) u = caN 4 (dlv u) := by
  constructor
  · show (if _ then _ else _) = _
    rw [if_pos h]
  · show caN 4 (dlv u) + (if _ then _ else _) = _
    rw [if_pos h]
    rfl
theorem set_b {r g g2 : Nat} {t t2 : XS} (hr : r < 11) (ht : t2 = caS 4 (dlv t)) (hg : g2 = g + caN 4 (dlv t)) (c1 : g2 = g) (c2 : xW t2 = 0) : stl (11 - r) t = t2 ∧ g + stN (11 - r) t = g2 := by
  have h := stl_end (n := 10 - r) (u := t) ⟨by omega, by rw [← ht]; exact c2⟩
  rw [show 11 - r = 10 - r + 1 by omega, h.1, h.2]
  exact ⟨ht.symm, hg.symm⟩
theorem set_c {r g g2 : Nat} {u t t2 : XS} (hs : stl (11 - r) t = stl 11 u ∧ g + stN (11 - r) t = stN 11 u) (hr : r < 11) (ht : t2 = caS 4 (dlv t)) (hg : g2 = g + caN 4 (dlv t)) (c : ¬ g2 = g ∨ ¬ xW t2 = 0) : stl (11 - (r + 1)) t2 = stl 11 u ∧ g2 + stN (11 - (r + 1)) t2 = stN 11 u := by
  have h := stl_go (n := 10 - r) (u := t) (by
    rintro ⟨q1, q2⟩
    rcases c with c | c
    · exact c (by omega)
    · exact c (by rw [ht]; exact q2))
  rw [show 11 - r = 10 - r + 1 by omega, h.1, h.2] at hs
  rw [show 11 - (r + 1) = 10 - r by omega, ht, hg]
  exact ⟨hs.1, by rw [← hs.2]; omega⟩
theorem set_l1 {r g : Nat} {u t : XS} (hs : stl (11 - r) t = stl 11 u ∧ g + stN (11 - r) t = stN 11 u) (e : 11 - r = 0) : nI g = nI (stN 11 u) := by
  rw [← hs.2, e]; rfl
theorem set_w1 {r g : Nat} {u t : XS} (hs : stl (11 - r) t = stl 11 u ∧ g + stN (11 - r) t = stN 11 u) (e : 11 - r = 0) : t = stl 11 u := by
  rw [← hs.1, e]; rfl
theorem set_l2 {r g g2 : Nat} {u t t2 : XS} (hs : stl (11 - r) t = stl 11 u ∧ g + stN (11 - r) t = stN 11 u) (e : stl (11 - r) t = t2 ∧ g + stN (11 - r) t = g2) : nI g2 = nI (stN 11 u) := by
  rw [← hs.2, e.2]
theorem set_w2 {r g g2 : Nat} {u t t2 : XS} (hs : stl (11 - r) t = stl 11 u ∧ g + stN (11 - r) t = stN 11 u) (e : stl (11 - r) t = t2 ∧ g + stN (11 - r) t = g2) : t2 = stl 11 u := by
  rw [← hs.1, e.1]
theorem mset_c {T m g : Nat} {u t : XS} (q1 : stl m t = stl 11 u) (q2 : g + stN m t = stN 11 u) (q3 : cn (xL t) + 1 ≤ m) (hi : Inv T t) (hT : T ≤ 1000000) (c : 0 < caN 4 (dlv t)) : stl (m - 1) (caS 4 (dlv t)) = stl 11 u ∧ g + caN 4 (dlv t) + stN (m - 1) (caS 4 (dlv t)) = stN 11 u ∧ cn (xL (caS 4 (dlv t))) + 1 ≤ m - 1 ∧ Inv T (caS 4 (dlv t)) := by
  have h := stl_go (n := m - 1) (u := t) (by rintro ⟨z, -⟩; omega)
  rw [show m - 1 + 1 = m by omega] at h
  have hl := caS_L (Inv_dlv hi hT) 4
  rw [dlv_L] at hl
  rw [h.1] at q1
  rw [h.2] at q2
  exact ⟨q1, by omega, by omega, Inv_caS (Inv_dlv hi hT) 4⟩
theorem mset_e {T m g : Nat} {u t : XS} (q1 : stl m t = stl 11 u) (q2 : g + stN m t = stN 11 u) (q3 : cn (xL t) + 1 ≤ m) (hi : Inv T t) (hT : T ≤ 1000000) (c : caN 4 (dlv t) = 0) : caS 4 (dlv t) = stl 11 u ∧ g + caN 4 (dlv t) = stN 11 u := by
  have h := stl_end (n := m - 1) (u := t) ⟨c, caW0 hi hT c⟩
  rw [show m - 1 + 1 = m by omega] at h
  rw [← h.1, ← h.2]
  exact ⟨q1, q2⟩
theorem lh_gtT {k : Nat} (hk : k < 2147483648) (h : 0 < nI k) : 0 < k := by
  rcases Nat.eq_zero_or_pos k with e | e
  · subst e; exact absurd h (by decide)
  · exact e
theorem lh_gtF {k : Nat} (hk : k < 2147483648) (h : ¬ 0 < nI k) : k = 0 := by
  rcases Nat.eq_zero_or_pos k with e | e
  · exact e
  · exact absurd ((nI_0 ▸ (nI_ltI (by decide) (by omega)).mpr e : (0 : Int32) < nI k)) h
/-! what each call does to it, by the call -/
theorem Inv_objS {T : Nat} {u : XS} (inv : Inv T u) (h : Int32) (r : Bool) : Inv T (objS u h r) := by
  unfold objS
  split
  · rename_i c
    split
    · exact inv
    · split
      · rename_i hM
        obtain ⟨k, hk, rfl⟩ := isHo_ex c
        rw [nI_clamp (by omega)]
        obtain ⟨ok, i2, i3, i4, i5, i6, i7, i8⟩ := id inv
        obtain ⟨a1, a2, a3, a4, a5, a6, a7⟩ := ok
        have hn : (xL u).testBit (xM u) = false := by
          cases q : (xL u).testBit (xM u) with
          | false => rfl
          | true => exact absurd (i3 _ q) (Nat.lt_irrefl _)
        have hcn : cn (xL u ||| 2 ^ xM u) = cn (xL u) + 1 := by
          rw [cn_or (fun k => by
            rw [Nat.testBit_two_pow]
            rintro ⟨z1, z2⟩
            rw [← of_decide_eq_true z2, hn] at z1
            exact absurd z1 (by decide))]
          congr 1
          have h9 : ∀ M, M < 10 → cn (2 ^ M) = 1 := by decide
          exact h9 _ hM
        have hR : ∀ k, (if r then xR u ||| 2 ^ xM u else xR u).testBit k = true → k < xM u + 1 := by
          intro k hk
          split at hk
          · rw [or_bit, Bool.or_eq_true] at hk
            rcases hk with z | z
            · have := i4 k z; omega
            · have := of_decide_eq_true z; omega
          · have := i4 k hk; omega
        refine ⟨⟨by show xM u + 1 ≤ 10; omega, a2, fun j => ?_, a4, or2_lt a5 hM, ?_, a7⟩, ?_, ?_, ?_, ?_, ?_, i7, i8⟩
        · show va_up (xHo u) (xM u) k j < 4
          unfold va_up; split
          · exact hk
          · exact a3 j
        · show (if r then xR u ||| 2 ^ xM u else xR u) < 1024
          split
          · exact or2_lt a6 hM
          · exact a6
        · show xW u + 9 * cn (xL u ||| 2 ^ xM u) ≤ 60 + 9 * (xM u + 1)
          rw [hcn]; omega
        · intro j hj
          show j < xM u + 1
          have hj : (xL u ||| 2 ^ xM u).testBit j = true := hj
          rw [or_bit, Bool.or_eq_true] at hj
          rcases hj with z | z
          · have := i3 j z; omega
          · have := of_decide_eq_true z; omega
        · exact fun j hj => hR j hj
        · intro a b ha hb hl
          obtain ⟨j1, j2, j3, j4, j5⟩ := i5 a b ha hb hl
          have m1 := i3 a j1
          have m2 := i3 b j2
          refine ⟨?_, ?_, j3, ?_⟩
          · show (xL u ||| 2 ^ xM u).testBit a = true
            rw [or_bit, j1]; rfl
          · show (xL u ||| 2 ^ xM u).testBit b = true
            rw [or_bit, j2]; rfl
          · show (va_up (xHo u) (xM u) k a = va_up (xHo u) (xM u) k b → _) ∧ (va_up (xHo u) (xM u) k a ≠ va_up (xHo u) (xM u) k b → _)
            rw [va_up_ne _ _ (by omega), va_up_ne _ _ (by omega)]
            exact ⟨j4, j5⟩
        · intro j hj
          obtain ⟨l1, l2, l3⟩ := i6 j hj
          refine ⟨?_, fun q => ⟨?_, (l2 q).2⟩, l3⟩
          · show xAb u j < xM u + 1; omega
          · show xRc u j < xM u + 1; have := (l2 q).1; omega
      · exact inv
  · exact inv
theorem Inv_rooS {T : Nat} {u : XS} (inv : Inv T u) (a : Int32) (is : Bool) : Inv T (rooS u a is) := by
  unfold rooS
  split
  · rename_i c
    split
    · split
      · exact inv
      · obtain ⟨k, hk, rfl⟩ := isObj_ex inv.1.1 c
        rw [nI_clamp (by have := inv.1.1; omega)]
        obtain ⟨ok, i2, i3, i4, i5⟩ := id inv
        obtain ⟨a1, a2, a3, a4, a5, a6, a7⟩ := ok
        have hb : ∀ j, (xR u ^^^ 2 ^ k).testBit j = true → j < xM u := by
          intro j hj
          rw [Nat.testBit_xor, Nat.testBit_two_pow] at hj
          by_cases q : k = j
          · omega
          · simp [q] at hj
            exact i4 j hj
        exact ⟨⟨a1, a2, a3, a4, a5, bit_lt (n := 10) (fun j hj => by have := hb j hj; omega), a7⟩, i2, i3, hb, i5⟩
    · exact inv
  · exact inv
theorem Inv_lnkS {T : Nat} {u : XS} (inv : Inv T u) (a b : Int32) (hT : T + 64 ≤ 1000000) : Inv (T + 64) (lnkS u a b) := by
  have i0 : Inv (T + 64) u := Inv_mono inv (by have := Inv_tot inv; omega)
  unfold lnkS
  split
  · split
    · split
      · split
        · exact i0
        · rename_i c1 c2 c3 c4
          unfold lnkQ at c3
          simp only [Bool.and_eq_true, Bool.not_eq_true', decide_eq_false_iff_not] at c3
          obtain ⟨⟨⟨q1, q2⟩, q3⟩, q4⟩ := c3
          unfold lnkT
          split
          · rename_i hn
            exact Inv_adL inv q2 q3 q1 (fun _ => rfl) (fun z => absurd hn (by rw [z]; decide)) (by rw [wt_0]; have := Inv_tot inv; omega) hT
          · rename_i hn
            exact Inv_adL (u := sOu u _) (Inv_sOu inv _) q2 q3 q1 (fun z => absurd z hn) (fun _ => by decide) (by rw [wt_n (by decide)]; have := Inv_tot inv; show tot u + 64 ≤ _; omega) hT
      · exact i0
    · exact i0
  · exact i0
theorem Inv_unlS {T : Nat} {u : XS} (inv : Inv T u) (a b : Int32) : Inv T (unlS u a b) := by
  have hM := inv.1.1
  have hT := Inv_tot inv
  unfold unlS
  split
  · rename_i c1
    split
    · rename_i c2
      split
      · rename_i c3
        obtain ⟨x, hx, rfl⟩ := isObj_ex hM c1
        obtain ⟨y, hy, rfl⟩ := isObj_ex hM c2
        rw [nI_clamp (by omega), nI_clamp (by omega)] at c3 ⊢
        have ht := tot_li u (i := x * 10 + y) (-9) (by omega)
        rw [wt_9] at ht
        have hu : Inv (tot (unlC u x y)) (unlC u x y) := Inv_li inv (by omega) (by omega) (Or.inl rfl) (Nat.le_refl _)
        have ht2 : tot (unlC u x y) + wt (xLi u (x * 10 + y)) = tot u + 0 := ht
        split
        · exact Inv_mono hu (by omega)
        · rename_i c4
          split
          · rename_i c5
            obtain ⟨l1, l2, l3, l4, l5⟩ := Inv_lk inv (by omega) (by omega) c3
            have hp : 0 < (xLi u (x * 10 + y)).toInt := l5 (fun e => c4 (l4 e))
            refine Inv_app hu (Inv_lM inv l2) (fun q => absurd q (by decide)) hp ?_ (by omega)
            show xW u + 1 + 9 * cn (xL u) ≤ 60 + 9 * xM u
            have h1 := cn_gn inv
            omega
          · exact inv
      · exact inv
    · exact inv
  · exact inv
theorem Inv_givS {T : Nat} {u : XS} (inv : Inv T u) (x a b : Int32) (hT : T + 64 ≤ 1000000) : Inv (T + 64) (givS u x a b) := by
  have hM := inv.1.1
  have hTt := Inv_tot inv
  have i0 : Inv (T + 64) u := Inv_mono inv (by omega)
  have hcg := cn_gn inv
  unfold givS
  split
  · rename_i c1
    split
    · rename_i c2
      split
      · rename_i c3
        split
        · rename_i c4
          obtain ⟨x, hx, rfl⟩ := isObj_ex hM c1
          obtain ⟨a, ha, rfl⟩ := isObj_ex hM c2
          obtain ⟨b, hb, rfl⟩ := isObj_ex hM c3
          rw [nI_clamp (by omega), nI_clamp (by omega), nI_clamp (by omega)] at c4 ⊢
          unfold mayG at c4
          simp only [Bool.and_eq_true, Bool.not_eq_true', decide_eq_false_iff_not, Bool.or_eq_true, decide_eq_true_eq] at c4
          obtain ⟨⟨⟨⟨⟨⟨q1, q2⟩, q3⟩, q4⟩, q5⟩, q6⟩, q7⟩ := c4
          have hxb : nbr u x b = false → lnk u x b = true := by
            intro hn
            rcases q7 with q | q
            · exact absurd (congrArg (xHo u) q) (nbr_f hn)
            · exact q
          unfold givT
          split
          · rename_i n1
            split
            · rename_i n2
              exact Inv_adL inv q2 q3 q5 (fun _ => rfl) (fun z => absurd (show nbr u a b = true by rw [nbr_tr n1 b]; exact n2) (by rw [z]; decide)) (by rw [wt_0]; omega) hT
            · rename_i n2
              have n2 : nbr u x b = false := by simpa using n2
              obtain ⟨s1, s2⟩ := Inv_spl inv (by omega) (by omega) (hxb n2) n2 (by omega)
              have s3 := (spl_nums inv (by omega) (by omega) (hxb n2) n2 (by omega)).1
              exact Inv_adL s1 q2 q3 q5 (fun z => absurd (show nbr u a b = true from z) (by rw [nbr_tr n1 b, n2]; decide)) (fun _ => s3) (by omega) hT
          · split
            · split
              · refine Inv_app (u := sOu u _) (Inv_sOu inv _) hb (fun _ => ⟨ha, q5⟩) (by decide) ?_ (by rw [wt_n (by decide)]; show tot u + 64 ≤ _; omega)
                show xW u + 1 + 9 * cn (xL u) ≤ 60 + 9 * xM u
                omega
              · rename_i n2
                have n2 : nbr u x b = false := by simpa using n2
                obtain ⟨s1, s2⟩ := Inv_spl inv (by omega) (by omega) (hxb n2) n2 (by omega)
                have s3 := (spl_nums inv (by omega) (by omega) (hxb n2) n2 (by omega)).1
                refine Inv_app s1 hb (fun _ => ⟨ha, q5⟩) s3 ?_ (by omega)
                show xW u + 1 + 9 * cn (xL u) ≤ 60 + 9 * xM u
                omega
            · exact i0
        · exact i0
      · exact i0
    · exact i0
  · exact i0
theorem Inv_delS {T : Nat} {u : XS} (inv : Inv T u) (k : Int32) (hT : T ≤ 1000000) : Inv T (delS u k) := by
  unfold delS
  split
  · rename_i c
    obtain ⟨j, hj, rfl⟩ := isLe_ex inv.1.2.1 c
    rw [nI_clamp (by have := inv.1.2.1; omega)]
    exact Inv_arr inv hj hT
  · exact inv
theorem Inv_clcS {T : Nat} {u : XS} (inv : Inv T u) (h : Int32) : Inv T (clcS u h) := by
  unfold clcS
  split
  · split
    · exact inv
    · exact Inv_colS inv _
  · exact inv
theorem Inv_traS {T : Nat} {u : XS} (inv : Inv T u) (b : Int32) : Inv T (traS u b) := by
  unfold traS
  split
  · rename_i c
    split
    · rename_i c2
      split
      · obtain ⟨k, hk, rfl⟩ := isObj_ex inv.1.1 c
        have hM := inv.1.1
        rw [nI_clamp (by omega)] at c2 ⊢
        exact Inv_bec inv (back_live inv (by omega) c2) true
      · exact inv
    · exact inv
  · exact inv
theorem Inv_kilS {T : Nat} {u : XS} (inv : Inv T u) (h : Int32) : Inv T (kilS u h) := by
  unfold kilS
  split
  · rename_i c
    split
    · exact inv
    · obtain ⟨k, hk, rfl⟩ := isHo_ex c
      rw [nI_clamp (by omega)]
      exact Inv_bec (u := sD u (xD u ||| 2 ^ k)) (Inv_sD inv hk) (x := onH u k) (onH_sub u k) false
  · exact inv
theorem Inv_recS {T : Nat} {u : XS} (inv : Inv T u) : Inv T (recS u) := inv
theorem dlv_of {t t2 : XS} {j : Nat} (hW : xW t ≤ 150) (h : t2 = rep dst j t) (c : xW t2 = 0) : t2 = dlv t := by
  rw [h] at c ⊢
  exact dlv_is hW c
theorem caW02 {T : Nat} {u t : XS} (e : t = dlv u) (inv : Inv T u) (hT : T ≤ 1000000) (h : caN 4 t = 0) : xW (caS 4 t) = 0 := by
  rw [e] at h ⊢
  exact caW0 inv hT h
theorem mset_c2 {T m g : Nat} {u t t2 : XS} (e : t2 = dlv t) (q1 : stl m t = stl 11 u) (q2 : g + stN m t = stN 11 u) (q3 : cn (xL t) + 1 ≤ m) (hi : Inv T t) (hT : T ≤ 1000000) (c : 0 < caN 4 t2) : stl (m - 1) (caS 4 t2) = stl 11 u ∧ g + caN 4 t2 + stN (m - 1) (caS 4 t2) = stN 11 u ∧ cn (xL (caS 4 t2)) + 1 ≤ m - 1 ∧ Inv T (caS 4 t2) := by
  rw [e] at c ⊢
  exact mset_c q1 q2 q3 hi hT c
theorem mset_e2 {T m g : Nat} {u t t2 : XS} (e : t2 = dlv t) (q1 : stl m t = stl 11 u) (q2 : g + stN m t = stN 11 u) (q3 : cn (xL t) + 1 ≤ m) (hi : Inv T t) (hT : T ≤ 1000000) (c : caN 4 t2 = 0) : caS 4 t2 = stl 11 u ∧ g + caN 4 t2 = stN 11 u := by
  rw [e] at c ⊢
  exact mset_e q1 q2 q3 hi hT c
